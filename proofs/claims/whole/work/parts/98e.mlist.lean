/-! THE OTHER OBJECT: list, resolve -/
theorem rdH_ok {xs : List Int32} {a b : Nat} {k : Int32} {w : Nat → Int32} {ys : List Int32} (h : rdH xs a b = .inr (k, w, ys)) : w4 k (w 0) (w 1) (w 2) (w 3) = w ∧ okE k w ys ∧ (k = 0 → ys.length ≤ b - a) := by
  unfold rdH at h
  split at h
  · split at h
    · cases hs : sixR xs (a + 1) (b - 1) with
      | none => rw [hs] at h; cases h
      | some F =>
        rw [hs] at h
        cases h
        refine ⟨?_, ⟨⟨Or.inr (Or.inr rfl), fun z => absurd z (by decide), fun z => absurd rfl z⟩, fun z => absurd z (by decide), fun _ => rfl⟩, fun z => absurd z (by decide)⟩
        funext j
        unfold wS w4
        by_cases c0 : j = 0
        · simp [c0]
        · by_cases c1 : j = 1
          · simp [c1]
          · by_cases c2 : j = 2
            · simp [c2]
            · simp [c0, c1, c2]
    · cases h
  · unfold nameR at h
    split at h
    · cases h
    · split at h
      · cases h
      · split at h
        · cases h
        · split at h
          · cases hf : four (dec xs b gF a) (lend (dec xs b gF a)) 4 0 0 with
            | none => rw [hf] at h; cases h
            | some v =>
              rw [hf] at h
              cases h
              refine ⟨?_, ⟨⟨Or.inr (Or.inl rfl), fun z => absurd z (by decide), fun _ => ⟨rfl, rfl, rfl⟩⟩, fun _ => rfl, fun z => absurd z (by decide)⟩, fun z => absurd z (by decide)⟩
              funext j
              unfold w4
              by_cases c0 : j = 0
              · simp [c0]
              · simp [c0]
          · cases h
            refine ⟨?_, ⟨⟨Or.inl rfl, fun _ => rfl, fun _ => ⟨rfl, rfl, rfl⟩⟩, fun z => absurd z (by decide), fun z => absurd z (by decide)⟩, fun _ => ?_⟩
            · funext j
              unfold w4
              by_cases c0 : j = 0
              · simp [c0]
              · simp [c0]
            · rw [dec_dcd, List.length_map]
              exact dcd_len xs b gF a
section MI
variable {m : Nat} {D : Nat → Nat} {M : MS} {R : Nat → List Int32} {T : List Int32} {Pp : Nat → Option UV} {G : GV} {P : Int32 → MS → Prop}
theorem m_rth (hT : Tx M T) (h0 : ∀ c M', rdH T 0 T.length = .inl c → Ex [0, 1, 11, 12, 13, 14, 15, 16, 17, 18, 19] M M' → Tx M' [] → P c M') (h1 : ∀ k w ys M', rdH T 0 T.length = .inr (k, w, ys) → Ex [0, 1, 11, 12, 13, 14, 15, 16, 17, 18, 19] M M' → Tx M' [] → Hr M' k w ys → P 0 M') : wm m D (f_X9_readTextHost (some m)) M P := by
  obtain ⟨t1, t2, t3, t4⟩ := hT
  unfold f_X9_readTextHost
  refine wm_rd (wm_b (wm_wI (wm_b (wm_wI ?_))))
  rw [t1]
  have E0 : Ex [1, 11, 12] M (uN (uN M 12 (nI T.length)) 1 0) := (Ex.n (by decide)).trans (Ex.n (by decide))
  have z1 : mI (uN (uN M 12 (nI T.length)) 1 0) 1 = 0 := rfl
  have z12 : mI (uN (uN M 12 (nI T.length)) 1 0) 12 = nI T.length := rfl
  generalize uN (uN M 12 (nI T.length)) 1 0 = M0 at *
  have L : ∀ (k x f : Nat) (M1 : MS), x + k = T.length → k < f → Ex [11] M0 M1 → (∀ j, j < x → mA M1 11 j = sb (T.getD j 0)) → wm m D (f_X9_readTextHost_L15 f (some m) (nI x)) M1 P := by
    intro k
    induction k with
    | zero =>
      intro x f M1 hx hf E1 hc
      obtain ⟨f, rfl⟩ : ∃ g, f = g + 1 := ⟨f - 1, by omega⟩
      rw [f_X9_readTextHost_L15]
      unfold f_X9_readTextHost_15
      refine wm_rd ?_
      rw [E1.2 12 (by decide), z12]
      refine wm_t (nI_le (by omega) (by omega)) (wm_rd ?_)
      rw [E1.2 12 (by decide), z12]
      have I1 : In M1 T := ⟨by rw [E1.2 12 (by decide)]; exact z12, t2, t3, fun j hj => by rw [Nat.zero_add]; exact hc j (by omega)⟩
      have T1 : Tx M1 [] := ⟨by rw [E1.2 1 (by decide)]; exact z1, by decide, isB.nil, By.nil⟩
      have E01 : Ex [0, 1, 11, 12, 13, 14, 15, 16, 17, 18, 19] M M1 := (E0.mono (by decide)).trans (E1.mono (by decide))
      refine wm_n (wm_b (m_readHost (a := 0) I1 (Nat.zero_le _) (Nat.le_refl _) (fun c M2 hr E2 => wm_p (h0 c M2 hr (E01.trans (E2.mono (by decide))) (T1.ex E2 (by decide) (by decide)))) (fun k w ys M2 hr E2 H => wm_p (h1 k w ys M2 hr (E01.trans (E2.mono (by decide))) (T1.ex E2 (by decide) (by decide)) H))))
    | succ k ih =>
      intro x f M1 hx hf E1 hc
      obtain ⟨f, rfl⟩ : ∃ g, f = g + 1 := ⟨f - 1, by omega⟩
      rw [f_X9_readTextHost_L15]
      unfold f_X9_readTextHost_15
      refine wm_rd ?_
      rw [E1.2 12 (by decide), z12]
      refine wm_f (nI_ge (by omega) (by omega)) (wm_b (wm_rR (k := 11) (t := 0) (by decide) (wm_get (k := 0) (t := 0) (by decide) rfl (show x < 300 by omega) (wm_b (wm_sI (k := 11) (t := 0) (by decide) rfl (show x < 300 by omega) ?_)))))
      have := t4 x (by omega)
      rw [Nat.zero_add] at this
      rw [E1.1 0 (by decide), E0.1 0 (by decide), this, gnar0s, nI_1]
      refine ih (x + 1) f _ (by omega) (by omega) (E1.trans (Ex.a (by decide))) (fun j hj => ?_)
      rw [mA_uA]
      by_cases c : j = x
      · rw [if_pos ⟨rfl, c⟩, c]
      · rw [if_neg (fun z => c z.2)]
        exact hc j (by omega)
  exact L T.length 0 gF M0 (by omega) (by unfold gF; omega) Ex.rf (fun j hj => absurd hj (Nat.not_lt_zero _))
theorem m_list {b : Bool} (h : Mo M R T Pp G) (h0 : ∀ c M', rdH T 0 T.length = .inl c → Mo M' R [] Pp G → c ≠ 0 → P c M') (h1 : ∀ k w ys M', rdH T 0 T.length = .inr (k, w, ys) → b = true → k ≠ 0 → Mo M' R [] Pp G → P (-2) M') (h2 : ∀ k w ys M', rdH T 0 T.length = .inr (k, w, ys) → (b = false ∨ k = 0) → NH G = 12 → Mo M' R [] Pp G → P (-3) M') (h3 : ∀ k w ys M', rdH T 0 T.length = .inr (k, w, ys) → (b = false ∨ k = 0) → NH G < 12 → Mo M' R [] Pp (adH G (k, w4 k (w 0) (w 1) (w 2) (w 3), ys, b2i b)) → P (nI (NH G + 1)) M') : wm m D (f_X9_list (some m) (b2i b)) M P := by
  unfold f_X9_list
  refine wm_n (wm_b (m_rth h.1 (fun c M1 hr E1 T1 => ?_) (fun k w ys M1 hr E1 T1 H1 => ?_)))
  · have hc := (rdH_neg hr).2
    exact wm_f hc (wm_p (h0 c M1 hr (h.txt E1 T1) hc))
  · have hM := h.txt E1 T1
    obtain ⟨ow, oe, ol⟩ := rdH_ok hr
    have hTl := h.1.2.1
    obtain ⟨r1, r2, r3, n0, hn0, r4⟩ := H1
    obtain ⟨g1, g2, g3, ⟨g4, g5, g6⟩, g7, g8⟩ := id hM
    have go : (b = false ∨ k = 0) → wm m D (f_X9_list_25 (some m) (b2i b)) M1 P := by
      intro hb
      unfold f_X9_list_25
      refine wm_rd ?_
      rw [g4]
      by_cases c : NH G = 12
      · exact wm_t (by rw [c]; rfl) (wm_p (h2 k w ys M1 hr hb c hM))
      refine wm_f (fun z => c ((nI_eq (b := 12) (by omega) (by omega)).mp z)) ?_
      have hn : NH G < 12 := by omega
      refine wm_b (wm_rR (k := 22) (t := 1) (by decide) (wm_rd (wm_rd ?_)))
      rw [g4, r1]
      refine wm_b (wm_sI (k := 22) (t := 1) (by decide) rfl (show NH G < 12 from hn) (wm_b (wm_rR (k := 24) (t := 2) (by decide) (wm_rd ?_))))
      rw [mI_uA, g4]
      refine wm_b (wm_sI (k := 24) (t := 2) (by decide) rfl (show NH G < 12 from hn) (wm_b (wm_rR (k := 21) (t := 1) (by decide) (wm_rd (wm_rd ?_)))))
      rw [show mI (uA (uA M1 22 (NH G) (gnar 1 k)) 24 (NH G) (gnar 2 (b2i b))) 25 = nI (NH G) from g4, show mI (uA (uA M1 22 (NH G) (gnar 1 k)) 24 (NH G) (gnar 2 (b2i b))) 16 = k from r1, gnar1, gnar2]
      -- the name, as it is kept
      have hnm : ∃ nm, nm = (if k = 0 then ys else []) ∧ nm.length ≤ 300 ∧ isB nm ∧ (k = 0 → Hb M1 nm) := by
        by_cases kz : k = 0
        · have H := r3 kz
          refine ⟨ys, by rw [if_pos kz], H.2.1, fun x hx => ?_, fun _ => H⟩
          obtain ⟨n, hn, e⟩ := H.2.2.1 x hx
          exact ⟨n, by omega, e⟩
        · exact ⟨[], by rw [if_neg kz], by decide, isB.nil, fun z => absurd z kz⟩
      obtain ⟨nm, enm, lnm, bnm, Hnm⟩ := hnm
      generalize eM2 : uA (uA M1 22 (NH G) k) 24 (NH G) (b2i b) = M2
      have E2 : Ex [22, 24] M1 M2 := by rw [← eM2]; exact (Ex.a (by decide)).trans (Ex.a (by decide))
      have v22 : ∀ x, mA M2 22 x = if x = NH G then k else mA M1 22 x := fun x => by
        rw [← eM2, mA_uA, if_neg (fun z => absurd z.1 (by decide)), mA_uA]
        by_cases c : x = NH G
        · rw [if_pos ⟨rfl, c⟩, if_pos c]
        · rw [if_neg (fun z => c z.2), if_neg c]
      have v24 : ∀ x, mA M2 24 x = if x = NH G then b2i b else mA M1 24 x := fun x => by
        rw [← eM2, mA_uA]
        by_cases c : x = NH G
        · rw [if_pos ⟨rfl, c⟩, if_pos c]
        · rw [if_neg (fun z => c z.2), if_neg c, mA_uA, if_neg (fun z => absurd z.1 (by decide))]
      -- the end
      have fin : ∀ M5, Ex [20, 21, 23] M2 M5 → (∀ x, mA M5 21 x = if x = NH G then nI nm.length else mA M1 21 x) → (∀ j, j < 8 → mA M5 23 (8 * NH G + j) = numA k w j) → (∀ x, x < 8 * NH G → mA M5 23 x = mA M1 23 x) → By (mA M5 20) (300 * NH G) nm → (∀ x, x < 300 * NH G → mA M5 20 x = mA M1 20 x) → wm m D (f_X9_list_162 (some m)) M5 P := by
        intro M5 E5 v21 v23 v23' v20 v20'
        unfold f_X9_list_162
        refine wm_rd ?_
        rw [E5.2 25 (by decide), E2.2 25 (by decide), g4, nI_1]
        refine wm_b (wm_wI (wm_rd (wm_p ?_)))
        rw [mI_uN, if_pos rfl]
        have E : Ex [20, 21, 22, 23, 24, 25] M1 (uN M5 25 (nI (NH G + 1))) := ((E2.mono (by decide)).trans (E5.mono (by decide))).trans (Ex.n (by decide))
        refine h3 k w ys _ hr hb hn ⟨g1.ex E (by decide) (by decide), g2.ex E (by decide) (by decide), g3.ex E (by decide) (by decide) (by decide) (by decide) (by decide) (by decide) (by decide), ⟨?_, ?_, fun i hi => ?_⟩, g7.ex E (by decide) (by decide) (by decide) (by decide) (by decide), g8.ex E (by decide) (by decide) (by decide) (by decide)⟩
        · rw [mI_uN, if_pos rfl]
          rfl
        · show NH G + 1 ≤ 12
          omega
        · have hi : i < NH G + 1 := hi
          rw [mA_uN, E5.1 22 (by decide), E5.1 24 (by decide), v22, v24, v21]
          show _ = (if i = NH G then _ else _ : HE).1 ∧ _ = (if i = NH G then _ else _ : HE).2.2.2 ∧ ((if i = NH G then _ else _ : HE).2.2.2 = 0 ∨ ((if i = NH G then _ else _ : HE).2.2.2 = 1 ∧ (if i = NH G then _ else _ : HE).1 = 0)) ∧ (∀ j, j < 8 → _ = numA (if i = NH G then _ else _ : HE).1 (if i = NH G then _ else _ : HE).2.1 j) ∧ okE (if i = NH G then _ else _ : HE).1 (if i = NH G then _ else _ : HE).2.1 (if i = NH G then _ else _ : HE).2.2.1 ∧ ∃ nm, nm = (if (if i = NH G then _ else _ : HE).1 = 0 then (if i = NH G then _ else _ : HE).2.2.1 else []) ∧ _ = nI nm.length ∧ _
          by_cases z : i = NH G
          · subst z
            simp only [if_true]
            rw [ow]
            refine ⟨trivial, trivial, ?_, fun j hj => v23 j hj, oe, nm, enm, rfl, lnm, bnm, v20⟩
            rcases hb with y | y
            · left
              rw [y]
              rfl
            · cases b with
              | false => exact Or.inl rfl
              | true => exact Or.inr ⟨rfl, y⟩
          · simp only [z, if_false]
            obtain ⟨u1, u2, u3, u4, u5, nm', u6, u7, u8, u9, u10⟩ := g6 i (by omega)
            refine ⟨u1, u2, u3, fun j hj => ?_, u5, nm', u6, u7, u8, u9, u10.keep (fun j hj => v20' _ ?_)⟩
            · rw [v23' _ (by omega)]
              exact u4 j hj
            · have : 300 * i + 300 ≤ 300 * NH G := by
                have := Nat.mul_le_mul_left 300 (show i + 1 ≤ NH G by omega)
                omega
              omega
      -- the bytes of the name
      have L120 : ∀ (q x f : Nat) (M4 : MS), x + q = nm.length → q < f → Ex [20, 21, 23] M2 M4 → (∀ x, mA M4 21 x = if x = NH G then nI nm.length else mA M1 21 x) → (∀ j, j < 8 → mA M4 23 (8 * NH G + j) = numA k w j) → (∀ x, x < 8 * NH G → mA M4 23 x = mA M1 23 x) → (∀ j, j < x → mA M4 20 (300 * NH G + j) = sb (nm.getD j 0)) → (∀ x, x < 300 * NH G → mA M4 20 x = mA M1 20 x) → wm m D (f_X9_list_L120 f (some m) (nI x)) M4 P := by
        intro q
        have k15 : ∀ M4, Ex [20, 21, 23] M2 M4 → mI M4 15 = mI M1 15 ∧ mI M4 16 = k ∧ mI M4 25 = nI (NH G) ∧ mA M4 14 = mA M1 14 := fun M4 E4 => ⟨by rw [E4.2 15 (by decide), E2.2 15 (by decide)], by rw [E4.2 16 (by decide), E2.2 16 (by decide)]; exact r1, by rw [E4.2 25 (by decide), E2.2 25 (by decide)]; exact g4, by rw [E4.1 14 (by decide), E2.1 14 (by decide)]⟩
        induction q with
        | zero =>
          intro x f M4 hx hf E4 v21 v23 v23' v20 v20'
          obtain ⟨f, rfl⟩ : ∃ g, f = g + 1 := ⟨f - 1, by omega⟩
          obtain ⟨w1, w2, w3, w4⟩ := k15 M4 E4
          have fn := fin M4 E4 v21 v23 v23' (fun j hj => v20 j (by omega)) v20'
          rw [f_X9_list_L120]
          unfold f_X9_list_120
          refine wm_rd ?_
          by_cases kz : k = 0
          · rw [w1, (Hnm kz).1]
            exact wm_t (nI_le (by omega) (by omega)) fn
          · refine wm_if (fun _ => fn) (fun _ => wm_rd ?_)
            rw [w2]
            exact wm_f kz fn
        | succ q ih =>
          intro x f M4 hx hf E4 v21 v23 v23' v20 v20'
          obtain ⟨f, rfl⟩ : ∃ g, f = g + 1 := ⟨f - 1, by omega⟩
          obtain ⟨w1, w2, w3, w4⟩ := k15 M4 E4
          have kz : k = 0 := by
            by_cases y : k = 0
            · exact y
            · rw [if_neg y] at enm
              rw [enm, List.length_nil] at hx
              omega
          have H := Hnm kz
          obtain ⟨n, hn', en⟩ := H.nn (j := x) (by omega)
          rw [f_X9_list_L120]
          unfold f_X9_list_120
          refine wm_rd ?_
          rw [w1, H.1]
          refine wm_f (nI_ge (by omega) (by omega)) (wm_rd ?_)
          rw [w2]
          refine wm_t kz (wm_b (wm_rR (k := 20) (t := 0) (by decide) (wm_rd (wm_get (k := 14) (t := 0) (by decide) rfl (show x < 300 by omega) (wm_b (wm_sI (k := 20) (t := 0) (j := 300 * NH G + x) (by decide) (by rw [w3]; exact (congrArg (· + nI x) (pk_mul 300 (NH G))).trans (nI_add _ _)) (show 300 * NH G + x < 3600 by omega) ?_))))))
          rw [w4, H.2.2.2 x (by omega), gnar0, nI_1]
          refine ih (x + 1) f _ (by omega) (by omega) (E4.trans (Ex.a (by decide))) (fun y => ?_) (fun j hj => ?_) (fun y hy => ?_) (fun j hj => ?_) (fun y hy => ?_)
          · rw [mA_uA, if_neg (fun z => absurd z.1 (by decide))]
            exact v21 y
          · rw [mA_uA, if_neg (fun z => absurd z.1 (by decide))]
            exact v23 j hj
          · rw [mA_uA, if_neg (fun z => absurd z.1 (by decide))]
            exact v23' y hy
          · rw [mA_uA]
            by_cases c : j = x
            · rw [if_pos ⟨rfl, by rw [c]⟩, c]
            · rw [if_neg (fun z => by have := z.2; omega)]
              exact v20 j (by omega)
          · rw [mA_uA, if_neg (fun z => by have := z.2; omega)]
            exact v20' y hy
      -- the numbers
      have L86 : ∀ (q x f : Nat) (M4 : MS), x + q = 8 → q < f → Ex [21, 23] M2 M4 → (∀ x, mA M4 21 x = if x = NH G then nI nm.length else mA M1 21 x) → (∀ j, j < x → mA M4 23 (8 * NH G + j) = numA k w j) → (∀ x, x < 8 * NH G → mA M4 23 x = mA M1 23 x) → wm m D (f_X9_list_L86 f (some m) (nI x)) M4 P := by
        intro q
        induction q with
        | zero =>
          intro x f M4 hx hf E4 v21 v23 v23'
          obtain ⟨f, rfl⟩ : ∃ g, f = g + 1 := ⟨f - 1, by omega⟩
          rw [f_X9_list_L86]
          unfold f_X9_list_86
          refine wm_t (show nI 8 ≤ nI x from nI_le (by omega) (by omega)) (L120 nm.length 0 gF M4 (by omega) (by unfold gF; omega) (E4.mono (by decide)) v21 (fun j hj => v23 j (by omega)) v23' (fun j hj => absurd hj (Nat.not_lt_zero _)) (fun y _ => by rw [E4.1 20 (by decide), E2.1 20 (by decide)]))
        | succ q ih =>
          intro x f M4 hx hf E4 v21 v23 v23'
          obtain ⟨f, rfl⟩ : ∃ g, f = g + 1 := ⟨f - 1, by omega⟩
          rw [f_X9_list_L86]
          unfold f_X9_list_86
          refine wm_f (show ¬ nI 8 ≤ nI x from nI_ge (by omega) (by omega)) (wm_b (wm_rR (k := 23) (t := 1) (by decide) (wm_rd (wm_get (k := 17) (t := 1) (by decide) rfl (show x < 8 by omega) (wm_b (wm_sI (k := 23) (t := 1) (j := 8 * NH G + x) (by decide) (by rw [E4.2 25 (by decide), E2.2 25 (by decide), g4]; exact (congrArg (· + nI x) (pk_mul 8 (NH G))).trans (nI_add _ _)) (show 8 * NH G + x < 96 by omega) ?_))))))
          rw [E4.1 17 (by decide), E2.1 17 (by decide), r2 x (by omega), gnar1, nI_1]
          refine ih (x + 1) f _ (by omega) (by omega) (E4.trans (Ex.a (by decide))) (fun y => ?_) (fun j hj => ?_) (fun y hy => ?_)
          · rw [mA_uA, if_neg (fun z => absurd z.1 (by decide))]
            exact v21 y
          · rw [mA_uA]
            by_cases c : j = x
            · rw [if_pos ⟨rfl, by rw [c]⟩, c]
            · rw [if_neg (fun z => by have := z.2; omega)]
              exact v23 j (by omega)
          · rw [mA_uA, if_neg (fun z => by have := z.2; omega)]
            exact v23' y hy
      have k83 : ∀ v, v = nI nm.length → wm m D (f_X9_list_83 (some m) (some (D 21)) (nI (NH G)) v) M2 P := by
        intro v hv
        unfold f_X9_list_83
        refine wm_b (wm_sI (k := 21) (t := 1) (by decide) rfl (show NH G < 12 from hn) ?_)
        rw [gnar1, hv]
        refine L86 8 0 gF _ (by omega) (by decide) (Ex.a (by decide)) (fun x => ?_) (fun j hj => absurd hj (Nat.not_lt_zero _)) (fun y hy => ?_)
        · rw [mA_uA]
          by_cases c : x = NH G
          · rw [if_pos ⟨rfl, c⟩, if_pos c]
          · rw [if_neg (fun z => c z.2), if_neg c, E2.1 21 (by decide)]
        · rw [mA_uA, if_neg (fun z => absurd z.1 (by decide)), E2.1 23 (by decide)]
      refine wm_if (fun kz => wm_rd ?_) (fun kz => k83 0 ?_)
      · refine k83 _ ?_
        rw [E2.2 15 (by decide)]
        exact (Hnm kz).1
      · rw [enm, if_neg kz]
        rfl
    refine wm_t rfl (wm_bz (fun c => go (Or.inl c)) (fun c => wm_rd ?_))
    rw [r1]
    refine wm_if (fun d => go (Or.inr d)) (fun d => wm_p (h1 k w ys M1 hr c d hM))
end MI
