/-! THE OTHER OBJECT: resolve -/
section MF
variable {m : Nat} {D : Nat → Nat} {M : MS} {R : Nat → List Int32} {T : List Int32} {Pp : Nat → Option UV} {G : GV} {P : Int32 → MS → Prop}
theorem m_resolve {a p q r s : Int32} (h : Mo M R T Pp G) (hz : ¬ (a = 4 ∨ a = 6) → P (-2) M) (h0 : ∀ c M', (a = 4 ∨ a = 6) → rdH T 0 T.length = .inl c → Mo M' R [] Pp G → c ≠ 0 → P c M') (h1 : ∀ k w ys M', (a = 4 ∨ a = 6) → rdH T 0 T.length = .inr (k, w, ys) → k ≠ 0 → Mo M' R [] Pp G → P (-2) M') (h2 : ∀ w ys M', (a = 4 ∨ a = 6) → rdH T 0 T.length = .inr (0, w, ys) → NA G = 16 → Mo M' R [] Pp G → P (-3) M') (h3 : ∀ w ys M', (a = 4 ∨ a = 6) → rdH T 0 T.length = .inr (0, w, ys) → NA G < 16 → Mo M' R [] Pp (adA G (ys, a, w4 a p q r s)) → P (nI (NA G + 1)) M') : wm m D (f_X9_resolve (some m) a p q r s) M P := by
  have go : (a = 4 ∨ a = 6) → wm m D (f_X9_resolve_14 (some m) a p q r s) M P := by
    intro ha
    unfold f_X9_resolve_14
    refine wm_n (wm_b (m_rth h.1 (fun c M1 hr E1 T1 => ?_) (fun k w ys M1 hr E1 T1 H1 => ?_)))
    · have hc := (rdH_neg hr).2
      exact wm_f hc (wm_p (h0 c M1 ha hr (h.txt E1 T1) hc))
    · have hM := h.txt E1 T1
      obtain ⟨r1, r2, r3, n0, hn0, r4⟩ := H1
      obtain ⟨g1, g2, g3, g4, ⟨g5, g6, g7⟩, g8⟩ := id hM
      refine wm_t rfl (wm_rd ?_)
      rw [r1]
      refine wm_if (fun kz => ?_) (fun kz => wm_p (h1 k w ys M1 ha hr kz hM))
      subst kz
      have H := r3 rfl
      have hyl := H.2.1
      have hyb : isB ys := fun x hx => by
        obtain ⟨n, hn, e⟩ := H.2.2.1 x hx
        exact ⟨n, by omega, e⟩
      refine wm_rd ?_
      rw [g5]
      by_cases c : NA G = 16
      · exact wm_t (by rw [c]; rfl) (wm_p (h2 w ys M1 ha hr c hM))
      refine wm_f (fun z => c ((nI_eq (b := 16) (by omega) (by omega)).mp z)) ?_
      have hn : NA G < 16 := by omega
      refine wm_b (wm_rR (k := 27) (t := 1) (by decide) (wm_rd (wm_rd ?_)))
      rw [g5, H.1]
      refine wm_b (wm_sI (k := 27) (t := 1) (by decide) rfl (show NA G < 16 from hn) ?_)
      rw [gnar1]
      have e4 : (4 * nI (NA G) : Int32) = nI (4 * NA G) := pk_mul 4 (NA G)
      have e41 : (4 * nI (NA G) + 1 : Int32) = nI (4 * NA G + 1) := by rw [e4]; exact nI_add _ 1
      have e42 : (4 * nI (NA G) + 2 : Int32) = nI (4 * NA G + 2) := by rw [e4]; exact nI_add _ 2
      have e43 : (4 * nI (NA G) + 3 : Int32) = nI (4 * NA G + 3) := by rw [e4]; exact nI_add _ 3
      have L : ∀ (d x f : Nat) (M4 : MS), x + d = ys.length → d < f → Ex [26, 27] M1 M4 → (∀ x, mA M4 27 x = if x = NA G then nI ys.length else mA M1 27 x) → (∀ j, j < x → mA M4 26 (300 * NA G + j) = sb (ys.getD j 0)) → (∀ x, x < 300 * NA G → mA M4 26 x = mA M1 26 x) → wm m D (f_X9_resolve_L66 f (some m) a p q r s (nI x)) M4 P := by
        intro d
        induction d with
        | zero =>
          intro x f M4 hx hf E4 v27 v26 v26'
          obtain ⟨f, rfl⟩ : ∃ g, f = g + 1 := ⟨f - 1, by omega⟩
          have k30 : mI M4 30 = nI (NA G) := by rw [E4.2 30 (by decide)]; exact g5
          rw [f_X9_resolve_L66]
          unfold f_X9_resolve_66
          refine wm_rd ?_
          rw [E4.2 15 (by decide), H.1]
          refine wm_t (nI_le (by omega) (by omega)) (wm_b (wm_rR (k := 28) (t := 1) (by decide) (wm_rd ?_)))
          rw [k30]
          refine wm_b (wm_sI (k := 28) (t := 1) (by decide) rfl (show NA G < 16 from hn) (wm_b (wm_rR (k := 29) (t := 1) (by decide) (wm_rd ?_))))
          rw [mI_uA, k30]
          refine wm_b (wm_sI (k := 29) (t := 1) (by decide) e4 (show 4 * NA G < 64 by omega) (wm_b (wm_rR (k := 29) (t := 1) (by decide) (wm_rd ?_))))
          simp only [mI_uA]
          rw [k30]
          refine wm_b (wm_sI (k := 29) (t := 1) (by decide) e41 (show 4 * NA G + 1 < 64 by omega) (wm_b (wm_rR (k := 29) (t := 1) (by decide) (wm_rd ?_))))
          simp only [mI_uA]
          rw [k30]
          refine wm_b (wm_sI (k := 29) (t := 1) (by decide) e42 (show 4 * NA G + 2 < 64 by omega) (wm_b (wm_rR (k := 29) (t := 1) (by decide) (wm_rd ?_))))
          simp only [mI_uA]
          rw [k30]
          refine wm_b (wm_sI (k := 29) (t := 1) (by decide) e43 (show 4 * NA G + 3 < 64 by omega) (wm_rd ?_))
          simp only [mI_uA]
          rw [k30, nI_1]
          refine wm_b (wm_wI (wm_rd (wm_p ?_)))
          rw [mI_uN, if_pos rfl]
          simp only [gnar1]
          have E5 : Ex [28, 29, 30] M4 (uN (uA (uA (uA (uA (uA M4 28 (NA G) a) 29 (4 * NA G) p) 29 (4 * NA G + 1) q) 29 (4 * NA G + 2) r) 29 (4 * NA G + 3) s) 30 (nI (NA G + 1))) := (((((Ex.a (by decide)).trans (Ex.a (by decide))).trans (Ex.a (by decide))).trans (Ex.a (by decide))).trans (Ex.a (by decide))).trans (Ex.n (by decide))
          have E : Ex [26, 27, 28, 29, 30] M1 (uN (uA (uA (uA (uA (uA M4 28 (NA G) a) 29 (4 * NA G) p) 29 (4 * NA G + 1) q) 29 (4 * NA G + 2) r) 29 (4 * NA G + 3) s) 30 (nI (NA G + 1))) := (E4.mono (by decide)).trans (E5.mono (by decide))
          refine h3 w ys _ ha hr hn ⟨g1.ex E (by decide) (by decide), g2.ex E (by decide) (by decide), g3.ex E (by decide) (by decide) (by decide) (by decide) (by decide) (by decide) (by decide), g4.ex E (by decide) (by decide) (by decide) (by decide) (by decide) (by decide), ⟨?_, ?_, fun i hi => ?_⟩, g8.ex E (by decide) (by decide) (by decide) (by decide)⟩
          · rw [mI_uN, if_pos rfl]
            rfl
          · show NA G + 1 ≤ 16
            omega
          · have hi : i < NA G + 1 := hi
            rw [E5.1 27 (by decide), E5.1 26 (by decide), v27]
            show _ = (if i = NA G then _ else _ : AE).2.1 ∧ ((if i = NA G then _ else _ : AE).2.1 = 4 ∨ (if i = NA G then _ else _ : AE).2.1 = 6) ∧ (if i = NA G then _ else _ : AE).2.2 = w4 (if i = NA G then _ else _ : AE).2.1 _ _ _ _ ∧ _ = nI (if i = NA G then _ else _ : AE).1.length ∧ (if i = NA G then _ else _ : AE).1.length ≤ 300 ∧ isB (if i = NA G then _ else _ : AE).1 ∧ By _ _ (if i = NA G then _ else _ : AE).1
            by_cases z : i = NA G
            · subst z
              simp only [if_true]
              refine ⟨by simp [mA_uN, mA_uA], ha, by simp [mA_uN, mA_uA], trivial, hyl, hyb, fun j hj => v26 j (by omega)⟩
            · simp only [z, if_false]
              obtain ⟨u1, u2, u3, u4, u5, u6, u7⟩ := g7 i (by omega)
              have n0 : ∀ x y, x < 4 → y < 4 → ¬ 4 * i + x = 4 * NA G + y := fun x y hx hy => by omega
              refine ⟨?_, u2, ?_, u4, u5, u6, u7.keep (fun j hj => v26' _ ?_)⟩
              · rw [← u1, mA_uN, mA_uA, if_neg (fun z => absurd z.1 (by decide)), mA_uA, if_neg (fun z => absurd z.1 (by decide)), mA_uA, if_neg (fun z => absurd z.1 (by decide)), mA_uA, if_neg (fun z => absurd z.1 (by decide)), mA_uA, if_neg (fun y => z y.2), E4.1 28 (by decide)]
              · rw [u3]
                have key : ∀ x, x < 4 → mA (uN (uA (uA (uA (uA (uA M4 28 (NA G) a) 29 (4 * NA G) p) 29 (4 * NA G + 1) q) 29 (4 * NA G + 2) r) 29 (4 * NA G + 3) s) 30 (nI (NA G + 1))) 29 (4 * i + x) = mA M1 29 (4 * i + x) := fun x hx => by
                  rw [mA_uN, mA_uA, if_neg (fun z => n0 x 3 hx (by omega) z.2), mA_uA, if_neg (fun z => n0 x 2 hx (by omega) z.2), mA_uA, if_neg (fun z => n0 x 1 hx (by omega) z.2), mA_uA, if_neg (fun z => n0 x 0 hx (by omega) z.2), mA_uA, if_neg (fun z => absurd z.1 (by decide)), E4.1 29 (by decide)]
                rw [show 4 * i = 4 * i + 0 from rfl, key 0 (by omega), key 1 (by omega), key 2 (by omega), key 3 (by omega)]
              · have : 300 * i + 300 ≤ 300 * NA G := by
                  have := Nat.mul_le_mul_left 300 (show i + 1 ≤ NA G by omega)
                  omega
                omega
        | succ d ih =>
          intro x f M4 hx hf E4 v27 v26 v26'
          obtain ⟨f, rfl⟩ : ∃ g, f = g + 1 := ⟨f - 1, by omega⟩
          have k30 : mI M4 30 = nI (NA G) := by rw [E4.2 30 (by decide)]; exact g5
          rw [f_X9_resolve_L66]
          unfold f_X9_resolve_66
          refine wm_rd ?_
          rw [E4.2 15 (by decide), H.1]
          refine wm_f (nI_ge (by omega) (by omega)) (wm_b (wm_rR (k := 26) (t := 0) (by decide) (wm_rd (wm_get (k := 14) (t := 0) (by decide) rfl (show x < 300 by omega) (wm_b (wm_sI (k := 26) (t := 0) (j := 300 * NA G + x) (by decide) (by rw [k30]; exact (congrArg (· + nI x) (pk_mul 300 (NA G))).trans (nI_add _ _)) (show 300 * NA G + x < 4800 by omega) ?_))))))
          rw [E4.1 14 (by decide), H.2.2.2 x (by omega), gnar0, nI_1]
          refine ih (x + 1) f _ (by omega) (by omega) (E4.trans (Ex.a (by decide))) (fun y => ?_) (fun j hj => ?_) (fun y hy => ?_)
          · rw [mA_uA, if_neg (fun z => absurd z.1 (by decide))]
            exact v27 y
          · rw [mA_uA]
            by_cases c : j = x
            · rw [if_pos ⟨rfl, by rw [c]⟩, c]
            · rw [if_neg (fun z => by have := z.2; omega)]
              exact v26 j (by omega)
          · rw [mA_uA, if_neg (fun z => by have := z.2; omega)]
            exact v26' y hy
      refine L ys.length 0 gF _ (by omega) (by unfold gF; omega) (Ex.a (by decide)) (fun x => ?_) (fun j hj => absurd hj (Nat.not_lt_zero _)) (fun y _ => ?_)
      · rw [mA_uA]
        by_cases c : x = NA G
        · rw [if_pos ⟨rfl, c⟩, if_pos c]
        · rw [if_neg (fun z => c z.2), if_neg c]
      · rw [mA_uA, if_neg (fun z => absurd z.1 (by decide))]
  unfold f_X9_resolve
  refine wm_if (fun c => go (Or.inl c)) (fun c => ?_)
  exact wm_if (fun d => go (Or.inr d)) (fun d => wm_p (hz (fun z => z.elim c d)))
end MF
