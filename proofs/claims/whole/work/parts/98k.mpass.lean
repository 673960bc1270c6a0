/-! BOTH OBJECTS: pass -/
theorem inS_congr {G : GV} {k : Int32} {w w' : Nat → Int32} (h : ∀ j, j < 4 → w j = w' j) : ∀ m i, inS G k w m i = inS G k w' m i
  | 0, _ => rfl
  | m + 1, i => by rw [inS, inS, inR_congr h (fun _ _ => rfl), inS_congr h m (i + 1)]
theorem pair_w (w : Nat → Int32) (k : Nat) : (nI (num6 w (2 * k)) <<< ((16 : Int32) &&& 31)) ||| nI (num6 w (2 * k + 1)) = w k := by
  have e0 : num6 w (2 * k) = (w k).toBitVec.toNat / 65536 := by
    unfold num6
    rw [if_pos (by omega), show 2 * k / 2 = k by omega]
  have e1 : num6 w (2 * k + 1) = (w k).toBitVec.toNat % 65536 := by
    unfold num6
    rw [if_neg (by omega), show (2 * k + 1) / 2 = k by omega]
  have bn : ∀ (n i : Nat), i < 32 → bt (nI n) i = n.testBit i := by
    intro n i hi
    show (BitVec.ofNat 32 n).getLsbD i = _
    rw [BitVec.getLsbD_ofNat, decide_eq_true hi, Bool.true_and]
  refine b_ext (fun i hi => ?_)
  rw [b_or, b_shl16 _ hi, e0, e1, bn _ i hi, bn _ (i - 16) (by omega)]
  have hw : bt (w k) i = (w k).toBitVec.toNat.testBit i := rfl
  rw [hw, show (65536 : Nat) = 2 ^ 16 from rfl, Nat.testBit_div_two_pow, Nat.testBit_mod_two_pow]
  by_cases c : i < 16
  · rw [decide_eq_true c, decide_eq_false (show ¬ 16 ≤ i by omega), Bool.false_and, Bool.false_or, Bool.true_and]
  · rw [decide_eq_false c, decide_eq_true (show 16 ≤ i by omega), Bool.false_and, Bool.or_false, Bool.true_and, show i - 16 + 16 = i by omega]
section MPs
variable {m : Nat} {D : Nat → Nat} {M : MS} {R : Nat → List Int32} {T : List Int32} {Pp : Nat → Option UV} {G : GV} {P : Int32 → MS → Prop}
theorem m_pass190 {rec : Option Nat → Int32 → Int32 → Int32 → Int32 → gM Int32} {i e : Nat} {nm : List Int32} {c o : Int32} (hi : i < 5) (he : e < 16) (hR : Rw M R) (hm : mA M 27 e = nI nm.length) (hl : nm.length ≤ 300) (hb : isB nm) (hB : By (mA M 26) (300 * e) nm) : ∀ (k x f : Nat) (b : Bool), x + k = nm.length → k < f → (b = true → nm.length = (R (6 * i + 2)).length) → ((¬ (b = true ∧ ∀ t, x ≤ t → t < nm.length → nm.getD t 0 = (R (6 * i + 2)).getD t 0)) → wm m D (f_X9_pass_251 rec (some m) (nI i) c o (nI e) 0) M P) → ((b = true ∧ ∀ t, x ≤ t → t < nm.length → nm.getD t 0 = (R (6 * i + 2)).getD t 0) → wm m D (f_X9_pass_251 rec (some m) (nI i) c o (nI e) 1) M P) → wm m D (f_X9_pass_L190 rec f (some m) (nI i) c o (nI e) (b2i b) (nI x)) M P := by
  obtain ⟨r1, r2, r3, r4⟩ := hR (6 * i + 2) (by omega)
  intro k
  induction k with
  | zero =>
    intro x f b hx hf hb' h0 hP
    obtain ⟨f, rfl⟩ : ∃ g, f = g + 1 := ⟨f - 1, by omega⟩
    rw [f_X9_pass_L190]
    unfold f_X9_pass_190
    refine wm_get (k := 27) (t := 1) (by decide) rfl (show e < 16 by omega) ?_
    rw [hm]
    refine wm_t (nI_le (by omega) (by omega)) ?_
    cases b with
    | false => exact h0 (fun y => by cases y.1)
    | true => exact hP ⟨rfl, fall_z (by omega)⟩
  | succ k ih =>
    intro x f b hx hf hb' h0 hP
    obtain ⟨f, rfl⟩ : ∃ g, f = g + 1 := ⟨f - 1, by omega⟩
    rw [f_X9_pass_L190]
    unfold f_X9_pass_190 f_X9_row
    refine wm_get (k := 27) (t := 1) (by decide) rfl (show e < 16 by omega) ?_
    rw [hm]
    refine wm_f (nI_ge (by omega) (by omega)) (wm_bz (fun z => ?_) (fun z => ?_))
    · subst z
      exact h0 (fun y => by cases y.1)
    · subst z
      have hl' := hb' rfl
      refine wm_get (k := 26) (t := 0) (j := 300 * e + x) (by decide) (by rw [show (300 : Int32) = nI 300 from rfl, pk_mul, nI_add]) (show 300 * e + x < 4800 by omega) ?_
      refine wm_b (wm_rR (k := 9) (t := 0) (by decide) (wm_n (wm_b (wm_p (wm_b ?_)))))
      have e3 : (6 * nI i + 2 : Int32) = nI (6 * i + 2) := ix6 i 2
      rw [e3, show (2400 : Int32) = nI 2400 from rfl, pk_mul]
      refine wm_aI (k := 9) (t := 0) (by decide) (nI_add _ _) (show 2400 * (6 * i + 2) + x < 72000 by omega) ?_
      rw [r4 _ (by omega), hB x (by omega), nI_1]
      have si := sb_iff hb r3 (a := x) (b := x) (by omega) (by omega)
      refine wm_if (fun c => ih (x + 1) f true (by omega) (by omega) (fun _ => hl') (fun q => h0 (fun y => q ?_)) (fun q => hP ?_)) (fun c => ih (x + 1) f false (by omega) (by omega) (fun z => by cases z) (fun q => h0 (fun y => ?_)) (fun q => by cases q.1))
      · exact ⟨rfl, ((fall_s (x := x) (by omega)).mp y.2).2⟩
      · exact ⟨rfl, (fall_s (x := x) (by omega)).mpr ⟨si.mp c, q.2⟩⟩
      · exact c (si.mpr ((fall_s (x := x) (by omega)).mp y.2).1)
theorem m_pass155 {i : Nat} {ys : List Int32} (hi : i < 5) (hR : Rw M R) (hA : Ma M G) (hM : Mr M G) (hy : R (6 * i + 2) = ys) : ∀ (k e f c : Nat) (o : Bool), e + k = NA G → k < f → c ≤ e → P (jaL G ys k e c o) M → wm m D (f_X9_pass_L155 f (some m) (nI i) (nI c) (b2i o) (nI e)) M P := by
  obtain ⟨l1, l2, l3⟩ := hA
  have s2 := (hR (6 * i + 2) (by omega)).2.1
  intro k
  induction k with
  | zero =>
    intro e f c o he hf hc hP
    obtain ⟨f, rfl⟩ : ∃ g, f = g + 1 := ⟨f - 1, by omega⟩
    rw [f_X9_pass_L155]
    unfold f_X9_pass_155
    refine wm_rd ?_
    rw [l1]
    refine wm_t (nI_le (by omega) (by omega)) ?_
    rw [jaL] at hP
    refine wm_if (fun z => wm_p ?_) (fun z => ?_)
    · rw [if_pos ((nI_eq (b := 0) (by omega) (by omega)).mp z)] at hP
      exact hP
    · rw [if_neg (show ¬ c = 0 from fun y => z (by rw [y]; rfl))] at hP
      refine wm_bz (fun y => wm_p ?_) (fun y => wm_p ?_)
      · rw [y] at hP
        exact hP
      · rw [y] at hP
        exact hP
  | succ k ih =>
    intro e f c o he hf hc hP
    obtain ⟨f, rfl⟩ : ∃ g, f = g + 1 := ⟨f - 1, by omega⟩
    rw [f_X9_pass_L155]
    unfold f_X9_pass_155
    refine wm_rd ?_
    rw [l1]
    refine wm_f (nI_ge (by omega) (by omega)) ?_
    obtain ⟨a1, a2, a3, a4, a5, a6, a7⟩ := l3 e (by omega)
    refine wm_get (k := 27) (t := 1) (by decide) rfl (show e < 16 by omega) (m_sz (p := 2) hi (by omega) hR ?_)
    rw [a4]
    rw [jaL] at hP
    have no : ¬ (GA G e).1 = ys → wm m D (f_X9_pass_251 (f_X9_pass_L155 f) (some m) (nI i) (nI c) (b2i o) (nI e) 0) M P := by
      intro z
      rw [if_neg z] at hP
      unfold f_X9_pass_251
      refine wm_t rfl ?_
      rw [nI_1]
      exact ih (e + 1) f c o (by omega) (by omega) (by omega) hP
    have yes : (GA G e).1 = ys → wm m D (f_X9_pass_251 (f_X9_pass_L155 f) (some m) (nI i) (nI c) (b2i o) (nI e) 1) M P := by
      intro z
      rw [if_pos z] at hP
      unfold f_X9_pass_251
      refine wm_f (by decide) (wm_bz (fun y => ?_) (fun y => ?_))
      · rw [y, Bool.false_and] at hP
        rw [nI_1, nI_1]
        exact ih (e + 1) f (c + 1) false (by omega) (by omega) (by omega) hP
      · rw [y, Bool.true_and] at hP
        have e4 : (4 * nI e : Int32) = nI (4 * e) := pk_mul 4 e
        refine wm_get (k := 28) (t := 1) (by decide) rfl (show e < 16 by omega) ?_
        refine wm_get (k := 29) (t := 1) (j := 4 * e) (by decide) e4 (show 4 * e < 64 by omega) ?_
        refine wm_get (k := 29) (t := 1) (j := 4 * e + 1) (by decide) (by rw [e4]; exact nI_add _ 1) (show 4 * e + 1 < 64 by omega) ?_
        refine wm_get (k := 29) (t := 1) (j := 4 * e + 2) (by decide) (by rw [e4]; exact nI_add _ 2) (show 4 * e + 2 < 64 by omega) ?_
        refine wm_get (k := 29) (t := 1) (j := 4 * e + 3) (by decide) (by rw [e4]; exact nI_add _ 3) (show 4 * e + 3 < 64 by omega) ?_
        rw [a1, nI_1, nI_1]
        refine wm_n (wm_b (m_isInRange a2 hM ?_))
        rw [← a3]
        refine wm_bz (fun g => ?_) (fun g => ?_)
        · rw [g] at hP
          exact ih (e + 1) f (c + 1) false (by omega) (by omega) (by omega) hP
        · rw [g] at hP
          exact ih (e + 1) f (c + 1) true (by omega) (by omega) (by omega) hP
    have go : ∀ b : Bool, (b = true ↔ (GA G e).1.length = (R (6 * i + 2)).length) → wm m D (f_X9_pass_L190 (f_X9_pass_L155 f) gF (some m) (nI i) (nI c) (b2i o) (nI e) (b2i b) (nI 0)) M P := by
      intro b hb
      refine m_pass190 hi (by omega) hR a4 a5 a6 a7 (GA G e).1.length 0 gF b (by omega) (by unfold gF; omega) hb.mp (fun q => no (fun z => ?_)) (fun q => yes ?_)
      · rw [hb] at q
        rw [← hy] at z
        exact q (lex_iff.mp z)
      · rw [hb] at q
        rw [← hy]
        exact lex_iff.mpr q
    exact wm_if (fun z => go true ⟨fun _ => (nI_eq (by omega) (by omega)).mp z, fun _ => rfl⟩) (fun z => go false ⟨fun y => (by cases y), fun y => absurd (by rw [y]) z⟩)
theorem m_pass {i : Int32} (h : Mo M R T Pp G) (hP : P (psA Pp G i) M) : wm m D (f_X9_pass (some m) i) M P := by
  unfold f_X9_pass
  unfold psA at hP
  refine m_has h.2.2.1 (fun e => ?_) (fun j U hj ei e hA hH ok ov => ?_)
  · rw [e] at hP
    exact wm_t rfl (wm_p hP)
  rw [e] at hP
  simp only [Option.elim] at hP
  subst ei
  refine wm_f (by decide) ?_
  obtain ⟨⟨a1, a2, a3, a4, a5⟩, a6, a7, a8, a9⟩ := id hA
  obtain ⟨h1, h2, h3⟩ := id hH
  have hR := h.2.1
  have hE := okWV_E ok ov
  have l0 := (hR (6 * j) (by omega)).2.1
  have l1 := (hR (6 * j + 1) (by omega)).2.1
  unfold jdg at hP
  have hl : (uR U 4).length < 2 ^ 30 := by
    have := ov.2
    unfold wrU wr3 at this
    simp only [List.length_append] at this
    omega
  have go : (uI U 0 = 0 ∨ uI U 0 = 2) → wm m D (f_X9_pass_32 (some m) (nI j)) M P := by
    intro z
    rw [if_pos z] at hP
    unfold f_X9_pass_32
    refine m_sz (p := 0) (by omega) (by omega) hR ?_
    have hu : usr U = decide (0 < (R (6 * j)).length ∨ 0 < (R (6 * j + 1)).length) := by
      unfold usr
      rw [← a1, ← a2]
    rw [hu] at hP
    refine wm_if (fun c1 => wm_p ?_) (fun c1 => ?_)
    · have c1 : 0 < (R (6 * j)).length := (nI_ltI (a := 0) (b := (R (6 * j)).length) (by omega) (by omega)).mp c1
      rw [decide_eq_true (Or.inl c1), if_pos rfl] at hP
      exact hP
    · have c1 : ¬ 0 < (R (6 * j)).length := fun z => c1 (nI_lt (a := 0) (b := (R (6 * j)).length) z (by omega))
      refine m_sz (p := 1) (by omega) (by omega) hR (wm_if (fun c2 => ?_) (fun c2 => wm_p ?_))
      · have c2 := (nI_leI (b := 0) (by omega) (by omega)).mp c2
        rw [decide_eq_false (show ¬ (0 < (R (6 * j)).length ∨ 0 < (R (6 * j + 1)).length) by omega), if_neg (by decide)] at hP
        refine wm_n (wm_b (m_isListed (by omega) hR h.2.2.2.1 hH hE hl ?_))
        refine wm_bz (fun c3 => wm_p ?_) (fun c3 => ?_)
        · rw [c3, if_neg (by decide)] at hP
          exact hP
        · rw [c3, if_pos rfl] at hP
          have ro := h.2.2.2.2.2
          refine wm_get (k := 5) (t := 1) (by decide) rfl (show j < 5 by omega) ?_
          rw [h1]
          refine wm_if (fun c4 => ?_) (fun c4 => wm_get (k := 5) (t := 1) (by decide) rfl (show j < 5 by omega) ?_)
          · refine wm_get (k := 6) (t := 1) (j := 8 * j) (by decide) (pk_mul 8 j) (show 8 * j < 40 by omega) ?_
            refine wm_n (wm_b (m_isInRange (Or.inl rfl) ro ?_))
            have e0 : mA M 6 (8 * j) = uW U 0 := by
              have := h2 0 (by omega)
              rw [c4] at this
              exact this
            have o4 := hE.1.2.2 (by rw [c4]; decide)
            have ec : inS G 4 (w4 4 (mA M 6 (8 * j)) 0 0 0) (NR G) 0 = inS G (uK U) (uW U) (NR G) 0 := by
              rw [c4]
              refine inS_congr (fun x hx => ?_) _ _
              rw [e0]
              rcases (show x = 0 ∨ x = 1 ∨ x = 2 ∨ x = 3 by omega) with rfl | rfl | rfl | rfl
              · rfl
              · exact o4.1.symm
              · exact o4.2.1.symm
              · exact o4.2.2.symm
            rw [ec]
            rw [if_neg (by rw [c4]; decide)] at hP
            refine wm_bz (fun c5 => wm_p ?_) (fun c5 => wm_p ?_)
            · rw [c5] at hP
              exact hP
            · rw [c5] at hP
              exact hP
          · rw [h1]
            refine wm_if (fun c5 => ?_) (fun c5 => ?_)
            · have pr : ∀ {K : Int32 → gM Int32} (x : Nat), x < 4 → wm m D (K (uW U x)) M P → wm m D (gb (nn 8 (some m)) fun _ => gb (f_X9_pair (some m) (nI j) (nI x)) K) M P := by
                intro K x hx hK
                unfold f_X9_pair
                have e8 : (8 * nI j + 2 * nI x : Int32) = nI (8 * j + 2 * x) := by
                  rw [show (8 : Int32) = nI 8 from rfl, show (2 : Int32) = nI 2 from rfl, pk_mul, pk_mul, nI_add]
                refine wm_n (wm_b (wm_get (k := 6) (t := 1) (j := 8 * j + 2 * x) (by decide) e8 (show 8 * j + 2 * x < 40 by omega) ?_))
                refine wm_get (k := 6) (t := 1) (j := 8 * j + (2 * x + 1)) (by decide) (by rw [e8]; exact nI_add _ 1) (show 8 * j + (2 * x + 1) < 40 by omega) (wm_p ?_)
                rw [h2 (2 * x) (by omega), h2 (2 * x + 1) (by omega), c5]
                have e6 : ∀ y, numA 6 (uW U) y = nI (num6 (uW U) y) := fun y => if_pos rfl
                rw [e6, e6, pair_w]
                exact hK
              refine pr 0 (by omega) (pr 1 (by omega) (pr 2 (by omega) (pr 3 (by omega) ?_)))
              refine wm_n (wm_b (m_isInRange (Or.inr rfl) ro ?_))
              have ec : inS G 6 (w4 6 (uW U 0) (uW U 1) (uW U 2) (uW U 3)) (NR G) 0 = inS G (uK U) (uW U) (NR G) 0 := by
                rw [c5]
                refine inS_congr (fun x hx => ?_) _ _
                rcases (show x = 0 ∨ x = 1 ∨ x = 2 ∨ x = 3 by omega) with rfl | rfl | rfl | rfl <;> rfl
              rw [ec]
              rw [if_neg (by rw [c5]; decide)] at hP
              refine wm_bz (fun c6 => wm_p ?_) (fun c6 => wm_p ?_)
              · rw [c6] at hP
                exact hP
              · rw [c6] at hP
                exact hP
            · have k0 : uK U = 0 := by
                rcases hE.1.1 with z | z | z
                · exact z
                · exact absurd z c4
                · exact absurd z c5
              rw [if_pos k0] at hP
              rw [if_pos k0] at h3
              exact m_pass155 (by omega) hR h.2.2.2.2.1 ro h3 (NA G) 0 gF 0 true (by omega) (by have := h.2.2.2.2.1.2.1; unfold gF; omega) (by omega) hP
      · have c2 : 0 < (R (6 * j + 1)).length := by
          rcases Nat.eq_zero_or_pos (R (6 * j + 1)).length with y | y
          · exact absurd (by rw [y]; decide) c2
          · exact y
        rw [decide_eq_true (Or.inr c2), if_pos rfl] at hP
        exact hP
  refine wm_get (k := 3) (t := 1) (by decide) rfl (show j < 5 by omega) ?_
  rw [a6]
  refine wm_if (fun c => go (Or.inl c)) (fun c => wm_get (k := 3) (t := 1) (by decide) rfl (show j < 5 by omega) ?_)
  rw [a6]
  refine wm_if (fun d => go (Or.inr d)) (fun d => wm_p ?_)
  rw [if_neg (fun z => z.elim c d)] at hP
  exact hP
end MPs
