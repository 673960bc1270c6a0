/-! BOTH OBJECTS: same -/
theorem lex_iff {xs ys : List Int32} : xs = ys ↔ xs.length = ys.length ∧ ∀ t, 0 ≤ t → t < xs.length → xs.getD t 0 = ys.getD t 0 := by
  constructor
  · intro e
    subst e
    exact ⟨rfl, fun t _ _ => rfl⟩
  · rintro ⟨e, h⟩
    apply List.ext_getElem e
    intro t h1 h2
    have := h t (Nat.zero_le _) h1
    rw [List.getD_eq_getElem?_getD, List.getD_eq_getElem?_getD, List.getElem?_eq_getElem h1, List.getElem?_eq_getElem h2] at this
    exact this
theorem sb_iff {xs ys : List Int32} {a b : Nat} (hx : isB xs) (hy : isB ys) (ha : a < xs.length) (hb : b < ys.length) : sb (xs.getD a 0) = sb (ys.getD b 0) ↔ xs.getD a 0 = ys.getD b 0 := by
  obtain ⟨n, hn, e⟩ := hx.get ha
  obtain ⟨k, hk, e'⟩ := hy.get hb
  rw [e, e']
  exact ⟨fun z => by rw [sb_i hn hk z], fun z => by rw [z]⟩
theorem fall_s {f : Nat → Prop} {x n : Nat} (h : x < n) : (∀ t, x ≤ t → t < n → f t) ↔ f x ∧ ∀ t, x + 1 ≤ t → t < n → f t := by
  constructor
  · exact fun z => ⟨z x (Nat.le_refl _) h, fun t h1 h2 => z t (by omega) h2⟩
  · rintro ⟨z1, z2⟩ t h1 h2
    rcases Nat.lt_or_ge x t with y | y
    · exact z2 t y h2
    · rw [show t = x by omega]; exact z1
theorem fall_z {f : Nat → Prop} {x n : Nat} (h : n ≤ x) : ∀ t, x ≤ t → t < n → f t := fun t h1 h2 => absurd h2 (by omega)
section MS
variable {β : Type} {m : Nat} {D : Nat → Nat} {M : MS} {R : Nat → List Int32} {T : List Int32} {Pp : Nat → Option UV} {G : GV} {P : Int32 → MS → Prop}
theorem m_same141 {i j : Nat} (hi : i < 5) (hj : j < 5) (hR : Rw M R) : ∀ (k x f : Nat) (b : Bool), x + k = (R (6 * i + 2)).length → k < f → (b = true → (R (6 * i + 2)).length = (R (6 * j + 2)).length) → (∀ b' : Bool, (b' = true ↔ b = true ∧ ∀ t, x ≤ t → t < (R (6 * i + 2)).length → (R (6 * i + 2)).getD t 0 = (R (6 * j + 2)).getD t 0) → P (b2i b') M) → wm m D (f_X9_same_L141 f (some m) (nI i) (nI j) (b2i b) (nI x)) M P := by
  obtain ⟨r1, r2, r3, r4⟩ := hR (6 * i + 2) (by omega)
  obtain ⟨s1, s2, s3, s4⟩ := hR (6 * j + 2) (by omega)
  have fin : ∀ b : Bool, P (b2i b) M → wm m D (f_X9_same_199 (b2i b)) M P := by
    intro b h
    unfold f_X9_same_199
    refine wm_bz (fun z => ?_) (fun z => ?_)
    · rw [z] at h
      exact wm_p h
    · rw [z] at h
      exact wm_p h
  intro k
  induction k with
  | zero =>
    intro x f b hx hf hb hP
    obtain ⟨f, rfl⟩ : ∃ g, f = g + 1 := ⟨f - 1, by omega⟩
    rw [f_X9_same_L141]
    unfold f_X9_same_141
    refine m_sz (p := 2) hi (by omega) hR (wm_t (nI_le (by omega) (by omega)) (fin b (hP b ⟨fun z => ⟨z, fall_z (by omega)⟩, fun z => z.1⟩)))
  | succ k ih =>
    intro x f b hx hf hb hP
    obtain ⟨f, rfl⟩ : ∃ g, f = g + 1 := ⟨f - 1, by omega⟩
    rw [f_X9_same_L141]
    unfold f_X9_same_141 f_X9_row
    refine m_sz (p := 2) hi (by omega) hR (wm_f (nI_ge (by omega) (by omega)) (wm_bz (fun z => ?_) (fun z => ?_)))
    · subst z
      exact fin false (hP false ⟨fun y => (by cases y), fun y => (by cases y.1)⟩)
    · subst z
      have hl := hb rfl
      refine wm_b (wm_rR (k := 9) (t := 0) (by decide) (wm_n (wm_b (wm_p (wm_b ?_)))))
      have e3 : (6 * nI i + 2 : Int32) = nI (6 * i + 2) := ix6 i 2
      have e4 : (6 * nI j + 2 : Int32) = nI (6 * j + 2) := ix6 j 2
      rw [e3, show (2400 : Int32) = nI 2400 from rfl, pk_mul]
      refine wm_aI (k := 9) (t := 0) (by decide) (nI_add _ _) (show 2400 * (6 * i + 2) + x < 72000 by omega) ?_
      refine wm_b (wm_rR (k := 9) (t := 0) (by decide) (wm_n (wm_b (wm_p (wm_b ?_)))))
      rw [e4, pk_mul]
      refine wm_aI (k := 9) (t := 0) (by decide) (nI_add _ _) (show 2400 * (6 * j + 2) + x < 72000 by omega) ?_
      rw [r4 x (by omega), s4 x (by omega), nI_1]
      have si := sb_iff r3 s3 (a := x) (b := x) (by omega) (by omega)
      refine wm_if (fun c => ih (x + 1) f true (by omega) (by omega) (fun _ => hl) (fun b' hb' => hP b' ?_)) (fun c => ih (x + 1) f false (by omega) (by omega) (fun z => by cases z) (fun b' hb' => hP b' ?_))
      · rw [hb', fall_s (x := x) (by omega)]
        exact ⟨fun z => ⟨z.1, si.mp c, z.2⟩, fun z => ⟨z.1, z.2.2⟩⟩
      · rw [hb', fall_s (x := x) (by omega)]
        exact ⟨fun z => (by cases z.1), fun z => absurd (si.mpr z.2.1) c⟩
theorem m_same88 {i j : Nat} {A B : Nat → Int32} (hi : i < 5) (hj : j < 5) (hA : ∀ k, k < 8 → mA M 6 (8 * i + k) = A k) (hB : ∀ k, k < 8 → mA M 6 (8 * j + k) = B k) : ∀ (k x f : Nat) (b : Bool), x + k = 8 → k < f → (∀ b' : Bool, (b' = true ↔ b = true ∧ ∀ t, x ≤ t → t < 8 → A t = B t) → wm m D (f_X9_same_L141 gF (some m) (nI i) (nI j) (b2i b') 0) M P) → wm m D (f_X9_same_L88 f (some m) (nI i) (nI j) (b2i b) (nI x)) M P := by
  intro k
  induction k with
  | zero =>
    intro x f b hx hf hP
    obtain ⟨f, rfl⟩ : ∃ g, f = g + 1 := ⟨f - 1, by omega⟩
    rw [f_X9_same_L88]
    unfold f_X9_same_88
    refine wm_t (show nI 8 ≤ nI x from nI_le (by omega) (by omega)) (hP b ⟨fun z => ⟨z, fall_z (by omega)⟩, fun z => z.1⟩)
  | succ k ih =>
    intro x f b hx hf hP
    obtain ⟨f, rfl⟩ : ∃ g, f = g + 1 := ⟨f - 1, by omega⟩
    rw [f_X9_same_L88]
    unfold f_X9_same_88
    refine wm_f (show ¬ nI 8 ≤ nI x from nI_ge (by omega) (by omega)) ?_
    rw [nI_1]
    have nx : ∀ c : Bool, (b = true → c = decide (A x = B x)) → (b = false → c = false) → wm m D (f_X9_same_L88 f (some m) (nI i) (nI j) (b2i c) (nI (x + 1))) M P := by
      intro c hc hc2
      refine ih (x + 1) f c (by omega) (by omega) (fun b' hb' => hP b' ?_)
      rw [hb', fall_s (x := x) (by omega)]
      cases b with
      | false => rw [hc2 rfl]; exact ⟨fun z => (by cases z.1), fun z => (by cases z.1)⟩
      | true =>
        rw [hc rfl]
        exact ⟨fun z => ⟨rfl, of_decide_eq_true z.1, z.2⟩, fun z => ⟨decide_eq_true z.2.1, z.2.2⟩⟩
    refine wm_bz (fun z => ?_) (fun z => ?_)
    · exact nx false (fun y => by rw [z] at y; cases y) (fun _ => rfl)
    · refine wm_get (k := 6) (t := 1) (j := 8 * i + x) (by decide) (by rw [show (8 : Int32) = nI 8 from rfl, pk_mul, nI_add]) (show 8 * i + x < 40 by omega) ?_
      refine wm_get (k := 6) (t := 1) (j := 8 * j + x) (by decide) (by rw [show (8 : Int32) = nI 8 from rfl, pk_mul, nI_add]) (show 8 * j + x < 40 by omega) ?_
      rw [hA x (by omega), hB x (by omega)]
      refine wm_if (fun c => ?_) (fun c => ?_)
      · exact nx true (fun _ => (decide_eq_true c).symm) (fun y => by rw [z] at y; cases y)
      · exact nx false (fun _ => (decide_eq_false c).symm) (fun _ => rfl)
theorem okWV_E {U : UV} (ok : okW U) (ov : okV U) : okE (uK U) (uW U) (uR U 4) := ⟨ov.1.1, ok.1.2.1, ok.1.2.2.1⟩
theorem m_same {i j : Int32} (h : Mo M R T Pp G) (hP : P (smA Pp i j) M) : wm m D (f_X9_same (some m) i j) M P := by
  unfold f_X9_same
  unfold smA at hP
  refine m_has h.2.2.1 (fun e => ?_) (fun x U hx ei e hA hH ok ov => ?_)
  · rw [e] at hP
    exact wm_t rfl (wm_p hP)
  refine wm_f (by decide) ?_
  rw [e] at hP
  refine m_has h.2.2.1 (fun e' => ?_) (fun y B hy ej e' hA' hH' ok' ov' => ?_)
  · rw [e'] at hP
    exact wm_t rfl (wm_p hP)
  refine wm_f (by decide) ?_
  rw [e'] at hP
  simp only [Option.elim] at hP
  subst ei ej
  obtain ⟨-, a6, a7, a8, a9⟩ := id hA
  obtain ⟨-, b6, b7, b8, b9⟩ := id hA'
  obtain ⟨h1, h2, h3⟩ := id hH
  obtain ⟨g1, g2, g3⟩ := id hH'
  have hR := h.2.1
  have l1 := (hR (6 * x + 2) (by omega)).2.1
  have l2 := (hR (6 * y + 2) (by omega)).2.1
  have go : ∀ b : Bool, (b = true ↔ uI U 0 = uI B 0 ∧ uK U = uK B ∧ pcU U = pcU B ∧ (R (6 * x + 2)).length = (R (6 * y + 2)).length) → wm m D (f_X9_same_L88 gF (some m) (nI x) (nI y) (b2i b) (nI 0)) M P := by
    intro b hb
    refine m_same88 (by omega) (by omega) h2 g2 8 0 gF b (by omega) (by unfold gF; omega) (fun b1 hb1 => ?_)
    refine m_same141 (i := x) (j := y) (by omega) (by omega) hR (R (6 * x + 2)).length 0 gF b1 (by omega) (by unfold gF; omega) (fun z => (hb.mp (hb1.mp z).1).2.2.2) (fun b2 hb2 => ?_)
    have : orE U B = b2 := by
      unfold orE
      rw [Bool.eq_iff_iff, hb2, hb1, hb, decide_eq_true_eq]
      have hE := okWV_E ok ov
      have hE' := okWV_E ok' ov'
      constructor
      · rintro ⟨q1, ⟨q2, q3⟩, q4⟩
        rw [← q2] at hE'
        obtain ⟨n1, n2⟩ := (host_eq hE hE').mp q3
        have eR : R (6 * x + 2) = R (6 * y + 2) := by
          rw [h3, g3, ← q2]
          exact n2
        exact ⟨⟨⟨q1, q2, q4, (by rw [eR])⟩, fun t _ ht => (by rw [← q2]; exact n1 t ht)⟩, fun t _ _ => (by rw [eR])⟩
      · rintro ⟨⟨⟨q1, q2, q4, q5⟩, q6⟩, q7⟩
        refine ⟨q1, ⟨q2, ?_⟩, q4⟩
        rw [← q2] at hE'
        refine (host_eq hE hE').mpr ⟨fun t ht => ?_, ?_⟩
        · have := q6 t (Nat.zero_le _) ht
          rw [← q2] at this
          exact this
        · have eR : R (6 * x + 2) = R (6 * y + 2) := lex_iff.mpr ⟨q5, q7⟩
          rw [h3, g3, ← q2] at eR
          exact eR
    rw [this] at hP
    exact hP
  have no : (¬ (uI U 0 = uI B 0 ∧ uK U = uK B ∧ pcU U = pcU B ∧ (R (6 * x + 2)).length = (R (6 * y + 2)).length)) → wm m D (f_X9_same_L88 gF (some m) (nI x) (nI y) 0 0) M P := fun z => go false ⟨fun q => (by cases q), fun q => absurd q z⟩
  refine wm_get (k := 3) (t := 1) (by decide) rfl (show x < 5 by omega) (wm_get (k := 3) (t := 1) (by decide) rfl (show y < 5 by omega) ?_)
  rw [a6, b6]
  refine wm_if (fun c1 => ?_) (fun c1 => no (fun z => c1 z.1))
  refine wm_get (k := 5) (t := 1) (by decide) rfl (show x < 5 by omega) (wm_get (k := 5) (t := 1) (by decide) rfl (show y < 5 by omega) ?_)
  rw [h1, g1]
  refine wm_if (fun c2 => ?_) (fun c2 => no (fun z => c2 z.2.1))
  refine wm_n (wm_b (m_told h (wm_n (wm_b (m_told h ?_)))))
  have t1 : tdA Pp (nI x) 1 = pcU U := by
    unfold tdA
    rw [e]
    rfl
  have t2 : tdA Pp (nI y) 1 = pcU B := by
    unfold tdA
    rw [e']
    rfl
  rw [t1, t2]
  refine wm_if (fun c3 => ?_) (fun c3 => no (fun z => c3 z.2.2.1))
  refine m_sz (p := 2) (by omega) (by omega) hR (m_sz (p := 2) (by omega) (by omega) hR ?_)
  refine wm_if (fun c4 => ?_) (fun c4 => no (fun z => c4 (by rw [z.2.2.2])))
  exact go true ⟨fun _ => ⟨c1, c2, c3, (nI_eq (by omega) (by omega)).mp c4⟩, fun _ => rfl⟩
end MS
