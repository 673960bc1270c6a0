/-! BOTH OBJECTS: the relation; the calls that only tell -/
/-- the places -/
def Mp (M : MS) (R : Nat → List Int32) (Pp : Nat → Option UV) : Prop := ∀ i, i < 4 → mA M 2 i = b2i (Pp i).isSome ∧ ∀ U, Pp i = some U → PA M R i U ∧ PH M R i U ∧ okW U ∧ okV U
/-- a listed HOST, an answer, a range: what is kept of each -/
def okE (k : Int32) (w : Nat → Int32) (ys : List Int32) : Prop := okA k w ∧ (k = 4 → ys = fourL 3 (w 0)) ∧ (k = 6 → ys = sixS w)
def Ml (M : MS) (G : GV) : Prop := mI M 25 = nI (NH G) ∧ NH G ≤ 12 ∧ ∀ i, i < NH G → mA M 22 i = (GH G i).1 ∧ mA M 24 i = (GH G i).2.2.2 ∧ ((GH G i).2.2.2 = 0 ∨ ((GH G i).2.2.2 = 1 ∧ (GH G i).1 = 0)) ∧ (∀ j, j < 8 → mA M 23 (8 * i + j) = numA (GH G i).1 (GH G i).2.1 j) ∧ okE (GH G i).1 (GH G i).2.1 (GH G i).2.2.1 ∧ ∃ nm, nm = (if (GH G i).1 = 0 then (GH G i).2.2.1 else []) ∧ mA M 21 i = nI nm.length ∧ nm.length ≤ 300 ∧ isB nm ∧ By (mA M 20) (300 * i) nm
def Ma (M : MS) (G : GV) : Prop := mI M 30 = nI (NA G) ∧ NA G ≤ 16 ∧ ∀ i, i < NA G → mA M 28 i = (GA G i).2.1 ∧ ((GA G i).2.1 = 4 ∨ (GA G i).2.1 = 6) ∧ (GA G i).2.2 = w4 (GA G i).2.1 (mA M 29 (4 * i)) (mA M 29 (4 * i + 1)) (mA M 29 (4 * i + 2)) (mA M 29 (4 * i + 3)) ∧ mA M 27 i = nI (GA G i).1.length ∧ (GA G i).1.length ≤ 300 ∧ isB (GA G i).1 ∧ By (mA M 26) (300 * i) (GA G i).1
def Mr (M : MS) (G : GV) : Prop := mI M 34 = nI (NR G) ∧ NR G ≤ 12 ∧ ∀ i, i < NR G → mA M 31 i = (GR G i).1 ∧ mA M 33 i = (GR G i).2.2 ∧ (GR G i).2.1 = w4 (GR G i).1 (mA M 32 (4 * i)) (mA M 32 (4 * i + 1)) (mA M 32 (4 * i + 2)) (mA M 32 (4 * i + 3)) ∧ ((GR G i).1 = 4 ∧ (∃ n, n ≤ 32 ∧ (GR G i).2.2 = nI n) ∨ (GR G i).1 = 6 ∧ ∃ n, n ≤ 128 ∧ (GR G i).2.2 = nI n)
def Mo (M : MS) (R : Nat → List Int32) (T : List Int32) (Pp : Nat → Option UV) (G : GV) : Prop := Tx M T ∧ Rw M R ∧ Mp M R Pp ∧ Ml M G ∧ Ma M G ∧ Mr M G
section ME
variable {S : List Nat} {M M' : MS} {R : Nat → List Int32} {T : List Int32} {Pp : Nat → Option UV} {G : GV}
theorem Mp.ex (h : Mp M R Pp) (e : Ex S M M') (h2 : 2 ∉ S) (h3 : 3 ∉ S) (h4 : 4 ∉ S) (h5 : 5 ∉ S) (h6 : 6 ∉ S) (h7 : 7 ∉ S) (h8 : 8 ∉ S) : Mp M' R Pp := by
  intro i hi
  unfold PA PH
  rw [e.1 2 h2, e.1 3 h3, e.1 4 h4, e.1 5 h5, e.1 6 h6, e.1 7 h7, e.1 8 h8]
  exact h i hi
theorem Ml.ex (h : Ml M G) (e : Ex S M M') (h0 : 20 ∉ S) (h1 : 21 ∉ S) (h2 : 22 ∉ S) (h3 : 23 ∉ S) (h4 : 24 ∉ S) (h5 : 25 ∉ S) : Ml M' G := by
  unfold Ml
  rw [e.1 20 h0, e.1 21 h1, e.1 22 h2, e.1 23 h3, e.1 24 h4, e.2 25 h5]
  exact h
theorem Ma.ex (h : Ma M G) (e : Ex S M M') (h0 : 26 ∉ S) (h1 : 27 ∉ S) (h2 : 28 ∉ S) (h3 : 29 ∉ S) (h4 : 30 ∉ S) : Ma M' G := by
  unfold Ma
  rw [e.1 26 h0, e.1 27 h1, e.1 28 h2, e.1 29 h3, e.2 30 h4]
  exact h
theorem Mr.ex (h : Mr M G) (e : Ex S M M') (h0 : 31 ∉ S) (h1 : 32 ∉ S) (h2 : 33 ∉ S) (h3 : 34 ∉ S) : Mr M' G := by
  unfold Mr
  rw [e.1 31 h0, e.1 32 h1, e.1 33 h2, e.2 34 h3]
  exact h
/-- a change of what is kept for no call -/
theorem Mo.ex (h : Mo M R T Pp G) (e : Ex [11, 12, 13, 14, 15, 16, 17, 18, 19] M M') : Mo M' R T Pp G := ⟨h.1.ex e (by decide) (by decide), h.2.1.ex e (by decide) (by decide), h.2.2.1.ex e (by decide) (by decide) (by decide) (by decide) (by decide) (by decide) (by decide), h.2.2.2.1.ex e (by decide) (by decide) (by decide) (by decide) (by decide) (by decide), h.2.2.2.2.1.ex e (by decide) (by decide) (by decide) (by decide) (by decide), h.2.2.2.2.2.ex e (by decide) (by decide) (by decide) (by decide)⟩
theorem Mo.txt {T' : List Int32} (h : Mo M R T Pp G) (e : Ex [0, 1, 11, 12, 13, 14, 15, 16, 17, 18, 19] M M') (hT : Tx M' T') : Mo M' R T' Pp G := ⟨hT, h.2.1.ex e (by decide) (by decide), h.2.2.1.ex e (by decide) (by decide) (by decide) (by decide) (by decide) (by decide) (by decide), h.2.2.2.1.ex e (by decide) (by decide) (by decide) (by decide) (by decide) (by decide), h.2.2.2.2.1.ex e (by decide) (by decide) (by decide) (by decide) (by decide), h.2.2.2.2.2.ex e (by decide) (by decide) (by decide) (by decide)⟩
end ME
theorem ix4 {i : Int32} (h0 : ¬ i < 0) (h1 : i < 4) : ∃ j, j < 4 ∧ i = nI j := by
  rcases pk_ix i (n := 4) (by omega) with z | z | z
  · exact absurd z h0
  · exact absurd h1 (by rw [Int32.not_lt]; exact z)
  · exact z
/-- small numbers against a bound -/
theorem ltS1 {i : Int32} {n : Nat} (hn : n < 2 ^ 30) : ¬ nI n < i ↔ i < nI (n + 1) := by
  constructor
  · intro h
    rcases pk_ix i (n := n + 1) (by omega) with z | z | ⟨j, hj, rfl⟩
    · exact Int32.lt_of_lt_of_le z (nI_pos' (by omega))
    · exact absurd (Int32.lt_of_lt_of_le (nI_lt (a := n) (b := n + 1) (by omega) (by omega)) z) h
    · exact nI_lt hj (by omega)
  · intro h z
    rcases pk_ix i (n := n + 1) (by omega) with y | y | ⟨j, hj, rfl⟩
    · exact absurd (Int32.lt_trans z y) (nI_pos (by omega))
    · exact absurd (Int32.lt_of_lt_of_le h y) (Int32.lt_irrefl)
    · have := (nI_ltI (by omega) (by omega)).mp z
      omega
section MT2
variable {β : Type} {m : Nat} {D : Nat → Nat} {M : MS} {R : Nat → List Int32} {T : List Int32} {Pp : Nat → Option UV} {G : GV} {P : Int32 → MS → Prop}
/-- is there a record -/
theorem m_has {i : Int32} {K : Int32 → gM β} {P : β → MS → Prop} (h : Mp M R Pp) (h0 : plI Pp i = none → wm m D (K 0) M P) (h1 : ∀ j U, j < 4 → i = nI j → plI Pp i = some U → PA M R j U → PH M R j U → okW U → okV U → wm m D (K 1) M P) : wm m D (gb (nn 8 (some m)) fun _ => gb (f_X9_has (some m) i) K) M P := by
  unfold f_X9_has
  refine wm_n (wm_b (wm_b (wm_q (fun _ _ => m_isIn) ?_)))
  unfold plI at h0 h1
  refine wm_bz (fun c => ?_) (fun c => ?_)
  · have c := of_decide_eq_false c
    refine wm_z0 (h0 ?_)
    by_cases d : i < 0
    · rw [if_pos d]
    · rw [if_neg d, if_neg (show ¬ i < 4 from fun z => c ⟨d, (ltS1 (n := 3) (by omega)).mpr z⟩)]
  · have c := of_decide_eq_true c
    have c2 : i < 4 := (ltS1 (n := 3) (by omega)).mp c.2
    rw [if_neg c.1, if_pos c2] at h0 h1
    obtain ⟨j, hj, rfl⟩ := ix4 c.1 c2
    rw [nI_clamp (by omega)] at h0 h1
    obtain ⟨g1, g2⟩ := h j hj
    refine wm_get (k := 2) (t := 2) (by decide) rfl (show j < 5 by omega) ?_
    rw [g1]
    cases hp : Pp j with
    | none => exact wm_t rfl (wm_z0 (h0 hp))
    | some U =>
      obtain ⟨a, b, c, d⟩ := g2 U hp
      exact wm_f (show ¬ (1 : Int32) = 0 by decide) (wm_z1 (h1 j U hj rfl hp a b c d))
theorem m_size {i w : Int32} (h : Mo M R T Pp G) (hP : ∀ M', Ex [18, 19] M M' → (∀ U, plI Pp i = some U → w = 3 → Wt M' (uR U 4)) → P (szA Pp i w) M') : wm m D (f_X9_size (some m) i w) M P := by
  unfold f_X9_size
  refine m_has h.2.2.1 (fun e => ?_) (fun j U hj ei e hA hH ok ov => ?_)
  · refine wm_t rfl (wm_p ?_)
    have := hP M Ex.rf (fun U z => by rw [e] at z; cases z)
    unfold szA at this
    rw [e] at this
    exact this
  · subst ei
    have hP : ∀ M', Ex [18, 19] M M' → (w = 3 → Wt M' (uR U 4)) → P (if w < 0 then -2 else if w < 7 then (if thR U w.toNatClampNeg then nI (uR U (fOf w.toNatClampNeg)).length else -1) else -2) M' := fun M' E hw => by
      have := hP M' E (fun U' z hw3 => by rw [e] at z; cases z; exact hw hw3)
      unfold szA at this
      rw [e] at this
      exact this
    refine wm_f (by decide) (wm_b (wm_q (fun _ _ => m_isIn) ?_))
    refine wm_bz (fun c => wm_p ?_) (fun c => ?_)
    · have c := of_decide_eq_false c
      by_cases d : w < 0
      · have := hP M Ex.rf (fun z => by rw [z] at d; exact absurd d (by decide))
        rw [if_pos d] at this
        exact this
      · have d7 : ¬ w < 7 := fun z => c ⟨d, (ltS1 (n := 6) (by omega)).mpr z⟩
        have := hP M Ex.rf (fun z => by rw [z] at d7; exact absurd (by decide) d7)
        rw [if_neg d, if_neg d7] at this
        exact this
    · have c := of_decide_eq_true c
      have c7 : w < 7 := (ltS1 (n := 6) (by omega)).mp c.2
      rw [if_neg c.1, if_pos c7] at hP
      obtain ⟨⟨a1, a2, a3, a4, a5⟩, a6, a7, a8, a9⟩ := id hA
      obtain ⟨okh, ⟨s, hs, es, e1⟩, o9, o11, op⟩ := id ok
      obtain ⟨q, hq, rfl⟩ := ix7 c.1 c7
      rw [nI_clamp (by omega)] at hP
      have hR := h.2.1
      have nw : ∀ x, x < 7 → x ≠ 3 → (nI x = 3 → Wt M (uR U 4)) := fun x hx hx3 z => absurd ((nI_eq (b := 3) (by omega) (by omega)).mp z) hx3
      rcases (show q = 0 ∨ q = 1 ∨ q = 2 ∨ q = 3 ∨ q = 4 ∨ q = 5 ∨ q = 6 by omega) with rfl | rfl | rfl | rfl | rfl | rfl | rfl
      · refine wm_t rfl (wm_get (k := 3) (t := 1) (by decide) rfl (show j < 5 by omega) (wm_b ?_))
        rw [a6, es]
        refine wm_q (fun _ _ => m_schemeSize hs) (wm_p ?_)
        have := hP M Ex.rf (nw 0 (by omega) (by omega))
        rw [show uR U (fOf 0) = uR U 1 from rfl, e1] at this
        exact this
      · refine wm_f (by decide) (wm_t rfl (m_sz (p := 0) (by omega) (by omega) hR (wm_p ?_)))
        have := hP M Ex.rf (nw 1 (by omega) (by omega))
        rw [show R (6 * j + 0) = uR U 2 from a1]
        exact this
      · refine wm_f (by decide) (wm_f (by decide) (wm_t rfl (m_sz (p := 1) (by omega) (by omega) hR (wm_p ?_))))
        have := hP M Ex.rf (nw 2 (by omega) (by omega))
        rw [a2]
        exact this
      · refine wm_f (by decide) (wm_f (by decide) (wm_f (by decide) (wm_t rfl (wm_n (wm_b (m_writeHost (by omega) hR hH okh (fun M1 E1 W1 => wm_rd (wm_p ?_))))))))
        rw [W1.1]
        exact hP M1 E1 (fun _ => W1)
      · refine wm_f (by decide) (wm_f (by decide) (wm_f (by decide) (wm_f (by decide) (wm_t rfl (m_sz (p := 3) (by omega) (by omega) hR (wm_p ?_))))))
        have := hP M Ex.rf (nw 4 (by omega) (by omega))
        rw [a3]
        exact this
      · refine wm_f (by decide) (wm_f (by decide) (wm_f (by decide) (wm_f (by decide) (wm_f (by decide) (wm_t rfl (wm_get (k := 7) (t := 2) (by decide) rfl (show j < 5 by omega) ?_))))))
        rw [a8]
        have := hP M Ex.rf (nw 5 (by omega) (by omega))
        have et : thR U 5 = decide (uI U 9 ≠ 0) := rfl
        rw [et] at this
        refine wm_if (fun d => wm_p ?_) (fun d => m_sz (p := 4) (by omega) (by omega) hR (wm_p ?_))
        · rw [decide_eq_false (fun z => z d)] at this
          exact this
        · rw [decide_eq_true d] at this
          rw [a4]
          exact this
      · refine wm_f (by decide) (wm_f (by decide) (wm_f (by decide) (wm_f (by decide) (wm_f (by decide) (wm_f (by decide) (wm_get (k := 8) (t := 2) (by decide) rfl (show j < 5 by omega) ?_))))))
        rw [a9]
        have := hP M Ex.rf (nw 6 (by omega) (by omega))
        have et : thR U 6 = decide (uI U 11 ≠ 0) := rfl
        rw [et] at this
        refine wm_if (fun d => wm_p ?_) (fun d => m_sz (p := 5) (by omega) (by omega) hR (wm_p ?_))
        · rw [decide_eq_false (fun z => z d)] at this
          exact this
        · rw [decide_eq_true d] at this
          rw [a5]
          exact this
/-- an index within a list -/
theorem bAt_in {xs : List Int32} {k : Int32} (hl : xs.length < 2 ^ 30) : (inI k 0 (nI xs.length - 1) = false ∧ bAt xs k = -1) ∨ ∃ j, j < xs.length ∧ k = nI j ∧ inI k 0 (nI xs.length - 1) = true ∧ bAt xs k = xs.getD j 0 := by
  unfold bAt inI
  rcases pk_ix k (n := xs.length) (by omega) with q | q | ⟨j, hj, rfl⟩
  · left
    rw [if_pos q]
    exact ⟨decide_eq_false (fun z => z.1 q), rfl⟩
  · left
    have h0 : ¬ k < 0 := fun z => absurd (Int32.lt_of_le_of_lt q z) (nI_pos (by omega))
    rw [if_neg h0, if_pos q]
    refine ⟨decide_eq_false (fun z => z.2 ?_), rfl⟩
    rcases Nat.eq_zero_or_pos xs.length with y | y
    · rw [y]
      exact Int32.lt_of_lt_of_le (b := nI 0) (by decide) (by rw [y] at q; exact q)
    · obtain ⟨n, hn⟩ : ∃ n, xs.length = n + 1 := ⟨xs.length - 1, by omega⟩
      rw [hn, nI_pred]
      rw [hn] at q
      exact Int32.lt_of_lt_of_le (nI_lt (by omega) (by omega)) q
  · right
    rw [if_neg (nI_pos (by omega)), if_neg (nI_ge hj (by omega)), nI_clamp (by omega)]
    refine ⟨j, hj, rfl, decide_eq_true ⟨nI_pos (by omega), fun z => ?_⟩, rfl⟩
    obtain ⟨n, hn⟩ : ∃ n, xs.length = n + 1 := ⟨xs.length - 1, by omega⟩
    rw [hn, nI_pred] at z
    exact nI_nlt (by omega) (by omega) z
theorem m_part {i w k : Int32} (h : Mo M R T Pp G) (hP : ∀ M', Ex [18, 19] M M' → P (ptA' Pp i w k) M') : wm m D (f_X9_part (some m) i w k) M P := by
  unfold f_X9_part
  refine wm_n (wm_b (m_size h (fun M1 E1 hw => ?_)))
  have h1 : Mo M1 R T Pp G := h.ex (E1.mono (by decide))
  replace hP := hP M1 E1
  generalize ev : szA Pp i w = v
  unfold szA at ev
  unfold ptA' at hP
  cases e : plI Pp i with
  | none =>
    rw [e] at hP ev
    subst ev
    exact wm_t rfl (wm_p hP)
  | some U =>
    rw [e] at hP ev
    simp only [Option.elim] at hP ev
    by_cases c0 : w < 0
    · rw [if_pos c0] at hP ev
      subst ev
      exact wm_t rfl (wm_p hP)
    rw [if_neg c0] at hP ev
    by_cases c7 : w < 7
    · rw [if_pos c7] at hP ev
      obtain ⟨q, hq, rfl⟩ := ix7 c0 c7
      rw [nI_clamp (by omega)] at hP ev
      -- the place
      have pl : ∃ j, j < 4 ∧ i = nI j ∧ Pp j = some U := by
        unfold plI at e
        split at e
        · cases e
        · rename_i d0
          split at e
          · rename_i d1
            obtain ⟨j, hj, rfl⟩ := ix4 d0 d1
            rw [nI_clamp (by omega)] at e
            exact ⟨j, hj, rfl, e⟩
          · cases e
      obtain ⟨j, hj, rfl, ej⟩ := pl
      obtain ⟨hA, hH, ok, ov⟩ := (h1.2.2.1 j hj).2 U ej
      obtain ⟨⟨a1, a2, a3, a4, a5⟩, a6, a7, a8, a9⟩ := id hA
      obtain ⟨okh, ⟨s, hs, es, e1⟩, o9, o11, op⟩ := id ok
      have hR := h1.2.1
      by_cases ct : thR U q = true
      · rw [if_pos ct] at hP ev
        subst ev
        -- from a row of bytes
        have row : ∀ p, p < 6 → nI q - 1 = nI p → R (6 * j + p) = uR U (fOf q) → nI q ≠ 0 → nI q ≠ 3 → wm m D (if nI (uR U (fOf q)).length = (-2) then (gp (-2)) else (gb (f_X9_isIn k 0 (nI (uR U (fOf q)).length - 1)) fun v2 => if v2 = 0 then (gp (-1)) else (if nI q = 0 then (gb (rR 8 3 (some m)) fun v8 => gb (aI 1 v8 (nI j)) fun v9 => gb (f_X9_schemeByte v9 k) fun v10 => gp v10) else (if nI q = 3 then (gb (rR 8 18 (some m)) fun v6 => gb (aI 0 v6 k) fun v7 => gp (v7 &&& 255)) else (gb (rR 8 9 (some m)) fun v3 => gb (nn 8 (some m)) fun _ => gb (f_X9_row (some m) (nI j) (nI q - 1)) fun v4 => gb (aI 0 v3 (v4 + k)) fun v5 => gp (v5 &&& 255)))))) M1 P := by
          intro p hp ep eR n0 n3
          obtain ⟨r1, r2, r3, r4⟩ := hR (6 * j + p) (by omega)
          rw [eR] at r2 r3 r4
          refine wm_f (fun z => nI_pos (n := (uR U (fOf q)).length) (by omega) (by rw [z]; decide)) (wm_b (wm_q (fun _ _ => m_isIn) ?_))
          rcases bAt_in (xs := uR U (fOf q)) (k := k) (by omega) with ⟨b1, b2⟩ | ⟨x, hx, rfl, b1, b2⟩
          · rw [b1]
            rw [b2] at hP
            exact wm_t rfl (wm_p hP)
          · rw [b1]
            rw [b2] at hP
            refine wm_f (by decide) (wm_f n0 (wm_f n3 (wm_b (wm_rR (k := 9) (t := 0) (by decide) (wm_n (wm_b ?_))))))
            unfold f_X9_row
            refine wm_p ?_
            rw [ep, ix6, show (2400 : Int32) = nI 2400 from rfl, pk_mul]
            refine wm_b (wm_aI (k := 9) (t := 0) (by decide) (nI_add _ _) (show 2400 * (6 * j + p) + x < 72000 by omega) (wm_p ?_))
            rw [r4.get r3 hx]
            exact hP
        rcases (show q = 0 ∨ q = 1 ∨ q = 2 ∨ q = 3 ∨ q = 4 ∨ q = 5 ∨ q = 6 by omega) with rfl | rfl | rfl | rfl | rfl | rfl | rfl
        · have tl : (tstr s).length ≤ 5 := by
            have : ∀ s, s < 5 → (tstr s).length ≤ 5 := by decide
            exact this s hs
          rw [show uR U (fOf 0) = uR U 1 from rfl, e1] at hP ⊢
          refine wm_f (fun z => nI_pos (n := (tstr s).length) (by omega) (by rw [z]; decide)) (wm_b (wm_q (fun _ _ => m_isIn) ?_))
          rcases bAt_in (xs := tstr s) (k := k) (by omega) with ⟨b1, b2⟩ | ⟨x, hx, rfl, b1, b2⟩
          · rw [b1]
            rw [b2] at hP
            exact wm_t rfl (wm_p hP)
          · rw [b1]
            rw [b2] at hP
            refine wm_f (by decide) (wm_t rfl (wm_get (k := 3) (t := 1) (by decide) rfl (show j < 5 by omega) (wm_b ?_)))
            rw [a6, es]
            exact wm_q (fun _ _ => m_schemeByte hs hx) (wm_p hP)
        · exact row 0 (by omega) rfl a1 (by decide) (by decide)
        · exact row 1 (by omega) rfl a2 (by decide) (by decide)
        · have W := hw U e rfl
          obtain ⟨w1, w2, w3, w4⟩ := W
          rw [show uR U (fOf 3) = uR U 4 from rfl] at hP ⊢
          refine wm_f (fun z => nI_pos (n := (uR U 4).length) (by omega) (by rw [z]; decide)) (wm_b (wm_q (fun _ _ => m_isIn) ?_))
          rcases bAt_in (xs := uR U 4) (k := k) (by omega) with ⟨b1, b2⟩ | ⟨x, hx, rfl, b1, b2⟩
          · rw [b1]
            rw [b2] at hP
            exact wm_t rfl (wm_p hP)
          · rw [b1]
            rw [b2] at hP
            refine wm_f (by decide) (wm_f (by decide) (wm_t rfl (wm_get (k := 18) (t := 0) (by decide) rfl (show x < 400 by omega) (wm_p ?_))))
            have := w4.get w3 hx
            rw [Nat.zero_add] at this
            rw [this]
            exact hP
        · exact row 3 (by omega) rfl a3 (by decide) (by decide)
        · exact row 4 (by omega) rfl a4 (by decide) (by decide)
        · exact row 5 (by omega) rfl a5 (by decide) (by decide)
      · rw [if_neg ct] at hP ev
        subst ev
        refine wm_f (by decide) (wm_b (wm_q (fun _ _ => m_isIn) ?_))
        have : inI k 0 (-1 - 1) = false := decide_eq_false (fun z => by
          by_cases y : k < 0
          · exact z.1 y
          · exact z.2 (Int32.lt_of_lt_of_le (b := 0) (by decide) (by rw [← Int32.not_lt]; exact y)))
        rw [this]
        exact wm_t rfl (wm_p hP)
    · rw [if_neg c7] at hP ev
      subst ev
      exact wm_t rfl (wm_p hP)
theorem m_number {i w : Int32} (h : Mo M R T Pp G) (hP : P (nmA Pp i w) M) : wm m D (f_X9_number (some m) i w) M P := by
  unfold f_X9_number
  unfold nmA at hP
  refine m_has h.2.2.1 (fun e => ?_) (fun j U hj ei e hA hH ok ov => ?_)
  · rw [e] at hP
    exact wm_t rfl (wm_p hP)
  · rw [e] at hP
    simp only [Option.elim] at hP
    refine wm_f (by decide) (wm_b (wm_q (fun _ _ => m_isIn) ?_))
    refine wm_bz (fun c => wm_p ?_) (fun c => ?_)
    · have c := of_decide_eq_false c
      by_cases d : w < 0
      · rw [if_pos d] at hP
        exact hP
      · rw [if_neg d, if_neg (fun z => c ⟨d, by rw [Int32.not_lt]; exact z⟩)] at hP
        exact hP
    · have c := of_decide_eq_true c
      rw [if_neg c.1, if_pos (by rw [← Int32.not_lt]; exact c.2)] at hP
      obtain ⟨q, hq, rfl⟩ : ∃ q, q < 8 ∧ w = nI q := by
        rcases pk_ix w (n := 8) (by omega) with z | z | z
        · exact absurd z c.1
        · exact absurd (Int32.lt_of_lt_of_le (b := nI 8) (by decide) z) c.2
        · exact z
      rw [nI_clamp (by omega)] at hP
      subst ei
      refine wm_get (k := 6) (t := 1) (j := 8 * j + q) (by decide) (by rw [show (8 : Int32) = nI 8 from rfl, pk_mul, nI_add]) (show 8 * j + q < 40 by omega) (wm_p ?_)
      rw [hH.2.1 q hq]
      exact hP
end MT2
