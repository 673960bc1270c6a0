/-! THE OTHER OBJECT: write, read -/
section ML
variable {m : Nat} {D : Nat → Nat} {M : MS} {R : Nat → List Int32} {T : List Int32} {Pp : Nat → Option UV} {G : GV} {P : Int32 → MS → Prop}
theorem m_write {i : Int32} (h : Mo M R T Pp G) (h0 : plI Pp i = none → P (-2) M) (h1 : ∀ U M', plI Pp i = some U → 300 < (wrU U).length → Mo M' R T Pp G → P (-3) M') (hP : ∀ U M', plI Pp i = some U → (wrU U).length ≤ 300 → Mo M' R (wrU U) Pp G → P (nI (wrU U).length) M') : wm m D (f_X9_write (some m) i) M P := by
  unfold f_X9_write
  refine m_has h.2.2.1 (fun e => wm_t rfl (wm_p (h0 e))) (fun j U hj ei e hA hH ok ov => ?_)
  subst ei
  have hwl := ov.2
  have hP := fun M' => hP U M' e
  have h1 := fun M' => h1 U M' e
  refine wm_f (by decide) (wm_n (wm_b (m_writtenLength (by omega) h.2.1 hA hH ok (fun M1 E1 W1 => ?_))))
  have hM1 : Mo M1 R T Pp G := h.ex (E1.mono (by decide))
  by_cases c : (wrU U).length ≤ 300
  · refine wm_t (nI_le (b := 300) c (by omega)) (wm_b (wm_wI ?_))
    obtain ⟨okh, ⟨s, hs, es, e1⟩, o9, o11, op⟩ := id ok
    obtain ⟨p1, p2⟩ := okP_lt op
    -- how the text is made
    have eW : wrU U = tstr s ++ ([58, 47, 47] ++ ((if usr U = true then uR U 2 ++ ((if (uR U 3).length = 0 then [] else 58 :: uR U 3) ++ [64]) else []) ++ (uR U 4 ++ ((if uI U 5 = -1 then [] else 58 :: decL 4 (uI U 5).toNatClampNeg) ++ (uR U 6 ++ ((if uI U 9 = 0 then [] else 63 :: uR U 8) ++ (if uI U 11 = 0 then [] else 35 :: uR U 10))))))) := by
      unfold wrU wr3 wr2 wr1
      rw [e1]
      rfl
    have hR := hM1.2.1
    obtain ⟨⟨a1, a2, a3, a4, a5⟩, a6, a7, a8, a9⟩ : PA M1 R j U := hA.ex E1 (by decide) (by decide) (by decide) (by decide)
    have hH1 : PH M1 R j U := by
      unfold PH
      rw [E1.1 5 (by decide), E1.1 6 (by decide)]
      exact hH
    have E2 : Ex [0, 1, 18, 19] M1 (uN M1 1 0) := Ex.n (by decide)
    have T2 : Tx (uN M1 1 0) [] := ⟨by rw [mI_uN, if_pos rfl]; rfl, by decide, isB.nil, By.nil⟩
    have fin : ∀ M', Ex [0, 1, 18, 19] M1 M' → Tx M' (wrU U) → wm m D (f_X9_write_225 (some m)) M' P := by
      intro M' E' T'
      unfold f_X9_write_225
      refine wm_rd (wm_p ?_)
      rw [T'.1]
      exact hP M' c (hM1.txt (E'.mono (by decide)) T')
    -- parts of the text that come
    have k204 : ∀ M2 ys, Ex [0, 1, 18, 19] M1 M2 → Tx M2 ys → ys ++ (if uI U 11 = 0 then [] else 35 :: uR U 10) = wrU U → wm m D (f_X9_write_204 (some m) (nI j)) M2 P := by
      intro M2 ys E2 T2 eq
      have R2 := hR.ex E2 (by decide) (by decide)
      unfold f_X9_write_204
      refine wm_get (k := 8) (t := 2) (by decide) rfl (show j < 5 by omega) ?_
      rw [E2.1 8 (by decide), a9]
      refine wm_if (fun d => ?_) (fun d => ?_)
      · rw [if_pos d, List.append_nil] at eq
        rw [← eq] at fin
        exact fin M2 E2 T2
      · rw [if_neg d] at eq
        have hl := congrArg List.length eq
        rw [List.length_append, List.length_cons] at hl
        refine m_sy (n := 35) T2 (by omega) (by omega) (fun M3 E3 T3 => wm_n (wm_b (m_sayPart (p := 5) (by omega) (by omega) (R2.ex E3 (by decide) (by decide)) T3 (by rw [List.length_append, List.length_singleton, a5]; omega) (fun M4 E4 T4 => fin M4 ((E2.trans (E3.mono (by decide))).trans (E4.mono (by decide))) ?_))))
        rw [a5, List.append_assoc] at T4
        rw [← eq]
        exact T4
    have k177 : ∀ M2 ys, Ex [0, 1, 18, 19] M1 M2 → Tx M2 ys → ys ++ (uR U 6 ++ ((if uI U 9 = 0 then [] else 63 :: uR U 8) ++ (if uI U 11 = 0 then [] else 35 :: uR U 10))) = wrU U → wm m D (f_X9_write_177 (some m) (nI j)) M2 P := by
      intro M2 ys E2 T2 eq
      have R2 := hR.ex E2 (by decide) (by decide)
      have hl := congrArg List.length eq
      simp only [List.length_append] at hl
      unfold f_X9_write_177
      refine wm_n (wm_b (m_sayPart (p := 3) (by omega) (by omega) R2 T2 (by rw [a3]; omega) (fun M3 E3 T3 => ?_)))
      rw [a3] at T3
      have E23 := E2.trans (E3.mono (by decide))
      have R3 := hR.ex E23 (by decide) (by decide)
      refine wm_get (k := 7) (t := 2) (by decide) rfl (show j < 5 by omega) ?_
      rw [E23.1 7 (by decide), a8]
      refine wm_if (fun d => ?_) (fun d => ?_)
      · rw [if_pos d, List.nil_append, ← List.append_assoc] at eq
        exact k204 M3 _ E23 T3 eq
      · rw [if_neg d] at eq hl
        rw [List.length_cons] at hl
        refine m_sy (n := 63) T3 (by rw [List.length_append]; omega) (by omega) (fun M4 E4 T4 => wm_n (wm_b (m_sayPart (p := 4) (by omega) (by omega) (R3.ex E4 (by decide) (by decide)) T4 (by simp only [List.length_append, List.length_singleton]; rw [a4]; omega) (fun M5 E5 T5 => k204 M5 _ ((E23.trans (E4.mono (by decide))).trans (E5.mono (by decide))) T5 ?_))))
        rw [a4, ← eq]
        simp only [List.append_assoc]
        rfl
    have k134 : ∀ M2 ys, Ex [0, 1, 18, 19] M1 M2 → Tx M2 ys → ys ++ (uR U 4 ++ ((if uI U 5 = -1 then [] else 58 :: decL 4 (uI U 5).toNatClampNeg) ++ (uR U 6 ++ ((if uI U 9 = 0 then [] else 63 :: uR U 8) ++ (if uI U 11 = 0 then [] else 35 :: uR U 10))))) = wrU U → wm m D (f_X9_write_134 (some m) (nI j)) M2 P := by
      intro M2 ys E2 T2 eq
      have R2 := hR.ex E2 (by decide) (by decide)
      have hH2 : PH M2 R j U := by
        unfold PH
        rw [E2.1 5 (by decide), E2.1 6 (by decide)]
        exact hH1
      have hl := congrArg List.length eq
      simp only [List.length_append] at hl
      unfold f_X9_write_134
      refine wm_n (wm_b (m_writeHost (by omega) R2 hH2 okh (fun M3 E3 W3 => ?_)))
      have T3 := T2.ex E3 (by decide) (by decide)
      refine wm_n (wm_b (m_sayWritten W3 T3 (by omega) (fun M4 E4 T4 => ?_)))
      have E24 := (E2.trans (E3.mono (by decide))).trans (E4.mono (by decide))
      refine wm_get (k := 4) (t := 1) (by decide) rfl (show j < 5 by omega) ?_
      rw [E24.1 4 (by decide), a7]
      refine wm_if (fun d => ?_) (fun d => ?_)
      · rw [if_pos (p1.mp d), List.nil_append, ← List.append_assoc] at eq
        exact k177 M4 _ E24 T4 eq
      · have d' : ¬ uI U 5 = -1 := fun z => d (p1.mpr z)
        obtain ⟨y, hy, ey⟩ := p2 d'
        rw [if_neg d', ey, nI_clamp (by omega)] at eq hl
        rw [List.length_cons] at hl
        refine m_sy (n := 58) T4 (by rw [List.length_append]; omega) (by omega) (fun M5 E5 T5 => wm_b (wm_wI ?_))
        have E25 := E24.trans (E5.mono (by decide))
        have E6 : Ex [18, 19] M5 (uN M5 19 0) := Ex.n (by decide)
        have W6 : Wt (uN M5 19 0) [] := ⟨by rw [mI_uN, if_pos rfl]; rfl, by decide, isB.nil, By.nil⟩
        have E26 := E25.trans (E6.mono (by decide))
        refine wm_get (k := 4) (t := 1) (by decide) rfl (show j < 5 by omega) (wm_n (wm_b ?_))
        rw [E26.1 4 (by decide), a7, ey]
        refine m_putDec hy W6 (by decide) (fun M7 E7 W7 => ?_)
        rw [List.nil_append] at W7
        have T7 := (T5.ex E6 (by decide) (by decide)).ex E7 (by decide) (by decide)
        refine wm_n (wm_b (m_sayWritten W7 T7 (by simp only [List.length_append, List.length_singleton]; omega) (fun M8 E8 T8 => k177 M8 _ ((E26.trans (E7.mono (by decide))).trans (E8.mono (by decide))) T8 ?_)))
        rw [← eq]
        simp only [List.append_assoc]
        rfl
    have k128 : ∀ M2 ys, Ex [0, 1, 18, 19] M1 M2 → Tx M2 ys → ys ++ ([64] ++ (uR U 4 ++ ((if uI U 5 = -1 then [] else 58 :: decL 4 (uI U 5).toNatClampNeg) ++ (uR U 6 ++ ((if uI U 9 = 0 then [] else 63 :: uR U 8) ++ (if uI U 11 = 0 then [] else 35 :: uR U 10)))))) = wrU U → wm m D (f_X9_write_128 (some m) (nI j)) M2 P := by
      intro M2 ys E2 T2 eq
      have hl := congrArg List.length eq
      simp only [List.length_append, List.length_singleton] at hl
      unfold f_X9_write_128
      refine m_sy (n := 64) T2 (by omega) (by omega) (fun M3 E3 T3 => k134 M3 _ (E2.trans (E3.mono (by decide))) T3 ?_)
      rw [← eq, List.append_assoc]
      rfl
    have k101 : usr U = true → ∀ M2 ys, Ex [0, 1, 18, 19] M1 M2 → Tx M2 ys → ys ++ (uR U 2 ++ ((if (uR U 3).length = 0 then [] else 58 :: uR U 3) ++ ([64] ++ (uR U 4 ++ ((if uI U 5 = -1 then [] else 58 :: decL 4 (uI U 5).toNatClampNeg) ++ (uR U 6 ++ ((if uI U 9 = 0 then [] else 63 :: uR U 8) ++ (if uI U 11 = 0 then [] else 35 :: uR U 10)))))))) = wrU U → wm m D (f_X9_write_101 (some m) (nI j)) M2 P := by
      intro hu M2 ys E2 T2 eq
      have R2 := hR.ex E2 (by decide) (by decide)
      have hl := congrArg List.length eq
      simp only [List.length_append, List.length_singleton] at hl
      unfold f_X9_write_101
      refine wm_n (wm_b (m_sayPart (p := 0) (by omega) (by omega) R2 T2 (by rw [show R (6 * j + 0) = uR U 2 from a1]; omega) (fun M3 E3 T3 => ?_)))
      rw [show R (6 * j + 0) = uR U 2 from a1] at T3
      have E23 := E2.trans (E3.mono (by decide))
      have R3 := hR.ex E23 (by decide) (by decide)
      refine m_sz (p := 1) (by omega) (by omega) R3 ?_
      rw [a2]
      by_cases d : (uR U 3).length = 0
      · rw [if_pos d, List.nil_append, ← List.append_assoc] at eq
        exact wm_t (by rw [d]; decide) (k128 M3 _ E23 T3 eq)
      · rw [if_neg d] at eq hl
        rw [List.length_cons] at hl
        refine wm_f (nI_nle (by omega) (by omega)) (m_sy (n := 58) T3 (by rw [List.length_append]; omega) (by omega) (fun M4 E4 T4 => wm_n (wm_b (m_sayPart (p := 1) (by omega) (by omega) (R3.ex E4 (by decide) (by decide)) T4 (by simp only [List.length_append, List.length_singleton]; rw [a2]; omega) (fun M5 E5 T5 => k128 M5 _ ((E23.trans (E4.mono (by decide))).trans (E5.mono (by decide))) T5 ?_)))))
        rw [a2, ← eq]
        simp only [List.append_assoc]
        rfl
    have hlW := congrArg List.length eW
    simp only [List.length_append] at hlW
    have t3 : ([58, 47, 47] : List Int32).length = 3 := rfl
    rw [t3] at hlW
    have L : ∀ (k x f : Nat) (M2 : MS), x + k = (tstr s).length → k < f → Ex [0, 1, 18, 19] M1 M2 → Tx M2 ((tstr s).take x) → wm m D (f_X9_write_L32 f (some m) (nI j) (nI x)) M2 P := by
      intro k
      induction k with
      | zero =>
        intro x f M2 hx hf E2 T2
        obtain ⟨f, rfl⟩ : ∃ g, f = g + 1 := ⟨f - 1, by omega⟩
        have R2 := hR.ex E2 (by decide) (by decide)
        rw [f_X9_write_L32]
        unfold f_X9_write_32
        refine wm_get (k := 3) (t := 1) (by decide) rfl (show j < 5 by omega) (wm_b ?_)
        rw [E2.1 3 (by decide), a6, es]
        refine wm_q (fun _ _ => m_schemeSize hs) (wm_t (nI_le (by omega) (by omega)) ?_)
        rw [show x = (tstr s).length by omega, List.take_length] at T2
        refine m_sy (n := 58) T2 (by omega) (by omega) (fun M3 E3 T3 => m_sy (n := 47) T3 (by rw [List.length_append, List.length_singleton]; omega) (by omega) (fun M4 E4 T4 => m_sy (n := 47) T4 (by simp only [List.length_append, List.length_singleton]; omega) (by omega) (fun M5 E5 T5 => ?_)))
        have E25 := ((E2.trans (E3.mono (by decide))).trans (E4.mono (by decide))).trans (E5.mono (by decide))
        have R5 := hR.ex E25 (by decide) (by decide)
        have T5' : Tx M5 (tstr s ++ [58, 47, 47]) := by
          simp only [List.append_assoc] at T5
          exact T5
        refine m_sz (p := 0) (by omega) (by omega) R5 ?_
        rw [show R (6 * j + 0) = uR U 2 from a1]
        have l2 := (R5 (6 * j) (by omega)).2.1
        have l3 := (R5 (6 * j + 1) (by omega)).2.1
        rw [a1] at l2
        rw [a2] at l3
        have with' : usr U = true → wm m D (f_X9_write_101 (some m) (nI j)) M5 P := fun hu => by
          rw [if_pos hu] at eW
          refine k101 hu M5 _ E25 T5' ?_
          rw [eW]
          simp only [List.append_assoc]
        by_cases d : 0 < (uR U 2).length
        · exact wm_t (show nI 0 < nI _ from nI_lt d (by omega)) (with' ((usr_iff U).mpr (Or.inl d)))
        · refine wm_f (show ¬ nI 0 < nI _ from nI_nlt (by omega) (by omega)) (m_sz (p := 1) (by omega) (by omega) R5 ?_)
          rw [a2]
          by_cases g : (uR U 3).length = 0
          · have hu : ¬ usr U = true := fun z => by
              rcases (usr_iff U).mp z with y | y <;> omega
            rw [if_neg hu, List.nil_append] at eW
            refine wm_t (by rw [g]; decide) (k134 M5 _ E25 T5' ?_)
            rw [eW]
            simp only [List.append_assoc]
          · exact wm_f (nI_nle (by omega) (by omega)) (with' ((usr_iff U).mpr (Or.inr (by omega))))
      | succ k ih =>
        intro x f M2 hx hf E2 T2
        obtain ⟨f, rfl⟩ : ∃ g, f = g + 1 := ⟨f - 1, by omega⟩
        rw [f_X9_write_L32]
        unfold f_X9_write_32
        refine wm_get (k := 3) (t := 1) (by decide) rfl (show j < 5 by omega) (wm_b ?_)
        rw [E2.1 3 (by decide), a6, es]
        have tb : ∀ s, s < 5 → ∀ x, x < (tstr s).length → ∃ n, n < 256 ∧ (tstr s).getD x 0 = nI n := by decide +kernel
        obtain ⟨n, hn, en⟩ := tb s hs x (by omega)
        refine wm_q (fun _ _ => m_schemeSize hs) (wm_f (nI_ge (by omega) (by omega)) (wm_get (k := 3) (t := 1) (by decide) rfl (show j < 5 by omega) (wm_b ?_)))
        rw [E2.1 3 (by decide), a6, es]
        refine wm_q (fun _ _ => m_schemeByte hs (by omega)) ?_
        rw [en]
        refine m_sy T2 (by rw [List.length_take]; omega) hn (fun M3 E3 T3 => ?_)
        rw [nI_1]
        refine ih (x + 1) f M3 (by omega) (by omega) (E2.trans (E3.mono (by decide))) ?_
        rw [take_s (by omega), en]
        exact T3
    exact L (tstr s).length 0 gF _ (by omega) (by unfold gF; omega) E2 (by rw [List.take_zero]; exact T2)
  · exact wm_f (nI_ge (a := 300) (by omega) (by omega)) (wm_p (h1 M1 (by omega) hM1))
end ML
