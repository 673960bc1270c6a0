/-! THE OTHER OBJECT: read -/
theorem Mp.fw {M M' : MS} {R R' : Nat → List Int32} {Pp : Nat → Option UV} (h : Mp M R Pp) (f : Fw FS FQ M R M' R') : Mp M' R' Pp := by
  obtain ⟨f1, f2, f3, f4⟩ := f
  intro i hi
  obtain ⟨g1, g2⟩ := h i hi
  refine ⟨by rw [f1.1 2 (by decide)]; exact g1, fun U e => ?_⟩
  obtain ⟨hA, hH, ok, ov⟩ := g2 U e
  have q : ∀ k, k < 24 → R' k = R k := fun k hk => f2 k (by simp; omega)
  refine ⟨?_, ?_, ok, ov⟩
  · unfold PA
    rw [q (6 * i) (by omega), q (6 * i + 1) (by omega), q (6 * i + 3) (by omega), q (6 * i + 4) (by omega), q (6 * i + 5) (by omega), f3 3 i hi (by decide), f3 4 i hi (by decide), f3 7 i hi (by decide), f3 8 i hi (by decide)]
    exact hA
  · refine ⟨by rw [f3 5 i hi (by decide)]; exact hH.1, fun k hk => ?_, by rw [q (6 * i + 2) (by omega)]; exact hH.2.2⟩
    rw [f4 (8 * i + k) (by omega)]
    exact hH.2.1 k hk
section MJ
variable {m : Nat} {D : Nat → Nat} {M : MS} {R : Nat → List Int32} {T : List Int32} {Pp : Nat → Option UV} {G : GV} {P : Int32 → MS → Prop}
/-- the place takes the record that is read -/
theorem m_take {n : Nat} {V : UV} (hn : n < 4) (hR : Rw M R) (hA : PA M R 4 V) (hH : PH M R 4 V) (ok : okW V) (ov : okV V) (hp : Mp M R Pp) (h13 : mI M 13 = 0) (hP : ∀ M' R', Ex [2, 3, 4, 5, 6, 7, 8, 9, 10] M M' → Rw M' R' → Mp M' R' (setP Pp n V) → P 0 M') : wm m D (f_X9_read_113 (some m) (nI n)) M P := by
  unfold f_X9_read_113
  refine wm_rd ?_
  rw [h13]
  refine wm_t rfl (wm_b (wm_rR (k := 2) (t := 2) (by decide) (wm_b (wm_sI (k := 2) (t := 2) (by decide) rfl (show n < 5 by omega) ?_))))
  rw [show gnar 2 1 = 1 from rfl]
  have E1 : Ex [2, 3, 4, 5, 6, 7, 8, 9, 10] M (uA M 2 n 1) := Ex.a (by decide)
  have E1' : Ex [2] M (uA M 2 n 1) := Ex.a (by decide)
  have e4 : (4 : Int32) = nI 4 := rfl
  rw [e4]
  refine wm_n (wm_b (m_copyHost (b := 4) (c := n) (by omega) (by omega) (by omega) (hR.ex E1' (by decide) (by decide)) (fun M2 R2 C2 W2 => ?_)))
  obtain ⟨c1, c2, c3, c4, c5⟩ := C2
  have E2 : Ex [2, 3, 4, 5, 6, 7, 8, 9, 10] M M2 := E1.trans (c1.mono (by decide))
  -- the last parts
  have fin : ∀ M3 R3, Ex [9, 10] M2 M3 → Rw M3 R3 → R3 = uQ (uQ (uQ R2 (6 * n + 3) (R 27)) (6 * n + 4) (R 28)) (6 * n + 5) (R 29) → wm m D (gb (rR 8 7 (some m)) fun v1 => gb (rR 8 7 (some m)) fun v2 => gb (aI 2 v2 4) fun v3 => gb (sI 2 v1 (nI n) v3) fun _ => gb (rR 8 8 (some m)) fun v4 => gb (rR 8 8 (some m)) fun v5 => gb (aI 2 v5 4) fun v6 => gb (sI 2 v4 (nI n) v6) fun _ => gp 0) M3 P := by
    intro M3 R3 E3 W3 e3
    obtain ⟨⟨a1, a2, a3, a4, a5⟩, a6, a7, a8, a9⟩ := hA
    obtain ⟨okh, os, o9, o11, op⟩ := id ok
    have m7 : mA M3 7 = mA M 7 := by
      rw [E3.1 7 (by decide), c1.1 7 (by decide)]
      funext x
      rw [mA_uA, if_neg (fun z => absurd z.1 (by decide))]
    have m8 : mA M3 8 = mA M 8 := by
      rw [E3.1 8 (by decide), c1.1 8 (by decide)]
      funext x
      rw [mA_uA, if_neg (fun z => absurd z.1 (by decide))]
    refine wm_b (wm_rR (k := 7) (t := 2) (by decide) (wm_get (k := 7) (t := 2) (j := 4) (by decide) rfl (by decide) (wm_b (wm_sI (k := 7) (t := 2) (by decide) rfl (show n < 5 by omega) ?_))))
    rw [m7, a8, show gnar 2 (uI V 9) = uI V 9 by rcases o9 with z | z <;> rw [z] <;> rfl]
    refine wm_b (wm_rR (k := 8) (t := 2) (by decide) (wm_get (k := 8) (t := 2) (j := 4) (by decide) rfl (by decide) (wm_b (wm_sI (k := 8) (t := 2) (by decide) rfl (show n < 5 by omega) (wm_p ?_)))))
    rw [mA_uA, if_neg (fun z => absurd z.1 (by decide)), m8, a9, show gnar 2 (uI V 11) = uI V 11 by rcases o11 with z | z <;> rw [z] <;> rfl]
    have E4 : Ex [2, 3, 4, 5, 6, 7, 8, 9, 10] M3 (uA (uA M3 7 n (uI V 9)) 8 n (uI V 11)) := (Ex.a (by decide)).trans (Ex.a (by decide))
    have E4' : Ex [7, 8] M3 (uA (uA M3 7 n (uI V 9)) 8 n (uI V 11)) := (Ex.a (by decide)).trans (Ex.a (by decide))
    refine hP _ R3 ((E2.trans (E3.mono (by decide))).trans E4) (W3.ex E4' (by decide) (by decide)) (fun i hi => ?_)
    -- fields by fields
    have v3 : ∀ k, k = 3 ∨ k = 4 ∨ k = 5 → ∀ x, mA (uA (uA M3 7 n (uI V 9)) 8 n (uI V 11)) k x = if x = n then mA M k 4 else mA M k x := fun k hk x => by
      have n9 : k ∉ [9, 10] := by simp; omega
      rw [mA_uA, if_neg (fun z => by omega), mA_uA, if_neg (fun z => by omega), E3.1 k n9, c2 k hk x]
      by_cases c : x = n
      · rw [if_pos c, if_pos c, mA_uA, if_neg (fun z => by omega)]
      · rw [if_neg c, if_neg c, mA_uA, if_neg (fun z => by omega)]
    have v6 : ∀ x, mA (uA (uA M3 7 n (uI V 9)) 8 n (uI V 11)) 6 x = mA M2 6 x := fun x => by
      rw [mA_uA, if_neg (fun z => absurd z.1 (by decide)), mA_uA, if_neg (fun z => absurd z.1 (by decide)), E3.1 6 (by decide)]
    have v7 : ∀ x, mA (uA (uA M3 7 n (uI V 9)) 8 n (uI V 11)) 7 x = if x = n then uI V 9 else mA M 7 x := fun x => by
      rw [mA_uA, if_neg (fun z => absurd z.1 (by decide)), mA_uA, m7]
      by_cases c : x = n
      · rw [if_pos ⟨rfl, c⟩, if_pos c]
      · rw [if_neg (fun z => c z.2), if_neg c]
    have v8 : ∀ x, mA (uA (uA M3 7 n (uI V 9)) 8 n (uI V 11)) 8 x = if x = n then uI V 11 else mA M 8 x := fun x => by
      rw [mA_uA]
      by_cases c : x = n
      · rw [if_pos ⟨rfl, c⟩, if_pos c]
      · rw [if_neg (fun z => c z.2), if_neg c, mA_uA, if_neg (fun z => absurd z.1 (by decide)), m8]
    have v2 : ∀ x, mA (uA (uA M3 7 n (uI V 9)) 8 n (uI V 11)) 2 x = if x = n then 1 else mA M 2 x := fun x => by
      rw [mA_uA, if_neg (fun z => absurd z.1 (by decide)), mA_uA, if_neg (fun z => absurd z.1 (by decide)), E3.1 2 (by decide), c1.1 2 (by decide), mA_uA]
      by_cases c : x = n
      · rw [if_pos ⟨rfl, c⟩, if_pos c]
      · rw [if_neg (fun z => c z.2), if_neg c]
    rw [v2]
    unfold setP
    by_cases c : i = n
    · subst c
      rw [if_pos rfl, if_pos rfl]
      refine ⟨rfl, fun U z => ?_⟩
      cases z
      refine ⟨⟨⟨?_, ?_, ?_, ?_, ?_⟩, ?_, ?_, ?_, ?_⟩, ⟨?_, fun k hk => ?_, ?_⟩, ok, ov⟩
      · rw [e3, uQ_ne _ _ (by omega), uQ_ne _ _ (by omega), uQ_ne _ _ (by omega), c5, uQ_ne _ _ (by omega), uQ_ne _ _ (by omega), uQ_eq]
        exact a1
      · rw [e3, uQ_ne _ _ (by omega), uQ_ne _ _ (by omega), uQ_ne _ _ (by omega), c5, uQ_ne _ _ (by omega), uQ_eq]
        exact a2
      · rw [e3, uQ_ne _ _ (by omega), uQ_ne _ _ (by omega), uQ_eq]
        exact a3
      · rw [e3, uQ_ne _ _ (by omega), uQ_eq]
        exact a4
      · rw [e3, uQ_eq]
        exact a5
      · rw [v3 3 (Or.inl rfl), if_pos rfl]
        exact a6
      · rw [v3 4 (Or.inr (Or.inl rfl)), if_pos rfl]
        exact a7
      · rw [v7, if_pos rfl]
      · rw [v8, if_pos rfl]
      · rw [v3 5 (Or.inr (Or.inr rfl)), if_pos rfl]
        exact hH.1
      · rw [v6, c3 k hk, mA_uA, if_neg (fun z => absurd z.1 (by decide))]
        exact hH.2.1 k hk
      · rw [e3, uQ_ne _ _ (by omega), uQ_ne _ _ (by omega), uQ_ne _ _ (by omega), c5, uQ_eq]
        exact hH.2.2
    · rw [if_neg c, if_neg c]
      obtain ⟨g1, g2⟩ := hp i hi
      refine ⟨g1, fun U z => ?_⟩
      obtain ⟨hA', hH', ok', ov'⟩ := g2 U z
      have rr : ∀ k, k < 6 → R3 (6 * i + k) = R (6 * i + k) := fun k hk => by
        rw [e3, uQ_ne _ _ (by omega), uQ_ne _ _ (by omega), uQ_ne _ _ (by omega), c5, uQ_ne _ _ (by omega), uQ_ne _ _ (by omega), uQ_ne _ _ (by omega)]
      refine ⟨?_, ⟨?_, fun k hk => ?_, ?_⟩, ok', ov'⟩
      · unfold PA
        rw [show R3 (6 * i) = R (6 * i) from rr 0 (by omega), rr 1 (by omega), rr 3 (by omega), rr 4 (by omega), rr 5 (by omega), v3 3 (Or.inl rfl), if_neg c, v3 4 (Or.inr (Or.inl rfl)), if_neg c, v7, if_neg c, v8, if_neg c]
        exact hA'
      · rw [v3 5 (Or.inr (Or.inr rfl)), if_neg c]
        exact hH'.1
      · rw [v6, c4 (8 * i + k) (by omega), mA_uA, if_neg (fun z => absurd z.1 (by decide))]
        exact hH'.2.1 k hk
      · rw [rr 2 (by omega)]
        exact hH'.2.2
  have r2 : ∀ q, 24 ≤ q → R2 q = R q := fun q hq => by
    rw [c5, uQ_ne _ _ (by omega), uQ_ne _ _ (by omega), uQ_ne _ _ (by omega)]
  show wm m D (f_X9_read_L140 (9996 + 1 + 1 + 1 + 1) (some m) (nI n) 3) M2 P
  rw [f_X9_read_L140]
  unfold f_X9_read_140
  refine wm_f (by decide) (wm_n (wm_b (m_copyPart (b := 4) (c := n) (p := 3) (by omega) (by omega) (by omega) (by omega) W2 (fun M3 E3 W3 => ?_))))
  rw [show (3 : Int32) + 1 = nI 4 from rfl, f_X9_read_L140]
  unfold f_X9_read_140
  refine wm_f (by decide) (wm_n (wm_b (m_copyPart (b := 4) (c := n) (p := 4) (by omega) (by omega) (by omega) (by omega) W3 (fun M4 E4 W4 => ?_))))
  rw [show nI 4 + 1 = nI 5 from rfl, f_X9_read_L140]
  unfold f_X9_read_140
  refine wm_f (by decide) (wm_n (wm_b (m_copyPart (b := 4) (c := n) (p := 5) (by omega) (by omega) (by omega) (by omega) W4 (fun M5 E5 W5 => ?_))))
  rw [show nI 5 + 1 = nI 6 from rfl, f_X9_read_L140]
  unfold f_X9_read_140
  refine wm_t (by decide) (fin M5 _ ((E3.trans E4).trans E5) W5 ?_)
  have q1 : uQ R2 (6 * n + 3) (R2 (6 * 4 + 3)) (6 * 4 + 4) = R 28 := by
    rw [uQ_ne _ _ (by omega)]
    exact r2 28 (by omega)
  have q2 : uQ (uQ R2 (6 * n + 3) (R2 (6 * 4 + 3))) (6 * n + 4) (uQ R2 (6 * n + 3) (R2 (6 * 4 + 3)) (6 * 4 + 4)) (6 * 4 + 5) = R 29 := by
    rw [uQ_ne _ _ (by omega), uQ_ne _ _ (by omega)]
    exact r2 29 (by omega)
  rw [q2, q1, show R2 (6 * 4 + 3) = R 27 from r2 27 (by omega)]
theorem m_read {i j : Int32} {U : UV} (h : Mo M R T Pp G) (hok : ∀ V, rdU T (plI Pp j) U = .inr V → okW V ∧ okR V) (hneg : ∀ c, rdU T (plI Pp j) U = .inl c → c ≠ 0) (hz : (i < 0 ∨ ¬ i < 4 ∨ (j ≠ -1 ∧ plI Pp j = none)) → P (-2) M)
    (h0 : ∀ n c M' R', i = nI n → n < 4 → (j = -1 ∨ plI Pp j ≠ none) → rdU T (plI Pp j) U = .inl c → Mo M' R' [] Pp G → P c M')
    (h1 : ∀ n V M' R', i = nI n → n < 4 → (j = -1 ∨ plI Pp j ≠ none) → rdU T (plI Pp j) U = .inr V → 1000 < (wrU V).length → Mo M' R' [] Pp G → P (-3) M')
    (h2 : ∀ n V M' R', i = nI n → n < 4 → (j = -1 ∨ plI Pp j ≠ none) → rdU T (plI Pp j) U = .inr V → (wrU V).length ≤ 1000 → Mo M' R' [] (setP Pp n V) G → P 0 M') : wm m D (f_X9_read (some m) i j) M P := by
  obtain ⟨g1, g2, g3, g4, g5, g6⟩ := h
  -- from the text on
  have main : ∀ n, i = nI n → n < 4 → Bm M R j (plI Pp j) → wm m D (f_X9_read_25 (some m) i j) M P := by
    intro n hi hn hB
    subst hi
    have hj : j = -1 ∨ plI Pp j ≠ none := by
      rcases hB with z | ⟨b, B, -, -, e, -⟩
      · exact Or.inl z.1
      · exact Or.inr (by rw [e]; simp)
    unfold f_X9_read_25
    refine wm_n (wm_b (m_takeText g1 (fun M1 E1 I1 => wm_b (wm_wI ?_))))
    have T2 : Tx (uN M1 1 0) [] := ⟨by rw [mI_uN, if_pos rfl]; rfl, by decide, isB.nil, By.nil⟩
    have E2 : Ex [1, 11, 12] M (uN M1 1 0) := (E1.mono (by decide)).trans (Ex.n (by decide))
    have I2 : In (uN M1 1 0) (tdy T) := I1.ex (Ex.n (S := [1]) (k := 1) (v := 0) (by decide)) (by decide) (by decide)
    have W2 := g2.ex E2 (by decide) (by decide)
    have P2 := g3.ex E2 (by decide) (by decide) (by decide) (by decide) (by decide) (by decide) (by decide)
    have L2 := g4.ex E2 (by decide) (by decide) (by decide) (by decide) (by decide) (by decide)
    have A2 := g5.ex E2 (by decide) (by decide) (by decide) (by decide) (by decide)
    have G2 := g6.ex E2 (by decide) (by decide) (by decide) (by decide)
    have B2 : Bm (uN M1 1 0) R j (plI Pp j) := by
      unfold Bm PA PH
      rw [E2.1 3 (by decide), E2.1 4 (by decide), E2.1 5 (by decide), E2.1 6 (by decide), E2.1 7 (by decide), E2.1 8 (by decide)]
      exact hB
    generalize uN M1 1 0 = M2 at *
    -- how it all ends
    have mo : ∀ M3 R3 Pp', Ex [2, 3, 4, 5, 6, 7, 8, 9, 10, 13, 14, 15, 16, 17, 18, 19] M2 M3 → Rw M3 R3 → Mp M3 R3 Pp' → Mo M3 R3 [] Pp' G := fun M3 R3 Pp' E W Q => ⟨T2.ex E (by decide) (by decide), W, Q, L2.ex E (by decide) (by decide) (by decide) (by decide) (by decide) (by decide), A2.ex E (by decide) (by decide) (by decide) (by decide) (by decide), G2.ex E (by decide) (by decide) (by decide) (by decide)⟩
    have rest : ∀ M3 R3, Fw FS FQ M2 R M3 R3 → Rw M3 R3 → (∀ q, 24 ≤ q → q < 30 → R3 q = []) → wm m D (gb (rR 8 7 (some m)) fun v1 => gb (sI 2 v1 4 0) fun _ => gb (rR 8 8 (some m)) fun v2 => gb (sI 2 v2 4 0) fun _ => gb (rR 8 4 (some m)) fun v3 => gb (sI 1 v3 4 (-1)) fun _ => gb (wI 8 13 (some m) 0) fun _ => gb (nn 8 (some m)) fun _ => gb (f_X9_readScheme (some m) j) fun _ => gb (rI 8 13 (some m)) fun v4 => if v4 = 0 then (gb (nn 8 (some m)) fun _ => gb (f_X9_writtenLength (some m) 4) fun v5 => if v5 ≤ 1000 then (f_X9_read_113 (some m) (nI n)) else (gb (wI 8 13 (some m) (-3)) fun _ => f_X9_read_113 (some m) (nI n))) else (f_X9_read_113 (some m) (nI n))) M3 P := by
      intro M3 R3 F3 W3 z3
      refine wm_b (wm_rR (k := 7) (t := 2) (by decide) (wm_b (wm_sI (k := 7) (t := 2) (j := 4) (by decide) rfl (by decide) ?_)))
      refine wm_b (wm_rR (k := 8) (t := 2) (by decide) (wm_b (wm_sI (k := 8) (t := 2) (j := 4) (by decide) rfl (by decide) ?_)))
      refine wm_b (wm_rR (k := 4) (t := 1) (by decide) (wm_b (wm_sI (k := 4) (t := 1) (j := 4) (by decide) rfl (by decide) (wm_b (wm_wI ?_)))))
      rw [show gnar 2 0 = 0 from rfl, gnar1]
      have F4 : Fw FS FQ M3 R3 (uN (uA (uA (uA M3 7 4 0) 8 4 0) 4 4 (-1)) 13 0) R3 := ((((Fw.arr (k := 7) (by decide)).mono (by decide) (by decide)).trans ((Fw.arr (k := 8) (by decide)).mono (by decide) (by decide))).trans ((Fw.arr (k := 4) (by decide)).mono (by decide) (by decide))).trans ((Fw.int (k := 13)).mono (by decide) (by decide))
      have E4 : Ex [4, 7, 8, 13] M3 (uN (uA (uA (uA M3 7 4 0) 8 4 0) 4 4 (-1)) 13 0) := (((Ex.a (by decide)).trans (Ex.a (by decide))).trans (Ex.a (by decide))).trans (Ex.n (by decide))
      have W4 := W3.ex E4 (by decide) (by decide)
      have q4 : mA (uN (uA (uA (uA M3 7 4 0) 8 4 0) 4 4 (-1)) 13 0) 4 4 = -1 := rfl
      have q7 : mA (uN (uA (uA (uA M3 7 4 0) 8 4 0) 4 4 (-1)) 13 0) 7 4 = 0 := rfl
      have q8 : mA (uN (uA (uA (uA M3 7 4 0) 8 4 0) 4 4 (-1)) 13 0) 8 4 = 0 := rfl
      have q13 : mI (uN (uA (uA (uA M3 7 4 0) 8 4 0) 4 4 (-1)) 13 0) 13 = 0 := rfl
      have F24 := F3.trans F4
      generalize uN (uA (uA (uA M3 7 4 0) 8 4 0) 4 4 (-1)) 13 0 = M4 at *
      have I4 := I2.ex F24.1 (by decide) (by decide)
      have P4 := P2.fw F24
      have B4 : Bm M4 R3 j (plI Pp j) := by
        rcases B2 with z | ⟨b, B, hb, e1, e2, k1, k2, k3, k4⟩
        · exact Or.inl z
        · refine Or.inr ⟨b, B, hb, e1, e2, ?_, ?_, k3, k4⟩
          · have q : ∀ k, k < 24 → R3 k = R k := fun k hk => F24.2.1 k (by simp; omega)
            unfold PA
            rw [q (6 * b) (by omega), q (6 * b + 1) (by omega), q (6 * b + 3) (by omega), q (6 * b + 4) (by omega), q (6 * b + 5) (by omega), F24.2.2.1 3 b hb (by decide), F24.2.2.1 4 b hb (by decide), F24.2.2.1 7 b hb (by decide), F24.2.2.1 8 b hb (by decide)]
            exact k1
          · refine ⟨by rw [F24.2.2.1 5 b hb (by decide)]; exact k2.1, fun k hk => ?_, by rw [F24.2.1 (6 * b + 2) (by simp; omega)]; exact k2.2.2⟩
            rw [F24.2.2.2 (8 * b + k) (by omega)]
            exact k2.2.1 k hk
      refine wm_n (wm_b (m_scheme (U := U) I4 W4 (fun a => ⟨⟨z3 24 (by omega) (by omega), z3 25 (by omega) (by omega), z3 27 (by omega) (by omega), z3 28 (by omega) (by omega), z3 29 (by omega) (by omega)⟩, rfl, ?_, ?_, ?_⟩) q13 (z3 26 (by omega) (by omega)) B4 (fun M5 r => wm_rd ?_)))
      · exact q4
      · exact q7
      · exact q8
      · rw [← rdU_X] at r
        obtain ⟨R5, F5, W5, r1, r2⟩ := r
        have P5 := P4.fw F5
        have E5 : Ex [2, 3, 4, 5, 6, 7, 8, 9, 10, 13, 14, 15, 16, 17, 18, 19] M2 M5 := (F24.trans F5).1.mono (by decide)
        cases hr : rdU T (plI Pp j) U with
        | inl c =>
          rw [r1 c hr]
          have hc := hneg c hr
          refine wm_f hc ?_
          unfold f_X9_read_113
          refine wm_rd ?_
          rw [r1 c hr]
          refine wm_f hc (wm_rd (wm_p ?_))
          rw [r1 c hr]
          exact h0 n c M5 R5 rfl hn hj hr (mo M5 R5 Pp E5 W5 P5)
        | inr V =>
          obtain ⟨s1, s2, s3⟩ := r2 V hr
          obtain ⟨ow, orr⟩ := hok V hr
          have hwl := orr.2.2.2.2.2
          rw [s1]
          refine wm_t rfl (wm_n (wm_b (m_writtenLength (i := 4) (by omega) W5 s2 s3 ow (fun M6 E6 W6 => ?_))))
          have E26 := E5.trans (E6.mono (by decide))
          have R6 := W5.ex E6 (by decide) (by decide)
          have P6 := P5.ex E6 (by decide) (by decide) (by decide) (by decide) (by decide) (by decide) (by decide)
          by_cases c : (wrU V).length ≤ 1000
          · refine wm_t (nI_le (b := 1000) c (by omega)) (m_take hn R6 (s2.ex E6 (by decide) (by decide) (by decide) (by decide)) ?_ ow ⟨orr, c⟩ P6 (by rw [E6.2 13 (by decide)]; exact s1) (fun M7 R7 E7 W7 P7 => h2 n V M7 R7 rfl hn hj hr c (mo M7 R7 _ (E26.trans (E7.mono (by decide))) W7 P7)))
            unfold PH
            rw [E6.1 5 (by decide), E6.1 6 (by decide)]
            exact s3
          · refine wm_f (nI_ge (a := 1000) (by omega) (by omega)) (wm_b (wm_wI ?_))
            have E7 : Ex [13] M6 (uN M6 13 (-3)) := Ex.n (by decide)
            have q3 : mI (uN M6 13 (-3)) 13 = -3 := by rw [mI_uN, if_pos rfl]
            unfold f_X9_read_113
            refine wm_rd ?_
            rw [q3]
            refine wm_f (by decide) (wm_rd (wm_p ?_))
            rw [q3]
            exact h1 n V _ R5 rfl hn hj hr (by omega) (mo _ R5 Pp (E26.trans (E7.mono (by decide))) (R6.ex E7 (by decide) (by decide)) (P6.ex E7 (by decide) (by decide) (by decide) (by decide) (by decide) (by decide) (by decide)))
    -- the sizes of the last place
    have L : ∀ (k x f : Nat) (M3 : MS) (R3 : Nat → List Int32), x + k = 6 → k < f → Fw FS FQ M2 R M3 R3 → Rw M3 R3 → (∀ q, 24 ≤ q → q < 24 + x → R3 q = []) → wm m D (f_X9_read_L36 f (some m) (nI n) j (nI x)) M3 P := by
      intro k
      induction k with
      | zero =>
        intro x f M3 R3 hx hf F3 W3 z3
        obtain ⟨f, rfl⟩ : ∃ g, f = g + 1 := ⟨f - 1, by omega⟩
        rw [f_X9_read_L36]
        unfold f_X9_read_36
        exact wm_t (show nI 6 ≤ nI x from nI_le (by omega) (by omega)) (rest M3 R3 F3 W3 (fun q h1 h2 => z3 q h1 (by omega)))
      | succ k ih =>
        intro x f M3 R3 hx hf F3 W3 z3
        obtain ⟨f, rfl⟩ : ∃ g, f = g + 1 := ⟨f - 1, by omega⟩
        rw [f_X9_read_L36]
        unfold f_X9_read_36
        refine wm_f (show ¬ nI 6 ≤ nI x from nI_ge (by omega) (by omega)) (wm_b (wm_rR (k := 10) (t := 1) (by decide) (wm_b (wm_sI (k := 10) (t := 1) (by decide) (nI_add 24 x) (show 24 + x < 30 by omega) ?_))))
        rw [gnar1, nI_1]
        have E4 : Ex [9, 10] M3 (uA M3 10 (24 + x) 0) := Ex.a (by decide)
        have W4 : Rw (uA M3 10 (24 + x) 0) (uQ R3 (24 + x) []) := by
          refine W3.put (by omega) (by decide) isB.nil (by rw [mA_uA, if_pos ⟨rfl, rfl⟩]; rfl) By.nil (fun k hk => by rw [mA_uA, if_neg (fun z => hk z.2)]) (fun k y _ _ _ => by rw [mA_uA, if_neg (fun z => absurd z.1 (by decide))])
        have F4 : Fw FS FQ M3 R3 (uA M3 10 (24 + x) 0) (uQ R3 (24 + x) []) := by
          refine (Fw.row (q := 24 + x) E4).mono (by decide) (fun k hk => ?_)
          rw [List.mem_singleton] at hk
          subst hk
          simp
          omega
        refine ih (x + 1) f _ _ (by omega) (by omega) (F3.trans F4) W4 (fun q h1 h2 => ?_)
        by_cases c : q = 24 + x
        · rw [c, uQ_eq]
        · rw [uQ_ne _ _ c]
          exact z3 q h1 (by omega)
    exact L 6 0 gF M2 R (by omega) (by decide) Fw.rf W2 (fun q h1 h2 => by omega)
  unfold f_X9_read
  refine wm_b (wm_q (fun _ _ => m_isIn) ?_)
  refine wm_bz (fun c => wm_p (hz ?_)) (fun c => ?_)
  · have c := of_decide_eq_false c
    by_cases d : i < 0
    · exact Or.inl d
    · right
      left
      exact fun z => c ⟨d, (ltS1 (n := 3) (by omega)).mpr z⟩
  · have c := of_decide_eq_true c
    obtain ⟨n, hn, hi⟩ := ix4 c.1 ((ltS1 (n := 3) (by omega)).mp c.2)
    refine wm_if (fun d => main n hi hn (Or.inl ⟨d, by rw [d]; rfl⟩)) (fun d => ?_)
    refine m_has g3 (fun e => wm_t rfl (wm_p (hz (Or.inr (Or.inr ⟨d, e⟩))))) (fun b B hb ej e hA hH ow ov => ?_)
    obtain ⟨okh, ⟨s, hs, es, e1⟩, o9, o11, op⟩ := id ow
    exact wm_f (by decide) (main n hi hn (Or.inr ⟨b, B, hb, ej, e, hA, hH, ov.ob, s, hs, es⟩))
end MJ
