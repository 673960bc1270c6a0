/-! THE OTHER OBJECT: lengths, write, read -/
/-- a record that is whole: its HOST and its scheme are written right, flags and PORT are in their ranges -/
def okW (U : UV) : Prop := okH U ∧ (∃ s, s < 5 ∧ uI U 0 = nI s ∧ uR U 1 = tstr s) ∧ (uI U 9 = 0 ∨ uI U 9 = 1) ∧ (uI U 11 = 0 ∨ uI U 11 = 1) ∧ okP (uI U 5)
theorem digs_t {n : Nat} (hn : n < 65536) : (if nI n ≤ (9999 : Int32) then (if nI n ≤ (999 : Int32) then (if nI n ≤ (99 : Int32) then (if nI n ≤ (9 : Int32) then (1 : Int32) else 2) else 3) else 4) else 5) = nI (decL 4 n).length := by
  have le : ∀ c, c < 65536 → (nI n ≤ nI c ↔ n ≤ c) := fun c hc => nI_leI (by omega) (by omega)
  have l9 : nI n ≤ (9 : Int32) ↔ n ≤ 9 := le 9 (by omega)
  have l99 : nI n ≤ (99 : Int32) ↔ n ≤ 99 := le 99 (by omega)
  have l999 : nI n ≤ (999 : Int32) ↔ n ≤ 999 := le 999 (by omega)
  have l9999 : nI n ≤ (9999 : Int32) ↔ n ≤ 9999 := le 9999 (by omega)
  have FL : ∀ k, (decF k n).length = k + 1 := fun k => by
    induction k with
    | zero => rfl
    | succ k ih => rw [decF, List.length_cons, ih]
  have L4 : decL 4 n = if 10 ^ 4 ≤ n then decF 4 n else decL 3 n := by
    by_cases c : 10 ^ 4 ≤ n
    · rw [if_pos c, decL_F 4 n (Or.inr c)]
    · rw [if_neg c, decL_skip (by omega)]
  have L3 : decL 3 n = if 10 ^ 3 ≤ n then decF 3 n else decL 2 n := by
    by_cases c : 10 ^ 3 ≤ n
    · rw [if_pos c, decL_F 3 n (Or.inr c)]
    · rw [if_neg c, decL_skip (by omega)]
  have L2 : decL 2 n = if 10 ^ 2 ≤ n then decF 2 n else decL 1 n := by
    by_cases c : 10 ^ 2 ≤ n
    · rw [if_pos c, decL_F 2 n (Or.inr c)]
    · rw [if_neg c, decL_skip (by omega)]
  have L1 : decL 1 n = if 10 ^ 1 ≤ n then decF 1 n else decL 0 n := by
    by_cases c : 10 ^ 1 ≤ n
    · rw [if_pos c, decL_F 1 n (Or.inr c)]
    · rw [if_neg c, decL_skip (by omega)]
  by_cases c4 : n ≤ 9999
  · rw [if_pos (l9999.mpr c4), L4, if_neg (show ¬ 10 ^ 4 ≤ n by omega)]
    by_cases c3 : n ≤ 999
    · rw [if_pos (l999.mpr c3), L3, if_neg (show ¬ 10 ^ 3 ≤ n by omega)]
      by_cases c2 : n ≤ 99
      · rw [if_pos (l99.mpr c2), L2, if_neg (show ¬ 10 ^ 2 ≤ n by omega)]
        by_cases c1 : n ≤ 9
        · rw [if_pos (l9.mpr c1), L1, if_neg (show ¬ 10 ^ 1 ≤ n by omega)]
          rfl
        · rw [if_neg (fun z => c1 (l9.mp z)), L1, if_pos (show 10 ^ 1 ≤ n by omega), FL]
          rfl
      · rw [if_neg (fun z => c2 (l99.mp z)), L2, if_pos (show 10 ^ 2 ≤ n by omega), FL]
        rfl
    · rw [if_neg (fun z => c3 (l999.mp z)), L3, if_pos (show 10 ^ 3 ≤ n by omega), FL]
      rfl
  · rw [if_neg (fun z => c4 (l9999.mp z)), L4, if_pos (show 10 ^ 4 ≤ n by omega), FL]
    rfl
section MQ
variable {β : Type} {m : Nat} {D : Nat → Nat} {M : MS} {R : Nat → List Int32} {U : UV} {ys T : List Int32}
theorem ix6 (i p : Nat) : (6 * nI i + nI p : Int32) = nI (6 * i + p) := by rw [show (6 : Int32) = nI 6 from rfl, pk_mul, nI_add]
/-- the length of a part -/
theorem m_sz {i p : Nat} {K : Int32 → gM β} {P : β → MS → Prop} (hi : i < 5) (hp : p < 6) (hR : Rw M R) (hP : wm m D (K (nI (R (6 * i + p)).length)) M P) : wm m D (gb (nn 8 (some m)) fun _ => gb (f_X9_sizeOf (some m) (nI i) (nI p)) K) M P := by
  unfold f_X9_sizeOf
  refine wm_n (wm_b (wm_get (k := 10) (t := 1) (by decide) (ix6 i p) (show 6 * i + p < 30 by omega) (wm_p ?_)))
  rw [(hR (6 * i + p) (by omega)).1]
  exact hP
theorem m_digitsOf {n : Nat} {σ : gS} {Q : Int32 → gS → Prop} (hn : n < 65536) (hQ : Q (nI (decL 4 n).length) σ) : wp (f_X9_digitsOf (nI n)) σ Q := by
  rw [← digs_t hn] at hQ
  unfold f_X9_digitsOf
  repeat' (first | exact wp_z0 hQ | exact wp_z1 hQ | exact wp_p hQ | (refine wp_if (fun c => ?_) (fun c => ?_) <;> (first | rw [if_pos c] at hQ | rw [if_neg c] at hQ)))
theorem okP_lt {v : Int32} (h : okP v) : (v < 0 ↔ v = -1) ∧ (v ≠ -1 → ∃ n, n < 65536 ∧ v = nI n) := by
  rcases h with rfl | ⟨n, hn, rfl⟩
  · exact ⟨by decide, fun z => absurd rfl z⟩
  · exact ⟨⟨fun z => absurd z (nI_pos (by omega)), fun z => absurd z (nI_m1 (by omega))⟩, fun _ => ⟨n, hn, rfl⟩⟩
theorem wrU_len (U : UV) : (wrU U).length = (uR U 1).length + 3 + (uR U 4).length + (uR U 6).length + (if usr U then (uR U 2).length + 1 else 0) + (if usr U then (if (uR U 3).length = 0 then 0 else (uR U 3).length + 1) else 0) + (if uI U 5 = -1 then 0 else 1 + (decL 4 (uI U 5).toNatClampNeg).length) + (if uI U 9 = 0 then 0 else 1 + (uR U 8).length) + (if uI U 11 = 0 then 0 else 1 + (uR U 10).length) := by
  unfold wrU wr3 wr2 wr1
  have t18 : (tstr 18).length = 3 := rfl
  simp only [List.length_append, t18]
  by_cases a : usr U = true
  · by_cases b : (uR U 3).length = 0
    · by_cases c : uI U 5 = -1 <;> by_cases d : uI U 9 = 0 <;> by_cases e : uI U 11 = 0 <;> simp [a, b, c, d, e] <;> omega
    · by_cases c : uI U 5 = -1 <;> by_cases d : uI U 9 = 0 <;> by_cases e : uI U 11 = 0 <;> simp [a, b, c, d, e] <;> omega
  · by_cases c : uI U 5 = -1 <;> by_cases d : uI U 9 = 0 <;> by_cases e : uI U 11 = 0 <;> simp [a, c, d, e] <;> omega
theorem usr_iff (U : UV) : usr U = true ↔ 0 < (uR U 2).length ∨ 0 < (uR U 3).length := by
  unfold usr
  exact decide_eq_true_iff
theorem m_writtenLength {i : Nat} {P : Int32 → MS → Prop} (hi : i < 5) (hR : Rw M R) (hA : PA M R i U) (hH : PH M R i U) (ok : okW U) (hP : ∀ M', Ex [18, 19] M M' → Wt M' (uR U 4) → P (nI (wrU U).length) M') : wm m D (f_X9_writtenLength (some m) (nI i)) M P := by
  obtain ⟨okh, ⟨s, hs, es, e1⟩, o9, o11, op⟩ := ok
  obtain ⟨⟨a1, a2, a3, a4, a5⟩, a6, a7, a8, a9⟩ := hA
  obtain ⟨p1, p2⟩ := okP_lt op
  unfold f_X9_writtenLength
  refine wm_n (wm_b (m_writeHost hi hR hH okh (fun M1 E1 W1 => ?_)))
  have R1 := hR.ex E1 (by decide) (by decide)
  have l2 := (R1 (6 * i) (by omega)).2.1
  have l3 := (R1 (6 * i + 1) (by omega)).2.1
  have l6 := (R1 (6 * i + 3) (by omega)).2.1
  rw [a1] at l2
  rw [a2] at l3
  rw [a3] at l6
  have l4 := W1.2.1
  have t1 : (tstr s).length ≤ 5 := by
    have : ∀ s, s < 5 → (tstr s).length ≤ 5 := by decide
    exact this s hs
  refine m_sz (p := 0) hi (by omega) R1 (m_sz (p := 1) hi (by omega) R1 ?_)
  rw [show R (6 * i + 0) = uR U 2 from a1, a2]
  refine wm_get (k := 3) (t := 1) (by decide) rfl (show i < 5 from hi) (wm_b ?_)
  rw [E1.1 3 (by decide), a6, es]
  refine wm_q (fun _ _ => m_schemeSize hs) (wm_rd (m_sz (p := 3) hi (by omega) R1 ?_))
  rw [W1.1, a3, show (3 : Int32) = nI 3 from rfl, nI_add, nI_add, nI_add]
  -- the FRAGMENT
  have k132 : ∀ n q : Nat, (wrU U).length = n + q + (if uI U 11 = 0 then 0 else 1 + (uR U 10).length) → wm m D (f_X9_writtenLength_132 (some m) (nI i) (nI n) (nI q)) M1 P := by
    intro n q e
    unfold f_X9_writtenLength_132
    refine wm_get (k := 8) (t := 2) (by decide) rfl (show i < 5 from hi) ?_
    rw [E1.1 8 (by decide), a9]
    refine wm_if (fun c => wm_p ?_) (fun c => m_sz (p := 5) hi (by omega) R1 (wm_p ?_))
    · rw [if_pos c] at e
      rw [nI_add, show (0 : Int32) = nI 0 from rfl, nI_add, ← e]
      exact hP M1 E1 W1
    · rw [if_neg c] at e
      rw [a5, nI_add, show (1 : Int32) = nI 1 from rfl, nI_add, nI_add, ← e]
      exact hP M1 E1 W1
  have k106 : ∀ n q : Nat, (wrU U).length = n + q + (if uI U 9 = 0 then 0 else 1 + (uR U 8).length) + (if uI U 11 = 0 then 0 else 1 + (uR U 10).length) → wm m D (f_X9_writtenLength_106 (some m) (nI i) (nI n) (nI q)) M1 P := by
    intro n q e
    unfold f_X9_writtenLength_106
    refine wm_get (k := 7) (t := 2) (by decide) rfl (show i < 5 from hi) ?_
    rw [E1.1 7 (by decide), a8]
    refine wm_if (fun c => ?_) (fun c => m_sz (p := 4) hi (by omega) R1 ?_)
    · rw [if_pos c] at e
      rw [nI_add]
      exact k132 (n + q) 0 e
    · rw [if_neg c] at e
      rw [a4, nI_add, show (1 : Int32) = nI 1 from rfl, nI_add]
      exact k132 (n + q) _ e
  have k77 : ∀ n q : Nat, (wrU U).length = n + q + (if uI U 5 = -1 then 0 else 1 + (decL 4 (uI U 5).toNatClampNeg).length) + (if uI U 9 = 0 then 0 else 1 + (uR U 8).length) + (if uI U 11 = 0 then 0 else 1 + (uR U 10).length) → wm m D (f_X9_writtenLength_77 (some m) (nI i) (nI n) (nI q)) M1 P := by
    intro n q e
    unfold f_X9_writtenLength_77
    refine wm_get (k := 4) (t := 1) (by decide) rfl (show i < 5 from hi) ?_
    rw [E1.1 4 (by decide), a7]
    refine wm_if (fun c => ?_) (fun c => ?_)
    · rw [if_pos (p1.mp c)] at e
      rw [nI_add]
      exact k106 (n + q) 0 e
    · have c' : ¬ uI U 5 = -1 := fun z => c (p1.mpr z)
      obtain ⟨y, hy, ey⟩ := p2 c'
      rw [if_neg c', ey, nI_clamp (by omega)] at e
      refine wm_get (k := 4) (t := 1) (by decide) rfl (show i < 5 from hi) (wm_b ?_)
      rw [E1.1 4 (by decide), a7, ey]
      refine wm_q (fun _ _ => m_digitsOf hy) ?_
      rw [nI_add, show (1 : Int32) = nI 1 from rfl, nI_add]
      exact k106 (n + q) _ e
  have wl := wrU_len U
  rw [e1] at wl
  have k61 : ∀ n q : Nat, (wrU U).length = n + q + (if usr U then (if (uR U 3).length = 0 then 0 else (uR U 3).length + 1) else 0) + (if uI U 5 = -1 then 0 else 1 + (decL 4 (uI U 5).toNatClampNeg).length) + (if uI U 9 = 0 then 0 else 1 + (uR U 8).length) + (if uI U 11 = 0 then 0 else 1 + (uR U 10).length) → wm m D (f_X9_writtenLength_61 (some m) (nI i) (nI (uR U 3).length) (nI n) (nI q)) M1 P := by
    intro n q e
    unfold f_X9_writtenLength_61
    by_cases c : (uR U 3).length = 0
    · have : (if usr U then (if (uR U 3).length = 0 then 0 else (uR U 3).length + 1) else 0) = 0 := by
        rw [if_pos c]
        split <;> rfl
      rw [this] at e
      refine wm_t (by rw [c]; decide) ?_
      rw [nI_add]
      exact k77 (n + q) 0 e
    · have u : usr U = true := (usr_iff U).mpr (Or.inr (by omega))
      rw [if_pos u, if_neg c] at e
      refine wm_f (nI_nle (by omega) (by omega)) ?_
      rw [nI_add, nI_1]
      exact k77 (n + q) _ e
  have k54 : usr U = true → wm m D (f_X9_writtenLength_54 (some m) (nI i) (nI (uR U 2).length) (nI (uR U 3).length) (nI ((tstr s).length + 3 + (uR U 4).length + (uR U 6).length))) M1 P := by
    intro u
    unfold f_X9_writtenLength_54
    rw [nI_1]
    rw [if_pos u] at wl
    exact k61 _ _ wl
  by_cases c : 0 < (uR U 2).length
  · exact wm_t (show nI 0 < nI _ from nI_lt c (by omega)) (k54 ((usr_iff U).mpr (Or.inl c)))
  · refine wm_f (show ¬ nI 0 < nI _ from nI_nlt (by omega) (by omega)) ?_
    by_cases d : (uR U 3).length = 0
    · have u : ¬ usr U = true := fun z => by
        rcases (usr_iff U).mp z with y | y <;> omega
      rw [if_neg u] at wl
      exact wm_t (by rw [d]; decide) (k61 _ 0 wl)
    · exact wm_f (nI_nle (by omega) (by omega)) (k54 ((usr_iff U).mpr (Or.inr (by omega))))
theorem m_say {n : Nat} {v : Int32} {P : Unit → MS → Prop} (h : Tx M T) (hl : T.length < 300) (hn : n < 256) (hv : sb v = sb (nI n)) (hP : ∀ M', Ex [0, 1] M M' → Tx M' (T ++ [nI n]) → P () M') : wm m D (f_X9_say (some m) v) M P := by
  have h1 := h.1
  unfold f_X9_say
  refine wm_b (wm_rR (k := 0) (t := 0) (by decide) (wm_rd ?_))
  rw [h1]
  refine wm_b (wm_sI (k := 0) (t := 0) (by decide) rfl (show T.length < 300 from hl) (wm_rd ?_))
  rw [mI_uA, h1, nI_1]
  refine wm_b (wm_wI (wm_p (hP _ ((Ex.a (by decide)).trans (Ex.n (by decide))) ?_)))
  rw [show gnar 0 (v.toInt8.toInt32) = sb (nI n) from (gnar0s v).trans hv]
  exact h.snoc hl hn
theorem m_sy {n : Nat} {K : Unit → gM β} {P : β → MS → Prop} (h : Tx M T) (hl : T.length < 300) (hn : n < 256) (hP : ∀ M', Ex [0, 1] M M' → Tx M' (T ++ [nI n]) → wm m D (K ()) M' P) : wm m D (gb (nn 8 (some m)) fun _ => gb (f_X9_say (some m) (nI n)) K) M P := wm_n (wm_b (m_say h hl hn rfl hP))
theorem m_sayPart {i p : Nat} {P : Unit → MS → Prop} (hi : i < 5) (hp : p < 6) (hR : Rw M R) (hT : Tx M T) (hl : T.length + (R (6 * i + p)).length ≤ 300) (hP : ∀ M', Ex [0, 1] M M' → Tx M' (T ++ R (6 * i + p)) → P () M') : wm m D (f_X9_sayPart (some m) (nI i) (nI p)) M P := by
  obtain ⟨a1, a2, a3, a4⟩ := hR (6 * i + p) (by omega)
  have L : ∀ (k j f : Nat) (M1 : MS), j + k = (R (6 * i + p)).length → k < f → Ex [0, 1] M M1 → Tx M1 (T ++ (R (6 * i + p)).take j) → wm m D (f_X9_sayPart_L2 f (some m) (nI i) (nI p) (nI j)) M1 P := by
    intro k
    induction k with
    | zero =>
      intro j f M1 hj hf E W
      obtain ⟨f, rfl⟩ : ∃ g, f = g + 1 := ⟨f - 1, by omega⟩
      rw [f_X9_sayPart_L2]
      unfold f_X9_sayPart_2
      refine m_sz hi hp (hR.ex E (by decide) (by decide)) (wm_t (nI_le (by omega) (by omega)) (wm_p (hP M1 E ?_)))
      rw [show j = (R (6 * i + p)).length by omega, List.take_length] at W
      exact W
    | succ k ih =>
      intro j f M1 hj hf E W
      obtain ⟨f, rfl⟩ : ∃ g, f = g + 1 := ⟨f - 1, by omega⟩
      rw [f_X9_sayPart_L2]
      unfold f_X9_sayPart_2 f_X9_row
      obtain ⟨n, hn, en, e1, e2⟩ := a4.cp a3 (j := j) (by omega)
      refine m_sz hi hp (hR.ex E (by decide) (by decide)) (wm_f (nI_ge (by omega) (by omega)) (wm_b (wm_rR (k := 9) (t := 0) (by decide) (wm_n (wm_b (wm_p ?_))))))
      rw [ix6, show (2400 : Int32) = nI 2400 from rfl, pk_mul]
      refine wm_b (wm_aI (k := 9) (t := 0) (by decide) (nI_add _ _) (show 2400 * (6 * i + p) + j < 72000 by omega) ?_)
      rw [E.1 9 (by decide)]
      refine wm_n (wm_b (m_say W (by rw [List.length_append, List.length_take]; omega) hn e2 (fun M2 E2 W2 => ?_)))
      rw [nI_1]
      refine ih (j + 1) f M2 (by omega) (by omega) (E.trans E2) ?_
      rw [take_s (by omega), en, ← List.append_assoc]
      exact W2
  unfold f_X9_sayPart
  exact L (R (6 * i + p)).length 0 gF M (by omega) (by unfold gF; omega) Ex.rf (by rw [List.take_zero, List.append_nil]; exact hT)
theorem m_sayWritten {P : Unit → MS → Prop} (hW : Wt M ys) (hT : Tx M T) (hl : T.length + ys.length ≤ 300) (hP : ∀ M', Ex [0, 1] M M' → Tx M' (T ++ ys) → P () M') : wm m D (f_X9_sayWritten (some m)) M P := by
  obtain ⟨h1, h2, h3, h4⟩ := hW
  have L : ∀ (k j f : Nat) (M1 : MS), j + k = ys.length → k < f → Ex [0, 1] M M1 → Tx M1 (T ++ ys.take j) → wm m D (f_X9_sayWritten_L2 f (some m) (nI j)) M1 P := by
    intro k
    induction k with
    | zero =>
      intro j f M1 hj hf E W
      obtain ⟨f, rfl⟩ : ∃ g, f = g + 1 := ⟨f - 1, by omega⟩
      rw [f_X9_sayWritten_L2]
      unfold f_X9_sayWritten_2
      refine wm_rd ?_
      rw [E.2 19 (by decide), h1]
      refine wm_t (nI_le (by omega) (by omega)) (wm_p (hP M1 E ?_))
      rw [show j = ys.length by omega, List.take_length] at W
      exact W
    | succ k ih =>
      intro j f M1 hj hf E W
      obtain ⟨f, rfl⟩ : ∃ g, f = g + 1 := ⟨f - 1, by omega⟩
      rw [f_X9_sayWritten_L2]
      unfold f_X9_sayWritten_2
      obtain ⟨n, hn, en, e1, e2⟩ := h4.cp h3 (j := j) (by omega)
      rw [Nat.zero_add] at e1 e2
      refine wm_rd ?_
      rw [E.2 19 (by decide), h1]
      refine wm_f (nI_ge (by omega) (by omega)) (wm_get (k := 18) (t := 0) (by decide) rfl (show j < 400 by omega) ?_)
      rw [E.1 18 (by decide)]
      refine wm_n (wm_b (m_say W (by rw [List.length_append, List.length_take]; omega) hn e2 (fun M2 E2 W2 => ?_)))
      rw [nI_1]
      refine ih (j + 1) f M2 (by omega) (by omega) (E.trans E2) ?_
      rw [take_s (by omega), en, ← List.append_assoc]
      exact W2
  unfold f_X9_sayWritten
  exact L ys.length 0 gF M (by omega) (by unfold gF; omega) Ex.rf (by rw [List.take_zero, List.append_nil]; exact hT)
end MQ
