/-! THE OTHER OBJECT: PORT, copies of parts -/
section MC
variable {m : Nat} {D : Nat → Nat} {M : MS} {xs : List Int32} {R : Nat → List Int32} {U : UV} {P : Unit → MS → Prop}
theorem port_t : ∀ s, s < 5 → (if (2 : Int32) ≤ nI s then (if (4 : Int32) ≤ nI s then (21 : Int32) else 443) else 80) = pOf (nI s) := by decide
theorem dig_t : ∀ n, n < 256 → pDig (nI n) ≠ 0 → 48 ≤ n ∧ n ≤ 57 ∧ dg (nI n) = n - 48 := by decide +kernel
theorem capN {x : Nat} (h : x < 2 ^ 31) : (if nI x < (100000 : Int32) then nI x else 100000) = nI (min x 100000) := by
  rcases Nat.lt_or_ge x 100000 with z | z
  · rw [if_pos (show nI x < (100000 : Int32) from nI_lt (b := 100000) z (by omega)), Nat.min_eq_left (by omega)]
  · rw [if_neg (show ¬ nI x < (100000 : Int32) from nI_nlt (b := 100000) z (by omega)), Nat.min_eq_right (by omega)]
    rfl
theorem m_prtBig {a e : Nat} (hI : In M xs) (he : e ≤ xs.length) (h0 : P () (uN M 13 (-17))) : ∀ (k i f v : Nat), k = e - i → i ≤ e + 1 → k < f → 65535 < v → v ≤ 100000 → wm m D (f_X9_readPort_L5 f (some m) (nI a) (nI e) (nI v) (nI i)) M P := by
  have hl := hI.2.1
  intro k
  induction k with
  | zero =>
    intro i f v hk hi hf h1 h2
    obtain ⟨f, rfl⟩ : ∃ g, f = g + 1 := ⟨f - 1, by omega⟩
    rw [f_X9_readPort_L5]
    unfold f_X9_readPort_5
    refine wm_t (nI_le (by omega) (by omega)) (wm_f (nI_ge (a := 65535) (by omega) (by omega)) ?_)
    exact wm_b (wm_wI (wm_p h0))
  | succ k ih =>
    intro i f v hk hi hf h1 h2
    obtain ⟨f, rfl⟩ : ∃ g, f = g + 1 := ⟨f - 1, by omega⟩
    obtain ⟨n, hn, en⟩ := hI.2.2.1.nn (j := i) (by omega)
    rw [f_X9_readPort_L5]
    unfold f_X9_readPort_5
    refine wm_f (nI_ge (by omega) (by omega)) (m_ba hI (by omega) (wm_b (wm_q (fun _ _ => m_isDigit) ?_)))
    refine wm_if (fun c => wm_b (wm_wI (wm_p h0))) (fun c => m_ba hI (by omega) ?_)
    rw [en] at c ⊢
    obtain ⟨n1, n2, -⟩ := dig_t n hn c
    have e1 : (10 * nI v + nI n - 48 : Int32) = nI (10 * v + n - 48) := by
      rw [show (10 : Int32) = nI 10 from rfl, show (48 : Int32) = nI 48 from rfl, pk_mul, nI_add, pk_sub (by omega)]
    rw [e1, capN (by omega), Nat.min_eq_right (by omega), nI_1]
    exact ih (i + 1) f 100000 (by omega) (by omega) (by omega) (by omega) (by omega)
theorem m_prtL {a e s : Nat} (hI : In M xs) (he : e ≤ xs.length) (hA : PA M R 4 U) (hs : s < 5) (hU : uI U 0 = nI s) (ha : a ≤ e + 1) : ∀ (k i f : Nat) (acc : Option Nat), k = e - i → a ≤ i → i ≤ e + 1 → k < f → (acc = none → i = a) → (∀ v, acc = some v → v ≤ 65535 ∧ a < i ∧ i ≤ e) → (prt xs k i acc = none → P () (uN M 13 (-17))) → (∀ acc' v, prt xs k i acc = some acc' → PA (uA M 4 4 v) R 4 (ptU U acc') → P () (uA M 4 4 v)) → wm m D (f_X9_readPort_L5 f (some m) (nI a) (nI e) (nI (acc.getD 0)) (nI i)) M P := by
  have hl := hI.2.1
  have put : ∀ v acc', v = (if oI acc' = pOf (uI U 0) then -1 else oI acc') → PA (uA M 4 4 v) R 4 (ptU U acc') := fun v acc' e => by
    unfold ptU
    rw [← e]
    exact hA.int (Or.inr (Or.inl ⟨rfl, rfl⟩))
  intro k
  induction k with
  | zero =>
    intro i f acc hk hai hi hf hn hv h0 h1
    obtain ⟨f, rfl⟩ : ∃ g, f = g + 1 := ⟨f - 1, by omega⟩
    rw [f_X9_readPort_L5]
    unfold f_X9_readPort_5 f_X9_readPort_92 f_X9_readPort_97
    rw [prt] at h1
    have hle : acc.getD 0 ≤ 65535 := by
      cases acc with
      | none => simp
      | some v => exact (hv v rfl).1
    refine wm_t (nI_le (by omega) (by omega)) (wm_t (nI_le (b := 65535) hle (by omega)) ?_)
    refine wm_b (wm_rR (k := 4) (t := 1) (by decide) ?_)
    have st : ∀ v, v = (if oI acc = pOf (uI U 0) then -1 else oI acc) → wm m D (gb (sI 1 (some (D 4)) 4 v) fun _ => gp ()) M P := fun v hv => wm_b (wm_sI (k := 4) (t := 1) (j := 4) (by decide) rfl (by decide) (wm_p (h1 acc v rfl (put v acc hv))))
    refine wm_if (fun c => ?_) (fun c => ?_)
    · have : acc = none := by
        cases acc with
        | none => rfl
        | some v =>
          obtain ⟨-, y1, y2⟩ := hv v rfl
          exact absurd c (nI_ge (by omega) (by omega))
      subst this
      refine st (-1) ?_
      show (-1 : Int32) = if (-1 : Int32) = _ then -1 else -1
      split <;> rfl
    · refine wm_get (k := 3) (t := 1) (j := 4) (by decide) rfl (by decide) (wm_b (wm_q (fun _ _ => m_portOf) ?_))
      rw [hA.2.1, hU, port_t s hs]
      cases acc with
      | none =>
        exfalso
        have := hn rfl
        exact c (nI_le (by omega) (by omega))
      | some v =>
        show wm m D (if nI v = pOf (nI s) then _ else _) M P
        rw [hU] at st
        refine wm_if (fun d => st (-1) ?_) (fun d => st (nI v) ?_)
        · show (-1 : Int32) = if nI v = _ then -1 else nI v
          rw [if_pos d]
        · show nI v = if nI v = _ then -1 else nI v
          rw [if_neg d]
  | succ k ih =>
    intro i f acc hk hai hi hf hn hv h0 h1
    obtain ⟨f, rfl⟩ : ∃ g, f = g + 1 := ⟨f - 1, by omega⟩
    obtain ⟨n, hn', en⟩ := hI.2.2.1.nn (j := i) (by omega)
    have hle : acc.getD 0 ≤ 65535 := by
      cases acc with
      | none => simp
      | some v => exact (hv v rfl).1
    rw [f_X9_readPort_L5]
    unfold f_X9_readPort_5
    rw [prt] at h0 h1
    refine wm_f (nI_ge (by omega) (by omega)) (m_ba hI (by omega) (wm_b (wm_q (fun _ _ => m_isDigit) ?_)))
    refine wm_if (fun c => wm_b (wm_wI (wm_p (h0 (by rw [if_pos c]))))) (fun c => m_ba hI (by omega) ?_)
    rw [if_neg c] at h0 h1
    rw [en] at c h0 h1 ⊢
    obtain ⟨n1, n2, n3⟩ := dig_t n hn' c
    rw [n3] at h0 h1
    have e1 : (10 * nI (acc.getD 0) + nI n - 48 : Int32) = nI (10 * acc.getD 0 + n - 48) := by
      rw [show (10 : Int32) = nI 10 from rfl, show (48 : Int32) = nI 48 from rfl, pk_mul, nI_add, pk_sub (by omega)]
    have e2 : 10 * acc.getD 0 + n - 48 = 10 * acc.getD 0 + (n - 48) := by omega
    rw [e1, nI_1]
    by_cases d : 10 * acc.getD 0 + (n - 48) ≤ 65535
    · rw [if_pos d] at h0 h1
      rw [capN (by omega), Nat.min_eq_left (by omega), e2]
      exact ih (i + 1) f (some (10 * acc.getD 0 + (n - 48))) (by omega) (by omega) (by omega) (by omega) (fun z => by cases z) (fun v z => by cases z; exact ⟨d, by omega, by omega⟩) h0 h1
    · rw [if_neg d] at h0
      rw [capN (by omega)]
      exact m_prtBig hI he (h0 rfl) k (i + 1) f _ (by omega) (by omega) (by omega) (by omega) (by omega)
theorem m_readPort {a e s : Nat} (hI : In M xs) (he : e ≤ xs.length) (hA : PA M R 4 U) (hs : s < 5) (hU : uI U 0 = nI s) (ha : a ≤ e + 1) (h0 : prt xs (e - a) a none = none → P () (uN M 13 (-17))) (h1 : ∀ acc' v, prt xs (e - a) a none = some acc' → PA (uA M 4 4 v) R 4 (ptU U acc') → P () (uA M 4 4 v)) : wm m D (f_X9_readPort (some m) (nI a) (nI e)) M P := by
  have hl := hI.2.1
  unfold f_X9_readPort
  exact m_prtL hI he hA hs hU ha (e - a) a gF none rfl (Nat.le_refl _) ha (by unfold gF; omega) (fun _ => rfl) (fun v z => by cases z) h0 h1
/-- a part of one place goes to another -/
theorem m_cpL {b c p n : Nat} (hb : b < 5) (hc : c < 5) (hp : p < 6) (hn : n ≤ 2400) (hbc : b ≠ c) (hP : ∀ M', Ex [9, 10] M M' → (∀ j, j < n → mA M' 9 (2400 * (6 * c + p) + j) = mA M 9 (2400 * (6 * b + p) + j)) → (∀ x, (x < 2400 * (6 * c + p) ∨ 2400 * (6 * c + p) + 2400 ≤ x) → mA M' 9 x = mA M 9 x) → (∀ x, mA M' 10 x = if x = 6 * c + p then nI n else mA M 10 x) → P () M') : ∀ (k i f : Nat) (M1 : MS), i + k = n → k < f → Ex [9] M M1 → (∀ j, j < i → mA M1 9 (2400 * (6 * c + p) + j) = mA M 9 (2400 * (6 * b + p) + j)) → (∀ x, (x < 2400 * (6 * c + p) ∨ 2400 * (6 * c + p) + 2400 ≤ x) → mA M1 9 x = mA M 9 x) → (∀ j, j < n → sb (mA M 9 (2400 * (6 * b + p) + j)) = mA M 9 (2400 * (6 * b + p) + j)) → wm m D (f_X9_copyPart_L11 f (some m) (nI b) (nI c) (nI p) (nI n) (nI i)) M1 P := by
  have ec : (6 * nI c + nI p : Int32) = nI (6 * c + p) := by rw [show (6 : Int32) = nI 6 from rfl, pk_mul, nI_add]
  have eb : (6 * nI b + nI p : Int32) = nI (6 * b + p) := by rw [show (6 : Int32) = nI 6 from rfl, pk_mul, nI_add]
  intro k
  induction k with
  | zero =>
    intro i f M1 hi hf E h1 h2 h3
    obtain ⟨f, rfl⟩ : ∃ g, f = g + 1 := ⟨f - 1, by omega⟩
    rw [f_X9_copyPart_L11]
    unfold f_X9_copyPart_11
    refine wm_t (nI_le (by omega) (by omega)) ?_
    refine wm_b (wm_rR (k := 10) (t := 1) (by decide) (wm_b (wm_sI (k := 10) (t := 1) (by decide) ec (show 6 * c + p < 30 by omega) (wm_p (hP _ ((E.mono (by decide)).trans (Ex.a (by decide))) (fun j hj => ?_) (fun x hx => ?_) (fun x => ?_))))))
    · rw [mA_uA, if_neg (fun z => absurd z.1 (by decide))]
      exact h1 j (by omega)
    · rw [mA_uA, if_neg (fun z => absurd z.1 (by decide))]
      exact h2 x hx
    · rw [mA_uA, gnar1]
      by_cases z : x = 6 * c + p
      · rw [if_pos ⟨rfl, z⟩, if_pos z]
      · rw [if_neg (fun y => z y.2), if_neg z, E.1 10 (by decide)]
  | succ k ih =>
    intro i f M1 hi hf E h1 h2 h3
    obtain ⟨f, rfl⟩ : ∃ g, f = g + 1 := ⟨f - 1, by omega⟩
    rw [f_X9_copyPart_L11]
    unfold f_X9_copyPart_11 f_X9_row
    refine wm_f (nI_ge (by omega) (by omega)) ?_
    refine wm_b (wm_rR (k := 9) (t := 0) (by decide) (wm_n (wm_b (wm_p ?_))))
    refine wm_b (wm_rR (k := 9) (t := 0) (by decide) (wm_n (wm_b (wm_p ?_))))
    rw [ec, eb, show (2400 : Int32) = nI 2400 from rfl, pk_mul, pk_mul, nI_1]
    refine wm_b (wm_aI (k := 9) (t := 0) (by decide) (nI_add _ _) (show 2400 * (6 * b + p) + i < 72000 by omega) ?_)
    refine wm_b (wm_sI (k := 9) (t := 0) (by decide) (nI_add _ _) (show 2400 * (6 * c + p) + i < 72000 by omega) ?_)
    have eo : mA M1 9 (2400 * (6 * b + p) + i) = mA M 9 (2400 * (6 * b + p) + i) := h2 _ (by omega)
    rw [gnar0, eo, h3 i (by omega)]
    refine ih (i + 1) f _ (by omega) (by omega) (E.trans (Ex.a (by decide))) (fun j hj => ?_) (fun x hx => ?_) h3
    · rw [mA_uA]
      by_cases z : j = i
      · rw [if_pos ⟨rfl, by rw [z]⟩, z]
      · rw [if_neg (fun y => by have := y.2; omega)]
        exact h1 j (by omega)
    · rw [mA_uA, if_neg (fun y => by have := y.2; omega)]
      exact h2 x hx
theorem m_copyPart {b c p : Nat} (hb : b < 5) (hc : c < 5) (hp : p < 6) (hbc : b ≠ c) (hR : Rw M R) (hP : ∀ M', Ex [9, 10] M M' → Rw M' (uQ R (6 * c + p) (R (6 * b + p))) → P () M') : wm m D (f_X9_copyPart (some m) (nI b) (nI c) (nI p)) M P := by
  obtain ⟨a1, a2, a3, a4⟩ := hR (6 * b + p) (by omega)
  have eb : (6 * nI b + nI p : Int32) = nI (6 * b + p) := by rw [show (6 : Int32) = nI 6 from rfl, pk_mul, nI_add]
  unfold f_X9_copyPart f_X9_sizeOf
  refine wm_n (wm_b (wm_get (k := 10) (t := 1) (by decide) eb (show 6 * b + p < 30 by omega) (wm_p ?_)))
  rw [a1]
  refine m_cpL hb hc hp a2 hbc (fun M' E h1 h2 h3 => hP M' E ?_) (R (6 * b + p)).length 0 gF M (by omega) (by unfold gF; omega) Ex.rf (fun j hj => absurd hj (Nat.not_lt_zero _)) (fun _ _ => rfl) (fun j hj => ?_)
  · refine hR.put (by omega) a2 a3 (by rw [h3, if_pos rfl]) (fun j hj => by rw [h1 j hj]; exact a4 j hj) (fun k hk => by rw [h3, if_neg hk]) (fun k j hk hne hj => h2 _ ?_)
    rcases Nat.lt_or_ge k (6 * c + p) with z | z
    · left
      have : 2400 * k + 2400 ≤ 2400 * (6 * c + p) := by
        have := Nat.mul_le_mul_left 2400 (show k + 1 ≤ 6 * c + p by omega)
        omega
      omega
    · right
      have : 2400 * (6 * c + p) + 2400 ≤ 2400 * k := by
        have := Nat.mul_le_mul_left 2400 (show 6 * c + p + 1 ≤ k by omega)
        omega
      omega
  · rw [a4 j hj, sb_sb]
/-- what copyHost does -/
def Ch (M : MS) (R : Nat → List Int32) (b c : Nat) (M' : MS) (R' : Nat → List Int32) : Prop := Ex [3, 4, 5, 6, 9, 10] M M' ∧ (∀ k, k = 3 ∨ k = 4 ∨ k = 5 → ∀ x, mA M' k x = if x = c then mA M k b else mA M k x) ∧ (∀ k, k < 8 → mA M' 6 (8 * c + k) = mA M 6 (8 * b + k)) ∧ (∀ x, (x < 8 * c ∨ 8 * c + 8 ≤ x) → mA M' 6 x = mA M 6 x) ∧ R' = uQ (uQ (uQ R (6 * c) (R (6 * b))) (6 * c + 1) (R (6 * b + 1))) (6 * c + 2) (R (6 * b + 2))
theorem m_copyHost {b c : Nat} (hb : b < 5) (hc : c < 5) (hbc : b ≠ c) (hR : Rw M R) (hP : ∀ M' R', Ch M R b c M' R' → Rw M' R' → P () M') : wm m D (f_X9_copyHost (some m) (nI b) (nI c)) M P := by
  unfold f_X9_copyHost
  refine wm_b (wm_rR (k := 3) (t := 1) (by decide) (wm_get (k := 3) (t := 1) (by decide) rfl (show b < 5 from hb) (wm_b (wm_sI (k := 3) (t := 1) (by decide) rfl (show c < 5 from hc) ?_))))
  refine wm_b (wm_rR (k := 4) (t := 1) (by decide) (wm_get (k := 4) (t := 1) (by decide) rfl (show b < 5 from hb) (wm_b (wm_sI (k := 4) (t := 1) (by decide) rfl (show c < 5 from hc) ?_))))
  refine wm_b (wm_rR (k := 5) (t := 1) (by decide) (wm_get (k := 5) (t := 1) (by decide) rfl (show b < 5 from hb) (wm_b (wm_sI (k := 5) (t := 1) (by decide) rfl (show c < 5 from hc) ?_))))
  simp only [gnar1]
  generalize eM3 : uA (uA (uA M 3 c (mA M 3 b)) 4 c (mA (uA M 3 c (mA M 3 b)) 4 b)) 5 c (mA (uA (uA M 3 c (mA M 3 b)) 4 c (mA (uA M 3 c (mA M 3 b)) 4 b)) 5 b) = M3
  have E3 : Ex [3, 4, 5, 6, 9, 10] M M3 := by
    rw [← eM3]
    exact ((Ex.a (by decide)).trans (Ex.a (by decide))).trans (Ex.a (by decide))
  have v3 : ∀ k, k = 3 ∨ k = 4 ∨ k = 5 → ∀ x, mA M3 k x = if x = c then mA M k b else mA M k x := by
    intro k hk x
    rw [← eM3]
    rcases hk with rfl | rfl | rfl
    · simp [mA_uA]
    · simp [mA_uA]
    · simp [mA_uA]
  have v6 : mA M3 6 = mA M 6 := by
    rw [← eM3]
    funext x
    simp [mA_uA]
  have v9 : mA M3 9 = mA M 9 := by
    rw [← eM3]
    funext x
    simp [mA_uA]
  have v10 : mA M3 10 = mA M 10 := by
    rw [← eM3]
    funext x
    simp [mA_uA]
  have R3 : Rw M3 R := by
    unfold Rw
    rw [v9, v10]
    exact hR
  -- the numbers
  have L : ∀ (k i f : Nat) (M4 : MS), i + k = 8 → k < f → Ex [6] M3 M4 → (∀ j, j < i → mA M4 6 (8 * c + j) = mA M 6 (8 * b + j)) → (∀ x, (x < 8 * c ∨ 8 * c + 8 ≤ x) → mA M4 6 x = mA M 6 x) → wm m D (f_X9_copyHost_L38 f (some m) (nI b) (nI c) (nI i)) M4 P := by
    intro k
    induction k with
    | zero =>
      intro i f M4 hi hf E h1 h2
      obtain ⟨f, rfl⟩ : ∃ g, f = g + 1 := ⟨f - 1, by omega⟩
      rw [f_X9_copyHost_L38]
      unfold f_X9_copyHost_38
      refine wm_t (show nI 8 ≤ nI i from nI_le (by omega) (by omega)) ?_
      have R4 := R3.ex E (by decide) (by decide)
      refine wm_n (wm_b (m_copyPart (p := 0) hb hc (by omega) hbc R4 (fun M5 E5 R5 => ?_)))
      refine wm_n (wm_b (m_copyPart (p := 1) hb hc (by omega) hbc R5 (fun M6 E6 R6 => ?_)))
      refine wm_n (wm_b (m_copyPart (p := 2) hb hc (by omega) hbc R6 (fun M7 E7 R7 => wm_p (hP M7 _ ⟨?_, fun k hk x => ?_, fun k hk => ?_, fun x hx => ?_, ?_⟩ R7))))
      · exact ((E3.trans (E.mono (by decide))).trans (E5.mono (by decide))).trans ((E6.mono (by decide)).trans (E7.mono (by decide)))
      · rw [← v3 k hk x]
        have n1 : k ∉ [9, 10] := by simp; omega
        have n2 : k ∉ [6] := by simp; omega
        rw [E7.1 k n1, E6.1 k n1, E5.1 k n1, E.1 k n2]
      · rw [E7.1 6 (by decide), E6.1 6 (by decide), E5.1 6 (by decide)]
        exact h1 k (by omega)
      · rw [E7.1 6 (by decide), E6.1 6 (by decide), E5.1 6 (by decide)]
        exact h2 x hx
      · have q1 : uQ R (6 * c + 0) (R (6 * b + 0)) (6 * b + 1) = R (6 * b + 1) := uQ_ne _ _ (by omega)
        have q2 : uQ (uQ R (6 * c + 0) (R (6 * b + 0))) (6 * c + 1) (uQ R (6 * c + 0) (R (6 * b + 0)) (6 * b + 1)) (6 * b + 2) = R (6 * b + 2) := by
          rw [uQ_ne _ _ (by omega), uQ_ne _ _ (by omega)]
        rw [q2, q1]
        rfl
    | succ k ih =>
      intro i f M4 hi hf E h1 h2
      obtain ⟨f, rfl⟩ : ∃ g, f = g + 1 := ⟨f - 1, by omega⟩
      rw [f_X9_copyHost_L38]
      unfold f_X9_copyHost_38
      refine wm_f (show ¬ nI 8 ≤ nI i from nI_ge (by omega) (by omega)) ?_
      have e1 : (8 * nI b + nI i : Int32) = nI (8 * b + i) := by rw [show (8 : Int32) = nI 8 from rfl, pk_mul, nI_add]
      have e2 : (8 * nI c + nI i : Int32) = nI (8 * c + i) := by rw [show (8 : Int32) = nI 8 from rfl, pk_mul, nI_add]
      refine wm_b (wm_rR (k := 6) (t := 1) (by decide) (wm_get (k := 6) (t := 1) (by decide) e1 (show 8 * b + i < 40 by omega) (wm_b (wm_sI (k := 6) (t := 1) (by decide) e2 (show 8 * c + i < 40 by omega) ?_))))
      rw [gnar1, nI_1, h2 (8 * b + i) (by omega)]
      refine ih (i + 1) f _ (by omega) (by omega) (E.trans (Ex.a (by decide))) (fun j hj => ?_) (fun x hx => ?_)
      · rw [mA_uA]
        by_cases z : j = i
        · rw [if_pos ⟨rfl, by rw [z]⟩, z]
        · rw [if_neg (fun y => by have := y.2; omega)]
          exact h1 j (by omega)
      · rw [mA_uA, if_neg (fun y => by have := y.2; omega)]
        exact h2 x hx
  exact L 8 0 gF M3 (by omega) (by decide) Ex.rf (fun j hj => absurd hj (Nat.not_lt_zero _)) (fun x _ => by rw [v6])
end MC
