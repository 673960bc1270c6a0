/-! THE OTHER OBJECT: HOSTs written -/
def Wt (M : MS) (ys : List Int32) : Prop := mI M 19 = nI ys.length ∧ ys.length ≤ 400 ∧ isB ys ∧ By (mA M 18) 0 ys
theorem Wt.ex {S : List Nat} {M M' : MS} {T : List Int32} (h : Wt M T) (e : Ex S M M') (h0 : 18 ∉ S) (h1 : 19 ∉ S) : Wt M' T := by
  unfold Wt
  rw [e.2 19 h1, e.1 18 h0]
  exact h
def decF : Nat → Nat → List Int32
  | 0, n => [nI (48 + n % 10)]
  | k + 1, n => nI (48 + n / 10 ^ (k + 1) % 10) :: decF k n
theorem decL_F : ∀ k n, (k = 0 ∨ 10 ^ k ≤ n) → decL k n = decF k n
  | 0, n, _ => rfl
  | k + 1, n, h => by
    have h := h.resolve_left (by omega)
    rw [decL, decF, if_pos h, decL_F k n (Or.inr (Nat.le_trans (Nat.pow_le_pow_right (by omega) (by omega)) h))]
    rfl
theorem decL_skip {k n : Nat} (h : n < 10 ^ (k + 1)) : decL (k + 1) n = decL k n := by
  rw [decL, if_neg (by omega)]
  rfl
theorem decF_b : ∀ k n, isB (decF k n)
  | 0, n => isB.cons (n := 48 + n % 10) (by omega) rfl isB.nil
  | k + 1, n => isB.cons (n := 48 + n / 10 ^ (k + 1) % 10) (by omega) rfl (decF_b k n)
theorem hxd_t : ∀ d, d < 16 → (if (10 : Int32) ≤ nI d then 97 + nI d - 10 else 48 + nI d) = (tstr 9).getD d 0 ∧ ∃ n, n < 128 ∧ (tstr 9).getD d 0 = nI n := by decide +kernel
section MW
variable {m : Nat} {D : Nat → Nat} {M : MS} {R : Nat → List Int32} {U : UV} {ys : List Int32} {P : Unit → MS → Prop}
theorem m_put {n : Nat} {v : Int32} (h : Wt M ys) (hl : ys.length < 400) (hn : n < 256) (hv : sb v = sb (nI n)) (hP : ∀ M', Ex [18, 19] M M' → Wt M' (ys ++ [nI n]) → P () M') : wm m D (f_X9_put (some m) v) M P := by
  obtain ⟨h1, h2, h3, h4⟩ := h
  unfold f_X9_put
  refine wm_b (wm_rR (k := 18) (t := 0) (by decide) (wm_rd ?_))
  rw [h1]
  refine wm_b (wm_sI (k := 18) (t := 0) (by decide) rfl (show ys.length < 400 from hl) (wm_rd ?_))
  rw [mI_uA, h1, nI_1]
  refine wm_b (wm_wI (wm_p (hP _ ((Ex.a (by decide)).trans (Ex.n (by decide))) ⟨?_, ?_, h3.app (isB.cons hn rfl isB.nil), h4.snoc (fun j hj => ?_) ?_⟩)))
  · rw [mI_uN, if_pos rfl, List.length_append, List.length_singleton]
  · rw [List.length_append, List.length_singleton]; omega
  · rw [mA_uN, mA_uA, if_neg (fun z => by have := z.2; omega)]
  · rw [mA_uN, mA_uA, Nat.zero_add, if_pos ⟨rfl, rfl⟩]
    exact (gnar0s v).trans hv
/-- putting one byte, then going on -/
theorem m_pt {β : Type} {n : Nat} {K : Unit → gM β} {P : β → MS → Prop} (h : Wt M ys) (hl : ys.length < 400) (hn : n < 256) (hP : ∀ M', Ex [18, 19] M M' → Wt M' (ys ++ [nI n]) → wm m D (K ()) M' P) : wm m D (gb (nn 8 (some m)) fun _ => gb (f_X9_put (some m) (nI n)) K) M P := wm_n (wm_b (m_put h hl hn rfl hP))
theorem m_dec18 {n : Nat} (hn : n < 65536) : ∀ (k f : Nat) (M : MS) (ys : List Int32), k + 1 < f → k ≤ 4 → Wt M ys → ys.length + (k + 1) ≤ 400 → (∀ M', Ex [18, 19] M M' → Wt M' (ys ++ decF k n) → P () M') → wm m D (f_X9_putDecimal_L18 f (some m) (nI n) (nI (10 ^ k))) M P := by
  intro k
  induction k with
  | zero =>
    intro f M ys hf hk h hl hP
    obtain ⟨f, rfl⟩ : ∃ g, f = g + 1 := ⟨f - 1, by omega⟩
    rw [f_X9_putDecimal_L18]
    unfold f_X9_putDecimal_18
    refine wm_f (by decide) (wm_b (wm_q (r := ()) (fun _ _ => wp_nz (by decide)) (wm_b (wm_q (r := ()) (fun _ _ => wp_nz (by decide)) ?_))))
    have e1 : (48 + (nI n / nI (10 ^ 0) - nI n / nI (10 ^ 0) / 10 * 10) : Int32) = nI (48 + n % 10) := by
      rw [pk_div (d := 10 ^ 0) (by omega) (by omega) (by omega), show (10 : Int32) = nI 10 from rfl, pk_rem (by rw [Nat.pow_zero, Nat.div_one]; omega) (by omega) (by omega), show (48 : Int32) = nI 48 from rfl, nI_add, Nat.pow_zero, Nat.div_one]
    rw [e1]
    refine m_pt h (by omega) (by omega) (fun M1 E1 W1 => wm_b (wm_q (r := ()) (fun _ _ => wp_nz (by decide)) ?_))
    obtain ⟨f, rfl⟩ : ∃ g, f = g + 1 := ⟨f - 1, by omega⟩
    rw [f_X9_putDecimal_L18]
    unfold f_X9_putDecimal_18
    exact wm_t (by decide) (wm_p (hP M1 E1 W1))
  | succ k ih =>
    intro f M ys hf hk h hl hP
    obtain ⟨f, rfl⟩ : ∃ g, f = g + 1 := ⟨f - 1, by omega⟩
    have hp : 10 ^ (k + 1) ≤ 10 ^ 4 := Nat.pow_le_pow_right (by omega) hk
    have hp0 : 0 < 10 ^ (k + 1) := Nat.pow_pos (by omega)
    have hp2 : 0 < 10 ^ k := Nat.pow_pos (by omega)
    rw [f_X9_putDecimal_L18]
    unfold f_X9_putDecimal_18
    refine wm_f (nI_nle hp0 (by omega)) (wm_b (wm_q (r := ()) (fun _ _ => wp_nz (nI_ne0 hp0 (by omega))) (wm_b (wm_q (r := ()) (fun _ _ => wp_nz (by decide)) ?_))))
    have hd : n / 10 ^ (k + 1) ≤ n := Nat.div_le_self _ _
    have e1 : (48 + (nI n / nI (10 ^ (k + 1)) - nI n / nI (10 ^ (k + 1)) / 10 * 10) : Int32) = nI (48 + n / 10 ^ (k + 1) % 10) := by
      rw [pk_div (by omega) hp0 (by omega), show (10 : Int32) = nI 10 from rfl, pk_rem (by omega) (by omega) (by omega), show (48 : Int32) = nI 48 from rfl, nI_add]
    have e2 : (nI (10 ^ (k + 1)) / 10 : Int32) = nI (10 ^ k) := by
      rw [show (10 : Int32) = nI 10 from rfl, pk_div (by omega) (by omega) (by omega), Nat.pow_succ, Nat.mul_div_cancel _ (by omega)]
    rw [e1, e2]
    refine m_pt h (by omega) (by omega) (fun M1 E1 W1 => wm_b (wm_q (r := ()) (fun _ _ => wp_nz (by decide)) ?_))
    refine ih f M1 _ (by omega) (by omega) W1 (by rw [List.length_append, List.length_singleton]; omega) (fun M2 E2 W2 => hP M2 (E1.trans E2) ?_)
    rw [List.append_assoc] at W2
    exact W2
theorem m_putDec {n : Nat} (hn : n < 65536) (h : Wt M ys) (hl : ys.length + 5 ≤ 400) (hP : ∀ M', Ex [18, 19] M M' → Wt M' (ys ++ decL 4 n) → P () M') : wm m D (f_X9_putDecimal (some m) (nI n)) M P := by
  have L : ∀ (k j f : Nat), j + k = 4 → k < f → (j = 0 ∨ 10 ^ j ≤ n) → wm m D (f_X9_putDecimal_L2 f (some m) (nI n) (nI (10 ^ j))) M P := by
    intro k
    induction k with
    | zero =>
      intro j f hj hf h10
      obtain ⟨f, rfl⟩ : ∃ g, f = g + 1 := ⟨f - 1, by omega⟩
      have j4 : j = 4 := by omega
      subst j4
      rw [f_X9_putDecimal_L2]
      unfold f_X9_putDecimal_2
      refine wm_b (wm_q (r := ()) (fun _ _ => wp_nz (by decide)) ?_)
      rw [pk_div (d := 10 ^ 4) (by omega) (by omega) (by omega)]
      have : n / 10 ^ 4 ≤ 9 := by omega
      refine wm_t (nI_le (b := 9) this (by omega)) (m_dec18 hn 4 gF M ys (by decide) (by omega) h (by omega) (fun M' E W => hP M' E ?_))
      rw [decL_F 4 n h10]
      exact W
    | succ k ih =>
      intro j f hj hf h10
      obtain ⟨f, rfl⟩ : ∃ g, f = g + 1 := ⟨f - 1, by omega⟩
      have hp : 10 ^ j ≤ 10 ^ 4 := Nat.pow_le_pow_right (by omega) (by omega)
      have hp0 : 0 < 10 ^ j := Nat.pow_pos (by omega)
      have hd : n / 10 ^ j ≤ n := Nat.div_le_self _ _
      rw [f_X9_putDecimal_L2]
      unfold f_X9_putDecimal_2
      refine wm_b (wm_q (r := ()) (fun _ _ => wp_nz (nI_ne0 hp0 (by omega))) ?_)
      rw [pk_div (by omega) hp0 (by omega)]
      by_cases c : n / 10 ^ j ≤ 9
      · refine wm_t (nI_le (b := 9) c (by omega)) (m_dec18 hn j gF M ys (by unfold gF; omega) (by omega) h (by omega) (fun M' E W => hP M' E ?_))
        have lt : n < 10 ^ (j + 1) := by
          rw [Nat.pow_succ]
          have := Nat.lt_mul_div_succ n hp0
          have e : 10 ^ j * (n / 10 ^ j + 1) ≤ 10 ^ j * 10 := Nat.mul_le_mul (Nat.le_refl _) (by omega)
          omega
        have key : ∀ d, j + d ≤ 4 → decL (j + d) n = decL j n := by
          intro d
          induction d with
          | zero => exact fun _ => rfl
          | succ d ihd =>
            intro hd'
            rw [← Nat.add_assoc, decL_skip (Nat.lt_of_lt_of_le lt (Nat.pow_le_pow_right (by omega) (by omega))), ihd (by omega)]
        have := key (4 - j) (by omega)
        rw [show j + (4 - j) = 4 by omega] at this
        rw [this, decL_F j n h10]
        exact W
      · refine wm_f (nI_ge (a := 9) (by omega) (by omega)) ?_
        have e2 : (nI (10 ^ j) * 10 : Int32) = nI (10 ^ (j + 1)) := by
          rw [show (10 : Int32) = nI 10 from rfl, pk_mul, Nat.pow_succ]
        rw [e2]
        refine ih (j + 1) f (by omega) (by omega) (Or.inr ?_)
        rw [Nat.pow_succ]
        have : 10 * 10 ^ j ≤ n := by
          have h1 : 10 ≤ n / 10 ^ j := by omega
          exact (Nat.le_div_iff_mul_le hp0).mp h1
        omega
  unfold f_X9_putDecimal
  exact L 4 0 gF (by omega) (by decide) (Or.inl rfl)
theorem m_putHexL {n : Nat} (hn : n < 65536) : ∀ (k f : Nat) (M : MS) (ys : List Int32) (bg : Bool), k + 1 < f → k ≤ 3 → (bg = true ↔ n / 2 ^ (4 * (k + 1)) ≠ 0) → Wt M ys → ys.length + (k + 1) ≤ 400 → (∀ M', Ex [18, 19] M M' → Wt M' (ys ++ hexL k n) → P () M') → wm m D (f_X9_putHex_L5 f (some m) (nI n) (b2i bg) (nI (4 * k))) M P := by
  have dv : ∀ k, k ≤ 3 → (nI n >>> (nI (4 * k) &&& 31)) &&& 15 = nI (n / 2 ^ (4 * k) % 16) := fun k hk => by
    rw [pk_shrN (by omega) _ (4 * k) (s_l (4 * k) (by omega)), pk_andN (Nat.lt_of_le_of_lt (Nat.div_le_self _ _) (by omega)) 4 (by decide)]
  have dd : ∀ k, n / 2 ^ (4 * (k + 1)) = n / 2 ^ (4 * k) / 16 := fun k => by
    rw [Nat.div_div_eq_div_mul, show 4 * (k + 1) = 4 * k + 4 by omega, Nat.pow_add]
  -- one digit
  have dig : ∀ (k f : Nat) (M : MS) (ys : List Int32) (K : MS → Prop), k ≤ 3 → Wt M ys → ys.length < 400 → (∀ M', Ex [18, 19] M M' → Wt M' (ys ++ [(tstr 9).getD (n / 2 ^ (4 * k) % 16) 0]) → wm m D (f_X9_putHex_L5 f (some m) (nI n) 1 (nI (4 * k) + (-4))) M' P) → wm m D (f_X9_putHex_30 (f_X9_putHex_L5 f) (some m) (nI n) (nI (4 * k)) (nI (n / 2 ^ (4 * k) % 16))) M P := by
    intro k f M ys K hk h hl hP
    obtain ⟨h1, y, hy, h2⟩ := hxd_t (n / 2 ^ (4 * k) % 16) (by omega)
    rw [h2] at hP h1
    unfold f_X9_putHex_30 f_X9_putHex_35 f_X9_putHex_64
    refine wm_f (by decide) (wm_if (fun c => ?_) (fun c => ?_))
    · rw [if_pos c] at h1
      rw [h1]
      exact m_pt h hl (by omega) hP
    · rw [if_neg c] at h1
      rw [h1]
      exact m_pt h hl (by omega) hP
  intro k
  induction k with
  | zero =>
    intro f M ys bg hf hk hbg h hl hP
    obtain ⟨f, rfl⟩ : ∃ g, f = g + 1 := ⟨f - 1, by omega⟩
    rw [f_X9_putHex_L5]
    unfold f_X9_putHex_5
    rw [dv 0 (by omega)]
    have go : wm m D (f_X9_putHex_30 (f_X9_putHex_L5 f) (some m) (nI n) (nI (4 * 0)) (nI (n / 2 ^ (4 * 0) % 16))) M P := by
      refine dig 0 f M ys (fun _ => True) (by omega) h (by omega) (fun M' E W => ?_)
      obtain ⟨f, rfl⟩ : ∃ g, f = g + 1 := ⟨f - 1, by omega⟩
      rw [f_X9_putHex_L5]
      unfold f_X9_putHex_5
      refine wm_t (by decide) (wm_p (hP M' E ?_))
      rw [Nat.mul_zero, Nat.pow_zero, Nat.div_one] at W
      exact W
    refine wm_f (by decide) (wm_bz (fun z => ?_) (fun z => go))
    exact wm_if (fun _ => go) (fun _ => wm_t rfl go)
  | succ k ih =>
    intro f M ys bg hf hk hbg h hl hP
    obtain ⟨f, rfl⟩ : ∃ g, f = g + 1 := ⟨f - 1, by omega⟩
    rw [f_X9_putHex_L5]
    unfold f_X9_putHex_5
    rw [dv (k + 1) (by omega)]
    have e4 : nI (4 * (k + 1)) + (-4) = nI (4 * k) := by
      rw [show (4 * (k + 1)) = 4 * k + 4 by omega, ← nI_add, Int32.add_assoc, show nI 4 + (-4) = 0 from rfl, Int32.add_zero]
    have d2 := dd (k + 1)
    rw [hexL] at hP
    have go : n / 2 ^ (4 * (k + 1)) ≠ 0 → wm m D (f_X9_putHex_30 (f_X9_putHex_L5 f) (some m) (nI n) (nI (4 * (k + 1))) (nI (n / 2 ^ (4 * (k + 1)) % 16))) M P := by
      intro hz
      rw [if_neg hz] at hP
      refine dig (k + 1) f M ys (fun _ => True) (by omega) h (by omega) (fun M1 E1 W1 => ?_)
      rw [e4]
      refine ih f M1 _ true (by omega) (by omega) ⟨fun _ => hz, fun _ => rfl⟩ W1 (by rw [List.length_append, List.length_singleton]; omega) (fun M2 E2 W2 => hP M2 (E1.trans E2) ?_)
      rw [List.append_assoc] at W2
      exact W2
    refine wm_f (nI_pos (by omega)) (wm_bz (fun z => ?_) (fun z => go ?_))
    · have hz0 : n / 2 ^ (4 * (k + 1 + 1)) = 0 := by
        rcases Nat.eq_zero_or_pos (n / 2 ^ (4 * (k + 1 + 1))) with y | y
        · exact y
        · have := hbg.mpr (by omega)
          rw [z] at this
          cases this
      refine wm_if (fun c => go (fun y => ?_)) (fun c => ?_)
      · rw [y] at c
        exact absurd c (by decide)
      · have nz : n / 2 ^ (4 * (k + 1)) = 0 := by
          have : ¬ 0 < n / 2 ^ (4 * (k + 1)) % 16 := fun y => c (nI_lt (a := 0) y (by omega))
          omega
        refine wm_f (nI_ne0 (by omega) (by omega)) ?_
        unfold f_X9_putHex_35
        refine wm_t rfl ?_
        rw [e4]
        rw [if_pos nz, List.nil_append] at hP
        exact ih f M ys false (by omega) (by omega) ⟨fun y => (by cases y), fun y => absurd nz y⟩ h (by omega) hP
    · have := hbg.mp z
      rw [d2] at this
      intro y
      rw [y] at this
      exact this rfl
theorem m_putHex {n : Nat} (hn : n < 65536) (h : Wt M ys) (hl : ys.length + 4 ≤ 400) (hP : ∀ M', Ex [18, 19] M M' → Wt M' (ys ++ hexL 3 n) → P () M') : wm m D (f_X9_putHex (some m) (nI n)) M P := by
  unfold f_X9_putHex
  refine m_putHexL hn 3 gF M ys false (by decide) (by omega) ⟨fun z => (by cases z), fun z => absurd ?_ z⟩ h (by omega) hP
  exact Nat.div_eq_of_lt (by omega)
end MW
