/-! HOSTREADER: what it reads of its name -/
/-- HostReader q, its name the row nm, which holds xs -/
def Nm (σ : gS) (q nm : Nat) (xs : List Int32) : Prop := WF σ ∧ gkd σ q = 4 ∧ grr σ 3 0 q = some nm ∧ gkd σ nm = 5 ∧ rowL σ nm = xs ∧ xs.length ≤ 4096
theorem Nm.at {σ : gS} {q nm i : Nat} {xs : List Int32} {Q : Int32 → gS → Prop} (N : Nm σ q nm xs) (hi : i < xs.length) (hQ : Q (xs.getD i 0) σ) : wp (f_X5_byteAt (some nm) (nI i)) σ Q := by
  obtain ⟨hW, -, -, kn, e, hl⟩ := N
  refine sp_byteAt hW kn id ?_
  rw [e, bAt_nI hi (by omega)]
  exact hQ
theorem Nm.len {σ : gS} {q nm : Nat} {xs : List Int32} {Q : Int32 → gS → Prop} (N : Nm σ q nm xs) (hQ : Q (nI xs.length) σ) : wp (rI 4 1 (some nm)) σ Q := by
  obtain ⟨hW, -, -, kn, e, hl⟩ := N
  refine wp_rI kn ?_
  rw [(hW.row kn id).2.2.1, ← rowL_len, e]
  exact hQ
section NR
variable {σ : gS} {q nm : Nat} {xs : List Int32} {Q : Int32 → gS → Prop}
def wro (b : Int32) : Bool := decide (pWro b ≠ 0)
theorem sp_hasWrongL (N : Nm σ q nm xs) : ∀ (f i : Nat), xs.length - i < f → i ≤ xs.length → Q (b2i ((xs.drop i).any wro)) σ → wp (f_X4_hasWrongByte_L2 f (some q) (nI i)) σ Q := by
  have hl := N.2.2.2.2.2
  intro f
  induction f with
  | zero => intro i h; omega
  | succ f ih =>
    intro i hf hi hQ
    show wp (f_X4_hasWrongByte_2 (f_X4_hasWrongByte_L2 f) (some q) (nI i)) σ Q
    unfold f_X4_hasWrongByte_2
    refine wp_b (wp_rR N.2.1 ?_)
    rw [N.2.2.1]
    refine wp_b (N.len ?_)
    refine wp_if (fun c => ?_) (fun c => ?_)
    · have c := (nI_leI (by omega) (by omega)).mp c
      rw [List.drop_eq_nil_of_le c] at hQ
      exact wp_z0 hQ
    · have c : i < xs.length := Nat.not_le.mp (fun z => c (nI_le z (by omega)))
      refine wp_b (wp_rR N.2.1 ?_)
      rw [N.2.2.1]
      refine wp_b (wp_nn N.2.2.2.1 (wp_b (N.at c (wp_b (sp_isWrong ?_)))))
      rw [getD_drop c, List.any_cons] at hQ
      refine wp_if (fun d => ?_) (fun d => ?_)
      · rw [nI_1]
        refine ih (i + 1) (by omega) c ?_
        rw [show wro (xs.getD i 0) = false from decide_eq_false (fun z => z d), Bool.false_or] at hQ
        exact hQ
      · rw [show wro (xs.getD i 0) = true from decide_eq_true d, Bool.true_or] at hQ
        exact wp_z1 hQ
theorem sp_hasWrong (N : Nm σ q nm xs) (hQ : Q (b2i (xs.any wro)) σ) : wp (f_X4_hasWrongByte (some q)) σ Q := by
  have hl := N.2.2.2.2.2
  exact sp_hasWrongL N gF 0 (by show _ < 10000; omega) (Nat.zero_le _) hQ
/-- a part from place i on that begins with xn-- -/
def forC (xs : List Int32) : Nat → Nat → Bool
  | 0, _ => false
  | m + 1, i => ((decide (i = 0) || decide (xs.getD (i - 1) 0 = 46)) && hasS xs i (tstr 11)) || forC xs m (i + 1)
theorem sp_foreignL (N : Nm σ q nm xs) : ∀ (m i f : Nat), i + m = xs.length → m < f → Q (b2i (forC xs m i)) σ → wp (f_X4_hasForeignPart_L2 f (some q) (nI i)) σ Q := by
  have hl := N.2.2.2.2.2
  intro m
  induction m with
  | zero =>
    intro i f hi hf hQ
    obtain ⟨f, rfl⟩ : ∃ g, f = g + 1 := ⟨f - 1, by omega⟩
    show wp (f_X4_hasForeignPart_2 (f_X4_hasForeignPart_L2 f) (some q) (nI i)) σ Q
    unfold f_X4_hasForeignPart_2
    refine wp_b (wp_rR N.2.1 ?_)
    rw [N.2.2.1]
    exact wp_b (N.len (wp_t (nI_le (by omega) (by omega)) (wp_z0 hQ)))
  | succ m ih =>
    intro i f hi hf hQ
    obtain ⟨f, rfl⟩ : ∃ g, f = g + 1 := ⟨f - 1, by omega⟩
    show wp (f_X4_hasForeignPart_2 (f_X4_hasForeignPart_L2 f) (some q) (nI i)) σ Q
    have L32 : Q (b2i (hasS xs i (tstr 11) || forC xs m (i + 1))) σ → wp (f_X4_hasForeignPart_32 (f_X4_hasForeignPart_L2 f) (some q) (nI i)) σ Q := by
      intro hQ
      unfold f_X4_hasForeignPart_32
      refine wp_b (wp_rR N.2.1 ?_)
      rw [N.2.2.1]
      refine wp_b (wp_nn N.2.2.2.1 (wp_b (sp_hasAt N.1 N.2.2.2.1 id (by omega) ?_)))
      rw [N.2.2.2.2.1]
      cases hc : hasS xs i (tstr 11) with
      | true =>
        rw [hc, Bool.true_or] at hQ
        exact wp_f (by decide) (wp_z1 hQ)
      | false =>
        rw [hc, Bool.false_or] at hQ
        rw [nI_1]
        exact wp_t rfl (ih (i + 1) f (by omega) (by omega) hQ)
    unfold f_X4_hasForeignPart_2
    rw [forC] at hQ
    refine wp_b (wp_rR N.2.1 ?_)
    rw [N.2.2.1]
    refine wp_b (N.len (wp_f (nI_ge (by omega) (by omega)) ?_))
    refine wp_if (fun c => ?_) (fun c => ?_)
    · have c := (nI_eq (a := i) (b := 0) (by omega) (by omega)).mp c
      rw [decide_eq_true c, Bool.true_or, Bool.true_and] at hQ
      exact L32 hQ
    · have c : ¬ i = 0 := fun z => c (by rw [z]; rfl)
      rw [decide_eq_false c, Bool.false_or] at hQ
      refine wp_b (wp_rR N.2.1 ?_)
      rw [N.2.2.1, show nI i - 1 = nI (i - 1) from pk_sub (a := i) (b := 1) (by omega)]
      refine wp_b (wp_nn N.2.2.2.1 (wp_b (N.at (by omega) ?_)))
      refine wp_if (fun d => ?_) (fun d => ?_)
      · rw [decide_eq_true d, Bool.true_and] at hQ
        exact L32 hQ
      · rw [decide_eq_false d, Bool.false_and, Bool.false_or] at hQ
        rw [nI_1]
        exact ih (i + 1) f (by omega) (by omega) hQ
theorem sp_foreign (N : Nm σ q nm xs) (hQ : Q (b2i (forC xs xs.length 0)) σ) : wp (f_X4_hasForeignPart (some q)) σ Q := by
  have hl := N.2.2.2.2.2
  exact sp_foreignL N xs.length 0 gF (by omega) (by show _ < 10000; omega) hQ
/-- where the last part begins that ends at n -/
def lps (xs : List Int32) : Nat → Nat
  | 0 => 0
  | n + 1 => if xs.getD n 0 = 46 then n + 1 else lps xs n
theorem sp_lps (N : Nm σ q nm xs) : ∀ (n f : Nat), n ≤ xs.length → n < f → Q (nI (lps xs n)) σ → wp (f_X4_lastPartStart_L2 f (some q) (nI n)) σ Q := by
  have hl := N.2.2.2.2.2
  intro n
  induction n with
  | zero =>
    intro f hn hf hQ
    obtain ⟨f, rfl⟩ : ∃ g, f = g + 1 := ⟨f - 1, by omega⟩
    show wp (f_X4_lastPartStart_2 (f_X4_lastPartStart_L2 f) (some q) (nI 0)) σ Q
    unfold f_X4_lastPartStart_2
    exact wp_t (by decide) (wp_p hQ)
  | succ n ih =>
    intro f hn hf hQ
    obtain ⟨f, rfl⟩ : ∃ g, f = g + 1 := ⟨f - 1, by omega⟩
    show wp (f_X4_lastPartStart_2 (f_X4_lastPartStart_L2 f) (some q) (nI (n + 1))) σ Q
    unfold f_X4_lastPartStart_2
    refine wp_f (nI_nle (by omega) (by omega)) (wp_b (wp_rR N.2.1 ?_))
    rw [N.2.2.1, nI_pred]
    refine wp_b (wp_nn N.2.2.2.1 (wp_b (N.at (by omega) ?_)))
    rw [lps] at hQ
    refine wp_if (fun c => ?_) (fun c => ?_)
    · rw [if_pos c] at hQ
      exact wp_p hQ
    · rw [if_neg c] at hQ
      rw [pk_m1]
      exact ih f (by omega) (by omega) hQ
def hexC (xs : List Int32) (a b : Nat) : Bool := decide (a + 2 ≤ b) && hasS xs a (tstr 12)
theorem sp_isHex {a b : Nat} (N : Nm σ q nm xs) (ha : a < 2 ^ 30) (hb : b < 2 ^ 30) (hQ : Q (b2i (hexC xs a b)) σ) : wp (f_X4_isHex (some q) (nI a) (nI b)) σ Q := by
  unfold f_X4_isHex
  unfold hexC at hQ
  rw [show nI a + 2 = nI (a + 2) from nI_add a 2]
  refine wp_if (fun c => ?_) (fun c => ?_)
  · have c := (nI_ltI (by omega) (by omega)).mp c
    rw [decide_eq_false (by omega), Bool.false_and] at hQ
    exact wp_z0 hQ
  · have c : ¬ b < a + 2 := fun z => c (nI_lt z (by omega))
    rw [decide_eq_true (by omega), Bool.true_and] at hQ
    refine wp_b (wp_rR N.2.1 ?_)
    rw [N.2.2.1]
    refine wp_b (wp_nn N.2.2.2.1 (wp_b (sp_hasAt N.1 N.2.2.2.1 id (by omega) ?_)))
    rw [N.2.2.2.2.1]
    cases hc : hasS xs a (tstr 12) with
    | true => rw [hc] at hQ; exact wp_f (by decide) (wp_z1 hQ)
    | false => rw [hc] at hQ; exact wp_t rfl (wp_z0 hQ)
def digC (h : Bool) (b : Int32) : Bool := if h then decide (pHex b ≠ -1) else decide (pDig b ≠ 0)
/-- m digits from place i on -/
def digsC (xs : List Int32) (h : Bool) : Nat → Nat → Bool
  | 0, _ => true
  | m + 1, i => digC h (xs.getD i 0) && digsC xs h m (i + 1)
theorem sp_numL {a b : Nat} {h : Bool} (N : Nm σ q nm xs) (hab : a ≤ b) (hb : b ≤ xs.length) : ∀ (m i f : Nat), i + m = b → m < f → Q (b2i (digsC xs h m i && decide (a < b))) σ → wp (f_X4_isNumeral_L20 f (some q) (nI a) (nI b) (b2i h) (nI i)) σ Q := by
  have hl := N.2.2.2.2.2
  intro m
  induction m with
  | zero =>
    intro i f hi hf hQ
    obtain ⟨f, rfl⟩ : ∃ g, f = g + 1 := ⟨f - 1, by omega⟩
    show wp (f_X4_isNumeral_20 (f_X4_isNumeral_L20 f) (some q) (nI a) (nI b) (b2i h) (nI i)) σ Q
    unfold f_X4_isNumeral_20
    rw [digsC, Bool.true_and] at hQ
    refine wp_t (nI_le (by omega) (by omega)) ?_
    refine wp_if (fun c => ?_) (fun c => ?_)
    · have c := (nI_leI (by omega) (by omega)).mp c
      rw [decide_eq_false (by omega)] at hQ
      exact wp_z0 hQ
    · have c : ¬ b ≤ a := fun z => c (nI_le z (by omega))
      rw [decide_eq_true (by omega)] at hQ
      exact wp_z1 hQ
  | succ m ih =>
    intro i f hi hf hQ
    obtain ⟨f, rfl⟩ : ∃ g, f = g + 1 := ⟨f - 1, by omega⟩
    show wp (f_X4_isNumeral_20 (f_X4_isNumeral_L20 f) (some q) (nI a) (nI b) (b2i h) (nI i)) σ Q
    unfold f_X4_isNumeral_20
    rw [digsC] at hQ
    refine wp_f (nI_ge (by omega) (by omega)) (wp_b (wp_rR N.2.1 ?_))
    rw [N.2.2.1]
    refine wp_b (wp_nn N.2.2.2.1 (wp_b (N.at (by omega) ?_)))
    rw [nI_1]
    cases h with
    | false =>
      refine wp_t rfl (wp_b (sp_isDigit ?_))
      refine wp_if (fun c => ?_) (fun c => ?_)
      · rw [show digC false (xs.getD i 0) = false from decide_eq_false (fun z => z c), Bool.false_and, Bool.false_and] at hQ
        exact wp_z0 hQ
      · rw [show digC false (xs.getD i 0) = true from decide_eq_true c, Bool.true_and] at hQ
        exact ih (i + 1) f (by omega) (by omega) hQ
    | true =>
      refine wp_f (by decide) (wp_b (sp_hexValue ?_))
      refine wp_if (fun c => ?_) (fun c => ?_)
      · rw [show digC true (xs.getD i 0) = false from decide_eq_false (fun z => z c), Bool.false_and, Bool.false_and] at hQ
        exact wp_z0 hQ
      · rw [show digC true (xs.getD i 0) = true from decide_eq_true c, Bool.true_and] at hQ
        exact ih (i + 1) f (by omega) (by omega) hQ
/-- whether the part from a to b is a number -/
def numC (xs : List Int32) (a b : Nat) : Bool := if hexC xs a b then digsC xs true (b - (a + 2)) (a + 2) else (digsC xs false (b - a) a && decide (a < b))
theorem sp_isNumeral {a b : Nat} (N : Nm σ q nm xs) (hab : a ≤ b) (hb : b ≤ xs.length) (hQ : Q (b2i (numC xs a b)) σ) : wp (f_X4_isNumeral (some q) (nI a) (nI b)) σ Q := by
  have hl := N.2.2.2.2.2
  unfold f_X4_isNumeral
  unfold numC at hQ
  refine wp_b (wp_nn N.2.1 (wp_b (sp_isHex N (by omega) (by omega) ?_)))
  cases hc : hexC xs a b with
  | true =>
    have h2 : a + 2 ≤ b := by
      unfold hexC at hc
      simp at hc
      exact hc.1
    rw [hc, if_pos rfl] at hQ
    refine wp_f (by decide) ?_
    rw [show nI a + 2 = nI (a + 2) from nI_add a 2]
    refine sp_numL (h := true) N hab hb (b - (a + 2)) (a + 2) gF (by omega) (by show _ < 10000; omega) ?_
    rw [decide_eq_true (show a < b by omega), Bool.and_true]
    exact hQ
  | false =>
    rw [hc] at hQ
    refine wp_t rfl ?_
    exact sp_numL (h := false) N hab hb (b - a) a gF (by omega) (by show _ < 10000; omega) hQ
/-- where the part from i on ends, m places being left -/
def pEnd (xs : List Int32) : Nat → Nat → Nat
  | 0, i => i
  | m + 1, i => if xs.getD i 0 = 46 then i else pEnd xs m (i + 1)
theorem sp_pEnd {b : Nat} (N : Nm σ q nm xs) (hb : b ≤ xs.length) : ∀ (m i f : Nat), i + m = b → m < f → Q (nI (pEnd xs m i)) σ → wp (f_X4_partEnd_L2 f (some q) (nI b) (nI i)) σ Q := by
  have hl := N.2.2.2.2.2
  intro m
  induction m with
  | zero =>
    intro i f hi hf hQ
    obtain ⟨f, rfl⟩ : ∃ g, f = g + 1 := ⟨f - 1, by omega⟩
    show wp (f_X4_partEnd_2 (f_X4_partEnd_L2 f) (some q) (nI b) (nI i)) σ Q
    unfold f_X4_partEnd_2
    exact wp_t (nI_le (by omega) (by omega)) (wp_p hQ)
  | succ m ih =>
    intro i f hi hf hQ
    obtain ⟨f, rfl⟩ : ∃ g, f = g + 1 := ⟨f - 1, by omega⟩
    show wp (f_X4_partEnd_2 (f_X4_partEnd_L2 f) (some q) (nI b) (nI i)) σ Q
    unfold f_X4_partEnd_2
    rw [pEnd] at hQ
    refine wp_f (nI_ge (by omega) (by omega)) (wp_b (wp_rR N.2.1 ?_))
    rw [N.2.2.1]
    refine wp_b (wp_nn N.2.2.2.1 (wp_b (N.at (by omega) ?_)))
    refine wp_if (fun c => ?_) (fun c => ?_)
    · rw [if_pos c] at hQ
      exact wp_p hQ
    · rw [if_neg c] at hQ
      rw [nI_1]
      exact ih (i + 1) f (by omega) (by omega) hQ
end NR
