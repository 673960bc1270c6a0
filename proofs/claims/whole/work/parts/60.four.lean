/-! HOSTREADER: numbers of FOUR, decoding -/
theorem hx_tab : ∀ n, n < 127 → pHex (nI n) = -1 ∨ (pHex (nI n) = nI (pHex (nI n)).toNatClampNeg ∧ (pHex (nI n)).toNatClampNeg < 16) := by decide +kernel
def hxN (b : Int32) : Option Nat := if pHex b = -1 then none else some (pHex b).toNatClampNeg
theorem hx (b : Int32) : (pHex b = -1 ∧ hxN b = none) ∨ ∃ d, d < 16 ∧ pHex b = nI d ∧ hxN b = some d := by
  have key : pHex b = -1 ∨ (pHex b = nI (pHex b).toNatClampNeg ∧ (pHex b).toNatClampNeg < 16) := by
    by_cases h1 : b < 32
    · left
      unfold pHex
      rw [if_pos (Int32.lt_trans h1 (by decide)), if_pos (Int32.lt_trans h1 (by decide)), if_pos (Int32.lt_trans h1 (by decide))]
    · by_cases h2 : 126 < b
      · left
        unfold pHex
        have n1 : ∀ x : Int32, x ≤ 126 → ¬ b < x := fun x hx hb => absurd (Int32.lt_of_lt_of_le (Int32.lt_trans h2 hb) hx) (by exact Int32.lt_irrefl)
        rw [if_neg (n1 48 (by decide)), if_pos (Int32.lt_trans (by decide) h2), if_neg (n1 97 (by decide)), if_pos (Int32.lt_trans (by decide) h2), if_neg (n1 65 (by decide)), if_pos (Int32.lt_trans (by decide) h2)]
      · obtain ⟨n, -, h4, rfl⟩ := b_of h1 h2
        exact hx_tab n h4
  by_cases h : pHex b = -1
  · exact Or.inl ⟨h, by rw [hxN, if_pos h]⟩
  · rcases key with k | k
    · exact absurd k h
    · exact Or.inr ⟨_, k.2, k.1, by rw [hxN, if_neg h]⟩
/-- the number that m digits from place i on are, behind v -/
def numV (xs : List Int32) (base : Nat) : Nat → Nat → Nat → Option Nat
  | 0, _, v => some v
  | m + 1, i, v => match hxN (xs.getD i 0) with
    | none => none
    | some d => if d < base then numV xs base m (i + 1) (v * base + d) else none
def capV (C : Nat) : Option Nat → Int64
  | none => -1
  | some v => lN (min v C)
/-- the number that the part from a to b is -/
def numP (xs : List Int32) (a b : Nat) : Option Nat := if a < b then (if hexC xs a b then numV xs 16 (b - (a + 2)) (a + 2) 0 else if xs.getD a 0 = 48 then numV xs 8 (b - a) a 0 else numV xs 10 (b - a) a 0) else none
theorem cap_step {v base d C : Nat} (hb : 2 ≤ base) : (if C < min v C * base + d then C else min v C * base + d) = min (v * base + d) C := by
  by_cases h : v ≤ C
  · rw [Nat.min_eq_left h]
    split <;> omega
  · have h' : C ≤ v := by omega
    rw [Nat.min_eq_right h']
    have e1 : C * 2 ≤ C * base := Nat.mul_le_mul (Nat.le_refl _) hb
    have e2 : C * base ≤ v * base := Nat.mul_le_mul h' (Nat.le_refl _)
    split <;> omega
section NV
variable {σ : gS} {q nm : Nat} {xs : List Int32}
theorem sp_numVL {Q : Int64 → gS → Prop} {b base : Nat} (N : Nm σ q nm xs) (hb : b ≤ xs.length) (hb2 : 2 ≤ base) (hb16 : base ≤ 16) : ∀ (m i v f : Nat), i + m = b → m < f → Q (capV (2 ^ 32) (numV xs base m i v)) σ → wp (f_X4_numeralValue_L58 f (some q) (nI b) (nI base) (lN (min v (2 ^ 32))) (nI i)) σ Q := by
  have hl := N.2.2.2.2.2
  intro m
  induction m with
  | zero =>
    intro i v f hi hf hQ
    obtain ⟨f, rfl⟩ : ∃ g, f = g + 1 := ⟨f - 1, by omega⟩
    rw [f_X4_numeralValue_L58]
    unfold f_X4_numeralValue_58
    exact wp_t (nI_le (by omega) (by omega)) (wp_p hQ)
  | succ m ih =>
    intro i v f hi hf hQ
    obtain ⟨f, rfl⟩ : ∃ g, f = g + 1 := ⟨f - 1, by omega⟩
    rw [f_X4_numeralValue_L58]
    unfold f_X4_numeralValue_58 f_X4_numeralValue_90
    rw [numV] at hQ
    refine wp_f (nI_ge (by omega) (by omega)) (wp_b (wp_rR N.2.1 ?_))
    rw [N.2.2.1]
    refine wp_b (wp_nn N.2.2.2.1 (wp_b (N.at (by omega) (wp_b (sp_hexValue ?_)))))
    rcases hx (xs.getD i 0) with ⟨e1, e2⟩ | ⟨d, hd, e1, e2⟩
    · rw [e2] at hQ
      exact wp_t e1 (wp_p hQ)
    · rw [e2] at hQ
      rw [e1]
      refine wp_f ?_ ?_
      · have : ∀ d, d < 16 → ¬ nI d = -1 := by decide +kernel
        exact this d hd
      · dsimp only at hQ
        refine wp_if (fun c => ?_) (fun c => ?_)
        · have c := (nI_ltI (by omega) (by omega)).mp c
          rw [if_pos c] at hQ
          have hm : min v (2 ^ 32) * base ≤ 2 ^ 32 * 16 := Nat.mul_le_mul (Nat.min_le_right _ _) hb16
          have e3 : (if (4294967296 : Int64) < lN (min v (2 ^ 32)) * (nI base).toInt64 + (nI d).toInt64 then (4294967296 : Int64) else lN (min v (2 ^ 32)) * (nI base).toInt64 + (nI d).toInt64) = lN (min (v * base + d) (2 ^ 32)) := by
            rw [nI_l (by omega), nI_l (by omega), lN_mul, lN_add, ← cap_step hb2, show (4294967296 : Int64) = lN (2 ^ 32) from rfl]
            by_cases h : 2 ^ 32 < min v (2 ^ 32) * base + d
            · rw [if_pos h, if_pos ((pk_lLT (by omega) (by omega)).mpr h)]
            · rw [if_neg h, if_neg (fun z => h ((pk_lLT (by omega) (by omega)).mp z))]
          rw [e3, nI_1]
          exact ih (i + 1) _ f (by omega) (by omega) hQ
        · have c : ¬ d < base := fun z => c (nI_lt z (by omega))
          rw [if_neg c] at hQ
          exact wp_p hQ
theorem sp_numP {Q : Int64 → gS → Prop} {a b : Nat} (N : Nm σ q nm xs) (hab : a ≤ b) (hb : b ≤ xs.length) (hQ : Q (capV (2 ^ 32) (numP xs a b)) σ) : wp (f_X4_numeralValue (some q) (nI a) (nI b)) σ Q := by
  have hl := N.2.2.2.2.2
  unfold f_X4_numeralValue f_X4_numeralValue_51
  unfold numP at hQ
  refine wp_if (fun c => ?_) (fun c => ?_)
  · have c := (nI_ltI (by omega) (by omega)).mp c
    rw [if_pos c] at hQ
    refine wp_b (wp_nn N.2.1 (wp_b (sp_isHex N (by omega) (by omega) ?_)))
    cases hc : hexC xs a b with
    | true =>
      have h2 : a + 2 ≤ b := by
        unfold hexC at hc
        simp at hc
        exact hc.1
      rw [hc, if_pos rfl] at hQ
      refine wp_f (by decide) ?_
      rw [show nI a + 2 = nI (a + 2) from nI_add a 2]
      exact sp_numVL (base := 16) N hb (by omega) (by omega) (b - (a + 2)) (a + 2) 0 gF (by omega) (by show _ < 10000; omega) hQ
    | false =>
      rw [hc] at hQ
      refine wp_t rfl (wp_b (wp_rR N.2.1 ?_))
      rw [N.2.2.1]
      refine wp_b (wp_nn N.2.2.2.1 (wp_b (N.at (by omega) ?_)))
      refine wp_if (fun d => ?_) (fun d => ?_)
      · rw [if_neg (by decide), if_pos d] at hQ
        exact sp_numVL (base := 8) N hb (by omega) (by omega) (b - a) a 0 gF (by omega) (by show _ < 10000; omega) hQ
      · rw [if_neg (by decide), if_neg d] at hQ
        exact sp_numVL (base := 10) N hb (by omega) (by omega) (b - a) a 0 gF (by omega) (by show _ < 10000; omega) hQ
  · have c : ¬ a < b := fun z => c (nI_lt z (by omega))
    rw [if_neg c] at hQ
    exact wp_p hQ
theorem pEnd_le (xs : List Int32) : ∀ m i, i ≤ pEnd xs m i ∧ pEnd xs m i ≤ i + m
  | 0, i => by simp [pEnd]
  | m + 1, i => by
    have := pEnd_le xs m (i + 1)
    rw [pEnd]
    split <;> omega
/-- the bits of FOUR: j parts may still come, the next one from place a on, s what is before -/
def four (xs : List Int32) (e : Nat) : Nat → Nat → Nat → Option Nat
  | 0, _, _ => none
  | j + 1, a, s => match numP xs a (pEnd xs (e - a) a) with
    | none => none
    | some v => if pEnd xs (e - a) a = e then (if v < 2 ^ (8 * (j + 1)) then some (s + v) else none) else if v ≤ 255 then four xs e j (pEnd xs (e - a) a + 1) (s + v * 2 ^ (8 * j)) else none
theorem lg_ge0 {v : Nat} (h : v < 2 ^ 63) : 0 ≤ lg_cmp (lN v) 0 := by
  unfold lg_cmp
  by_cases h1 : lN v > 0
  · rw [if_pos h1]; decide
  · by_cases h2 : lN v = 0
    · rw [if_neg h1, if_pos h2]; decide
    · exfalso
      have h3 : ¬ 0 < v := fun z => h1 ((pk_lLT (a := 0) (by omega) h).mpr z)
      exact h2 (by rw [show v = 0 by omega]; rfl)
theorem lg_lt {v w : Nat} (h : v < 2 ^ 63) (hw : w < 2 ^ 63) : lg_cmp (lN v) (lN w) < 0 ↔ v < w := by
  unfold lg_cmp
  by_cases h1 : lN v > lN w
  · have := (pk_lLT hw h).mp h1
    rw [if_pos h1]
    exact ⟨fun z => absurd z (by decide), fun z => by omega⟩
  · have a1 : ¬ w < v := fun z => h1 ((pk_lLT hw h).mpr z)
    rw [if_neg h1]
    by_cases h2 : lN v = lN w
    · have := (pk_lEQ h hw).mp h2
      rw [if_pos h2]
      exact ⟨fun z => absurd z (by decide), fun z => by omega⟩
    · have : ¬ v = w := fun z => h2 (by rw [z])
      rw [if_neg h2]
      exact ⟨fun _ => by omega, fun _ => by decide⟩
theorem lg_le {v w : Nat} (h : v < 2 ^ 63) (hw : w < 2 ^ 63) : lg_cmp (lN v) (lN w) ≤ 0 ↔ v ≤ w := by
  unfold lg_cmp
  by_cases h1 : lN v > lN w
  · have := (pk_lLT hw h).mp h1
    rw [if_pos h1]
    exact ⟨fun z => absurd z (by decide), fun z => by omega⟩
  · have a1 : ¬ w < v := fun z => h1 ((pk_lLT hw h).mpr z)
    rw [if_neg h1]
    by_cases h2 : lN v = lN w
    · rw [if_pos h2]
      exact ⟨fun _ => by omega, fun _ => by decide⟩
    · rw [if_neg h2]
      exact ⟨fun _ => by omega, fun _ => by decide⟩
theorem sh_a : ∀ j, j < 4 → (1 : Int64) <<< ((8 * (4 - nI (3 - j))).toInt64 &&& 63) = lN (2 ^ (8 * (j + 1))) := by decide +kernel
theorem sh_b : ∀ j, j < 4 → ∀ v, v < 256 → lN v <<< ((8 * (3 - nI (3 - j))).toInt64 &&& 63) = lN (v * 2 ^ (8 * j)) := by decide +kernel
theorem sp_fourR {Q : Int32 → gS → Prop} {e h : Nat} (N : Nm σ q nm xs) (he : e ≤ xs.length) (hh : gkd σ h = 3) (hB : Bud σ 0) : ∀ (j a s f : Nat), j ≤ 4 → j < f → a ≤ e → (four xs e j a s = none → Q (-15) σ) → (∀ v σ', four xs e j a s = some v → HoTo (fun _ => False) σ σ' h 4 (fun j => if j = 0 then nI v else 0) (fourL 3 (nI v)) → Q 0 σ') → wp (f_X4_readFour_L8 f (some q) (nI e) (some h) (lN s) (nI a) (nI (4 - j))) σ Q := by
  have hl := N.2.2.2.2.2
  intro j
  induction j with
  | zero =>
    intro a s f hj hf ha h1 h2
    obtain ⟨f, rfl⟩ : ∃ g, f = g + 1 := ⟨f - 1, by omega⟩
    rw [f_X4_readFour_L8]
    unfold f_X4_readFour_8
    exact wp_t (by decide) (wp_p (h1 rfl))
  | succ j ih =>
    intro a s f hj hf ha h1 h2
    obtain ⟨f, rfl⟩ : ∃ g, f = g + 1 := ⟨f - 1, by omega⟩
    rw [f_X4_readFour_L8]
    unfold f_X4_readFour_8
    rw [show 4 - (j + 1) = 3 - j by omega]
    obtain ⟨p1, p2⟩ := pEnd_le xs (e - a) a
    have pe : a + (e - a) = e := by omega
    rw [four] at h1 h2
    refine wp_f (show ¬ nI 4 ≤ nI (3 - j) from nI_ge (by omega) (by omega)) (wp_b (wp_nn N.2.1 (wp_b ?_)))
    unfold f_X4_partEnd
    refine sp_pEnd N he (e - a) a gF (by omega) (by show _ < 10000; omega) ?_
    generalize pEnd xs (e - a) a = t at *
    refine wp_b (wp_nn N.2.1 (wp_b (sp_numP N p1 (by omega) ?_)))
    cases hv : numP xs a t with
    | none =>
      rw [hv] at h1
      exact wp_f (show ¬ 0 ≤ lg_cmp (-1) 0 by decide) (wp_p (h1 rfl))
    | some v =>
      rw [hv] at h1 h2
      dsimp only at h1 h2
      rw [show capV (2 ^ 32) (some v) = lN (min v (2 ^ 32)) from rfl]
      have hm : min v (2 ^ 32) ≤ 2 ^ 32 := Nat.min_le_right _ _
      refine wp_t (lg_ge0 (by omega)) ?_
      have hp : 2 ^ (8 * (j + 1)) ≤ 2 ^ 32 := Nat.pow_le_pow_right (by omega) (by omega)
      refine wp_if (fun c => ?_) (fun c => ?_)
      · have c := (nI_eq (by omega) (by omega)).mp c
        rw [if_pos c] at h1 h2
        rw [sh_a j (by omega)]
        refine wp_if (fun d => ?_) (fun d => ?_)
        · have d := (lg_lt (by omega) (by omega)).mp d
          have d' : v < 2 ^ (8 * (j + 1)) := by omega
          rw [if_pos d'] at h2
          rw [Nat.min_eq_left (by omega), lN_add, lN_i]
          exact wp_b (wp_nn hh (wp_b (sp_setFour N.1 hh id id id hB (fun σ' h' => wp_p (h2 _ σ' rfl h')))))
        · have d : ¬ min v (2 ^ 32) < 2 ^ (8 * (j + 1)) := fun z => d ((lg_lt (by omega) (by omega)).mpr z)
          rw [if_neg (by omega)] at h1
          exact wp_p (h1 rfl)
      · have c : ¬ t = e := fun z => c (by rw [z])
        rw [if_neg c] at h1 h2
        rw [show (255 : Int64) = lN 255 from rfl]
        refine wp_if (fun d => ?_) (fun d => ?_)
        · have d := (lg_le (by omega) (by omega)).mp d
          have d' : v ≤ 255 := by omega
          rw [if_pos d'] at h1 h2
          rw [Nat.min_eq_left (by omega), sh_b j (by omega) v (by omega), lN_add, nI_1, nI_1, show 3 - j + 1 = 4 - j by omega]
          exact ih (t + 1) _ f (by omega) (by omega) (by omega) h1 h2
        · have d : ¬ min v (2 ^ 32) ≤ 255 := fun z => d ((lg_le (by omega) (by omega)).mpr z)
          rw [if_neg (by omega)] at h1
          exact wp_p (h1 rfl)
theorem sp_readFour {Q : Int32 → gS → Prop} {e h : Nat} (N : Nm σ q nm xs) (he : e ≤ xs.length) (hh : gkd σ h = 3) (hB : Bud σ 0) (h1 : four xs e 4 0 0 = none → Q (-15) σ) (h2 : ∀ v σ', four xs e 4 0 0 = some v → HoTo (fun _ => False) σ σ' h 4 (fun j => if j = 0 then nI v else 0) (fourL 3 (nI v)) → Q 0 σ') : wp (f_X4_readFour (some q) (nI e) (some h)) σ Q := by
  unfold f_X4_readFour
  exact sp_fourR N he hh hB 4 0 0 gF (by omega) (by show 4 < 10000; omega) (Nat.zero_le _) h1 h2
end NV
/-- a byte at i that is coded as % and two digits -/
def cod (xs : List Int32) (b i : Nat) : Option Nat := if i + 2 < b ∧ xs.getD i 0 = 37 then (match hxN (xs.getD (i + 1) 0), hxN (xs.getD (i + 2) 0) with
  | some h, some l => some (16 * h + l)
  | _, _ => none) else none
def dec (xs : List Int32) (b : Nat) : Nat → Nat → List Int32
  | 0, _ => []
  | f + 1, i => if b ≤ i then [] else match cod xs b i with
    | some c => pLow (nI c) :: dec xs b f (i + 3)
    | none => pLow (xs.getD i 0) :: dec xs b f (i + 1)
theorem dec_len (xs : List Int32) (b : Nat) : ∀ f i, (dec xs b f i).length ≤ b - i
  | 0, i => Nat.zero_le _
  | f + 1, i => by
    rw [dec]
    by_cases h : b ≤ i
    · rw [if_pos h]; exact Nat.zero_le _
    · rw [if_neg h]
      have e1 := dec_len xs b f (i + 1)
      have e3 := dec_len xs b f (i + 3)
      split
      · simp only [List.length_cons]
        omega
      · simp only [List.length_cons]
        omega
theorem sp_decodeL {q nm r b : Nat} {xs : List Int32} {Q : Unit → gS → Prop} (hne : r ≠ nm) (hb : b ≤ xs.length) (hl : xs.length ≤ 4096) : ∀ (f i : Nat) (σ : gS), b - i < f → i ≤ b → WF σ → gkd σ q = 4 → grr σ 3 0 q = some nm → gkd σ nm = 5 → gkd σ r = 5 → rowL σ r = xs → (rowL σ nm).length + (b - i) ≤ 4096 → Bud σ 0 → (∀ σ', RowTo (fun _ => False) σ σ' nm (rowL σ nm ++ dec xs b f i) → Q () σ') → wp (f_X4_decode_L11 f (some q) (some r) (nI b) (nI i)) σ Q := by
  intro f
  induction f with
  | zero => intro i σ h; omega
  | succ f ih =>
    intro i σ hf hi hW kq eq kn kr er hlen hB hQ
    rw [f_X4_decode_L11]
    have e2 : nI i + 2 = nI (i + 2) := nI_add i 2
    have e3 : nI i + 3 = nI (i + 3) := nI_add i 3
    rw [dec] at hQ
    unfold f_X4_decode_11
    refine wp_if (fun c => ?_) (fun c => ?_)
    · have c := (nI_leI (by omega) (by omega)).mp c
      rw [if_pos c, List.append_nil] at hQ
      exact wp_p (hQ σ (RowTo.rf hW))
    · have c : ¬ b ≤ i := fun z => c (nI_le z (by omega))
      rw [if_neg c] at hQ
      rw [e2]
      -- one byte as it stands
      have plain : cod xs b i = none → wp (f_X4_decode_114 (f_X4_decode_L11 f) (some q) (some r) (nI b) (nI i)) σ Q := by
        intro hc
        rw [hc] at hQ
        dsimp only at hQ
        unfold f_X4_decode_114
        refine wp_b (wp_rR kq ?_)
        rw [eq]
        refine wp_b (wp_nn kr (wp_b (sp_byteAt hW kr id ?_)))
        rw [er, bAt_nI (by omega) (by omega)]
        refine wp_b (sp_low (wp_b (wp_nn kn (wp_b (sp_add hW kn id (by omega) hB (fun σ1 h1 => ?_))))))
        rw [nI_1]
        refine ih (i + 1) σ1 (by omega) (by omega) h1.1 (h1.kd kq) (by rw [h1.2.1.ref (c := 3) kq (by decide) (by simp)]; exact eq) (h1.kd kn) (h1.kd kr) (by rw [h1.oth hW kr id hne]; exact er) (by rw [h1.2.2.1, List.length_append]; simp only [List.length_cons, List.length_nil]; omega) (h1.bud hB) (fun σ' h' => hQ σ' ?_)
        have := h1.trans h'
        rw [h1.2.2.1, List.append_assoc, List.singleton_append] at this
        exact this
      have L65 : ∀ (o1 o2 : Option Nat) (v1 v2 : Int32), ((v1 = -1 ∧ o1 = none) ∨ ∃ d, d < 16 ∧ v1 = nI d ∧ o1 = some d) → ((v2 = -1 ∧ o2 = none) ∨ ∃ d, d < 16 ∧ v2 = nI d ∧ o2 = some d) → cod xs b i = (if xs.getD i 0 = 37 then (match o1, o2 with | some h, some l => some (16 * h + l) | _, _ => none) else none) → (o2 ≠ none → i + 2 < b) → wp (f_X4_decode_65 (f_X4_decode_L11 f) (some q) (some r) (nI b) (nI i) v1 v2) σ Q := by
        intro o1 o2 v1 v2 H1 H2 hc hlt
        have nm1 : ∀ d, d < 16 → ¬ nI d = -1 := by decide +kernel
        unfold f_X4_decode_65
        refine wp_b (wp_nn kr (wp_b (sp_byteAt hW kr id ?_)))
        rw [er, bAt_nI (by omega) (by omega)]
        refine wp_if (fun c37 => ?_) (fun c37 => ?_)
        · rw [if_pos c37] at hc
          rcases H1 with ⟨rfl, rfl⟩ | ⟨d1, hd1, rfl, rfl⟩
          · exact wp_t rfl (plain hc)
          · refine wp_f (nm1 d1 hd1) ?_
            rcases H2 with ⟨rfl, rfl⟩ | ⟨d2, hd2, rfl, rfl⟩
            · exact wp_t rfl (plain hc)
            · refine wp_f (nm1 d2 hd2) ?_
              have h3 := hlt (by simp)
              rw [hc] at hQ
              dsimp only at hQ
              refine wp_b (wp_rR kq ?_)
              rw [eq, show (16 : Int32) = nI 16 from rfl, pk_mul, nI_add]
              refine wp_b (sp_low (wp_b (wp_nn kn (wp_b (sp_add hW kn id (by omega) hB (fun σ1 h1 => ?_))))))
              rw [e3]
              refine ih (i + 3) σ1 (by omega) (by omega) h1.1 (h1.kd kq) (by rw [h1.2.1.ref (c := 3) kq (by decide) (by simp)]; exact eq) (h1.kd kn) (h1.kd kr) (by rw [h1.oth hW kr id hne]; exact er) (by rw [h1.2.2.1, List.length_append]; simp only [List.length_cons, List.length_nil]; omega) (h1.bud hB) (fun σ' h' => hQ σ' ?_)
              have := h1.trans h'
              rw [h1.2.2.1, List.append_assoc, List.singleton_append] at this
              exact this
        · rw [if_neg c37] at hc
          exact plain hc
      refine wp_if (fun d => ?_) (fun d => ?_)
      · have d := (nI_leI (by omega) (by omega)).mp d
        unfold f_X4_decode_40
        rw [e2]
        refine wp_t (nI_le d (by omega)) (L65 none none (-1) (-1) (Or.inl ⟨rfl, rfl⟩) (Or.inl ⟨rfl, rfl⟩) ?_ (fun z => absurd rfl z))
        rw [cod, if_neg (fun z => by omega)]
        split <;> rfl
      · have d : ¬ b ≤ i + 2 := fun z => d (nI_le z (by omega))
        rw [nI_1]
        refine wp_b (wp_nn kr (wp_b (sp_byteAt hW kr id ?_)))
        rw [er, bAt_nI (by omega) (by omega)]
        refine wp_b (sp_hexValue ?_)
        unfold f_X4_decode_40
        rw [e2]
        refine wp_f (fun z => d ((nI_leI (by omega) (by omega)).mp z)) ?_
        refine wp_b (wp_nn kr (wp_b (sp_byteAt hW kr id ?_)))
        rw [er, bAt_nI (by omega) (by omega)]
        refine wp_b (sp_hexValue ?_)
        refine L65 (hxN (xs.getD (i + 1) 0)) (hxN (xs.getD (i + 2) 0)) _ _ (hx _) (hx _) ?_ (fun _ => by omega)
        rw [cod]
        by_cases e : xs.getD i 0 = 37
        · rw [if_pos ⟨by omega, e⟩, if_pos e]
        · rw [if_neg (fun z => e z.2), if_neg e]
theorem sp_decode {σ : gS} {q nm r a b : Nat} {xs : List Int32} {Q : Unit → gS → Prop} (hne : r ≠ nm) (hab : a ≤ b) (hb : b ≤ xs.length) (hl : xs.length ≤ 4096) (hW : WF σ) (kq : gkd σ q = 4) (eq : grr σ 3 0 q = some nm) (kn : gkd σ nm = 5) (kr : gkd σ r = 5) (er : rowL σ r = xs) (hB : Bud σ 0) (hQ : ∀ σ', RowTo (fun _ => False) σ σ' nm (dec xs b gF a) → Q () σ') : wp (f_X4_decode (some q) (some r) (nI a) (nI b)) σ Q := by
  unfold f_X4_decode
  refine wp_b (wp_rR kq ?_)
  rw [eq]
  refine wp_b (wp_nn kn (wp_b (sp_cutTo (k := 0) hW kn id (by omega) (fun σ1 h1 => ?_))))
  rw [List.take_zero] at h1
  refine sp_decodeL hne hb hl gF a σ1 (by show _ < 10000; omega) hab h1.1 (h1.kd kq) (by rw [h1.2.1.ref (c := 3) kq (by decide) (by simp)]; exact eq) (h1.kd kn) (h1.kd kr) (by rw [h1.oth hW kr id hne]; exact er) (by rw [h1.2.2.1]; simp only [List.length_nil]; omega) (h1.bud hB) (fun σ' h' => hQ σ' ?_)
  rw [h1.2.2.1, List.nil_append] at h'
  exact h1.trans h'
