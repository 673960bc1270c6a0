theorem b2i_t {b : Bool} (h : b = true) : b2i b = 1 := by rw [h]; rfl
theorem b2i_f {b : Bool} (h : b = false) : b2i b = 0 := by rw [h]; rfl
theorem sp_endsL {ex : Nat → Prop} {σ : gS} {r o d : Nat} {Q : Int32 → gS → Prop} (hW : WFx ex σ) (hr : gkd σ r = 5) (ho : gkd σ o = 5) (hx : ¬ ex r) (hxo : ¬ ex o) (hd : d + (rowL σ o).length = (rowL σ r).length) : ∀ (n i : Nat), (rowL σ o).length - i < n → i ≤ (rowL σ o).length → Q (b2i (decide ((rowL σ r).drop (d + i) = (rowL σ o).drop i))) σ → wp (f_X5_endsWith_L18 n (some r) (some o) (nI d) (nI i)) σ Q := by
  obtain ⟨-, -, o3, o4, o5, -⟩ := hW.row ho hxo
  obtain ⟨-, -, r3, r4, r5, -⟩ := hW.row hr hx
  have ol := rowL_len σ o
  have rl := rowL_len σ r
  intro n
  induction n with
  | zero => intro i h; omega
  | succ n ih =>
    intro i hn hi hQ
    show wp (f_X5_endsWith_18 (f_X5_endsWith_L18 n) (some r) (some o) (nI d) (nI i)) σ Q
    unfold f_X5_endsWith_18
    refine wp_b (wp_rI ho ?_)
    rw [o3, ← ol]
    refine wp_if (fun c => ?_) (fun c => ?_)
    · have c := (nI_leI (by omega) (by omega)).mp c
      rw [List.drop_eq_nil_of_le c, List.drop_eq_nil_of_le (by omega), b2i_t (by simp)] at hQ
      exact wp_z1 hQ
    · have c : i < (rowL σ o).length := Nat.not_le.mp (fun z => c (nI_le z (by omega)))
      rw [nI_add]
      refine wp_b (wp_nn hr (wp_b (sp_byteAt hW hr hx ?_)))
      refine wp_b (wp_nn ho (wp_b (sp_byteAt hW ho hxo ?_)))
      rw [bAt_nI c (by omega), bAt_nI (by omega) (by omega)]
      rw [getD_drop c, getD_drop (i := d + i) (by omega)] at hQ
      refine wp_if (fun e => ?_) (fun e => ?_)
      · rw [nI_1]
        refine ih (i + 1) (by omega) c ?_
        rw [e] at hQ
        simp only [List.cons.injEq, true_and] at hQ
        exact hQ
      · rw [b2i_f (by simp [List.getD_eq_getElem?_getD] at e ⊢; exact fun z => absurd z e)] at hQ
        exact wp_z0 hQ
theorem sp_endsWith {ex : Nat → Prop} {σ : gS} {r o : Nat} {Q : Int32 → gS → Prop} (hW : WFx ex σ) (hr : gkd σ r = 5) (ho : gkd σ o = 5) (hx : ¬ ex r) (hxo : ¬ ex o) (hQ : Q (b2i (decide (rowL σ o <:+ rowL σ r))) σ) : wp (f_X5_endsWith (some r) (some o)) σ Q := by
  obtain ⟨-, -, o3, o4, o5, -⟩ := hW.row ho hxo
  obtain ⟨-, -, r3, r4, r5, -⟩ := hW.row hr hx
  have ol := rowL_len σ o
  have rl := rowL_len σ r
  unfold f_X5_endsWith
  refine wp_b (wp_rI hr ?_)
  refine wp_b (wp_rI ho ?_)
  rw [r3, o3, ← ol, ← rl]
  refine wp_if (fun c => ?_) (fun c => ?_)
  · have c : (rowL σ o).length ≤ (rowL σ r).length := by
      rcases Nat.lt_or_ge (rowL σ r).length (rowL σ o).length with q | q
      · exact absurd (pk_sneg (by omega) q) (Int32.not_lt.mpr c)
      · exact q
    rw [pk_sub c]
    refine sp_endsL (d := (rowL σ r).length - (rowL σ o).length) hW hr ho hx hxo (by omega) gF 0 ?_ (Nat.zero_le _) ?_
    · show _ < 10000
      omega
    · have e : decide ((rowL σ r).drop ((rowL σ r).length - (rowL σ o).length + 0) = (rowL σ o).drop 0) = decide (rowL σ o <:+ rowL σ r) := by
        rw [decide_eq_decide, Nat.add_zero, List.drop_zero, List.suffix_iff_eq_drop]
        exact eq_comm
      rw [e]
      exact hQ
  · have c : (rowL σ r).length < (rowL σ o).length := by
      rcases Nat.lt_or_ge (rowL σ r).length (rowL σ o).length with q | q
      · exact q
      · rw [pk_sub q] at c
        exact absurd (nI_pos' (by omega)) c
    rw [b2i_f (by simp only [decide_eq_false_iff_not]; exact fun z => by have := z.length_le; omega)] at hQ
    exact wp_z0 hQ
theorem sp_equalsRow {ex : Nat → Prop} {σ : gS} {r o : Nat} {Q : Int32 → gS → Prop} (hW : WFx ex σ) (hr : gkd σ r = 5) (ho : gkd σ o = 5) (hx : ¬ ex r) (hxo : ¬ ex o) (hQ : Q (b2i (decide (rowL σ r = rowL σ o))) σ) : wp (f_X5_equalsRow (some r) (some o)) σ Q := by
  obtain ⟨-, -, o3, o4, o5, -⟩ := hW.row ho hxo
  obtain ⟨-, -, r3, r4, r5, -⟩ := hW.row hr hx
  have ol := rowL_len σ o
  have rl := rowL_len σ r
  unfold f_X5_equalsRow
  refine wp_b (wp_rI hr ?_)
  refine wp_b (wp_rI ho ?_)
  rw [r3, o3, ← ol, ← rl]
  refine wp_if (fun c => ?_) (fun c => ?_)
  · have c := (nI_eq (by omega) (by omega)).mp c
    refine wp_b (wp_nn hr (wp_b (sp_endsWith hW hr ho hx hxo ?_)))
    have e : (rowL σ o <:+ rowL σ r) ↔ rowL σ r = rowL σ o := ⟨fun h => (h.eq_of_length c.symm).symm, fun h => by rw [h]; exact List.suffix_refl _⟩
    by_cases h : rowL σ r = rowL σ o
    · rw [b2i_t (decide_eq_true (e.mpr h))]
      rw [b2i_t (decide_eq_true h)] at hQ
      exact wp_f (by decide) (wp_z1 hQ)
    · rw [b2i_f (decide_eq_false (fun z => h (e.mp z)))]
      rw [b2i_f (decide_eq_false h)] at hQ
      exact wp_t rfl (wp_z0 hQ)
  · rw [b2i_f (decide_eq_false (fun z => c (by rw [z])))] at hQ
    exact wp_z0 hQ
/-- a number in base 10, from the digit of 10^k on -/
def decL : Nat → Nat → List Int32
  | 0, n => [nI (48 + n % 10)]
  | k + 1, n => (if 10 ^ (k + 1) ≤ n then [nI (48 + n / 10 ^ (k + 1) % 10)] else []) ++ decL k n
theorem sp_decL {ex : Nat → Prop} {r n : Nat} {Q : Unit → gS → Prop} (hx : ¬ ex r) (hn : n < 2 ^ 30) : ∀ (k f : Nat) (σ : gS), k ≤ 4 → k + 1 < f → WFx ex σ → gkd σ r = 5 → (rowL σ r).length + (k + 1) ≤ 4096 → Bud σ 0 → (∀ σ', RowTo ex σ σ' r (rowL σ r ++ decL k n) → Q () σ') → wp (f_X5_addDecimal_L4 f (some r) (nI n) (nI (10 ^ k))) σ Q := by
  intro k
  induction k with
  | zero =>
    intro f σ hk hf hW hr hl hB hQ
    obtain ⟨f, rfl⟩ : ∃ g, f = g + 2 := ⟨f - 2, by omega⟩
    show wp (f_X5_addDecimal_4 (f_X5_addDecimal_L4 (f + 1)) (some r) (nI n) (nI 1)) σ Q
    unfold f_X5_addDecimal_4 f_X5_addDecimal_18 f_X5_addDecimal_31
    have add : wp (gb (nz (nI 1)) fun _ => gb (nz 10) fun _ => gb (nn 4 (some r)) fun _ => gb (f_X5_add (some r) (48 + ((nI n / nI 1) - (nI n / nI 1) / 10 * 10))) fun _ => gb (nz 10) fun _ => f_X5_addDecimal_L4 (f + 1) (some r) (nI n) (nI 1 / 10)) σ Q := by
      refine wp_b (wp_nz (by decide) (wp_b (wp_nz (by decide) (wp_b (wp_nn hr (wp_b ?_))))))
      rw [pk_div (by omega) (by omega) (by omega), Nat.div_one, show (10 : Int32) = nI 10 from rfl, pk_rem (by omega) (by omega) (by omega), show (48 : Int32) = nI 48 from rfl, nI_add]
      refine sp_add hW hr hx (by omega) hB (fun σ1 h1 => wp_b (wp_nz (by decide) ?_))
      rw [pk_div (by omega) (by omega) (by omega)]
      show wp (f_X5_addDecimal_4 (f_X5_addDecimal_L4 f) (some r) (nI n) (nI 0)) σ1 Q
      unfold f_X5_addDecimal_4
      exact wp_t (by decide) (wp_p (hQ σ1 h1))
    refine wp_f (by decide) ?_
    refine wp_if (fun _ => add) (fun _ => wp_t rfl add)
  | succ k ih =>
    intro f σ hk hf hW hr hl hB hQ
    obtain ⟨f, rfl⟩ : ∃ g, f = g + 1 := ⟨f - 1, by omega⟩
    have p1 : 10 ^ (k + 1) ≤ 10 ^ 4 := Nat.pow_le_pow_right (by omega) hk
    have p2 : 1 ≤ 10 ^ k := Nat.one_le_pow _ _ (by omega)
    have p3 : 10 ^ (k + 1) = 10 * 10 ^ k := by rw [Nat.pow_succ]; omega
    show wp (f_X5_addDecimal_4 (f_X5_addDecimal_L4 f) (some r) (nI n) (nI (10 ^ (k + 1)))) σ Q
    unfold f_X5_addDecimal_4 f_X5_addDecimal_18 f_X5_addDecimal_31
    rw [decL] at hQ
    refine wp_f (nI_nle (by omega) (by omega)) ?_
    refine wp_if (fun c => ?_) (fun c => ?_)
    · have c := (nI_leI (by omega) (by omega)).mp c
      rw [if_pos c] at hQ
      refine wp_b (wp_nz (nI_ne0 (by omega) (by omega)) (wp_b (wp_nz (by decide) (wp_b (wp_nn hr (wp_b ?_))))))
      rw [pk_div (by omega) (by omega) (by omega), show (10 : Int32) = nI 10 from rfl, pk_rem (Nat.lt_of_le_of_lt (Nat.div_le_self _ _) (by omega)) (by omega) (by omega), show (48 : Int32) = nI 48 from rfl, nI_add]
      refine sp_add hW hr hx (by omega) hB (fun σ1 h1 => wp_b (wp_nz (by decide) ?_))
      rw [pk_div (by omega) (by omega) (by omega), show 10 ^ (k + 1) / 10 = 10 ^ k by omega]
      refine ih f σ1 (by omega) (by omega) h1.1 (h1.kd hr) (by rw [h1.2.2.1, List.length_append]; simp only [List.length_cons, List.length_nil]; omega) (h1.bud hB) (fun σ' h' => hQ σ' ?_)
      have := h1.trans h'
      rw [h1.2.2.1, List.append_assoc] at this
      exact this
    · have c : ¬ 10 ^ (k + 1) ≤ n := fun z => c (nI_le z (by omega))
      rw [if_neg c, List.nil_append] at hQ
      refine wp_f (fun e => ?_) (wp_b (wp_nz (by decide) ?_))
      · have := (nI_eq (a := 10 ^ (k + 1)) (b := 1) (by omega) (by omega)).mp e
        omega
      · rw [show (10 : Int32) = nI 10 from rfl, pk_div (by omega) (by omega) (by omega), show 10 ^ (k + 1) / 10 = 10 ^ k by omega]
        exact ih f σ (by omega) (by omega) hW hr (by omega) hB hQ
theorem sp_addDecimal {ex : Nat → Prop} {σ : gS} {r n : Nat} {Q : Unit → gS → Prop} (hW : WFx ex σ) (hr : gkd σ r = 5) (hx : ¬ ex r) (hn : n < 2 ^ 30) (hl : (rowL σ r).length + 5 ≤ 4096) (hB : Bud σ 0) (hQ : ∀ σ', RowTo ex σ σ' r (rowL σ r ++ decL 4 n) → Q () σ') : wp (f_X5_addDecimal (some r) (nI n)) σ Q := by
  unfold f_X5_addDecimal
  exact sp_decL hx hn 4 gF σ (by omega) (by show 5 < 10000; omega) hW hr (by omega) hB hQ
theorem su : ∀ s, s < 32 → (((nI s).toUInt32 &&& Int32.toUInt32 31).toBitVec % 32).toNat = s := by decide +kernel
/-- a number in base 16, from the digit of 16^k on -/
def hexL : Nat → Nat → List Int32
  | 0, n => [(tstr 9).getD (n % 16) 0]
  | k + 1, n => (if n / 2 ^ (4 * (k + 1)) = 0 then [] else [(tstr 9).getD (n / 2 ^ (4 * (k + 1)) % 16) 0]) ++ hexL k n
theorem sp_hexL {ex : Nat → Prop} {r n : Nat} {Q : Unit → gS → Prop} (hx : ¬ ex r) (hn : n < 65536) : ∀ (k f : Nat) (σ : gS), k ≤ 3 → k + 1 < f → WFx ex σ → gkd σ r = 5 → (rowL σ r).length + (k + 1) ≤ 4096 → Bud σ 0 → (∀ σ', RowTo ex σ σ' r (rowL σ r ++ hexL k n) → Q () σ') → wp (f_X5_addHex_L3 f (some r) (nI n) (nI (4 * k))) σ Q := by
  have t9 : (tstr 9).length = 16 := rfl
  intro k
  induction k with
  | zero =>
    intro f σ hk hf hW hr hl hB hQ
    obtain ⟨f, rfl⟩ : ∃ g, f = g + 2 := ⟨f - 2, by omega⟩
    show wp (f_X5_addHex_3 (f_X5_addHex_L3 (f + 1)) (some r) (nI n) (nI 0)) σ Q
    unfold f_X5_addHex_3 f_X5_addHex_17
    rw [pk_ushrN (by omega) (nI 0) 0 (su 0 (by omega)), Nat.pow_zero, Nat.div_one, pk_andN (by omega) (m := 15) 4 (by decide)]
    have add : wp (gb (tk 9) fun _ => gb (f_J0_charAt_5068e 9 (nI (n % 2 ^ 4))) fun v1 => gb (nn 4 (some r)) fun _ => gb (f_X5_add (some r) v1) fun _ => f_X5_addHex_L3 (f + 1) (some r) (nI n) (nI 0 + (-4))) σ Q := by
      refine wp_b (wp_tk (by omega) (wp_b (sp_chr (by omega) (by omega) (wp_b (wp_nn hr (wp_b (sp_add hW hr hx (by omega) hB (fun σ1 h1 => ?_))))))))
      show wp (f_X5_addHex_3 (f_X5_addHex_L3 f) (some r) (nI n) (nI 0 + (-4))) σ1 Q
      unfold f_X5_addHex_3
      exact wp_t (by decide) (wp_p (hQ σ1 h1))
    refine wp_f (by decide) ?_
    exact wp_if (fun _ => wp_t rfl add) (fun _ => add)
  | succ k ih =>
    intro f σ hk hf hW hr hl hB hQ
    obtain ⟨f, rfl⟩ : ∃ g, f = g + 1 := ⟨f - 1, by omega⟩
    show wp (f_X5_addHex_3 (f_X5_addHex_L3 f) (some r) (nI n) (nI (4 * (k + 1)))) σ Q
    unfold f_X5_addHex_3 f_X5_addHex_17
    have e4 : nI (4 * (k + 1)) + (-4) = nI (4 * k) := by
      have : ∀ j, j < 4 → nI (4 * (j + 1)) + (-4) = nI (4 * j) := by decide +kernel
      exact this k (by omega)
    rw [pk_ushrN (by omega) (nI (4 * (k + 1))) (4 * (k + 1)) (su _ (by omega)), e4]
    rw [hexL] at hQ
    have hd : n / 2 ^ (4 * (k + 1)) ≤ n := Nat.div_le_self _ _
    refine wp_f (nI_pos (by omega)) ?_
    refine wp_if (fun c => ?_) (fun c => ?_)
    · have c := (nI_eq (a := n / 2 ^ (4 * (k + 1))) (b := 0) (by omega) (by omega)).mp c
      rw [if_pos c, List.nil_append] at hQ
      refine wp_f (fun e => ?_) (ih f σ (by omega) (by omega) hW hr (by omega) hB hQ)
      have := (nI_eq (a := 4 * (k + 1)) (b := 0) (by omega) (by omega)).mp e
      omega
    · have c : ¬ n / 2 ^ (4 * (k + 1)) = 0 := fun z => c (by rw [z]; rfl)
      rw [if_neg c] at hQ
      rw [pk_andN (by omega) (m := 15) 4 (by decide)]
      refine wp_b (wp_tk (by omega) (wp_b (sp_chr (by omega) (by omega) (wp_b (wp_nn hr (wp_b (sp_add hW hr hx (by omega) hB (fun σ1 h1 => ?_))))))))
      refine ih f σ1 (by omega) (by omega) h1.1 (h1.kd hr) (by rw [h1.2.2.1, List.length_append]; simp only [List.length_cons, List.length_nil]; omega) (h1.bud hB) (fun σ' h' => hQ σ' ?_)
      have := h1.trans h'
      rw [h1.2.2.1, List.append_assoc] at this
      exact this
theorem sp_addHex {ex : Nat → Prop} {σ : gS} {r n : Nat} {Q : Unit → gS → Prop} (hW : WFx ex σ) (hr : gkd σ r = 5) (hx : ¬ ex r) (hn : n < 65536) (hl : (rowL σ r).length + 4 ≤ 4096) (hB : Bud σ 0) (hQ : ∀ σ', RowTo ex σ σ' r (rowL σ r ++ hexL 3 n) → Q () σ') : wp (f_X5_addHex (some r) (nI n)) σ Q := by
  unfold f_X5_addHex
  exact sp_hexL hx hn 3 gF σ (by omega) (by show 4 < 10000; omega) hW hr (by omega) hB hQ
