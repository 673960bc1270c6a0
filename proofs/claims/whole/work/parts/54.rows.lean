/-! ROWS: the longer operations -/
section RT
variable {ex : Nat → Prop} {σ σ1 σ2 : gS} {r o : Nat} {ys zs : List Int32}
theorem RowTo.kd (h : RowTo ex σ σ1 r ys) {a d : Nat} (ha : gkd σ a = d + 1) : gkd σ1 a = d + 1 := (h.2.1.1 a (by rw [ha]; omega)).trans ha
theorem RowTo.bud (h : RowTo ex σ σ1 r ys) {n : Nat} (hB : Bud σ n) : Bud σ1 n := h.2.2.2 n hB
theorem RowTo.oth (h : RowTo ex σ σ1 r ys) (hW : WFx ex σ) (ho : gkd σ o = 5) (hx : ¬ ex o) (hne : o ≠ r) : rowL σ1 o = rowL σ o := (h.2.1.2.2.1 o ho (by rw [(hW.row ho hx).1]; exact fun z => by cases z)).2 (fun z => hne z.2)
theorem RowTo.trans (h : RowTo ex σ σ1 r ys) (h2 : RowTo ex σ1 σ2 r zs) : RowTo ex σ σ2 r zs := ⟨h2.1, h.2.1.trans h2.2.1, h2.2.2.1, h.2.2.2.trans h2.2.2.2⟩
theorem RowTo.rf (h : WFx ex σ) : RowTo ex σ σ r (rowL σ r) := ⟨h, Mod.rf, rfl, BK.rf⟩
end RT
theorem getD_drop {xs : List Int32} {i : Nat} (h : i < xs.length) : xs.drop i = xs.getD i 0 :: xs.drop (i + 1) := by
  rw [List.getD_eq_getElem?_getD, List.getElem?_eq_getElem h]
  exact List.drop_eq_getElem_cons h
theorem sp_takeL {ex : Nat → Prop} {r o : Nat} {ys : List Int32} {Q : Unit → gS → Prop} (hx : ¬ ex r) (hxo : ¬ ex o) (hne : o ≠ r) (hy : ys.length ≤ 4096) : ∀ (n i : Nat) (σ : gS), ys.length - i < n → i ≤ ys.length → WFx ex σ → gkd σ r = 5 → gkd σ o = 5 → rowL σ o = ys → (rowL σ r).length + (ys.length - i) ≤ 4096 → Bud σ 0 → (∀ σ', RowTo ex σ σ' r (rowL σ r ++ ys.drop i) → Q () σ') → wp (f_X5_take_L12 n (some r) (some o) (nI ys.length) (nI i)) σ Q := by
  intro n
  induction n with
  | zero => intro i σ h; omega
  | succ n ih =>
    intro i σ hn hi hW hr ho hyo hl hB hQ
    show wp (f_X5_take_12 (f_X5_take_L12 n) (some r) (some o) (nI ys.length) (nI i)) σ Q
    unfold f_X5_take_12
    refine wp_if (fun c => ?_) (fun c => ?_)
    · have c := (nI_leI (by omega) (by omega)).mp c
      refine wp_p (hQ σ ?_)
      rw [List.drop_eq_nil_of_le c, List.append_nil]
      exact RowTo.rf hW
    · have c : i < ys.length := Nat.not_le.mp (fun z => c (nI_le z (by omega)))
      refine wp_b (wp_nn ho (wp_b (sp_byteAt hW ho hxo ?_)))
      rw [hyo, bAt_nI c (by omega)]
      refine wp_b (wp_nn hr (wp_b (sp_add hW hr hx (by omega) hB (fun σ1 h1 => ?_))))
      rw [nI_1]
      refine ih (i + 1) σ1 (by omega) c h1.1 (h1.kd hr) (h1.kd ho) (by rw [h1.oth hW ho hxo hne]; exact hyo) (by rw [h1.2.2.1, List.length_append]; simp only [List.length_cons, List.length_nil]; omega) (h1.bud hB) (fun σ' h' => hQ σ' ?_)
      have := h1.trans h'
      rw [h1.2.2.1, List.append_assoc, List.singleton_append, ← getD_drop c] at this
      exact this
theorem sp_take {ex : Nat → Prop} {σ : gS} {r o : Nat} {Q : Unit → gS → Prop} (hW : WFx ex σ) (hr : gkd σ r = 5) (ho : gkd σ o = 5) (hx : ¬ ex r) (hxo : ¬ ex o) (hne : o ≠ r) (hB : Bud σ 0) (hQ : ∀ σ', RowTo ex σ σ' r (rowL σ o) → Q () σ') : wp (f_X5_take (some r) (some o)) σ Q := by
  obtain ⟨g1, g2, g3, g4, g5, g6⟩ := hW.row ho hxo
  have hlen : (rowL σ o).length ≤ 4096 := by rw [rowL_len]; omega
  unfold f_X5_take
  refine wp_b (wp_rI ho ?_)
  rw [g3, ← rowL_len]
  refine wp_b (wp_wI hr ?_)
  obtain ⟨p1, p2, p3, p4⟩ := row_upd (σ' := gsI σ 4 1 r (nI 0)) (n := 0) hW hr hx (Nat.zero_le _) rfl rfl rfl rfl rfl rfl rfl (fun c k a hn => by simp [qI_kd, qI_ii, qI_rr, qI_ln, qI_ai, qI_ar, qI_sz, qI_cl, qI_sl, qR_kd, qR_ii, qR_rr, qR_ln, qR_ai, qR_ar, qR_sz, qR_cl, qR_sl, qA_kd, qA_ii, qA_rr, qA_ln, qA_ai, qA_ar, qA_sz, qA_cl, qA_sl, qQ_kd, qQ_ii, qQ_rr, qQ_ln, qQ_ai, qQ_ar, qQ_sz, qQ_cl, qQ_sl, qN_kd, qN_ii, qN_rr, qN_ln, qN_ai, qN_ar, qN_sz, qN_cl, qN_sl, qC_kd, qC_ii, qC_rr, qC_ln, qC_ai, qC_ar, qC_sz, qC_cl, qC_sl, hn]) (by simp [qI_kd, qI_ii, qI_rr, qI_ln, qI_ai, qI_ar, qI_sz, qI_cl, qI_sl, qR_kd, qR_ii, qR_rr, qR_ln, qR_ai, qR_ar, qR_sz, qR_cl, qR_sl, qA_kd, qA_ii, qA_rr, qA_ln, qA_ai, qA_ar, qA_sz, qA_cl, qA_sl, qQ_kd, qQ_ii, qQ_rr, qQ_ln, qQ_ai, qQ_ar, qQ_sz, qQ_cl, qQ_sl, qN_kd, qN_ii, qN_rr, qN_ln, qN_ai, qN_ar, qN_sz, qN_cl, qN_sl, qC_kd, qC_ii, qC_rr, qC_ln, qC_ai, qC_ar, qC_sz, qC_cl, qC_sl]) (fun x j hxb => rfl)
  have h0 : RowTo ex σ (gsI σ 4 1 r (nI 0)) r [] := ⟨p1, p2, p3, p4⟩
  have e0 : rowL (gsI σ 4 1 r (nI 0)) o = rowL σ o := h0.oth hW ho hxo hne
  refine sp_takeL (ys := rowL σ o) hx hxo hne hlen gF 0 (gsI σ 4 1 r (nI 0)) ?_ (Nat.zero_le _) p1 hr ho e0 (by rw [h0.2.2.1]; simp only [List.length_nil]; omega) (h0.bud hB) (fun σ' h' => hQ σ' ?_)
  · show _ < 10000
    omega
  · have := h0.trans h'
    rw [h0.2.2.1, List.nil_append, List.drop_zero] at this
    exact this
theorem sp_addRowL {ex : Nat → Prop} {r o : Nat} {ys : List Int32} {Q : Unit → gS → Prop} (hx : ¬ ex r) (hxo : ¬ ex o) (hne : o ≠ r) (hy : ys.length ≤ 4096) : ∀ (n i : Nat) (σ : gS), ys.length - i < n → i ≤ ys.length → WFx ex σ → gkd σ r = 5 → gkd σ o = 5 → rowL σ o = ys → (rowL σ r).length + (ys.length - i) ≤ 4096 → Bud σ 0 → (∀ σ', RowTo ex σ σ' r (rowL σ r ++ ys.drop i) → Q () σ') → wp (f_X5_addRow_L7 n (some r) (some o) (nI ys.length) (nI i)) σ Q := by
  intro n
  induction n with
  | zero => intro i σ h; omega
  | succ n ih =>
    intro i σ hn hi hW hr ho hyo hl hB hQ
    show wp (f_X5_addRow_7 (f_X5_addRow_L7 n) (some r) (some o) (nI ys.length) (nI i)) σ Q
    unfold f_X5_addRow_7
    refine wp_if (fun c => ?_) (fun c => ?_)
    · have c := (nI_leI (by omega) (by omega)).mp c
      refine wp_p (hQ σ ?_)
      rw [List.drop_eq_nil_of_le c, List.append_nil]
      exact RowTo.rf hW
    · have c : i < ys.length := Nat.not_le.mp (fun z => c (nI_le z (by omega)))
      refine wp_b (wp_nn ho (wp_b (sp_byteAt hW ho hxo ?_)))
      rw [hyo, bAt_nI c (by omega)]
      refine wp_b (wp_nn hr (wp_b (sp_add hW hr hx (by omega) hB (fun σ1 h1 => ?_))))
      rw [nI_1]
      refine ih (i + 1) σ1 (by omega) c h1.1 (h1.kd hr) (h1.kd ho) (by rw [h1.oth hW ho hxo hne]; exact hyo) (by rw [h1.2.2.1, List.length_append]; simp only [List.length_cons, List.length_nil]; omega) (h1.bud hB) (fun σ' h' => hQ σ' ?_)
      have := h1.trans h'
      rw [h1.2.2.1, List.append_assoc, List.singleton_append, ← getD_drop c] at this
      exact this
theorem sp_addRow {ex : Nat → Prop} {σ : gS} {r o : Nat} {Q : Unit → gS → Prop} (hW : WFx ex σ) (hr : gkd σ r = 5) (ho : gkd σ o = 5) (hx : ¬ ex r) (hxo : ¬ ex o) (hne : o ≠ r) (hl : (rowL σ r).length + (rowL σ o).length ≤ 4096) (hB : Bud σ 0) (hQ : ∀ σ', RowTo ex σ σ' r (rowL σ r ++ rowL σ o) → Q () σ') : wp (f_X5_addRow (some r) (some o)) σ Q := by
  obtain ⟨g1, g2, g3, g4, g5, g6⟩ := hW.row ho hxo
  unfold f_X5_addRow
  refine wp_b (wp_rI ho ?_)
  rw [g3, ← rowL_len]
  refine sp_addRowL (ys := rowL σ o) hx hxo hne (by omega) gF 0 σ ?_ (Nat.zero_le _) hW hr ho rfl (by omega) hB (fun σ' h' => hQ σ' ?_)
  · show _ < 10000
    omega
  · rw [List.drop_zero] at h'
    exact h'
theorem sp_addTextL {ex : Nat → Prop} {r t : Nat} {Q : Unit → gS → Prop} (hx : ¬ ex r) (ht : t < 24) : ∀ (n i : Nat) (σ : gS), (tstr t).length - i < n → i ≤ (tstr t).length → WFx ex σ → gkd σ r = 5 → (rowL σ r).length + ((tstr t).length - i) ≤ 4096 → Bud σ 0 → (∀ σ', RowTo ex σ σ' r (rowL σ r ++ (tstr t).drop i) → Q () σ') → wp (f_X5_addText_L2 n (some r) t (nI i)) σ Q := by
  obtain ⟨-, t2, -⟩ := tstr_ok t ht
  intro n
  induction n with
  | zero => intro i σ h; omega
  | succ n ih =>
    intro i σ hn hi hW hr hl hB hQ
    show wp (f_X5_addText_2 (f_X5_addText_L2 n) (some r) t (nI i)) σ Q
    unfold f_X5_addText_2
    refine wp_b (wp_tk ht (wp_b (sp_len ht ?_)))
    refine wp_if (fun c => ?_) (fun c => ?_)
    · have c := (nI_leI (by omega) (by omega)).mp c
      refine wp_p (hQ σ ?_)
      rw [List.drop_eq_nil_of_le c, List.append_nil]
      exact RowTo.rf hW
    · have c : i < (tstr t).length := Nat.not_le.mp (fun z => c (nI_le z (by omega)))
      refine wp_b (wp_tk ht (wp_b (sp_chr ht c ?_)))
      refine wp_b (wp_nn hr (wp_b (sp_add hW hr hx (by omega) hB (fun σ1 h1 => ?_))))
      rw [nI_1]
      refine ih (i + 1) σ1 (by omega) c h1.1 (h1.kd hr) (by rw [h1.2.2.1, List.length_append]; simp only [List.length_cons, List.length_nil]; omega) (h1.bud hB) (fun σ' h' => hQ σ' ?_)
      have := h1.trans h'
      rw [h1.2.2.1, List.append_assoc, List.singleton_append, ← getD_drop c] at this
      exact this
theorem sp_addText {ex : Nat → Prop} {σ : gS} {r t : Nat} {Q : Unit → gS → Prop} (hW : WFx ex σ) (hr : gkd σ r = 5) (hx : ¬ ex r) (ht : t < 24) (hl : (rowL σ r).length + (tstr t).length ≤ 4096) (hB : Bud σ 0) (hQ : ∀ σ', RowTo ex σ σ' r (rowL σ r ++ tstr t) → Q () σ') : wp (f_X5_addText (some r) t) σ Q := by
  obtain ⟨-, t2, -⟩ := tstr_ok t ht
  unfold f_X5_addText
  refine sp_addTextL hx ht gF 0 σ ?_ (Nat.zero_le _) hW hr (by omega) hB (fun σ' h' => hQ σ' ?_)
  · show _ < 10000
    omega
  · rw [List.drop_zero] at h'
    exact h'
/-- a byte, ESCAPED where its set (by its String's place) has it -/
def esc (b : Int32) (t : Nat) : List Int32 := if pEsc b t = 0 then [b] else [37, (tstr 7).getD (((b.toUInt32 >>> ((4 : Int32).toUInt32 &&& Int32.toUInt32 31)).toInt32) &&& 15).toNatClampNeg 0, (tstr 7).getD (b &&& 15).toNatClampNeg 0]
theorem sp_addEscaped {ex : Nat → Prop} {σ : gS} {r t : Nat} {b : Int32} {Q : Unit → gS → Prop} (hW : WFx ex σ) (hr : gkd σ r = 5) (hx : ¬ ex r) (ht : t < 24) (hl : (rowL σ r).length + 3 ≤ 4096) (hB : Bud σ 0) (hQ : ∀ σ', RowTo ex σ σ' r (rowL σ r ++ esc b t) → Q () σ') : wp (f_X5_addEscaped (some r) b t) σ Q := by
  unfold f_X5_addEscaped
  unfold esc at hQ
  refine wp_b (sp_isToEscape ht ?_)
  refine wp_if (fun c => ?_) (fun c => ?_)
  · rw [if_pos c] at hQ
    exact wp_b (wp_nn hr (wp_b (sp_add hW hr hx (by omega) hB (fun σ1 h1 => wp_p (hQ σ1 h1)))))
  · rw [if_neg c] at hQ
    obtain ⟨i1, hi1, e1⟩ := pk_andE (((b.toUInt32 >>> ((4 : Int32).toUInt32 &&& Int32.toUInt32 31)).toInt32)) (m := 15) 4 (by decide)
    obtain ⟨i2, hi2, e2⟩ := pk_andE b (m := 15) 4 (by decide)
    rw [e1, e2, nI_clamp (by omega), nI_clamp (by omega)] at hQ
    rw [e1, e2]
    have t7 : (tstr 7).length = 16 := rfl
    refine wp_b (wp_nn hr (wp_b (sp_add hW hr hx (by omega) hB (fun σ1 h1 => ?_))))
    refine wp_b (wp_tk (by omega) (wp_b (sp_chr (by omega) (by omega) ?_)))
    refine wp_b (wp_nn (h1.kd hr) (wp_b (sp_add h1.1 (h1.kd hr) hx (by rw [h1.2.2.1, List.length_append]; simp only [List.length_cons, List.length_nil]; omega) (h1.bud hB) (fun σ2 h2 => ?_))))
    refine wp_b (wp_tk (by omega) (wp_b (sp_chr (by omega) (by omega) ?_)))
    refine wp_b (wp_nn (h2.kd (h1.kd hr)) (wp_b (sp_add h2.1 (h2.kd (h1.kd hr)) hx (by rw [h2.2.2.1, h1.2.2.1]; simp only [List.length_append, List.length_cons, List.length_nil]; omega) (h2.bud (h1.bud hB)) (fun σ3 h3 => ?_))))
    refine wp_p (hQ σ3 ?_)
    have := (h1.trans h2).trans h3
    rw [h2.2.2.1, h1.2.2.1] at this
    simpa [List.append_assoc] using this
/-- whether a text stands in a row at place i (as Row.hasAt) -/
def hasS (xs : List Int32) (i : Nat) : List Int32 → Bool
  | [] => true
  | c :: cs => decide (bAt xs (nI i) = c) && hasS xs (i + 1) cs
def b2i (b : Bool) : Int32 := if b then 1 else 0
theorem sp_hasAtL {ex : Nat → Prop} {σ : gS} {r t j : Nat} {Q : Int32 → gS → Prop} (hW : WFx ex σ) (hr : gkd σ r = 5) (hx : ¬ ex r) (ht : t < 24) : ∀ (n i : Nat), (tstr t).length - i < n → i ≤ (tstr t).length → Q (b2i (hasS (rowL σ r) (j + i) ((tstr t).drop i))) σ → wp (f_X5_hasAt_L2 n (some r) (nI j) t (nI i)) σ Q := by
  obtain ⟨-, t2, -⟩ := tstr_ok t ht
  intro n
  induction n with
  | zero => intro i h; omega
  | succ n ih =>
    intro i hn hi hQ
    show wp (f_X5_hasAt_2 (f_X5_hasAt_L2 n) (some r) (nI j) t (nI i)) σ Q
    unfold f_X5_hasAt_2
    refine wp_b (wp_tk ht (wp_b (sp_len ht ?_)))
    refine wp_if (fun c => ?_) (fun c => ?_)
    · have c := (nI_leI (by omega) (by omega)).mp c
      rw [List.drop_eq_nil_of_le c] at hQ
      exact wp_z1 hQ
    · have c : i < (tstr t).length := Nat.not_le.mp (fun z => c (nI_le z (by omega)))
      rw [getD_drop c] at hQ
      refine wp_b (wp_nn hr (wp_b (sp_byteAt hW hr hx ?_)))
      refine wp_b (wp_tk ht (wp_b (sp_chr ht c ?_)))
      rw [nI_add]
      refine wp_if (fun d => ?_) (fun d => ?_)
      · rw [nI_1]
        refine ih (i + 1) (by omega) c ?_
        rw [hasS, d, decide_eq_true rfl, Bool.true_and] at hQ
        exact hQ
      · rw [hasS, decide_eq_false d, Bool.false_and] at hQ
        exact wp_z0 hQ
theorem sp_hasAt {ex : Nat → Prop} {σ : gS} {r t j : Nat} {Q : Int32 → gS → Prop} (hW : WFx ex σ) (hr : gkd σ r = 5) (hx : ¬ ex r) (ht : t < 24) (hQ : Q (b2i (hasS (rowL σ r) j (tstr t))) σ) : wp (f_X5_hasAt (some r) (nI j) t) σ Q := by
  obtain ⟨-, t2, -⟩ := tstr_ok t ht
  unfold f_X5_hasAt
  refine sp_hasAtL hW hr hx ht gF 0 ?_ (Nat.zero_le _) hQ
  show _ < 10000
  omega
