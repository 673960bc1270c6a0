/-! ADDRESSES' NUMBERS, HOSTS -/
section AR
variable {ex : Nat → Prop} {σ σ' : gS} {X : Nat → Nat → Nat → Nat → Prop} {a r : Nat}
theorem Mod.aK (h : Mod X σ σ') (ha : gkd σ a = 1) (hX : ¬ X 1 0 0 a) : aK σ' a = aK σ a := h.int (c := 0) ha (by decide) hX
theorem Mod.aW (h : Mod X σ σ') (hW : WFx ex σ) (ha : gkd σ a = 1) (hx : ¬ ex a) (hX : ¬ X 3 0 1 a) (j : Nat) : aW σ' a j = aW σ a j := by
  have g1 := (hW.fld (c := 0) (k := 1) ha hx (by decide) (by decide) rfl).1
  have e : grr σ' 0 1 a = some (tg σ 0 1 a) := by rw [h.2.2.2.2.1 0 1 a (by decide) ha (Or.inr (by decide))]; exact g1
  have e2 : tg σ' 0 1 a = tg σ 0 1 a := tg_of e
  show gai σ' (tg σ' 0 1 a) j = gai σ (tg σ 0 1 a) j
  rw [e2]
  exact h.arr (c := 0) ha (by decide) (by decide) rfl (by decide) g1 hX j
end AR
/-- number i of an address of SIX -/
def num6 (w : Nat → Int32) (i : Nat) : Nat := if i % 2 = 0 then (w (i / 2)).toBitVec.toNat / 65536 else (w (i / 2)).toBitVec.toNat % 65536
theorem num6_lt (w : Nat → Int32) (i : Nat) : num6 w i < 65536 := by
  unfold num6
  have := (w (i / 2)).toBitVec.isLt
  split
  · exact Nat.div_lt_of_lt_mul (by omega)
  · omega
/-- number i of an Address -/
def numA (k : Int32) (w : Nat → Int32) (i : Nat) : Int32 := if k = 6 then nI (num6 w i) else if i = 0 then w 0 else 0
theorem sp_numberAt {ex : Nat → Prop} {σ : gS} {a i : Nat} {Q : Int32 → gS → Prop} (hW : WFx ex σ) (ha : gkd σ a = 1) (hx : ¬ ex a) (hi : i < 8) (hQ : Q (numA (aK σ a) (aW σ a) i) σ) : wp (f_X0_numberAt (some a) (nI i)) σ Q := by
  unfold f_X0_numberAt
  unfold numA at hQ
  refine wp_b (wp_rI ha ?_)
  refine wp_if (fun c => ?_) (fun c => ?_)
  · have c : aK σ a = 6 := c
    rw [if_pos c] at hQ
    refine wp_f (nI_pos (by omega)) (wp_f (show ¬ nI 8 ≤ nI i from nI_ge hi (by omega)) ?_)
    rw [pk_shrN (by omega) (1 &&& 31) 1 (by decide), show 2 ^ 1 = 2 from rfl]
    refine aW_rd (Q := fun _ _ => True) (j := i / 2) hW ha hx (by omega) ?_
    have e1 : nI i &&& 1 = nI (i % 2) := pk_andN (by omega) (m := 1) 1 (by decide)
    rw [e1]
    unfold f_X0_numberAt_39
    unfold num6 at hQ
    have hlt := (aW σ a (i / 2)).toBitVec.isLt
    refine wp_if (fun d => ?_) (fun d => ?_)
    · have d := (nI_eq (a := i % 2) (b := 0) (by omega) (by omega)).mp d
      rw [if_pos d] at hQ
      refine wp_p ?_
      rw [pk_and _ (m := 65535) 16 (by decide), pk_ushr _ (16 : Int32) 16 (by decide), Nat.mod_eq_of_lt (Nat.div_lt_of_lt_mul (by omega))]
      exact hQ
    · have d : ¬ i % 2 = 0 := fun z => d (by rw [z]; rfl)
      rw [if_neg d] at hQ
      refine wp_p ?_
      rw [pk_and _ (m := 65535) 16 (by decide), pk_ushr _ (0 : Int32) 0 (by decide), Nat.pow_zero, Nat.div_one]
      exact hQ
  · have c : ¬ aK σ a = 6 := c
    rw [if_neg c] at hQ
    unfold f_X0_numberAt_44
    refine wp_if (fun d => ?_) (fun d => ?_)
    · have d := (nI_eq (a := i) (b := 0) (by omega) (by omega)).mp d
      rw [if_pos d] at hQ
      exact aW_rd (Q := fun _ _ => True) (j := 0) hW ha hx (by omega) (wp_p hQ)
    · have d : ¬ i = 0 := fun z => d (by rw [z]; rfl)
      rw [if_neg d] at hQ
      exact wp_p hQ
/-- a Host's Address and row -/
theorem WFx.host {ex : Nat → Prop} {σ : gS} (hW : WFx ex σ) {h : Nat} (hh : gkd σ h = 3) (hx : ¬ ex h) : grr σ 2 0 h = some (tg σ 2 0 h) ∧ gkd σ (tg σ 2 0 h) = 1 ∧ grr σ 2 1 h = some (tg σ 2 1 h) ∧ gkd σ (tg σ 2 1 h) = 5 := by
  obtain ⟨a1, a2, -⟩ := hW.fld (c := 2) (k := 0) hh hx (by decide) (by decide) rfl
  obtain ⟨b1, b2, -⟩ := hW.fld (c := 2) (k := 1) hh hx (by decide) (by decide) rfl
  exact ⟨a1, a2, b1, b2⟩
abbrev XH (a r : Nat) : Nat → Nat → Nat → Nat → Prop := fun t x y z => XA a t x y z ∨ (t = 0 ∧ x = r)
def HoTo (ex : Nat → Prop) (σ σ' : gS) (h : Nat) (k : Int32) (w : Nat → Int32) (ys : List Int32) : Prop := WFx ex σ' ∧ Mod (XH (tg σ 2 0 h) (tg σ 2 1 h)) σ σ' ∧ aK σ' (tg σ 2 0 h) = k ∧ (∀ j, j < 4 → aW σ' (tg σ 2 0 h) j = w j) ∧ rowL σ' (tg σ 2 1 h) = ys ∧ BK 0 σ σ'
theorem sp_isName {ex : Nat → Prop} {σ : gS} {h : Nat} {Q : Int32 → gS → Prop} (hW : WFx ex σ) (hh : gkd σ h = 3) (hx : ¬ ex h) (hQ : Q (b2i (decide (aK σ (tg σ 2 0 h) = 0))) σ) : wp (f_X3_isName (some h)) σ Q := by
  obtain ⟨a1, a2, -, -⟩ := hW.host hh hx
  unfold f_X3_isName
  refine wp_b (wp_rR hh ?_)
  rw [a1]
  refine wp_b (wp_rI a2 ?_)
  refine wp_if (fun c => ?_) (fun c => ?_)
  · have c : aK σ (tg σ 2 0 h) = 0 := c
    rw [b2i_t (decide_eq_true c)] at hQ
    exact wp_z1 hQ
  · have c : ¬ aK σ (tg σ 2 0 h) = 0 := c
    rw [b2i_f (decide_eq_false c)] at hQ
    exact wp_z0 hQ
theorem sp_equalsHost {ex : Nat → Prop} {σ : gS} {h g : Nat} {Q : Int32 → gS → Prop} (hW : WFx ex σ) (hh : gkd σ h = 3) (hg : gkd σ g = 3) (hx : ¬ ex h) (hxg : ¬ ex g) (hxr : ¬ ex (tg σ 2 1 h)) (hxs : ¬ ex (tg σ 2 1 g)) (hQ : Q (b2i (decide (aK σ (tg σ 2 0 h) = aK σ (tg σ 2 0 g) ∧ rowL σ (tg σ 2 1 h) = rowL σ (tg σ 2 1 g)))) σ) : wp (f_X3_equalsHost (some h) (some g)) σ Q := by
  obtain ⟨a1, a2, a3, a4⟩ := hW.host hh hx
  obtain ⟨b1, b2, b3, b4⟩ := hW.host hg hxg
  unfold f_X3_equalsHost
  refine wp_b (wp_rR hh ?_)
  rw [a1]
  refine wp_b (wp_rI a2 ?_)
  refine wp_b (wp_rR hg ?_)
  rw [b1]
  refine wp_b (wp_rI b2 ?_)
  refine wp_if (fun c => ?_) (fun c => ?_)
  · refine wp_b (wp_rR hh ?_)
    rw [a3]
    refine wp_b (wp_rR hg ?_)
    rw [b3]
    refine wp_b (wp_nn a4 (wp_b (sp_equalsRow hW a4 b4 hxr hxs ?_)))
    by_cases d : rowL σ (tg σ 2 1 h) = rowL σ (tg σ 2 1 g)
    · rw [b2i_t (decide_eq_true d)]
      rw [b2i_t (decide_eq_true ⟨c, d⟩)] at hQ
      exact wp_f (by decide) (wp_z1 hQ)
    · rw [b2i_f (decide_eq_false d)]
      rw [b2i_f (decide_eq_false (fun z => d z.2))] at hQ
      exact wp_t rfl (wp_z0 hQ)
  · rw [b2i_f (decide_eq_false (fun z => c z.1))] at hQ
    exact wp_z0 hQ
/-- setName and take of a Host: its Address first, then its row -/
theorem HoTo.of {ex : Nat → Prop} {σ σ1 σ2 : gS} {h : Nat} {k : Int32} {w : Nat → Int32} {ys : List Int32} (hW : WFx ex σ) (hh : gkd σ h = 3) (hx : ¬ ex h) (hxa : ¬ ex (tg σ 2 0 h)) (h1 : AdTo ex σ σ1 (tg σ 2 0 h) k w) (h2 : RowTo ex σ1 σ2 (tg σ 2 1 h) ys) : HoTo ex σ σ2 h k w ys := by
  obtain ⟨a1, a2, a3, a4⟩ := hW.host hh hx
  refine ⟨h2.1, (h1.2.1.mono (fun _ _ _ _ q => Or.inl q)).trans (h2.2.1.mono (fun _ _ _ _ q => Or.inr ⟨q.1, q.2⟩)), ?_, fun j hj => ?_, h2.2.2.1, h1.2.2.2.2.trans h2.2.2.2⟩
  · rw [h2.2.1.aK (h1.2.1.kd a2) (fun q => absurd q.1 (by decide)), h1.2.2.1]
  · rw [h2.2.1.aW h1.1 (h1.2.1.kd a2) hxa (fun q => absurd q.1 (by decide)), h1.2.2.2.1 j hj]
theorem sp_setName {ex : Nat → Prop} {σ : gS} {h o : Nat} {Q : Unit → gS → Prop} (hW : WFx ex σ) (hh : gkd σ h = 3) (ho : gkd σ o = 5) (hx : ¬ ex h) (hxa : ¬ ex (tg σ 2 0 h)) (hxr : ¬ ex (tg σ 2 1 h)) (hxo : ¬ ex o) (hne : o ≠ tg σ 2 1 h) (hB : Bud σ 0) (hQ : ∀ σ', HoTo ex σ σ' h 0 (fun _ => 0) (rowL σ o) → Q () σ') : wp (f_X3_setName (some h) (some o)) σ Q := by
  obtain ⟨a1, a2, a3, a4⟩ := hW.host hh hx
  unfold f_X3_setName
  refine wp_b (wp_rR hh ?_)
  rw [a1]
  refine wp_b (wp_nn a2 (wp_b (sp_setTo hW a2 hxa (fun σ1 h1 => ?_))))
  have hh1 := h1.2.1.kd hh
  have e1 : grr σ1 2 1 h = some (tg σ 2 1 h) := by rw [h1.2.1.ref hh (by decide) (by simp)]; exact a3
  refine wp_b (wp_rR hh1 ?_)
  rw [e1]
  refine wp_b (wp_nn (h1.2.1.kd a4) (wp_b (sp_take h1.1 (h1.2.1.kd a4) (h1.2.1.kd ho) hxr hxo hne (h1.2.2.2.2 0 hB) (fun σ2 h2 => wp_p (hQ σ2 ?_)))))
  rw [h1.2.1.row hW ho hxo (by simp)] at h2
  have h1' : AdTo ex σ σ1 (tg σ 2 0 h) 0 (fun _ => 0) := ⟨h1.1, h1.2.1, h1.2.2.1, fun j hj => by rw [h1.2.2.2.1 j hj]; simp [w4], h1.2.2.2.2⟩
  exact HoTo.of hW hh hx hxa h1' h2
theorem sp_hTake {ex : Nat → Prop} {σ : gS} {h o : Nat} {Q : Unit → gS → Prop} (hW : WFx ex σ) (hh : gkd σ h = 3) (ho : gkd σ o = 3) (hx : ¬ ex h) (hxo : ¬ ex o) (hxa : ¬ ex (tg σ 2 0 h)) (hxr : ¬ ex (tg σ 2 1 h)) (hxb : ¬ ex (tg σ 2 0 o)) (hxs : ¬ ex (tg σ 2 1 o)) (hne : o ≠ h) (hB : Bud σ 0) (hQ : ∀ σ', HoTo ex σ σ' h (aK σ (tg σ 2 0 o)) (w4 (aK σ (tg σ 2 0 o)) (aW σ (tg σ 2 0 o) 0) (aW σ (tg σ 2 0 o) 1) (aW σ (tg σ 2 0 o) 2) (aW σ (tg σ 2 0 o) 3)) (rowL σ (tg σ 2 1 o)) → Q () σ') : wp (f_X3_take (some h) (some o)) σ Q := by
  obtain ⟨a1, a2, a3, a4⟩ := hW.host hh hx
  obtain ⟨b1, b2, b3, b4⟩ := hW.host ho hxo
  have hrs : tg σ 2 1 o ≠ tg σ 2 1 h := hW.ne (c := 2) (c' := 2) ho hxo (by decide) (by decide) rfl hh hx (by decide) (by decide) rfl (fun q => hne q.2.2)
  unfold f_X3_take
  refine wp_b (wp_rR hh ?_)
  rw [a1]
  refine wp_b (wp_rR ho ?_)
  rw [b1]
  refine wp_b (wp_nn a2 (wp_b (sp_aTake hW a2 b2 hxa hxb (fun σ1 h1 => ?_))))
  have e1 : grr σ1 2 1 h = some (tg σ 2 1 h) := by rw [h1.2.1.ref hh (by decide) (by simp)]; exact a3
  have e2 : grr σ1 2 1 o = some (tg σ 2 1 o) := by rw [h1.2.1.ref ho (by decide) (by simp)]; exact b3
  refine wp_b (wp_rR (h1.2.1.kd hh) ?_)
  rw [e1]
  refine wp_b (wp_rR (h1.2.1.kd ho) ?_)
  rw [e2]
  refine wp_b (wp_nn (h1.2.1.kd a4) (wp_b (sp_take h1.1 (h1.2.1.kd a4) (h1.2.1.kd b4) hxr hxs hrs (h1.2.2.2.2 0 hB) (fun σ2 h2 => wp_p (hQ σ2 ?_)))))
  rw [h1.2.1.row hW b4 hxs (by simp)] at h2
  exact HoTo.of hW hh hx hxa h1 h2
/-- an address of FOUR written -/
def byt4 (v : Int32) (j : Nat) : Nat := v.toBitVec.toNat / 2 ^ (8 * j) % 256
def fourL : Nat → Int32 → List Int32
  | 0, v => decL 4 (byt4 v 0)
  | j + 1, v => decL 4 (byt4 v (j + 1)) ++ [46] ++ fourL j v
theorem decL_len : ∀ (k n : Nat), (decL k n).length ≤ k + 1
  | 0, n => by simp [decL]
  | k + 1, n => by
    have := decL_len k n
    rw [decL, List.length_append]
    split
    · simp only [List.length_cons, List.length_nil]; omega
    · simp only [List.length_nil]; omega
theorem sp_fourL {ex : Nat → Prop} {h r : Nat} {v : Int32} {Q : Unit → gS → Prop} (hx : ¬ ex h) (hxr : ¬ ex r) : ∀ (j f : Nat) (σ : gS), j ≤ 3 → j + 1 < f → WFx ex σ → gkd σ h = 3 → grr σ 2 1 h = some r → gkd σ r = 5 → (rowL σ r).length + 6 * (j + 1) ≤ 4096 → Bud σ 0 → (∀ σ', RowTo ex σ σ' r (rowL σ r ++ fourL j v) → Q () σ') → wp (f_X3_setFour_L23 f (some h) v (nI (8 * j))) σ Q := by
  intro j
  induction j with
  | zero =>
    intro f σ hj hf hW hh hg hr hl hB hQ
    obtain ⟨f, rfl⟩ : ∃ g, f = g + 2 := ⟨f - 2, by omega⟩
    show wp (f_X3_setFour_23 (f_X3_setFour_L23 (f + 1)) (some h) v (nI 0)) σ Q
    unfold f_X3_setFour_23
    refine wp_f (by decide) (wp_b (wp_rR hh ?_))
    rw [hg, pk_and _ (m := 255) 8 (by decide), pk_ushr _ (nI 0) 0 (su 0 (by omega))]
    refine wp_b (wp_nn hr (wp_b (sp_addDecimal hW hr hxr (Nat.lt_of_lt_of_le (Nat.mod_lt _ (by decide)) (by decide)) (by omega) hB (fun σ1 h1 => ?_))))
    refine wp_t (by decide) ?_
    show wp (f_X3_setFour_23 (f_X3_setFour_L23 f) (some h) v (nI 0 + (-8))) σ1 Q
    unfold f_X3_setFour_23
    exact wp_t (by decide) (wp_p (hQ σ1 h1))
  | succ j ih =>
    intro f σ hj hf hW hh hg hr hl hB hQ
    obtain ⟨f, rfl⟩ : ∃ g, f = g + 1 := ⟨f - 1, by omega⟩
    show wp (f_X3_setFour_23 (f_X3_setFour_L23 f) (some h) v (nI (8 * (j + 1)))) σ Q
    unfold f_X3_setFour_23
    have e8 : nI (8 * (j + 1)) + (-8) = nI (8 * j) := by
      have : ∀ j, j < 4 → nI (8 * (j + 1)) + (-8) = nI (8 * j) := by decide +kernel
      exact this j (by omega)
    refine wp_f (nI_pos (by omega)) (wp_b (wp_rR hh ?_))
    rw [hg, pk_and _ (m := 255) 8 (by decide), pk_ushr _ (nI (8 * (j + 1))) (8 * (j + 1)) (su _ (by omega)), e8]
    refine wp_b (wp_nn hr (wp_b (sp_addDecimal hW hr hxr (Nat.lt_of_lt_of_le (Nat.mod_lt _ (by decide)) (by decide)) (by omega) hB (fun σ1 h1 => ?_))))
    refine wp_f (nI_nle (by omega) (by omega)) ?_
    have g1 : grr σ1 2 1 h = some r := by rw [h1.2.1.ref hh (by decide) (by simp)]; exact hg
    refine wp_b (wp_rR (h1.kd hh) ?_)
    rw [g1]
    have l1 := decL_len 4 (v.toBitVec.toNat / 2 ^ (8 * (j + 1)) % 2 ^ 8)
    refine wp_b (wp_nn (h1.kd hr) (wp_b (sp_add h1.1 (h1.kd hr) hxr (by rw [h1.2.2.1, List.length_append]; omega) (h1.bud hB) (fun σ2 h2 => ?_))))
    have g2 : grr σ2 2 1 h = some r := by rw [h2.2.1.ref (h1.kd hh) (by decide) (by simp)]; exact g1
    refine ih f σ2 (by omega) (by omega) h2.1 (h2.kd (h1.kd hh)) g2 (h2.kd (h1.kd hr)) (by rw [h2.2.2.1, h1.2.2.1]; simp only [List.length_append, List.length_cons, List.length_nil]; omega) (h2.bud (h1.bud hB)) (fun σ' h' => hQ σ' ?_)
    have := (h1.trans h2).trans h'
    rw [h2.2.2.1, h1.2.2.1] at this
    rw [fourL, byt4]
    simpa [List.append_assoc] using this
theorem sp_setFour {ex : Nat → Prop} {σ : gS} {h : Nat} {v : Int32} {Q : Unit → gS → Prop} (hW : WFx ex σ) (hh : gkd σ h = 3) (hx : ¬ ex h) (hxa : ¬ ex (tg σ 2 0 h)) (hxr : ¬ ex (tg σ 2 1 h)) (hB : Bud σ 0) (hQ : ∀ σ', HoTo ex σ σ' h 4 (fun j => if j = 0 then v else 0) (fourL 3 v) → Q () σ') : wp (f_X3_setFour (some h) v) σ Q := by
  obtain ⟨a1, a2, a3, a4⟩ := hW.host hh hx
  unfold f_X3_setFour
  refine wp_b (wp_rR hh ?_)
  rw [a1]
  refine wp_b (wp_nn a2 (wp_b (sp_setTo hW a2 hxa (fun σ1 h1 => ?_))))
  have e1 : grr σ1 2 1 h = some (tg σ 2 1 h) := by rw [h1.2.1.ref hh (by decide) (by simp)]; exact a3
  refine wp_b (wp_rR (h1.2.1.kd hh) ?_)
  rw [e1]
  refine wp_b (wp_nn (h1.2.1.kd a4) (wp_b (sp_cutTo (k := 0) h1.1 (h1.2.1.kd a4) hxr (by omega) (fun σ2 h2 => ?_))))
  rw [List.take_zero] at h2
  have e2 : grr σ2 2 1 h = some (tg σ 2 1 h) := by rw [h2.2.1.ref (h1.2.1.kd hh) (by decide) (by simp)]; exact e1
  refine sp_fourL hx hxr 3 gF σ2 (by omega) (by show 4 < 10000; omega) h2.1 (h2.kd (h1.2.1.kd hh)) e2 (h2.kd (h1.2.1.kd a4)) (by rw [h2.2.2.1]; simp only [List.length_nil]; omega) (h2.bud (h1.2.2.2.2 0 hB)) (fun σ' h' => hQ σ' ?_)
  rw [h2.2.2.1, List.nil_append] at h'
  have h1' : AdTo ex σ σ1 (tg σ 2 0 h) 4 (fun j => if j = 0 then v else 0) := ⟨h1.1, h1.2.1, h1.2.2.1, fun j hj => by rw [h1.2.2.2.1 j hj]; simp [w4], h1.2.2.2.2⟩
  exact HoTo.of hW hh hx hxa h1' (h2.trans h')
