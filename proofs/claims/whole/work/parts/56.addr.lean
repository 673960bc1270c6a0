/-! FIELDS AND ARRAYS THAT ARE NO ROW'S, ADDRESSES -/
theorem int_upd {ex : Nat → Prop} {σ : gS} {c k a : Nat} {v : Int32} (h : WFx ex σ) (hc : c ≠ 4) : WFx ex (gsI σ c k a v) ∧ Mod (fun t x y z => t = 1 ∧ x = c ∧ y = k ∧ z = a) σ (gsI σ c k a v) ∧ BK 0 σ (gsI σ c k a v) := by
  have e4 : ∀ k' x, gii (gsI σ c k a v) 4 k' x = gii σ 4 k' x := fun k' x => by rw [qI_ii, if_neg (fun q => hc q.1.symm)]
  have el : ∀ x, rlen (gsI σ c k a v) x = rlen σ x := fun x => by rw [rlen, rlen, e4]
  have er : ∀ x, rowL (gsI σ c k a v) x = rowL σ x := fun x => by unfold rowL; rw [el]; rfl
  obtain ⟨w1, w2, w3, w4, w5, w6, w7, w8, w9⟩ := h
  refine ⟨⟨w1, w2, w3, fun x hx hxx => ?_, w5, w6, w7, w8, w9⟩, ⟨fun _ _ => rfl, Nat.le_refl _, fun r _ hg => ⟨hg, fun _ => er r⟩, fun c' k' a' _ _ hX => ?_, fun _ _ _ _ _ _ => rfl, fun _ _ _ _ _ _ _ _ _ _ => ⟨rfl, fun _ _ => ⟨rfl, rfl⟩⟩⟩, fun n hn => Bud.same (σ := σ) (σ' := gsI σ c k a v) (fun _ => rfl) rfl rfl rfl hn⟩
  · rw [e4, el]
    exact w4 x hx hxx
  · rw [qI_ii, if_neg (fun q => hX ⟨rfl, q.1, q.2.1, q.2.2⟩)]
theorem arr_upd {ex : Nat → Prop} {σ : gS} {c k a b j : Nat} {v : Int32} (h : WFx ex σ) (ha : gkd σ a = c + 1) (hc : c ≠ 4) (hk : k < gnf c) (hf : grf c k = true) (hb : grr σ c k a = some b) : WFx ex (gsA σ b j v) ∧ Mod (fun t x y z => t = 3 ∧ x = c ∧ y = k ∧ z = a) σ (gsA σ b j v) ∧ BK 0 σ (gsA σ b j v) := by
  refine ⟨?_, ⟨fun _ _ => rfl, Nat.le_refl _, fun r hr hg => ⟨hg, fun _ => ?_⟩, fun _ _ _ _ _ _ => rfl, fun _ _ _ _ _ _ => rfl, fun c' k' a' b' hc' ha' hk' hf' _ hb' => ⟨rfl, fun hX i => ⟨?_, rfl⟩⟩⟩, fun n hn => Bud.same (σ := σ) (σ' := gsA σ b j v) (fun _ => rfl) rfl rfl rfl hn⟩
  · obtain ⟨w1, w2, w3, w4, w5, w6, w7, w8, w9⟩ := h
    exact ⟨w1, w2, w3, w4, w5, w6, w7, w8, w9⟩
  · unfold rowL
    apply List.map_congr_left
    intro i _
    show gai (gsA σ b j v) (tg σ 4 0 r) i = gai σ (tg σ 4 0 r) i
    rw [qA_ai, if_neg]
    intro q
    cases hgx : grr σ 4 0 r with
    | none => exact hg hgx
    | some b' =>
      rw [tg_of hgx] at q
      exact hc (h.own ha hk hf hb hr (by rw [hgx, q.1])).1
  · rw [qA_ai, if_neg]
    intro q
    obtain ⟨e1, e2, e3⟩ := h.2.2.1 a a' c c' k k' b ha ha' hk hk' hf hf' hb (by rw [hb', q.1])
    exact hX ⟨rfl, e1.symm, e2.symm, e3.symm⟩
section MD
variable {X : Nat → Nat → Nat → Nat → Prop} {σ σ' : gS}
theorem Mod.kd (h : Mod X σ σ') {a d : Nat} (ha : gkd σ a = d + 1) : gkd σ' a = d + 1 := (h.1 a (by rw [ha]; omega)).trans ha
theorem Mod.row (h : Mod X σ σ') {ex : Nat → Prop} (hW : WFx ex σ) {r : Nat} (hr : gkd σ r = 5) (hx : ¬ ex r) (hX : ¬ X 0 r 0 0) : rowL σ' r = rowL σ r := (h.2.2.1 r hr (by rw [(hW.row hr hx).1]; exact fun z => by cases z)).2 hX
theorem Mod.int (h : Mod X σ σ') {c k a : Nat} (ha : gkd σ a = c + 1) (hc : c ≠ 4) (hX : ¬ X 1 c k a) : gii σ' c k a = gii σ c k a := h.2.2.2.1 c k a hc ha hX
theorem Mod.ref (h : Mod X σ σ') {c k a : Nat} (ha : gkd σ a = c + 1) (hc : c ≠ 4) (hX : ¬ X 2 c k a) : grr σ' c k a = grr σ c k a := h.2.2.2.2.1 c k a hc ha (Or.inl hX)
theorem Mod.tgt (h : Mod X σ σ') {c k a : Nat} (ha : gkd σ a = c + 1) (hc : c ≠ 4) (hX : ¬ X 2 c k a) : tg σ' c k a = tg σ c k a := by rw [tg, tg, h.ref ha hc hX]
theorem Mod.arr (h : Mod X σ σ') {c k a b : Nat} (ha : gkd σ a = c + 1) (hc : c ≠ 4) (hk : k < gnf c) (hf : grf c k = true) (ht : 10 ≤ ftk c k) (hb : grr σ c k a = some b) (hX : ¬ X 3 c k a) (j : Nat) : gai σ' b j = gai σ b j := ((h.2.2.2.2.2 c k a b hc ha hk hf ht hb).2 hX j).1
/-- a field's object or array -/
theorem WFx.fld {ex : Nat → Prop} (h : WFx ex σ) {c k a : Nat} (ha : gkd σ a = c + 1) (hx : ¬ ex a) (hc : c < 9) (hk : k < gnf c) (hf : grf c k = true) : grr σ c k a = some (tg σ c k a) ∧ gkd σ (tg σ c k a) = ftk c k ∧ (fln c k ≠ 0 → gln σ (tg σ c k a) = fln c k) := by
  obtain ⟨b, h1, h2, h3⟩ := h.2.1 a c k ha hx hc hk hf
  rw [tg_of h1]
  exact ⟨h1, h2, h3⟩
/-- two fields' things are apart -/
theorem WFx.ne {ex : Nat → Prop} (h : WFx ex σ) {c k a c' k' a' : Nat} (ha : gkd σ a = c + 1) (hx : ¬ ex a) (hc : c < 9) (hk : k < gnf c) (hf : grf c k = true) (ha' : gkd σ a' = c' + 1) (hx' : ¬ ex a') (hc' : c' < 9) (hk' : k' < gnf c') (hf' : grf c' k' = true) (hne : ¬ (c = c' ∧ k = k' ∧ a = a')) : tg σ c k a ≠ tg σ c' k' a' := by
  intro e
  have h1 := (h.fld ha hx hc hk hf).1
  have h2 := (h.fld ha' hx' hc' hk' hf').1
  rw [← e] at h2
  exact hne (h.2.2.1 a a' c c' k k' _ ha ha' hk hk' hf hf' h1 h2)
end MD
theorem wp_ite {α β : Type} {c : Prop} [Decidable c] {f : α → gM β} {x y : α} {σ : gS} {Q : β → gS → Prop} (h : wp (f (if c then x else y)) σ Q) : wp (if c then f x else f y) σ Q := by
  by_cases hc : c
  · rw [if_pos hc] at h ⊢; exact h
  · rw [if_neg hc] at h ⊢; exact h
/-- an Address: its kind, its words -/
def aK (σ : gS) (a : Nat) : Int32 := gii σ 0 0 a
def aW (σ : gS) (a j : Nat) : Int32 := gai σ (tg σ 0 1 a) j
abbrev XA (a : Nat) : Nat → Nat → Nat → Nat → Prop := fun t x y z => (t = 1 ∧ x = 0 ∧ y = 0 ∧ z = a) ∨ (t = 3 ∧ x = 0 ∧ y = 1 ∧ z = a)
def AdTo (ex : Nat → Prop) (σ σ' : gS) (a : Nat) (kd : Int32) (w : Nat → Int32) : Prop := WFx ex σ' ∧ Mod (XA a) σ σ' ∧ aK σ' a = kd ∧ (∀ j, j < 4 → aW σ' a j = w j) ∧ BK 0 σ σ'
/-- the four words as setTo has them -/
def w4 (k a b c d : Int32) : Nat → Int32 := fun j => if j = 0 then (if k = 0 then 0 else a) else if j = 1 then (if k = 6 then b else 0) else if j = 2 then (if k = 6 then c else 0) else (if k = 6 then d else 0)
theorem sp_setTo {ex : Nat → Prop} {σ : gS} {a : Nat} {k x y z u : Int32} {Q : Unit → gS → Prop} (hW : WFx ex σ) (ha : gkd σ a = 1) (hx : ¬ ex a) (hQ : ∀ σ', AdTo ex σ σ' a k (w4 k x y z u) → Q () σ') : wp (f_X0_setTo (some a) k x y z u) σ Q := by
  obtain ⟨g1, g2, g3⟩ := hW.fld (c := 0) (k := 1) ha hx (by decide) (by decide) rfl
  have g3 : gln σ (tg σ 0 1 a) = 4 := g3 (by decide)
  generalize hb : tg σ 0 1 a = b at *
  unfold f_X0_setTo f_X0_setTo_19 f_X0_setTo_36 f_X0_setTo_54 f_X0_setTo_72
  refine wp_b (wp_wI ha ?_)
  obtain ⟨m1, m2, m3⟩ := int_upd (c := 0) (k := 0) (a := a) (v := k) hW (by decide)
  generalize hσ1 : gsI σ 0 0 a k = σ1 at *
  have a1 : gkd σ1 a = 1 := by rw [← hσ1]; exact ha
  have r1 : grr σ1 0 1 a = some b := by rw [← hσ1]; exact g1
  have k1 : gkd σ1 b = 11 := by rw [← hσ1]; exact g2
  have l1 : gln σ1 b = 4 := by rw [← hσ1]; exact g3
  refine wp_b (wp_rR a1 ?_)
  rw [r1]
  refine wp_ite (f := f_X0_setTo_19 (some a) k y z u (some b) 0) ?_
  unfold f_X0_setTo_19 f_X0_setTo_36 f_X0_setTo_54 f_X0_setTo_72
  refine wp_b (wp_sI (t := 1) (j := 0) k1 (by omega) (by omega) ?_)
  obtain ⟨n1, n2, n3⟩ := arr_upd (j := 0) (v := gnar 1 (if k = 0 then 0 else x)) m1 (c := 0) (k := 1) a1 (by decide) (by decide) rfl r1
  refine wp_b (wp_rR a1 ?_)
  rw [show grr (gsA σ1 b 0 (gnar 1 (if k = 0 then 0 else x))) 0 1 a = some b from r1]
  refine wp_ite (f := f_X0_setTo_36 (some a) k z u (some b) 1) ?_
  unfold f_X0_setTo_36 f_X0_setTo_54 f_X0_setTo_72
  refine wp_b (wp_sI (t := 1) (j := 1) k1 (by show _ < gln σ1 b; omega) (by show gln σ1 b < _; omega) ?_)
  obtain ⟨p1, p2, p3⟩ := arr_upd (j := 1) (v := gnar 1 (if k = 6 then y else 0)) n1 (c := 0) (k := 1) a1 (by decide) (by decide) rfl r1
  refine wp_b (wp_rR a1 ?_)
  rw [show grr (gsA (gsA σ1 b 0 (gnar 1 (if k = 0 then 0 else x))) b 1 (gnar 1 (if k = 6 then y else 0))) 0 1 a = some b from r1]
  refine wp_ite (f := f_X0_setTo_54 (some a) k u (some b) 2) ?_
  unfold f_X0_setTo_54 f_X0_setTo_72
  refine wp_b (wp_sI (t := 1) (j := 2) k1 (by show _ < gln σ1 b; omega) (by show gln σ1 b < _; omega) ?_)
  obtain ⟨q1, q2, q3⟩ := arr_upd (j := 2) (v := gnar 1 (if k = 6 then z else 0)) p1 (c := 0) (k := 1) a1 (by decide) (by decide) rfl r1
  refine wp_b (wp_rR a1 ?_)
  rw [show grr (gsA (gsA (gsA σ1 b 0 (gnar 1 (if k = 0 then 0 else x))) b 1 (gnar 1 (if k = 6 then y else 0))) b 2 (gnar 1 (if k = 6 then z else 0))) 0 1 a = some b from r1]
  refine wp_ite (f := f_X0_setTo_72 (some b) 3) ?_
  unfold f_X0_setTo_72
  refine wp_b (wp_sI (t := 1) (j := 3) k1 (by show _ < gln σ1 b; omega) (by show gln σ1 b < _; omega) ?_)
  obtain ⟨s1, s2, s3⟩ := arr_upd (j := 3) (v := gnar 1 (if k = 6 then u else 0)) q1 (c := 0) (k := 1) a1 (by decide) (by decide) rfl r1
  refine wp_p (hQ _ ⟨s1, ?_, ?_, ?_, ?_⟩)
  · have A1 := m2.mono (Y := XA a) (fun t x y z q => Or.inl q)
    have A2 := n2.mono (Y := XA a) (fun t x y z q => Or.inr q)
    have A3 := p2.mono (Y := XA a) (fun t x y z q => Or.inr q)
    have A4 := q2.mono (Y := XA a) (fun t x y z q => Or.inr q)
    have A5 := s2.mono (Y := XA a) (fun t x y z q => Or.inr q)
    exact (((A1.trans A2).trans A3).trans A4).trans A5
  · show gii σ1 0 0 a = k
    rw [← hσ1, qI_ii, if_pos ⟨rfl, rfl, rfl⟩]
  · intro j hj
    have e : tg σ1 0 1 a = b := tg_of r1
    show gai (gsA (gsA (gsA (gsA σ1 b 0 (gnar 1 (if k = 0 then 0 else x))) b 1 (gnar 1 (if k = 6 then y else 0))) b 2 (gnar 1 (if k = 6 then z else 0))) b 3 (gnar 1 (if k = 6 then u else 0))) (tg σ1 0 1 a) j = _
    rw [e]
    rcases (show j = 0 ∨ j = 1 ∨ j = 2 ∨ j = 3 by omega) with rfl | rfl | rfl | rfl <;> simp [qI_kd, qI_ii, qI_rr, qI_ln, qI_ai, qI_ar, qI_sz, qI_cl, qI_sl, qR_kd, qR_ii, qR_rr, qR_ln, qR_ai, qR_ar, qR_sz, qR_cl, qR_sl, qA_kd, qA_ii, qA_rr, qA_ln, qA_ai, qA_ar, qA_sz, qA_cl, qA_sl, qQ_kd, qQ_ii, qQ_rr, qQ_ln, qQ_ai, qQ_ar, qQ_sz, qQ_cl, qQ_sl, qN_kd, qN_ii, qN_rr, qN_ln, qN_ai, qN_ar, qN_sz, qN_cl, qN_sl, qC_kd, qC_ii, qC_rr, qC_ln, qC_ai, qC_ar, qC_sz, qC_cl, qC_sl, w4, gnar]
  · exact (((m3.trans n3).trans p3).trans q3).trans s3
theorem aW_rd {ex : Nat → Prop} {σ : gS} {a j : Nat} {Q : Int32 → gS → Prop} {β : Type} {K : Int32 → gM β} {P : β → gS → Prop} (hW : WFx ex σ) (ha : gkd σ a = 1) (hx : ¬ ex a) (hj : j < 4) (h : wp (K (aW σ a j)) σ P) : wp (gb (rR 0 1 (some a)) fun v => gb (aI 1 v (nI j)) K) σ P := by
  obtain ⟨g1, g2, g3⟩ := hW.fld (c := 0) (k := 1) ha hx (by decide) (by decide) rfl
  have g3 : gln σ (tg σ 0 1 a) = 4 := g3 (by decide)
  refine wp_b (wp_rR ha ?_)
  rw [g1]
  exact wp_b (wp_aI (t := 1) g2 (by omega) (by omega) h)
theorem w4_id {k : Int32} {w : Nat → Int32} (hk : k = 0 ∨ k = 4 ∨ k = 6) (h0 : k = 0 → w 0 = 0) (h1 : k ≠ 6 → w 1 = 0 ∧ w 2 = 0 ∧ w 3 = 0) : ∀ j, j < 4 → w4 k (w 0) (w 1) (w 2) (w 3) j = w j := by
  intro j hj
  rcases (show j = 0 ∨ j = 1 ∨ j = 2 ∨ j = 3 by omega) with rfl | rfl | rfl | rfl
  · by_cases e : k = 0
    · simp [w4, e, h0 e]
    · simp [w4, e]
  all_goals
    by_cases e : k = 6
    · simp [w4, e]
    · simp [w4, e, h1 e]
theorem sp_aTake {ex : Nat → Prop} {σ : gS} {a o : Nat} {Q : Unit → gS → Prop} (hW : WFx ex σ) (ha : gkd σ a = 1) (ho : gkd σ o = 1) (hx : ¬ ex a) (hxo : ¬ ex o) (hQ : ∀ σ', AdTo ex σ σ' a (aK σ o) (w4 (aK σ o) (aW σ o 0) (aW σ o 1) (aW σ o 2) (aW σ o 3)) → Q () σ') : wp (f_X0_take (some a) (some o)) σ Q := by
  unfold f_X0_take
  refine wp_b (wp_rI ho ?_)
  refine aW_rd (Q := fun _ _ => True) (j := 0) hW ho hxo (by omega) ?_
  refine aW_rd (Q := fun _ _ => True) (j := 1) hW ho hxo (by omega) ?_
  refine aW_rd (Q := fun _ _ => True) (j := 2) hW ho hxo (by omega) ?_
  refine aW_rd (Q := fun _ _ => True) (j := 3) hW ho hxo (by omega) ?_
  refine wp_b (wp_nn ha (wp_b (sp_setTo hW ha hx (fun σ' h => wp_p (hQ σ' h)))))
