/-! A RECORD'S METHODS -/
section UM
variable {σ0 σ : gS} {u b : Nat} {U B : UV} {β : Type} {P : β → gS → Prop}
theorem UrTo.base (h0 : WF σ0) (hu : gkd σ0 u = 6) (T : UrTo σ0 σ u U) (hB : Ur σ0 b B) (hne : b ≠ u) : Ur σ b B := (hB.keep h0 hu hne T.2.1).1
theorem ur_op {K : Unit → gM β} {m : Option Nat → gM Unit} {k : Nat} {ys : List Int32} (h0 : WF σ0) (hu : gkd σ0 u = 6) (T : UrTo σ0 σ u U) (hk : ftk 5 k = 5) (hm : ∀ Q : Unit → gS → Prop, (∀ σ', RowTo (fun _ => False) σ σ' (tg σ 5 k u) ys → Q () σ') → wp (m (some (tg σ 5 k u))) σ Q) (hQ : ∀ σ', UrTo σ0 σ' u (vR U k ys) → wp (K ()) σ' P) : wp (gb (rR 5 k (some u)) fun v => gb (nn 4 v) fun _ => gb (m v) K) σ P :=
  T.2.2.1.rd T.1 hk (wp_b (wp_nn (T.1.urow T.2.2.1.1 hk).2 (wp_b (hm _ (fun σ' R => hQ σ' (T.trans h0 hu (UrTo.row T.1 T.2.2.1 hk R)))))))
theorem ur_cut {K : Unit → gM β} {k : Nat} (h0 : WF σ0) (hu : gkd σ0 u = 6) (T : UrTo σ0 σ u U) (hk : ftk 5 k = 5) (hQ : ∀ σ', UrTo σ0 σ' u (vR U k []) → wp (K ()) σ' P) : wp (gb (rR 5 k (some u)) fun v => gb (nn 4 v) fun _ => gb (f_X5_cutTo v 0) K) σ P :=
  ur_op (m := fun v => f_X5_cutTo v 0) h0 hu T hk (fun _ hR => sp_cutTo (k := 0) T.1 (T.1.urow T.2.2.1.1 hk).2 id (by omega) (fun σ' R => hR σ' (by rw [List.take_zero] at R; exact R))) hQ
theorem ur_wI {K : Unit → gM β} {k : Nat} {v : Int32} (h0 : WF σ0) (hu : gkd σ0 u = 6) (T : UrTo σ0 σ u U) (hQ : ∀ σ', UrTo σ0 σ' u (vI U k v) → wp (K ()) σ' P) : wp (gb (wI 5 k (some u) v) K) σ P := wp_b (wp_wI T.2.2.1.1 (hQ _ (T.trans h0 hu (UrTo.int T.1 T.2.2.1))))
theorem ur_wZ {K : Unit → gM β} {k : Nat} {v : Int32} (h0 : WF σ0) (hu : gkd σ0 u = 6) (T : UrTo σ0 σ u U) (hv : v = 0 ∨ v = 1) (hQ : ∀ σ', UrTo σ0 σ' u (vI U k v) → wp (K ()) σ' P) : wp (gb (wZ 5 k (some u) v) K) σ P := wp_b (wp_wZ T.2.2.1.1 hv (hQ _ (T.trans h0 hu (UrTo.int T.1 T.2.2.1))))
theorem ur_take {K : Unit → gM β} {k : Nat} (h0 : WF σ0) (hu : gkd σ0 u = 6) (T : UrTo σ0 σ u U) (hk : ftk 5 k = 5) (hB : Ur σ0 b B) (hne : b ≠ u) (hb : Bud σ0 0) (hQ : ∀ σ', UrTo σ0 σ' u (vR U k (uR B k)) → wp (K ()) σ' P) : wp (gb (rR 5 k (some u)) fun v => gb (rR 5 k (some b)) fun v2 => gb (nn 4 v) fun _ => gb (f_X5_take v v2) K) σ P := by
  have hB' := T.base h0 hu hB hne
  have kr := (T.1.urow T.2.2.1.1 hk).2
  refine T.2.2.1.rd T.1 hk (hB'.rd T.1 hk (wp_b (wp_nn kr (wp_b (sp_take T.1 kr (T.1.urow hB'.1 hk).2 id id (T.1.une T.2.2.1.1 hB'.1 hk hk (fun z => hne z.2)) (T.2.2.2 0 hb) (fun σ' R => hQ σ' ?_))))))
  rw [hB'.2.1 k hk] at R
  exact T.trans h0 hu (UrTo.row T.1 T.2.2.1 hk R)
/-- emptied, but for scheme and HOST -/
def emU (U : UV) : UV := vI (vR (vI (vR (vI (vR (vI (vR (vR U 2 []) 3 []) 5 (-1)) 6 []) 7 0) 8 []) 9 0) 10 []) 11 0
theorem sp_empty {Q : Unit → gS → Prop} (h0 : WF σ0) (hU : Ur σ0 u U) (hQ : ∀ σ', UrTo σ0 σ' u (emU U) → Q () σ') : wp (f_X6_empty (some u)) σ0 Q := by
  have hu := hU.1
  unfold f_X6_empty
  refine ur_cut h0 hu (UrTo.rf h0 hU) (by decide) (fun σ1 T => ?_)
  refine ur_cut h0 hu T (by decide) (fun σ2 T => ?_)
  refine ur_wI h0 hu T (fun σ3 T => ?_)
  refine ur_cut h0 hu T (by decide) (fun σ4 T => ?_)
  refine ur_wI h0 hu T (fun σ5 T => ?_)
  refine ur_cut h0 hu T (by decide) (fun σ6 T => ?_)
  refine ur_wZ h0 hu T (Or.inl rfl) (fun σ7 T => ?_)
  refine ur_cut h0 hu T (by decide) (fun σ8 T => ?_)
  exact ur_wZ h0 hu T (Or.inl rfl) (fun σ9 T => wp_p (hQ σ9 T))
/-- the scheme's String by its number -/
def sNo (a : Int32) : Nat := if a = 0 then 0 else if a = 1 then 1 else if a = 2 then 2 else if a = 3 then 3 else 4
def pOf (a : Int32) : Int32 := if a = 0 then 80 else if a = 1 then 80 else if a = 2 then 443 else if a = 3 then 443 else 21
theorem sNo_lt (a : Int32) : sNo a < 5 := by unfold sNo; repeat' (first | decide | split)
theorem sp_nameOf {a : Int32} {Q : Nat → gS → Prop} (hQ : Q (sNo a) σ) : wp (f_X6_nameOf a) σ Q := by
  unfold f_X6_nameOf
  unfold sNo at hQ
  repeat' (first | exact wp_z0 hQ | exact wp_z1 hQ | exact wp_p hQ | (refine wp_if (fun c => ?_) (fun c => ?_) <;> (first | rw [if_pos c] at hQ | rw [if_neg c] at hQ)))
theorem sp_portOf {a : Int32} {Q : Int32 → gS → Prop} (hQ : Q (pOf a) σ) : wp (f_X6_portOf a) σ Q := by
  unfold f_X6_portOf
  unfold pOf at hQ
  repeat' (first | exact wp_z0 hQ | exact wp_z1 hQ | exact wp_p hQ | (refine wp_if (fun c => ?_) (fun c => ?_) <;> (first | rw [if_pos c] at hQ | rw [if_neg c] at hQ)))
def scU (U : UV) (a : Int32) : UV := vR (vI U 0 a) 1 (tstr (sNo a))
theorem sp_setScheme {a : Int32} {Q : Unit → gS → Prop} (h0 : WF σ0) (hU : Ur σ0 u U) (hb : Bud σ0 0) (hQ : ∀ σ', UrTo σ0 σ' u (scU U a) → Q () σ') : wp (f_X6_setScheme (some u) a) σ0 Q := by
  have hu := hU.1
  have hs := sNo_lt a
  obtain ⟨-, t2, -⟩ := tstr_ok (sNo a) (by omega)
  unfold f_X6_setScheme
  refine ur_wI h0 hu (UrTo.rf h0 hU) (fun σ1 T => ?_)
  refine ur_cut h0 hu T (by decide) (fun σ2 T => ?_)
  have kr := (T.1.urow T.2.2.1.1 (k := 1) (by decide)).2
  refine T.2.2.1.rd T.1 (by decide) (wp_b (sp_nameOf (wp_b (wp_nn kr (wp_b ?_)))))
  have e : rowL σ2 (tg σ2 5 1 u) = [] := T.2.2.1.2.1 1 (by decide)
  refine sp_addText T.1 kr id (by omega) (by rw [e]; simp only [List.length_nil]; omega) (T.2.2.2 0 hb) (fun σ3 R => wp_p (hQ σ3 ?_))
  rw [e, List.nil_append] at R
  have T3 := T.trans h0 hu (UrTo.row T.1 T.2.2.1 (k := 1) (by decide) R)
  refine ⟨T3.1, T3.2.1, T3.2.2.1.congr (fun k hk => ?_) rfl (fun _ => rfl) rfl (fun _ _ => rfl), T3.2.2.2⟩
  simp only [scU, uR_R, uR_I]
  split <;> rfl
def tkA (U B : UV) : UV := vI (vH (vR (vR U 2 (uR B 2)) 3 (uR B 3)) (uK B) (uW B) (uR B 4)) 5 (uI B 5)
/-- kinds and words as Address has them -/
def okA (k : Int32) (w : Nat → Int32) : Prop := (k = 0 ∨ k = 4 ∨ k = 6) ∧ (k = 0 → w 0 = 0) ∧ (k ≠ 6 → w 1 = 0 ∧ w 2 = 0 ∧ w 3 = 0)
theorem sp_takeAuthority {Q : Unit → gS → Prop} (h0 : WF σ0) (hU : Ur σ0 u U) (hB : Ur σ0 b B) (hne : b ≠ u) (hK : okA (uK B) (uW B)) (hb : Bud σ0 0) (hQ : ∀ σ', UrTo σ0 σ' u (tkA U B) → Q () σ') : wp (f_X6_takeAuthority (some u) (some b)) σ0 Q := by
  have hu := hU.1
  unfold f_X6_takeAuthority
  refine ur_take h0 hu (UrTo.rf h0 hU) (by decide) hB hne hb (fun σ1 T => ?_)
  refine ur_take h0 hu T (by decide) hB hne hb (fun σ2 T => ?_)
  have hB2 := T.base h0 hu hB hne
  obtain ⟨g1, g2, g3, g4, g5, g6⟩ := T.1.uhost T.2.2.1.1
  obtain ⟨k1, k2, k3, k4, k5, k6⟩ := T.1.uhost hB2.1
  refine wp_b (wp_rR T.2.2.1.1 ?_)
  rw [g1]
  refine wp_b (wp_rR hB2.1 ?_)
  rw [k1]
  refine wp_b (wp_nn g2 (wp_b (sp_hTake T.1 g2 k2 id id id id id id (T.1.hne T.2.2.1.1 hB2.1 hne).1 (T.2.2.2 0 hb) (fun σ3 H => ?_))))
  have T3 := T.trans h0 hu (UrTo.host T.1 T.2.2.1 H)
  have hB3 := T3.base h0 hu hB hne
  refine hB3.ri ?_
  refine ur_wI h0 hu T3 (fun σ4 T4 => wp_p (hQ σ4 ⟨T4.1, T4.2.1, T4.2.2.1.congr (fun k hk => ?_) ?_ (fun _ => rfl) ?_ (fun j hj => ?_), T4.2.2.2⟩))
  · simp only [tkA, uR_I, uR_H, if_neg (rk hk).2.2]
  · simp only [tkA, uR_I, uR_H, if_pos]
    exact hB2.2.2.1.symm
  · simp only [tkA, uK_I, uK_H]
    exact hB2.2.2.2.2.1.symm
  · simp only [tkA, uW_I, uW_H]
    have e1 : aK σ2 (tg σ2 2 0 (hO σ2 b)) = uK B := hB2.2.2.2.2.1
    have e2 : ∀ j, j < 4 → aW σ2 (tg σ2 2 0 (hO σ2 b)) j = uW B j := hB2.2.2.2.2.2
    rw [e1, e2 0 (by omega), e2 1 (by omega), e2 2 (by omega), e2 3 (by omega)]
    exact (w4_id hK.1 hK.2.1 hK.2.2 j hj).symm
def tkP (U B : UV) : UV := vI (vR U 6 (uR B 6)) 7 (uI B 7)
theorem sp_takePath {Q : Unit → gS → Prop} (h0 : WF σ0) (hU : Ur σ0 u U) (hB : Ur σ0 b B) (hne : b ≠ u) (hb : Bud σ0 0) (hQ : ∀ σ', UrTo σ0 σ' u (tkP U B) → Q () σ') : wp (f_X6_takePath (some u) (some b)) σ0 Q := by
  have hu := hU.1
  unfold f_X6_takePath
  refine ur_take h0 hu (UrTo.rf h0 hU) (by decide) hB hne hb (fun σ1 T => ?_)
  exact (T.base h0 hu hB hne).ri (ur_wI h0 hu T (fun σ2 T => wp_p (hQ σ2 T)))
def tkQ (U B : UV) : UV := vI (vR U 8 (uR B 8)) 9 (uI B 9)
theorem sp_takeQuery {Q : Unit → gS → Prop} (h0 : WF σ0) (hU : Ur σ0 u U) (hB : Ur σ0 b B) (hne : b ≠ u) (hz : uI B 9 = 0 ∨ uI B 9 = 1) (hb : Bud σ0 0) (hQ : ∀ σ', UrTo σ0 σ' u (tkQ U B) → Q () σ') : wp (f_X6_takeQuery (some u) (some b)) σ0 Q := by
  have hu := hU.1
  unfold f_X6_takeQuery
  refine ur_take h0 hu (UrTo.rf h0 hU) (by decide) hB hne hb (fun σ1 T => ?_)
  exact (T.base h0 hu hB hne).ri (ur_wZ h0 hu T hz (fun σ2 T => wp_p (hQ σ2 T)))
def bgS (U : UV) : UV := vI (vR U 6 (uR U 6 ++ [47])) 7 (uI U 7 + 1)
theorem sp_beginSegment {Q : Unit → gS → Prop} (h0 : WF σ0) (hU : Ur σ0 u U) (hl : (uR U 6).length < 4096) (hb : Bud σ0 0) (hQ : ∀ σ', UrTo σ0 σ' u (bgS U) → Q () σ') : wp (f_X6_beginSegment (some u)) σ0 Q := by
  have hu := hU.1
  unfold f_X6_beginSegment
  refine ur_op (m := fun v => f_X5_add v 47) (ys := uR U 6 ++ [47]) h0 hu (UrTo.rf h0 hU) (by decide) (fun _ hR => sp_add h0 (h0.urow hu (by decide)).2 id (by rw [hU.2.1 6 (by decide)]; exact hl) hb (fun σ' R => hR σ' (by rw [hU.2.1 6 (by decide)] at R; exact R))) (fun σ1 T => ?_)
  refine T.2.2.1.ri (ur_wI h0 hu T (fun σ2 T => wp_p (hQ σ2 T)))
/-- where the last / is, from place n down -/
def drI (xs : List Int32) : Nat → Nat
  | 0 => 0
  | n + 1 => if xs.getD (n + 1) 0 = 47 then n + 1 else drI xs n
theorem drI_le (xs : List Int32) : ∀ n, drI xs n ≤ n
  | 0 => Nat.le_refl _
  | n + 1 => by
    have := drI_le xs n
    rw [drI]
    split <;> omega
def drS (U : UV) : UV := if uI U 7 = 0 then U else vI (vR U 6 ((uR U 6).take (drI (uR U 6) ((uR U 6).length - 1)))) 7 (uI U 7 - 1)
theorem sp_drop41 {Q : Unit → gS → Prop} {n : Nat} (h0 : WF σ0) (hU : Ur σ0 u U) (hn : n < 2 ^ 31) (hQ : ∀ σ', UrTo σ0 σ' u (vI (vR U 6 ((uR U 6).take n)) 7 (uI U 7 - 1)) → Q () σ') : wp (f_X6_dropSegment_41 (some u) (nI n)) σ0 Q := by
  have hu := hU.1
  unfold f_X6_dropSegment_41
  refine ur_op (m := fun v => f_X5_cutTo v (nI n)) (ys := (uR U 6).take n) h0 hu (UrTo.rf h0 hU) (by decide) (fun _ hR => sp_cutTo h0 (h0.urow hu (by decide)).2 id hn (fun σ' R => hR σ' (by rw [hU.2.1 6 (by decide)] at R; exact R))) (fun σ1 T => ?_)
  exact T.2.2.1.ri (ur_wI h0 hu T (fun σ2 T => wp_p (hQ σ2 T)))
theorem sp_dropL {Q : Unit → gS → Prop} (h0 : WF σ0) (hU : Ur σ0 u U) (hl : (uR U 6).length ≤ 4096) : ∀ (n f : Nat), n < (uR U 6).length → n < f → (∀ σ', UrTo σ0 σ' u (vI (vR U 6 ((uR U 6).take (drI (uR U 6) n))) 7 (uI U 7 - 1)) → Q () σ') → wp (f_X6_dropSegment_L18 f (some u) (nI n)) σ0 Q := by
  have kr := (h0.urow hU.1 (k := 6) (by decide)).2
  intro n
  induction n with
  | zero =>
    intro f hn hf hQ
    obtain ⟨f, rfl⟩ : ∃ g, f = g + 1 := ⟨f - 1, by omega⟩
    rw [f_X6_dropSegment_L18]
    unfold f_X6_dropSegment_18
    exact wp_t (by decide) (sp_drop41 h0 hU (by omega) hQ)
  | succ n ih =>
    intro f hn hf hQ
    obtain ⟨f, rfl⟩ : ∃ g, f = g + 1 := ⟨f - 1, by omega⟩
    rw [f_X6_dropSegment_L18]
    unfold f_X6_dropSegment_18
    rw [drI] at hQ
    refine wp_f (nI_nle (by omega) (by omega)) (hU.rd h0 (by decide) (wp_b (wp_nn kr (wp_b (sp_byteAt h0 kr id ?_)))))
    rw [hU.2.1 6 (by decide), bAt_nI hn (by omega)]
    refine wp_if (fun c => ?_) (fun c => ?_)
    · rw [if_pos c] at hQ
      exact sp_drop41 h0 hU (by omega) hQ
    · rw [if_neg c] at hQ
      rw [pk_m1]
      exact ih f (by omega) (by omega) hQ
theorem sp_dropSegment {Q : Unit → gS → Prop} (h0 : WF σ0) (hU : Ur σ0 u U) (hl : (uR U 6).length ≤ 4096) (hs : uI U 7 ≠ 0 → 0 < (uR U 6).length) (hQ : ∀ σ', UrTo σ0 σ' u (drS U) → Q () σ') : wp (f_X6_dropSegment (some u)) σ0 Q := by
  unfold f_X6_dropSegment
  unfold drS at hQ
  refine hU.ri (wp_if (fun c => ?_) (fun c => ?_))
  · rw [if_pos c] at hQ
    exact wp_p (hQ σ0 (UrTo.rf h0 hU))
  · rw [if_neg c] at hQ
    have hs := hs c
    refine hU.rd h0 (by decide) (hU.len h0 (by decide) ?_)
    rw [show nI (uR U 6).length - 1 = nI ((uR U 6).length - 1) from pk_sub (a := (uR U 6).length) (b := 1) (by omega)]
    exact sp_dropL h0 hU hl _ gF (by omega) (by show _ < 10000; omega) hQ
def pcU (U : UV) : Int32 := if uI U 5 = -1 then pOf (uI U 0) else uI U 5
theorem sp_portThatCounts {Q : Int32 → gS → Prop} (hU : Ur σ0 u U) (hQ : Q (pcU U) σ0) : wp (f_X6_portThatCounts (some u)) σ0 Q := by
  unfold f_X6_portThatCounts
  unfold pcU at hQ
  refine hU.ri (wp_if (fun c => ?_) (fun c => ?_))
  · rw [if_pos c] at hQ
    exact hU.ri (wp_b (sp_portOf (wp_p hQ)))
  · rw [if_neg c] at hQ
    exact hU.ri (wp_p hQ)
theorem sp_hasOriginOf {Q : Int32 → gS → Prop} (h0 : WF σ0) (hU : Ur σ0 u U) (hB : Ur σ0 b B) (hQ : Q (b2i (decide (uI U 0 = uI B 0 ∧ (uK U = uK B ∧ uR U 4 = uR B 4) ∧ pcU U = pcU B))) σ0) : wp (f_X6_hasOriginOf (some u) (some b)) σ0 Q := by
  obtain ⟨g1, g2, g3, g4, g5, g6⟩ := h0.uhost hU.1
  obtain ⟨k1, k2, k3, k4, k5, k6⟩ := h0.uhost hB.1
  unfold f_X6_hasOriginOf
  refine hU.ri (hB.ri (wp_if (fun c => ?_) (fun c => ?_)))
  · refine wp_b (wp_rR hU.1 ?_)
    rw [g1]
    refine wp_b (wp_rR hB.1 ?_)
    rw [k1]
    refine wp_b (wp_nn g2 (wp_b (sp_equalsHost h0 g2 k2 id id id id ?_)))
    have e1 : aK σ0 (tg σ0 2 0 (hO σ0 u)) = uK U := hU.2.2.2.2.1
    have e2 : rowL σ0 (tg σ0 2 1 (hO σ0 u)) = uR U 4 := hU.2.2.1
    have f1 : aK σ0 (tg σ0 2 0 (hO σ0 b)) = uK B := hB.2.2.2.2.1
    have f2 : rowL σ0 (tg σ0 2 1 (hO σ0 b)) = uR B 4 := hB.2.2.1
    rw [e1, e2, f1, f2]
    by_cases d : uK U = uK B ∧ uR U 4 = uR B 4
    · rw [b2i_t (decide_eq_true d)]
      refine wp_f (by decide) (wp_b (wp_nn hU.1 (wp_b (sp_portThatCounts hU (wp_b (wp_nn hB.1 (wp_b (sp_portThatCounts hB (wp_if (fun e => ?_) (fun e => ?_))))))))))
      · rw [b2i_t (decide_eq_true ⟨c, d, e⟩)] at hQ
        exact wp_z1 hQ
      · rw [b2i_f (decide_eq_false (fun z => e z.2.2))] at hQ
        exact wp_z0 hQ
    · rw [b2i_f (decide_eq_false d)]
      rw [b2i_f (decide_eq_false (fun z => d z.2.1))] at hQ
      exact wp_t rfl (wp_z0 hQ)
  · rw [b2i_f (decide_eq_false (fun z => c z.1))] at hQ
    exact wp_z0 hQ
theorem Ur.le (h0 : WF σ0) (hU : Ur σ0 u U) {k : Nat} (hk : ftk 5 k = 5) : (uR U k).length ≤ 4096 := by
  have kr := (h0.urow hU.1 hk).2
  obtain ⟨-, -, -, g4, g5, -⟩ := h0.row kr id
  rw [← hU.2.1 k hk, rowL_len]
  omega
def usr (U : UV) : Bool := decide (0 < (uR U 2).length ∨ 0 < (uR U 3).length)
theorem sp_hasUser {Q : Int32 → gS → Prop} (h0 : WF σ0) (hU : Ur σ0 u U) (hQ : Q (b2i (usr U)) σ0) : wp (f_X6_hasUser (some u)) σ0 Q := by
  have l2 := hU.le h0 (k := 2) (by decide)
  have l3 := hU.le h0 (k := 3) (by decide)
  unfold f_X6_hasUser
  unfold usr at hQ
  refine hU.rd h0 (by decide) (hU.len h0 (by decide) (wp_if (fun c => ?_) (fun c => ?_)))
  · have c := (nI_ltI (a := 0) (by omega) (by omega)).mp c
    rw [b2i_t (decide_eq_true (Or.inl c))] at hQ
    exact wp_z1 hQ
  · have c : ¬ 0 < (uR U 2).length := fun z => c (nI_lt (a := 0) z (by omega))
    refine hU.rd h0 (by decide) (hU.len h0 (by decide) (wp_if (fun d => ?_) (fun d => ?_)))
    · have d := (nI_leI (b := 0) (by omega) (by omega)).mp d
      rw [b2i_f (decide_eq_false (fun z => by omega))] at hQ
      exact wp_z0 hQ
    · have d : ¬ (uR U 3).length ≤ 0 := fun z => d (nI_le (b := 0) z (by omega))
      rw [b2i_t (decide_eq_true (Or.inr (by omega)))] at hQ
      exact wp_z1 hQ
end UM
