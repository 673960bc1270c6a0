/-! A RECORD WRITTEN -/
section UW
variable {σ : gS} {u o : Nat} {U : UV}
/-- no row of the Url -/
def Fr (σ : gS) (u o : Nat) : Prop := (∀ k, ftk 5 k = 5 → tg σ 5 k u ≠ o) ∧ hW σ u ≠ o
theorem Fr.nxt {σ' : gS} {ys : List Int32} (h : WF σ) (hU : Ur σ u U) (hF : Fr σ u o) (hR : RowTo (fun _ => False) σ σ' o ys) : Ur σ' u U ∧ Fr σ' u o := by
  obtain ⟨m1, m2, m3, m4⟩ := hU.mod h hR.2.1 (fun k hk z => hF.1 k hk z.2) (fun z => hF.2 z.2) (fun _ z => absurd z.1 (by decide)) (fun _ z => absurd z.1 (by decide)) (fun _ z => absurd z.1 (by decide)) (fun z => absurd z.1 (by decide)) (fun z => absurd z.1 (by decide))
  exact ⟨m1, fun k hk => by rw [m2]; exact hF.1 k hk, by rw [m4]; exact hF.2⟩
/-- how a step of writing is done: the state, what is written so far -/
def Wr (σ0 σ : gS) (u o : Nat) (U : UV) (ys : List Int32) : Prop := RowTo (fun _ => False) σ0 σ o ys ∧ Ur σ u U ∧ Fr σ u o ∧ gkd σ o = 5 ∧ Bud σ 0
variable {σ0 : gS} {ys : List Int32} {β : Type} {P : β → gS → Prop} {K : Unit → gM β}
theorem Wr.nxt {σ' : gS} {zs : List Int32} (W : Wr σ0 σ u o U ys) (hR : RowTo (fun _ => False) σ σ' o zs) : Wr σ0 σ' u o U zs := by
  obtain ⟨m1, m2⟩ := Fr.nxt W.1.1 W.2.1 W.2.2.1 hR
  exact ⟨W.1.trans hR, m1, m2, hR.kd W.2.2.2.1, hR.bud W.2.2.2.2⟩
theorem wr_add {v : Int32} (W : Wr σ0 σ u o U ys) (hl : ys.length < 4096) (hQ : ∀ σ', Wr σ0 σ' u o U (ys ++ [v]) → wp (K ()) σ' P) : wp (gb (nn 4 (some o)) fun _ => gb (f_X5_add (some o) v) K) σ P := by
  refine wp_b (wp_nn W.2.2.2.1 (wp_b (sp_add W.1.1 W.2.2.2.1 id (by rw [W.1.2.2.1]; exact hl) W.2.2.2.2 (fun σ' R => hQ σ' ?_))))
  rw [W.1.2.2.1] at R
  exact W.nxt R
theorem wr_row {k : Nat} (W : Wr σ0 σ u o U ys) (hk : ftk 5 k = 5) (hl : ys.length + (uR U k).length ≤ 4096) (hQ : ∀ σ', Wr σ0 σ' u o U (ys ++ uR U k) → wp (K ()) σ' P) : wp (gb (rR 5 k (some u)) fun v => gb (nn 4 (some o)) fun _ => gb (f_X5_addRow (some o) v) K) σ P := by
  refine W.2.1.rd W.1.1 hk (wp_b (wp_nn W.2.2.2.1 (wp_b (sp_addRow W.1.1 W.2.2.2.1 (W.1.1.urow W.2.1.1 hk).2 id id (W.2.2.1.1 k hk) (by rw [W.1.2.2.1, W.2.1.2.1 k hk]; exact hl) W.2.2.2.2 (fun σ' R => hQ σ' ?_)))))
  rw [W.1.2.2.1, W.2.1.2.1 k hk] at R
  exact W.nxt R
theorem wr_host (W : Wr σ0 σ u o U ys) (hl : ys.length + (uR U 4).length ≤ 4096) (hQ : ∀ σ', Wr σ0 σ' u o U (ys ++ uR U 4) → wp (K ()) σ' P) : wp (gb (rR 5 4 (some u)) fun v1 => gb (rR 2 1 v1) fun v2 => gb (nn 4 (some o)) fun _ => gb (f_X5_addRow (some o) v2) K) σ P := by
  obtain ⟨g1, g2, g3, g4, g5, g6⟩ := W.1.1.uhost W.2.1.1
  refine wp_b (wp_rR W.2.1.1 ?_)
  rw [g1]
  refine wp_b (wp_rR g2 ?_)
  rw [g5]
  refine wp_b (wp_nn W.2.2.2.1 (wp_b (sp_addRow W.1.1 W.2.2.2.1 g6 id id W.2.2.1.2 (by rw [W.1.2.2.1, W.2.1.2.2.1]; exact hl) W.2.2.2.2 (fun σ' R => hQ σ' ?_))))
  rw [W.1.2.2.1, W.2.1.2.2.1] at R
  exact W.nxt R
def wr1 (U : UV) : List Int32 := if uI U 11 = 0 then [] else 35 :: uR U 10
def wr2 (U : UV) : List Int32 := uR U 6 ++ ((if uI U 9 = 0 then [] else 63 :: uR U 8) ++ wr1 U)
def wr3 (U : UV) : List Int32 := uR U 4 ++ ((if uI U 5 = -1 then [] else 58 :: decL 4 (uI U 5).toNatClampNeg) ++ wr2 U)
def wrU (U : UV) : List Int32 := uR U 1 ++ (tstr 18 ++ ((if usr U = true then uR U 2 ++ ((if (uR U 3).length = 0 then [] else 58 :: uR U 3) ++ [64]) else []) ++ wr3 U))
variable {Q : Unit → gS → Prop}
theorem sp_wr1 (W : Wr σ0 σ u o U ys) (hl : ys.length + (wr1 U).length ≤ 4096) (hQ : ∀ σ', Wr σ0 σ' u o U (ys ++ wr1 U) → Q () σ') : wp (f_X6_writeTo_121 (some u) (some o)) σ Q := by
  unfold f_X6_writeTo_121
  unfold wr1 at hQ hl
  refine W.2.1.ri (wp_if (fun c => ?_) (fun c => ?_))
  · rw [if_pos c, List.append_nil] at hQ
    exact wp_p (hQ σ W)
  · rw [if_neg c] at hQ hl
    simp only [List.length_cons] at hl
    refine wr_add W (by omega) (fun σ1 W => ?_)
    refine wr_row W (by decide) (by simp only [List.length_append, List.length_cons, List.length_nil]; omega) (fun σ2 W => wp_p (hQ σ2 ?_))
    simpa [List.append_assoc] using W
theorem sp_wr2 (W : Wr σ0 σ u o U ys) (hl : ys.length + (wr2 U).length ≤ 4096) (hQ : ∀ σ', Wr σ0 σ' u o U (ys ++ wr2 U) → Q () σ') : wp (f_X6_writeTo_92 (some u) (some o)) σ Q := by
  unfold f_X6_writeTo_92
  unfold wr2 at hQ hl
  simp only [List.length_append] at hl
  refine wr_row W (by decide) (by omega) (fun σ1 W => ?_)
  refine W.2.1.ri (wp_if (fun c => ?_) (fun c => ?_))
  · rw [if_pos c, List.nil_append] at hQ
    rw [if_pos c] at hl
    refine sp_wr1 W (by simp only [List.length_append]; simp only [List.length_nil] at hl; omega) (fun σ2 W => hQ σ2 ?_)
    simpa [List.append_assoc] using W
  · rw [if_neg c] at hQ hl
    simp only [List.length_cons] at hl
    refine wr_add W (by simp only [List.length_append]; omega) (fun σ2 W => ?_)
    refine wr_row W (by decide) (by simp only [List.length_append, List.length_cons, List.length_nil]; omega) (fun σ3 W => ?_)
    refine sp_wr1 W (by simp only [List.length_append, List.length_cons, List.length_nil]; omega) (fun σ4 W => hQ σ4 ?_)
    simpa [List.append_assoc] using W
/-- a port -/
def okP (v : Int32) : Prop := v = -1 ∨ ∃ n, n < 65536 ∧ v = nI n
theorem sp_wr3 (hp : okP (uI U 5)) (W : Wr σ0 σ u o U ys) (hl : ys.length + 6 + (wr3 U).length ≤ 4096) (hQ : ∀ σ', Wr σ0 σ' u o U (ys ++ wr3 U) → Q () σ') : wp (f_X6_writeTo_59 (some u) (some o)) σ Q := by
  unfold f_X6_writeTo_59
  unfold wr3 at hQ hl
  simp only [List.length_append] at hl
  refine wr_host W (by omega) (fun σ1 W => ?_)
  refine W.2.1.ri (wp_if (fun c => ?_) (fun c => ?_))
  · rw [if_pos c, List.nil_append] at hQ
    rw [if_pos c] at hl
    refine sp_wr2 W (by simp only [List.length_append]; simp only [List.length_nil] at hl; omega) (fun σ2 W => hQ σ2 ?_)
    simpa [List.append_assoc] using W
  · rw [if_neg c] at hQ hl
    simp only [List.length_cons] at hl
    refine wr_add W (by simp only [List.length_append]; omega) (fun σ2 W => ?_)
    refine W.2.1.ri (wp_b (wp_nn W.2.2.2.1 (wp_b ?_)))
    obtain ⟨n, hn, e⟩ : ∃ n, n < 65536 ∧ uI U 5 = nI n := hp.resolve_left c
    rw [e, nI_clamp (by omega)] at hQ hl
    rw [e]
    refine sp_addDecimal W.1.1 W.2.2.2.1 id (by omega) (by rw [W.1.2.2.1]; simp only [List.length_append, List.length_cons, List.length_nil]; omega) W.2.2.2.2 (fun σ3 R => ?_)
    rw [W.1.2.2.1] at R
    have W := W.nxt R
    refine sp_wr2 W (by simp only [List.length_append, List.length_cons, List.length_nil]; omega) (fun σ4 W => hQ σ4 ?_)
    simpa [List.append_assoc] using W
theorem sp_writeTo (h0 : WF σ) (hU : Ur σ u U) (hF : Fr σ u o) (ko : gkd σ o = 5) (hB : Bud σ 0) (hp : okP (uI U 5)) (hl : 6 + (wrU U).length ≤ 4096) (hQ : ∀ σ', RowTo (fun _ => False) σ σ' o (wrU U) → Ur σ' u U → Q () σ') : wp (f_X6_writeTo (some u) (some o)) σ Q := by
  unfold f_X6_writeTo
  unfold wrU at hQ hl
  simp only [List.length_append] at hl
  have t18 : (tstr 18).length = 3 := rfl
  refine hU.rd h0 (by decide) (wp_b (wp_nn ko (wp_b (sp_take h0 ko (h0.urow hU.1 (by decide)).2 id id (hF.1 1 (by decide)) hB (fun σ1 R => ?_)))))
  rw [hU.2.1 1 (by decide)] at R
  have W : Wr σ σ1 u o U (uR U 1) := by
    obtain ⟨m1, m2⟩ := Fr.nxt h0 hU hF R
    exact ⟨R, m1, m2, R.kd ko, R.bud hB⟩
  refine wp_b (wp_nn W.2.2.2.1 (wp_b (sp_addText W.1.1 W.2.2.2.1 id (by omega) (by rw [W.1.2.2.1]; omega) W.2.2.2.2 (fun σ2 R => ?_))))
  rw [W.1.2.2.1] at R
  have W := W.nxt R
  refine wp_b (wp_nn W.2.1.1 (wp_b (sp_hasUser W.1.1 W.2.1 ?_)))
  have fin : ∀ {zs σ'}, Wr σ σ' u o U zs → zs.length + 6 + (wr3 U).length ≤ 4096 → zs ++ wr3 U = uR U 1 ++ (tstr 18 ++ ((if usr U = true then uR U 2 ++ ((if (uR U 3).length = 0 then [] else 58 :: uR U 3) ++ [64]) else []) ++ wr3 U)) → wp (f_X6_writeTo_59 (some u) (some o)) σ' Q := by
    intro zs σ' W hl e
    refine sp_wr3 hp W hl (fun σ3 W => hQ σ3 ?_ W.2.1)
    rw [← e]
    exact W.1
  cases hu : usr U with
  | false =>
    rw [hu, if_neg (by decide)] at hl
    refine wp_t rfl (fin W (by simp only [List.length_append]; simp only [List.length_nil] at hl; omega) ?_)
    rw [hu, if_neg (by decide)]
    simp [List.append_assoc]
  | true =>
    rw [hu, if_pos rfl] at hl
    simp only [List.length_append, List.length_cons, List.length_nil] at hl
    refine wp_f (by decide) (wr_row W (by decide) (by simp only [List.length_append]; omega) (fun σ3 W => ?_))
    have tl : ∀ {zs σ'}, Wr σ σ' u o U zs → zs.length + 7 + (wr3 U).length ≤ 4096 → zs ++ [64] ++ wr3 U = uR U 1 ++ (tstr 18 ++ ((if usr U = true then uR U 2 ++ ((if (uR U 3).length = 0 then [] else 58 :: uR U 3) ++ [64]) else []) ++ wr3 U)) → wp (f_X6_writeTo_53 (some u) (some o)) σ' Q := by
      intro zs σ' W hl e
      unfold f_X6_writeTo_53
      refine wr_add W (by omega) (fun σ4 W => fin W (by simp only [List.length_append, List.length_cons, List.length_nil]; omega) e)
    have l3 := W.2.1.le W.1.1 (k := 3) (by decide)
    refine W.2.1.rd W.1.1 (by decide) (W.2.1.len W.1.1 (by decide) (wp_if (fun c => ?_) (fun c => ?_)))
    · have c := (nI_leI (b := 0) (by omega) (by omega)).mp c
      have c : (uR U 3).length = 0 := by omega
      rw [if_pos c] at hl
      refine tl W (by simp only [List.length_append]; simp only [List.length_nil] at hl; omega) ?_
      rw [hu, if_pos rfl, if_pos c]
      simp [List.append_assoc]
    · have c : ¬ (uR U 3).length = 0 := fun z => c (nI_le (b := 0) (by omega) (by omega))
      rw [if_neg c] at hl
      simp only [List.length_cons] at hl
      refine wr_add W (by simp only [List.length_append]; omega) (fun σ4 W => ?_)
      refine wr_row W (by decide) (by simp only [List.length_append, List.length_cons, List.length_nil]; omega) (fun σ5 W => ?_)
      refine tl W (by simp only [List.length_append, List.length_cons, List.length_nil]; omega) ?_
      rw [hu, if_pos rfl, if_neg c]
      simp [List.append_assoc]
/-- the field of part w of the document -/
def fOf (w : Nat) : Nat := [1, 2, 3, 4, 6, 8, 10].getD w 0
/-- whether the part is there -/
def thR (U : UV) (w : Nat) : Bool := if w = 5 then decide (uI U 9 ≠ 0) else if w = 6 then decide (uI U 11 ≠ 0) else true
theorem sp_rowOf {w : Nat} {Q : Option Nat → gS → Prop} (h0 : WF σ) (hU : Ur σ u U) (hw : w < 7) (hn : thR U w = false → Q none σ) (hr : ∀ r, thR U w = true → gkd σ r = 5 → rowL σ r = uR U (fOf w) → Q (some r) σ) : wp (f_X6_rowOf (some u) (nI w)) σ Q := by
  have go : ∀ k, ftk 5 k = 5 → fOf w = k → thR U w = true → Q (some (tg σ 5 k u)) σ := fun k hk e ht => hr _ ht (h0.urow hU.1 hk).2 (by rw [e]; exact hU.2.1 k hk)
  unfold f_X6_rowOf
  rcases (show w = 0 ∨ w = 1 ∨ w = 2 ∨ w = 3 ∨ w = 4 ∨ w = 5 ∨ w = 6 by omega) with rfl | rfl | rfl | rfl | rfl | rfl | rfl
  · exact wp_t (by decide) (hU.rd h0 (by decide) (wp_p (go 1 (by decide) rfl rfl)))
  · exact wp_f (by decide) (wp_t (by decide) (hU.rd h0 (by decide) (wp_p (go 2 (by decide) rfl rfl))))
  · exact wp_f (by decide) (wp_f (by decide) (wp_t (by decide) (hU.rd h0 (by decide) (wp_p (go 3 (by decide) rfl rfl)))))
  · obtain ⟨g1, g2, g3, g4, g5, g6⟩ := h0.uhost hU.1
    refine wp_f (by decide) (wp_f (by decide) (wp_f (by decide) (wp_t (by decide) (wp_b (wp_rR hU.1 ?_)))))
    rw [g1]
    refine wp_b (wp_rR g2 ?_)
    rw [g5]
    exact wp_p (hr _ rfl g6 hU.2.2.1)
  · exact wp_f (by decide) (wp_f (by decide) (wp_f (by decide) (wp_f (by decide) (wp_t (by decide) (hU.rd h0 (by decide) (wp_p (go 6 (by decide) rfl rfl)))))))
  · refine wp_f (by decide) (wp_f (by decide) (wp_f (by decide) (wp_f (by decide) (wp_f (by decide) (wp_t (by decide) (hU.ri (wp_if (fun c => ?_) (fun c => ?_))))))))
    · exact wp_p (hn (decide_eq_false (fun z => z c)))
    · exact hU.rd h0 (by decide) (wp_p (go 8 (by decide) rfl (decide_eq_true c)))
  · refine wp_f (by decide) (wp_f (by decide) (wp_f (by decide) (wp_f (by decide) (wp_f (by decide) (wp_f (by decide) (wp_t (by decide) (hU.ri (wp_if (fun c => ?_) (fun c => ?_)))))))))
    · exact wp_p (hn (decide_eq_false (fun z => z c)))
    · exact hU.rd h0 (by decide) (wp_p (go 10 (by decide) rfl (decide_eq_true c)))
end UW
