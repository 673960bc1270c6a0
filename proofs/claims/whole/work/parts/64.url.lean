/-! A RECORD: rows by their fields (4: the HOST as WRITTEN), ints by their fields, the HOST's kind and words -/
abbrev UV : Type := (Nat → List Int32) × (Nat → Int32) × Int32 × (Nat → Int32)
def uR (U : UV) : Nat → List Int32 := U.1
def uI (U : UV) : Nat → Int32 := U.2.1
def uK (U : UV) : Int32 := U.2.2.1
def uW (U : UV) : Nat → Int32 := U.2.2.2
def vR (U : UV) (k : Nat) (ys : List Int32) : UV := (fun j => if j = k then ys else uR U j, uI U, uK U, uW U)
def vI (U : UV) (k : Nat) (v : Int32) : UV := (uR U, fun j => if j = k then v else uI U j, uK U, uW U)
def vH (U : UV) (k : Int32) (w : Nat → Int32) (ys : List Int32) : UV := (fun j => if j = 4 then ys else uR U j, uI U, k, w)
section VV
variable (U : UV) (k j : Nat) (ys : List Int32) (v c : Int32) (w : Nat → Int32)
theorem uR_R : uR (vR U k ys) j = if j = k then ys else uR U j := rfl
theorem uI_R : uI (vR U k ys) = uI U := rfl
theorem uK_R : uK (vR U k ys) = uK U := rfl
theorem uW_R : uW (vR U k ys) = uW U := rfl
theorem uR_I : uR (vI U k v) = uR U := rfl
theorem uI_I : uI (vI U k v) j = if j = k then v else uI U j := rfl
theorem uK_I : uK (vI U k v) = uK U := rfl
theorem uW_I : uW (vI U k v) = uW U := rfl
theorem uR_H : uR (vH U c w ys) j = if j = 4 then ys else uR U j := rfl
theorem uI_H : uI (vH U c w ys) = uI U := rfl
theorem uK_H : uK (vH U c w ys) = c := rfl
theorem uW_H : uW (vH U c w ys) = w := rfl
end VV
theorem rk_tab : ∀ k, k < 12 → ftk 5 k = 5 → grf 5 k = true ∧ k ≠ 4 := by decide
theorem rk {k : Nat} (h : ftk 5 k = 5) : k < 12 ∧ grf 5 k = true ∧ k ≠ 4 := by
  have h1 : k < 12 := by
    rcases Nat.lt_or_ge k 12 with z | z
    · exact z
    · exfalso
      have : ftk 5 k = 0 := by
        show ([0, 5, 5, 5, 3, 0, 5, 0, 5, 0, 5, 0] : List Nat).getD k 0 = 0
        rw [List.getD_eq_getElem?_getD, List.getElem?_eq_none (by simpa using z)]
        rfl
      rw [this] at h
      exact absurd h (by decide)
  exact ⟨h1, rk_tab k h1 h⟩
/-- the Host of a Url, its Address, its row -/
def hO (σ : gS) (u : Nat) : Nat := tg σ 5 4 u
def hA (σ : gS) (u : Nat) : Nat := tg σ 2 0 (tg σ 5 4 u)
def hW (σ : gS) (u : Nat) : Nat := tg σ 2 1 (tg σ 5 4 u)
def Ur (σ : gS) (u : Nat) (U : UV) : Prop := gkd σ u = 6 ∧ (∀ k, ftk 5 k = 5 → rowL σ (tg σ 5 k u) = uR U k) ∧ rowL σ (hW σ u) = uR U 4 ∧ (∀ k, gii σ 5 k u = uI U k) ∧ aK σ (hA σ u) = uK U ∧ (∀ j, j < 4 → aW σ (hA σ u) j = uW U j)
section UK
variable {σ σ' : gS} {u b : Nat} {U B : UV} {X : Nat → Nat → Nat → Nat → Prop}
theorem WFx.urow (h : WF σ) (hu : gkd σ u = 6) {k : Nat} (hk : ftk 5 k = 5) : grr σ 5 k u = some (tg σ 5 k u) ∧ gkd σ (tg σ 5 k u) = 5 := by
  obtain ⟨h1, h2, -⟩ := h.fld (c := 5) (k := k) hu id (by decide) (rk hk).1 (rk hk).2.1
  exact ⟨h1, h2.trans hk⟩
theorem WFx.uhost (h : WF σ) (hu : gkd σ u = 6) : grr σ 5 4 u = some (hO σ u) ∧ gkd σ (hO σ u) = 3 ∧ grr σ 2 0 (hO σ u) = some (hA σ u) ∧ gkd σ (hA σ u) = 1 ∧ grr σ 2 1 (hO σ u) = some (hW σ u) ∧ gkd σ (hW σ u) = 5 := by
  obtain ⟨h1, h2, -⟩ := h.fld (c := 5) (k := 4) hu id (by decide) (by decide) rfl
  have h2 : gkd σ (tg σ 5 4 u) = 3 := h2
  obtain ⟨a1, a2, a3, a4⟩ := h.host h2 id
  exact ⟨h1, h2, a1, a2, a3, a4⟩
/-- nothing of the Url changes -/
theorem Ur.mod (h : WF σ) (hU : Ur σ u U) (hM : Mod X σ σ') (x0 : ∀ k, ftk 5 k = 5 → ¬ X 0 (tg σ 5 k u) 0 0) (x4 : ¬ X 0 (hW σ u) 0 0) (xi : ∀ k, ¬ X 1 5 k u) (xr : ∀ k, ¬ X 2 5 k u) (xh : ∀ k, ¬ X 2 2 k (hO σ u)) (xa : ¬ X 1 0 0 (hA σ u)) (xw : ¬ X 3 0 1 (hA σ u)) : Ur σ' u U ∧ (∀ k, tg σ' 5 k u = tg σ 5 k u) ∧ hA σ' u = hA σ u ∧ hW σ' u = hW σ u := by
  obtain ⟨g1, g2, g3, g4, g5, g6⟩ := h.uhost hU.1
  have e : ∀ k, tg σ' 5 k u = tg σ 5 k u := fun k => hM.tgt (c := 5) hU.1 (by decide) (xr k)
  have eh : hO σ' u = hO σ u := e 4
  have ea : hA σ' u = hA σ u := by
    show tg σ' 2 0 (hO σ' u) = tg σ 2 0 (hO σ u)
    rw [eh]
    exact hM.tgt (c := 2) g2 (by decide) (xh 0)
  have ew : hW σ' u = hW σ u := by
    show tg σ' 2 1 (hO σ' u) = tg σ 2 1 (hO σ u)
    rw [eh]
    exact hM.tgt (c := 2) g2 (by decide) (xh 1)
  obtain ⟨u1, u2, u3, u4, u5, u6⟩ := hU
  refine ⟨⟨hM.kd u1, fun k hk => ?_, ?_, fun k => ?_, ?_, fun j hj => ?_⟩, e, ea, ew⟩
  · rw [e k, hM.row h (h.urow u1 hk).2 id (x0 k hk)]
    exact u2 k hk
  · rw [ew, hM.row h g6 id x4]
    exact u3
  · rw [hM.int (c := 5) u1 (by decide) (xi k)]
    exact u4 k
  · rw [ea, hM.aK g4 xa]
    exact u5
  · rw [ea, hM.aW h g4 id xw]
    exact u6 j hj
abbrev XU (σ : gS) (u : Nat) : Nat → Nat → Nat → Nat → Prop := fun t x y z => (t = 0 ∧ ∃ k, ftk 5 k = 5 ∧ x = tg σ 5 k u) ∨ (t = 1 ∧ x = 5 ∧ z = u) ∨ XH (hA σ u) (hW σ u) t x y z
def UrTo (σ σ' : gS) (u : Nat) (U : UV) : Prop := WF σ' ∧ Mod (XU σ u) σ σ' ∧ Ur σ' u U ∧ BK 0 σ σ'
/-- fields of two different Urls -/
theorem WFx.hne (h : WF σ) (hu : gkd σ u = 6) (hb : gkd σ b = 6) (hne : b ≠ u) : hO σ b ≠ hO σ u ∧ hA σ b ≠ hA σ u ∧ hW σ b ≠ hW σ u := by
  obtain ⟨-, g2, -⟩ := h.uhost hu
  obtain ⟨-, k2, -⟩ := h.uhost hb
  have e := h.ne (c := 5) (k := 4) (c' := 5) (k' := 4) hb id (by decide) (by decide) rfl hu id (by decide) (by decide) rfl (fun z => hne z.2.2)
  exact ⟨e, h.ne (c := 2) (k := 0) (c' := 2) (k' := 0) k2 id (by decide) (by decide) rfl g2 id (by decide) (by decide) rfl (fun z => e z.2.2), h.ne (c := 2) (k := 1) (c' := 2) (k' := 1) k2 id (by decide) (by decide) rfl g2 id (by decide) (by decide) rfl (fun z => e z.2.2)⟩
theorem WFx.une (h : WF σ) (hu : gkd σ u = 6) (hb : gkd σ b = 6) {k j : Nat} (hk : ftk 5 k = 5) (hj : ftk 5 j = 5) (hne : ¬ (k = j ∧ b = u)) : tg σ 5 k b ≠ tg σ 5 j u := h.ne (c := 5) (c' := 5) hb id (by decide) (rk hk).1 (rk hk).2.1 hu id (by decide) (rk hj).1 (rk hj).2.1 (fun z => hne z.2)
theorem WFx.unh (h : WF σ) (hu : gkd σ u = 6) (hb : gkd σ b = 6) {k : Nat} (hk : ftk 5 k = 5) : tg σ 5 k b ≠ hW σ u := by
  obtain ⟨-, g2, -⟩ := h.uhost hu
  exact h.ne (c := 5) (c' := 2) (k' := 1) hb id (by decide) (rk hk).1 (rk hk).2.1 g2 id (by decide) (by decide) rfl (fun z => absurd z.1 (by decide))
/-- another Url stays -/
theorem Ur.keep (h : WF σ) (hu : gkd σ u = 6) (hB : Ur σ b B) (hne : b ≠ u) (hM : Mod (XU σ u) σ σ') : Ur σ' b B ∧ (∀ k, tg σ' 5 k b = tg σ 5 k b) ∧ hA σ' b = hA σ b ∧ hW σ' b = hW σ b := by
  obtain ⟨n1, n2, n3⟩ := h.hne hu hB.1 hne
  refine hB.mod h hM (fun k hk z => ?_) (fun z => ?_) (fun k z => ?_) (fun k z => ?_) (fun k z => ?_) (fun z => ?_) (fun z => ?_)
  · rcases z with ⟨-, j, hj, e⟩ | ⟨e, -⟩ | (⟨e, -⟩ | ⟨e, -⟩) | ⟨-, e⟩
    · exact h.une hu hB.1 hk hj (fun q => hne q.2) e
    · exact absurd e (by decide)
    · exact absurd e (by decide)
    · exact absurd e (by decide)
    · exact h.unh hu hB.1 hk e
  · rcases z with ⟨-, j, hj, e⟩ | ⟨e, -⟩ | (⟨e, -⟩ | ⟨e, -⟩) | ⟨-, e⟩
    · exact h.unh hB.1 hu hj e.symm
    · exact absurd e (by decide)
    · exact absurd e (by decide)
    · exact absurd e (by decide)
    · exact n3 e
  · rcases z with ⟨e, -⟩ | ⟨-, -, e⟩ | (⟨-, e, -⟩ | ⟨e, -⟩) | ⟨e, -⟩
    · exact absurd e (by decide)
    · exact hne e
    · exact absurd e (by decide)
    · exact absurd e (by decide)
    · exact absurd e (by decide)
  · rcases z with ⟨e, -⟩ | ⟨e, -⟩ | (⟨e, -⟩ | ⟨e, -⟩) | ⟨e, -⟩
    · exact absurd e (by decide)
    · exact absurd e (by decide)
    · exact absurd e (by decide)
    · exact absurd e (by decide)
    · exact absurd e (by decide)
  · rcases z with ⟨e, -⟩ | ⟨e, -⟩ | (⟨e, -⟩ | ⟨e, -⟩) | ⟨e, -⟩
    · exact absurd e (by decide)
    · exact absurd e (by decide)
    · exact absurd e (by decide)
    · exact absurd e (by decide)
    · exact absurd e (by decide)
  · rcases z with ⟨e, -⟩ | ⟨-, e, -⟩ | ⟨⟨-, -, -, e⟩ | ⟨e, -⟩⟩ | ⟨e, -⟩
    · exact absurd e (by decide)
    · exact absurd e (by decide)
    · exact n2 e
    · exact absurd e (by decide)
    · exact absurd e (by decide)
  · rcases z with ⟨e, -⟩ | ⟨e, -⟩ | ⟨⟨e, -⟩ | ⟨-, -, -, e⟩⟩ | ⟨e, -⟩
    · exact absurd e (by decide)
    · exact absurd e (by decide)
    · exact absurd e (by decide)
    · exact n2 e
    · exact absurd e (by decide)
/-- the Url's own fields' things stay where they are -/
theorem Mod.own (h : WF σ) (hu : gkd σ u = 6) (hM : Mod (XU σ u) σ σ') : (∀ k, tg σ' 5 k u = tg σ 5 k u) ∧ hO σ' u = hO σ u ∧ hA σ' u = hA σ u ∧ hW σ' u = hW σ u := by
  obtain ⟨g1, g2, -⟩ := h.uhost hu
  have e : ∀ k, tg σ' 5 k u = tg σ 5 k u := fun k => hM.tgt (c := 5) hu (by decide) (by simp)
  have eh : hO σ' u = hO σ u := e 4
  refine ⟨e, eh, ?_, ?_⟩
  · show tg σ' 2 0 (hO σ' u) = tg σ 2 0 (hO σ u)
    rw [eh]
    exact hM.tgt (c := 2) g2 (by decide) (by simp)
  · show tg σ' 2 1 (hO σ' u) = tg σ 2 1 (hO σ u)
    rw [eh]
    exact hM.tgt (c := 2) g2 (by decide) (by simp)
theorem XU_eq (h : WF σ) (hu : gkd σ u = 6) (hM : Mod (XU σ u) σ σ') : XU σ' u = XU σ u := by
  obtain ⟨e1, e2, e3, e4⟩ := hM.own h hu
  funext t x y z
  simp only [XU, e1, e3, e4]
theorem UrTo.trans {σ1 σ2 : gS} {V : UV} (h : WF σ) (hu : gkd σ u = 6) (h1 : UrTo σ σ1 u U) (h2 : UrTo σ1 σ2 u V) : UrTo σ σ2 u V := ⟨h2.1, h1.2.1.trans (by rw [← XU_eq h hu h1.2.1]; exact h2.2.1), h2.2.2.1, h1.2.2.2.trans h2.2.2.2⟩
theorem UrTo.rf (h : WF σ) (hU : Ur σ u U) : UrTo σ σ u U := ⟨h, Mod.rf, hU, BK.rf⟩
theorem UrTo.row {k : Nat} {ys : List Int32} (h : WF σ) (hU : Ur σ u U) (hk : ftk 5 k = 5) (hR : RowTo (fun _ => False) σ σ' (tg σ 5 k u) ys) : UrTo σ σ' u (vR U k ys) := by
  obtain ⟨g1, g2, g3, g4, g5, g6⟩ := h.uhost hU.1
  have hM : Mod (XU σ u) σ σ' := hR.2.1.mono (fun t x _ _ z => Or.inl ⟨z.1, k, hk, z.2⟩)
  obtain ⟨e1, e2, e3, e4⟩ := hM.own h hU.1
  obtain ⟨u1, u2, u3, u4, u5, u6⟩ := hU
  refine ⟨hR.1, hM, ⟨hR.kd u1, fun j hj => ?_, ?_, fun j => ?_, ?_, fun j hj => ?_⟩, hR.2.2.2⟩
  · rw [e1, uR_R]
    by_cases c : j = k
    · rw [if_pos c, c]
      exact hR.2.2.1
    · rw [if_neg c, hR.oth h (h.urow u1 hj).2 id (h.une u1 u1 hj hk (fun z => c z.1))]
      exact u2 j hj
  · rw [e4, uR_R, if_neg (fun z => (rk hk).2.2 z.symm), hR.oth h g6 id (fun z => h.unh u1 u1 hk z.symm)]
    exact u3
  · rw [hR.2.1.int (c := 5) u1 (by decide) (by simp)]
    exact u4 j
  · rw [e3, hR.2.1.aK g4 (by simp)]
    exact u5
  · rw [e3, hR.2.1.aW h g4 id (by simp)]
    exact u6 j hj
theorem UrTo.int {k : Nat} {v : Int32} (h : WF σ) (hU : Ur σ u U) : UrTo σ (gsI σ 5 k u v) u (vI U k v) := by
  obtain ⟨m1, m2, m3⟩ := int_upd (c := 5) (k := k) (a := u) (v := v) h (by decide)
  have hM : Mod (XU σ u) σ (gsI σ 5 k u v) := m2.mono (fun t x y z q => Or.inr (Or.inl ⟨q.1, q.2.1, q.2.2.2⟩))
  obtain ⟨g1, g2, g3, g4, g5, g6⟩ := h.uhost hU.1
  obtain ⟨e1, e2, e3, e4⟩ := hM.own h hU.1
  obtain ⟨u1, u2, u3, u4, u5, u6⟩ := hU
  refine ⟨m1, hM, ⟨u1, fun j hj => ?_, ?_, fun j => ?_, ?_, fun j hj => ?_⟩, m3⟩
  · rw [e1, m2.row h (h.urow u1 hj).2 id (by simp)]
    exact u2 j hj
  · rw [e4, m2.row h g6 id (by simp)]
    exact u3
  · rw [qI_ii, uI_I]
    by_cases c : j = k
    · rw [if_pos ⟨rfl, c, rfl⟩, if_pos c]
    · rw [if_neg (fun z => c z.2.1), if_neg c]
      exact u4 j
  · rw [e3, m2.aK g4 (by simp)]
    exact u5
  · rw [e3, m2.aW h g4 id (by simp)]
    exact u6 j hj
theorem UrTo.host {k : Int32} {w : Nat → Int32} {ys : List Int32} (h : WF σ) (hU : Ur σ u U) (H : HoTo (fun _ => False) σ σ' (hO σ u) k w ys) : UrTo σ σ' u (vH U k w ys) := by
  obtain ⟨g1, g2, g3, g4, g5, g6⟩ := h.uhost hU.1
  obtain ⟨w1, w2, w3, w4, w5, w6⟩ := H
  have hM : Mod (XU σ u) σ σ' := w2.mono (fun t x y z q => Or.inr (Or.inr q))
  obtain ⟨e1, e2, e3, e4⟩ := hM.own h hU.1
  obtain ⟨u1, u2, u3, u4, u5, u6⟩ := hU
  refine ⟨w1, hM, ⟨hM.kd u1, fun j hj => ?_, ?_, fun j => ?_, ?_, fun j hj => ?_⟩, w6⟩
  · rw [e1, uR_H, if_neg (rk hj).2.2, w2.row h (h.urow u1 hj).2 id (fun z => ?_)]
    · exact u2 j hj
    · rcases z with (⟨z, -⟩ | ⟨z, -⟩) | z
      · exact absurd z (by decide)
      · exact absurd z (by decide)
      · exact h.unh u1 u1 hj z.2
  · rw [e4, uR_H, if_pos rfl]
    exact w5
  · rw [w2.int (c := 5) u1 (by decide) (by simp)]
    exact u4 j
  · rw [e3]
    exact w3
  · rw [e3]
    exact w4 j hj
/-- the same, twice named -/
theorem Ur.congr {V : UV} (hU : Ur σ u U) (h1 : ∀ k, ftk 5 k = 5 → uR V k = uR U k) (h2 : uR V 4 = uR U 4) (h3 : ∀ k, uI V k = uI U k) (h4 : uK V = uK U) (h5 : ∀ j, j < 4 → uW V j = uW U j) : Ur σ u V := by
  obtain ⟨u1, u2, u3, u4, u5, u6⟩ := hU
  exact ⟨u1, fun k hk => by rw [h1 k hk]; exact u2 k hk, by rw [h2]; exact u3, fun k => by rw [h3]; exact u4 k, by rw [h4]; exact u5, fun j hj => by rw [h5 j hj]; exact u6 j hj⟩
/-- reading a row of a Url -/
theorem Ur.rd {k : Nat} {β : Type} {K : Option Nat → gM β} {P : β → gS → Prop} (h : WF σ) (hU : Ur σ u U) (hk : ftk 5 k = 5) (hQ : wp (K (some (tg σ 5 k u))) σ P) : wp (gb (rR 5 k (some u)) K) σ P := by
  refine wp_b (wp_rR hU.1 ?_)
  rw [(h.urow hU.1 hk).1]
  exact hQ
theorem Ur.ri {k : Nat} {β : Type} {K : Int32 → gM β} {P : β → gS → Prop} (hU : Ur σ u U) (hQ : wp (K (uI U k)) σ P) : wp (gb (rI 5 k (some u)) K) σ P := by
  refine wp_b (wp_rI hU.1 ?_)
  rw [hU.2.2.2.1 k]
  exact hQ
theorem Ur.len {k : Nat} {β : Type} {K : Int32 → gM β} {P : β → gS → Prop} (h : WF σ) (hU : Ur σ u U) (hk : ftk 5 k = 5) (hQ : wp (K (nI (uR U k).length)) σ P) : wp (gb (rI 4 1 (some (tg σ 5 k u))) K) σ P := by
  have kr := (h.urow hU.1 hk).2
  refine wp_b (wp_rI kr ?_)
  rw [(h.row kr id).2.2.1, ← rowL_len, hU.2.1 k hk]
  exact hQ
end UK
