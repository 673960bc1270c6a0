/-! THE GATE: what it answers -/
theorem b2i_z {b : Bool} : b2i b = 0 ↔ b = false := by cases b <;> decide
theorem wp_bz {α : Type} {b : Bool} {A B : gM α} {σ : gS} {Q : α → gS → Prop} (h1 : b = false → wp A σ Q) (h2 : b = true → wp B σ Q) : wp (if b2i b = 0 then A else B) σ Q := by
  cases b with
  | false => exact wp_t rfl (h1 rfl)
  | true => exact wp_f (by decide) (h2 rfl)
def agr (a b n : Int32) : Bool := if 0 < n then (if n < 32 then decide ((((a ^^^ b).toUInt32 >>> ((32 - n).toUInt32 &&& Int32.toUInt32 31)).toInt32) = 0) else decide (a = b)) else true
theorem sp_agree {a b n : Int32} {σ : gS} {Q : Int32 → gS → Prop} (hQ : Q (b2i (agr a b n)) σ) : wp (f_X0_agree a b n) σ Q := by
  unfold f_X0_agree
  unfold agr at hQ
  refine wp_if (fun c => ?_) (fun c => ?_)
  · rw [if_pos c] at hQ
    refine wp_if (fun d => ?_) (fun d => ?_)
    · rw [if_pos d] at hQ
      refine wp_if (fun e => ?_) (fun e => ?_)
      · rw [decide_eq_true e] at hQ
        exact wp_z1 hQ
      · rw [decide_eq_false e] at hQ
        exact wp_z0 hQ
    · rw [if_neg d] at hQ
      refine wp_if (fun e => ?_) (fun e => ?_)
      · rw [decide_eq_true e] at hQ
        exact wp_z1 hQ
      · rw [decide_eq_false e] at hQ
        exact wp_z0 hQ
  · rw [if_neg c] at hQ
    exact wp_z1 hQ
def fis (k : Int32) (w : Nat → Int32) : Bool := decide (k = 6 ∧ w 0 = 0 ∧ w 1 = 0 ∧ w 2 = 65535)
def inL (w v : Nat → Int32) (n : Int32) : Nat → Nat → Bool
  | 0, _ => true
  | m + 1, i => agr (w i) (v i) (n - 32 * nI i) && inL w v n m (i + 1)
def inR (k : Int32) (w : Nat → Int32) (k' : Int32) (v : Nat → Int32) (n : Int32) : Bool := if fis k w then decide (k' = 4) && agr (w 3) (v 0) n else decide (k = k') && inL w v n 4 0
section GA
variable {σ : gS} {a b g : Nat} {Q : Int32 → gS → Prop}
theorem sp_isFour (h : WF σ) (ha : gkd σ a = 1) (hQ : Q (b2i (fis (aK σ a) (aW σ a))) σ) : wp (f_X0_isFourInSix (some a)) σ Q := by
  unfold f_X0_isFourInSix
  unfold fis at hQ
  refine wp_b (wp_rI ha ?_)
  refine wp_if (fun c1 => ?_) (fun c1 => ?_)
  · refine aW_rd (Q := fun _ _ => True) (j := 0) h ha id (by omega) ?_
    refine wp_if (fun c2 => ?_) (fun c2 => ?_)
    · refine aW_rd (Q := fun _ _ => True) (j := 1) h ha id (by omega) ?_
      refine wp_if (fun c3 => ?_) (fun c3 => ?_)
      · refine aW_rd (Q := fun _ _ => True) (j := 2) h ha id (by omega) ?_
        refine wp_if (fun c4 => ?_) (fun c4 => ?_)
        · rw [decide_eq_true ⟨c1, c2, c3, c4⟩] at hQ
          exact wp_z1 hQ
        · rw [decide_eq_false (fun z => c4 z.2.2.2)] at hQ
          exact wp_z0 hQ
      · rw [decide_eq_false (fun z => c3 z.2.2.1)] at hQ
        exact wp_z0 hQ
    · rw [decide_eq_false (fun z => c2 z.2.1)] at hQ
      exact wp_z0 hQ
  · rw [decide_eq_false (fun z => c1 z.1)] at hQ
    exact wp_z0 hQ
theorem sp_inL {n : Int32} (h : WF σ) (ha : gkd σ a = 1) (hb : gkd σ b = 1) : ∀ (m i f : Nat), i + m = 4 → m < f → Q (b2i (inL (aW σ a) (aW σ b) n m i)) σ → wp (f_X0_isIn_L55 f (some a) (some b) n (nI i)) σ Q := by
  intro m
  induction m with
  | zero =>
    intro i f hi hf hQ
    obtain ⟨f, rfl⟩ : ∃ g, f = g + 1 := ⟨f - 1, by omega⟩
    rw [f_X0_isIn_L55]
    unfold f_X0_isIn_55
    exact wp_t (show nI 4 ≤ nI i from nI_le (by omega) (by omega)) (wp_z1 hQ)
  | succ m ih =>
    intro i f hi hf hQ
    obtain ⟨f, rfl⟩ : ∃ g, f = g + 1 := ⟨f - 1, by omega⟩
    rw [f_X0_isIn_L55]
    unfold f_X0_isIn_55
    refine wp_f (show ¬ nI 4 ≤ nI i from nI_ge (by omega) (by omega)) ?_
    refine aW_rd (Q := fun _ _ => True) h ha id (by omega) ?_
    refine aW_rd (Q := fun _ _ => True) h hb id (by omega) ?_
    refine wp_b (sp_agree ?_)
    rw [inL] at hQ
    refine wp_bz (fun c => ?_) (fun c => ?_)
    · rw [c] at hQ
      exact wp_z0 hQ
    · rw [c] at hQ
      rw [nI_1]
      exact ih (i + 1) f (by omega) (by omega) hQ
theorem sp_isIn {n : Int32} (h : WF σ) (ha : gkd σ a = 1) (hb : gkd σ b = 1) (hQ : Q (b2i (inR (aK σ a) (aW σ a) (aK σ b) (aW σ b) n)) σ) : wp (f_X0_isIn (some a) (some b) n) σ Q := by
  unfold f_X0_isIn
  unfold inR at hQ
  refine wp_b (wp_nn ha (wp_b (sp_isFour h ha ?_)))
  refine wp_bz (fun c => ?_) (fun c => ?_)
  · rw [c] at hQ
    simp only [Bool.false_eq_true, if_false] at hQ
    refine wp_b (wp_rI ha (wp_b (wp_rI hb ?_)))
    refine wp_if (fun d => ?_) (fun d => ?_)
    · rw [decide_eq_true (show aK σ a = aK σ b from d)] at hQ
      exact sp_inL h ha hb 4 0 gF (by omega) (by decide) hQ
    · rw [decide_eq_false (show ¬ aK σ a = aK σ b from d)] at hQ
      exact wp_z0 hQ
  · rw [c] at hQ
    simp only [if_true] at hQ
    refine wp_b (wp_rI hb ?_)
    refine wp_if (fun d => ?_) (fun d => ?_)
    · rw [decide_eq_true (show aK σ b = 4 from d)] at hQ
      refine aW_rd (Q := fun _ _ => True) (j := 3) h ha id (by omega) ?_
      refine aW_rd (Q := fun _ _ => True) (j := 0) h hb id (by omega) ?_
      refine wp_b (sp_agree ?_)
      refine wp_bz (fun e => ?_) (fun e => ?_)
      · rw [e] at hQ
        exact wp_z0 hQ
      · rw [e] at hQ
        exact wp_z1 hQ
    · rw [decide_eq_false (show ¬ aK σ b = 4 from d)] at hQ
      exact wp_z0 hQ
end GA
theorem inR_congr {k k' n : Int32} {w w' v v' : Nat → Int32} (hw : ∀ j, j < 4 → w j = w' j) (hv : ∀ j, j < 4 → v j = v' j) : inR k w k' v n = inR k w' k' v' n := by
  have e : inL w v n 4 0 = inL w' v' n 4 0 := by
    simp only [inL, hw 0 (by omega), hw 1 (by omega), hw 2 (by omega), hw 3 (by omega), hv 0 (by omega), hv 1 (by omega), hv 2 (by omega), hv 3 (by omega), Nat.zero_add]
  unfold inR fis
  rw [e, hw 0 (by omega), hw 1 (by omega), hw 2 (by omega), hw 3 (by omega), hv 0 (by omega)]
/-- what the Gate holds: listed HOSTs (kind, words, as written, below too), answers (name, kind, words), ranges (kind, words, bits) -/
abbrev HE : Type := Int32 × (Nat → Int32) × List Int32 × Int32
abbrev AE : Type := List Int32 × Int32 × (Nat → Int32)
abbrev RE : Type := Int32 × (Nat → Int32) × Int32
abbrev GV : Type := (Nat → HE) × Nat × (Nat → AE) × Nat × (Nat → RE) × Nat
def GH (G : GV) : Nat → HE := G.1
def NH (G : GV) : Nat := G.2.1
def GA (G : GV) : Nat → AE := G.2.2.1
def NA (G : GV) : Nat := G.2.2.2.1
def GR (G : GV) : Nat → RE := G.2.2.2.2.1
def NR (G : GV) : Nat := G.2.2.2.2.2
def adO (σ : gS) (a : Nat) (k : Int32) (w : Nat → Int32) : Prop := aK σ a = k ∧ ∀ j, j < 4 → aW σ a j = w j
def hsO (σ : gS) (h : Nat) (k : Int32) (w : Nat → Int32) (ys : List Int32) : Prop := adO σ (tg σ 2 0 h) k w ∧ rowL σ (tg σ 2 1 h) = ys
def Gt1 (σ : gS) (g : Nat) (G : GV) : Prop := gii σ 1 2 g = nI (NH G) ∧ NH G ≤ 12 ∧ ∀ i, i < NH G → ∃ h, gar σ (tg σ 1 0 g) i = some h ∧ hsO σ h (GH G i).1 (GH G i).2.1 (GH G i).2.2.1 ∧ gai σ (tg σ 1 1 g) i = (GH G i).2.2.2
def Gt2 (σ : gS) (g : Nat) (G : GV) : Prop := gii σ 1 5 g = nI (NA G) ∧ NA G ≤ 16 ∧ ∀ i, i < NA G → ∃ r a, gar σ (tg σ 1 3 g) i = some r ∧ rowL σ r = (GA G i).1 ∧ gar σ (tg σ 1 4 g) i = some a ∧ adO σ a (GA G i).2.1 (GA G i).2.2
def Gt3 (σ : gS) (g : Nat) (G : GV) : Prop := gii σ 1 8 g = nI (NR G) ∧ NR G ≤ 12 ∧ ∀ i, i < NR G → ∃ a, gar σ (tg σ 1 6 g) i = some a ∧ adO σ a (GR G i).1 (GR G i).2.1 ∧ gai σ (tg σ 1 7 g) i = (GR G i).2.2
def Gt (σ : gS) (g : Nat) (G : GV) : Prop := gkd σ g = 2 ∧ Gt1 σ g G ∧ Gt2 σ g G ∧ Gt3 σ g G
def inS (G : GV) (k : Int32) (w : Nat → Int32) : Nat → Nat → Bool
  | 0, _ => false
  | m + 1, i => inR k w (GR G i).1 (GR G i).2.1 (GR G i).2.2 || inS G k w m (i + 1)
def bel (k : Int32) (ys zs : List Int32) : Bool := decide (k = 0) && (decide (zs <:+ ys) && decide (bAt ys (nI ys.length - nI zs.length - 1) = 46))
def lsd (G : GV) (k : Int32) (ys : List Int32) : Nat → Nat → Bool
  | 0, _ => false
  | m + 1, i => decide (k = (GH G i).1 ∧ ys = (GH G i).2.2.1) || ((!decide ((GH G i).2.2.2 = 0) && bel k ys (GH G i).2.2.1) || lsd G k ys m (i + 1))
def jaL (G : GV) (ys : List Int32) : Nat → Nat → Nat → Bool → Int32
  | 0, _, c, o => if c = 0 then 4 else if o then 0 else 5
  | m + 1, i, c, o => if (GA G i).1 = ys then jaL G ys m (i + 1) (c + 1) (o && inS G (GA G i).2.1 (GA G i).2.2 (NR G) 0) else jaL G ys m (i + 1) c o
def jdg (G : GV) (U : UV) : Int32 := if uI U 0 = 0 ∨ uI U 0 = 2 then (if usr U then 2 else if lsd G (uK U) (uR U 4) (NH G) 0 then (if uK U = 0 then jaL G (uR U 4) (NA G) 0 0 true else if inS G (uK U) (uW U) (NR G) 0 then 0 else 5) else 3) else 1
section GB
variable {σ : gS} {a b g : Nat} {G : GV} {Q : Int32 → gS → Prop}
theorem WFx.gf (h : WF σ) (hg : gkd σ g = 2) {k : Nat} (hk : k < 9) (hf : grf 1 k = true) : grr σ 1 k g = some (tg σ 1 k g) ∧ gkd σ (tg σ 1 k g) = ftk 1 k ∧ (fln 1 k ≠ 0 → gln σ (tg σ 1 k g) = fln 1 k) := h.fld (c := 1) hg id (by decide) hk hf
theorem WFx.ek (h : WF σ) {j : Nat} (ha : 13 ≤ gkd σ a) (e : gar σ a j = some b) : gkd σ b = elk (gkd σ a) := h.2.2.2.2.1 a j b ha e
/-- reading place i of an array of things -/
theorem ga_rd {β : Type} {k t i o : Nat} {K : Option Nat → gM β} {P : β → gS → Prop} (h : WF σ) (hg : gkd σ g = 2) (hk : k < 9) (hf : grf 1 k = true) (ht : ftk 1 k = t + 10) (hl : i < fln 1 k) (hl2 : fln 1 k < 2 ^ 31) (e : gar σ (tg σ 1 k g) i = some o) (hQ : wp (K (some o)) σ P) : wp (gb (rR 1 k (some g)) fun v => gb (aR t v (nI i)) K) σ P := by
  obtain ⟨g1, g2, g3⟩ := h.gf hg hk hf
  have g3 := g3 (by omega)
  refine wp_b (wp_rR hg ?_)
  rw [g1]
  refine wp_b (wp_aR (t := t) (by rw [g2]; exact ht) (by rw [g3]; exact hl) (by rw [g3]; exact hl2) ?_)
  rw [e]
  exact hQ
theorem gi_rd {β : Type} {k t i : Nat} {K : Int32 → gM β} {P : β → gS → Prop} (h : WF σ) (hg : gkd σ g = 2) (hk : k < 9) (hf : grf 1 k = true) (ht : ftk 1 k = t + 10) (hl : i < fln 1 k) (hl2 : fln 1 k < 2 ^ 31) (hQ : wp (K (gai σ (tg σ 1 k g) i)) σ P) : wp (gb (rR 1 k (some g)) fun v => gb (aI t v (nI i)) K) σ P := by
  obtain ⟨g1, g2, g3⟩ := h.gf hg hk hf
  have g3 := g3 (by omega)
  refine wp_b (wp_rR hg ?_)
  rw [g1]
  exact wp_b (wp_aI (t := t) (by rw [g2]; exact ht) (by rw [g3]; exact hl) (by rw [g3]; exact hl2) hQ)
theorem sp_inS {k : Int32} {w : Nat → Int32} (h : WF σ) (hG : Gt σ g G) (ha : gkd σ a = 1) (hA : adO σ a k w) : ∀ (m i f : Nat), i + m = NR G → m < f → Q (b2i (inS G k w m i)) σ → wp (f_X2_isInSomeRange_L2 f (some g) (some a) (nI i)) σ Q := by
  obtain ⟨kg, -, -, n1, n2, n3⟩ := hG
  intro m
  induction m with
  | zero =>
    intro i f hi hf hQ
    obtain ⟨f, rfl⟩ : ∃ g, f = g + 1 := ⟨f - 1, by omega⟩
    rw [f_X2_isInSomeRange_L2]
    unfold f_X2_isInSomeRange_2
    refine wp_b (wp_rI kg ?_)
    rw [n1]
    exact wp_t (nI_le (by omega) (by omega)) (wp_z0 hQ)
  | succ m ih =>
    intro i f hi hf hQ
    obtain ⟨f, rfl⟩ : ∃ g, f = g + 1 := ⟨f - 1, by omega⟩
    rw [f_X2_isInSomeRange_L2]
    unfold f_X2_isInSomeRange_2
    refine wp_b (wp_rI kg ?_)
    rw [n1]
    refine wp_f (nI_ge (by omega) (by omega)) ?_
    refine wp_f (show ¬ nI 12 ≤ nI i from nI_ge (by omega) (by omega)) ?_
    obtain ⟨o, e1, e2, e3⟩ := n3 i (by omega)
    have ko : gkd σ o = 1 := by
      obtain ⟨-, q2, -⟩ := h.gf kg (k := 6) (by decide) rfl
      have := h.ek (by rw [q2]; decide) e1
      rw [q2] at this
      exact this
    refine ga_rd (k := 6) h kg (by decide) rfl (by decide) (show i < 12 by omega) (by decide) e1 ?_
    refine wp_f (by simp) (wp_f (by simp) ?_)
    refine gi_rd (k := 7) h kg (by decide) rfl (by decide) (show i < 12 by omega) (by decide) ?_
    rw [e3]
    refine wp_b (wp_nn ha (wp_b (sp_isIn h ha ko ?_)))
    rw [inS] at hQ
    rw [hA.1, e2.1, inR_congr hA.2 e2.2]
    refine wp_bz (fun c => ?_) (fun c => ?_)
    · rw [c] at hQ
      rw [nI_1]
      exact ih (i + 1) f (by omega) (by omega) hQ
    · rw [c] at hQ
      exact wp_z1 hQ
theorem sp_isInSome {k : Int32} {w : Nat → Int32} (h : WF σ) (hG : Gt σ g G) (ha : gkd σ a = 1) (hA : adO σ a k w) (hQ : Q (b2i (inS G k w (NR G) 0)) σ) : wp (f_X2_isInSomeRange (some g) (some a)) σ Q := by
  unfold f_X2_isInSomeRange
  exact sp_inS h hG ha hA (NR G) 0 gF (by omega) (by have := hG.2.2.2.2.1; unfold gF; omega) hQ
theorem sp_isBelow {x y : Nat} {k : Int32} {w : Nat → Int32} {ys zs : List Int32} {k' : Int32} {w' : Nat → Int32} (h : WF σ) (hx : gkd σ x = 3) (hy : gkd σ y = 3) (hX : hsO σ x k w ys) (hY : hsO σ y k' w' zs) (hQ : Q (b2i (bel k ys zs)) σ) : wp (f_X2_isBelow (some x) (some y)) σ Q := by
  obtain ⟨x1, x2, x3, x4⟩ := h.host hx id
  obtain ⟨y1, y2, y3, y4⟩ := h.host hy id
  unfold f_X2_isBelow
  unfold bel at hQ
  refine wp_b (wp_nn hx (wp_b (sp_isName h hx id ?_)))
  rw [hX.1.1]
  refine wp_bz (fun c => ?_) (fun c => ?_)
  · rw [c] at hQ
    exact wp_z0 hQ
  · rw [c] at hQ
    refine wp_b (wp_rR hx ?_)
    rw [x3]
    refine wp_b (wp_rR hy ?_)
    rw [y3]
    refine wp_b (wp_nn x4 (wp_b (sp_endsWith h x4 y4 id id ?_)))
    rw [hX.2, hY.2]
    refine wp_bz (fun d => ?_) (fun d => ?_)
    · rw [d] at hQ
      exact wp_z0 hQ
    · rw [d] at hQ
      refine wp_b (wp_rR hx ?_)
      refine wp_b (wp_rR hx ?_)
      rw [x3]
      refine wp_b (wp_rI x4 ?_)
      refine wp_b (wp_rR hy ?_)
      rw [y3]
      refine wp_b (wp_rI y4 ?_)
      rw [(h.row x4 id).2.2.1, (h.row y4 id).2.2.1, ← rowL_len, ← rowL_len, hX.2, hY.2]
      refine wp_b (wp_nn x4 (wp_b (sp_byteAt h x4 id ?_)))
      rw [hX.2]
      refine wp_if (fun e => ?_) (fun e => ?_)
      · rw [decide_eq_true e] at hQ
        exact wp_z1 hQ
      · rw [decide_eq_false e] at hQ
        exact wp_z0 hQ
theorem sp_lsd {x : Nat} {k : Int32} {w : Nat → Int32} {ys : List Int32} (h : WF σ) (hG : Gt σ g G) (hx : gkd σ x = 3) (hX : hsO σ x k w ys) : ∀ (m i f : Nat), i + m = NH G → m < f → Q (b2i (lsd G k ys m i)) σ → wp (f_X2_isListed_L2 f (some g) (some x) (nI i)) σ Q := by
  obtain ⟨kg, ⟨n1, n2, n3⟩, -, -⟩ := hG
  intro m
  induction m with
  | zero =>
    intro i f hi hf hQ
    obtain ⟨f, rfl⟩ : ∃ g, f = g + 1 := ⟨f - 1, by omega⟩
    rw [f_X2_isListed_L2]
    unfold f_X2_isListed_2
    refine wp_b (wp_rI kg ?_)
    rw [n1]
    exact wp_t (nI_le (by omega) (by omega)) (wp_z0 hQ)
  | succ m ih =>
    intro i f hi hf hQ
    obtain ⟨f, rfl⟩ : ∃ g, f = g + 1 := ⟨f - 1, by omega⟩
    rw [f_X2_isListed_L2]
    unfold f_X2_isListed_2
    refine wp_b (wp_rI kg ?_)
    rw [n1]
    refine wp_f (nI_ge (by omega) (by omega)) ?_
    refine wp_f (show ¬ nI 12 ≤ nI i from nI_ge (by omega) (by omega)) ?_
    obtain ⟨o, e1, e2, e3⟩ := n3 i (by omega)
    have ko : gkd σ o = 3 := by
      obtain ⟨-, q2, -⟩ := h.gf kg (k := 0) (by decide) rfl
      have := h.ek (by rw [q2]; decide) e1
      rw [q2] at this
      exact this
    refine ga_rd (k := 0) h kg (by decide) rfl (by decide) (show i < 12 by omega) (by decide) e1 ?_
    refine wp_f (by simp) ?_
    refine wp_b (wp_nn hx (wp_b (sp_equalsHost h hx ko id id id id ?_)))
    rw [hX.1.1, hX.2, e2.1.1, e2.2]
    rw [lsd] at hQ
    refine wp_bz (fun c => ?_) (fun c => ?_)
    · rw [c] at hQ
      refine gi_rd (k := 1) h kg (by decide) rfl (by decide) (show i < 12 by omega) (by decide) ?_
      rw [e3]
      refine wp_if (fun d => ?_) (fun d => ?_)
      · rw [decide_eq_true d] at hQ
        rw [nI_1]
        exact ih (i + 1) f (by omega) (by omega) hQ
      · rw [decide_eq_false d] at hQ
        refine wp_b (sp_isBelow h hx ko hX e2 ?_)
        refine wp_bz (fun e => ?_) (fun e => ?_)
        · rw [e] at hQ
          rw [nI_1]
          exact ih (i + 1) f (by omega) (by omega) hQ
        · rw [e] at hQ
          exact wp_z1 hQ
    · rw [c] at hQ
      exact wp_z1 hQ
theorem sp_isListed {x : Nat} {k : Int32} {w : Nat → Int32} {ys : List Int32} (h : WF σ) (hG : Gt σ g G) (hx : gkd σ x = 3) (hX : hsO σ x k w ys) (hQ : Q (b2i (lsd G k ys (NH G) 0)) σ) : wp (f_X2_isListed (some g) (some x)) σ Q := by
  unfold f_X2_isListed
  exact sp_lsd h hG hx hX (NH G) 0 gF (by omega) (by have := hG.2.1.2.1; unfold gF; omega) hQ
theorem sp_jaL {x : Nat} {ys : List Int32} (h : WF σ) (hG : Gt σ g G) (hx : gkd σ x = 5) (hX : rowL σ x = ys) : ∀ (m i c f : Nat) (o : Bool), i + m = NA G → c ≤ i → m < f → Q (jaL G ys m i c o) σ → wp (f_X2_judgeAnswers_L7 f (some g) (some x) (nI c) (b2i o) (nI i)) σ Q := by
  have hG' := hG
  obtain ⟨kg, -, ⟨n1, n2, n3⟩, -⟩ := hG
  intro m
  induction m with
  | zero =>
    intro i c f o hi hc hf hQ
    obtain ⟨f, rfl⟩ : ∃ g, f = g + 1 := ⟨f - 1, by omega⟩
    rw [f_X2_judgeAnswers_L7]
    unfold f_X2_judgeAnswers_7
    refine wp_b (wp_rI kg ?_)
    rw [n1]
    refine wp_t (nI_le (by omega) (by omega)) ?_
    unfold f_X2_judgeAnswers_79
    rw [jaL] at hQ
    refine wp_if (fun d => ?_) (fun d => ?_)
    · rw [if_pos ((nI_eq (a := c) (b := 0) (by omega) (by omega)).mp d)] at hQ
      exact wp_p hQ
    · rw [if_neg (fun z => d (by rw [z]; rfl))] at hQ
      refine wp_bz (fun e => ?_) (fun e => ?_)
      · rw [e] at hQ
        exact wp_p hQ
      · rw [e] at hQ
        exact wp_p hQ
  | succ m ih =>
    intro i c f o hi hc hf hQ
    obtain ⟨f, rfl⟩ : ∃ g, f = g + 1 := ⟨f - 1, by omega⟩
    rw [f_X2_judgeAnswers_L7]
    unfold f_X2_judgeAnswers_7
    refine wp_b (wp_rI kg ?_)
    rw [n1]
    refine wp_f (nI_ge (by omega) (by omega)) ?_
    refine wp_f (show ¬ nI 16 ≤ nI i from nI_ge (by omega) (by omega)) ?_
    obtain ⟨r, v, e1, e2, e3, e4⟩ := n3 i (by omega)
    have kr : gkd σ r = 5 := by
      obtain ⟨-, q2, -⟩ := h.gf kg (k := 3) (by decide) rfl
      have := h.ek (by rw [q2]; decide) e1
      rw [q2] at this
      exact this
    have kv : gkd σ v = 1 := by
      obtain ⟨-, q2, -⟩ := h.gf kg (k := 4) (by decide) rfl
      have := h.ek (by rw [q2]; decide) e3
      rw [q2] at this
      exact this
    refine ga_rd (k := 3) h kg (by decide) rfl (by decide) (show i < 16 by omega) (by decide) e1 ?_
    refine wp_f (by simp) ?_
    refine wp_b (wp_nn kr (wp_b (sp_equalsRow h kr hx id id ?_)))
    rw [e2, hX]
    rw [jaL] at hQ
    rw [nI_1]
    refine wp_bz (fun d => ?_) (fun d => ?_)
    · rw [if_neg (of_decide_eq_false d)] at hQ
      exact ih (i + 1) c f o (by omega) (by omega) (by omega) hQ
    · rw [if_pos (of_decide_eq_true d)] at hQ
      rw [nI_1]
      refine wp_bz (fun e => ?_) (fun e => ?_)
      · rw [e] at hQ
        exact ih (i + 1) (c + 1) f false (by omega) (by omega) (by omega) hQ
      · rw [e] at hQ
        refine ga_rd (k := 4) h kg (by decide) rfl (by decide) (show i < 16 by omega) (by decide) e3 ?_
        refine wp_b (wp_nn kg (wp_b (sp_isInSome h hG' kv e4 ?_)))
        refine wp_bz (fun z => ?_) (fun z => ?_)
        · rw [z] at hQ
          exact ih (i + 1) (c + 1) f false (by omega) (by omega) (by omega) hQ
        · rw [z] at hQ
          exact ih (i + 1) (c + 1) f true (by omega) (by omega) (by omega) hQ
theorem sp_judge {u : Nat} {U : UV} (h : WF σ) (hG : Gt σ g G) (hU : Ur σ u U) (hQ : Q (jdg G U) σ) : wp (f_X2_judge (some g) (some u)) σ Q := by
  obtain ⟨h1, h2, h3, h4, h5, h6⟩ := h.uhost hU.1
  have hA : adO σ (hA σ u) (uK U) (uW U) := ⟨hU.2.2.2.2.1, hU.2.2.2.2.2⟩
  have hX : hsO σ (hO σ u) (uK U) (uW U) (uR U 4) := ⟨hA, hU.2.2.1⟩
  have J : (uI U 0 = 0 ∨ uI U 0 = 2) → wp (f_X2_judge_17 (some g) (some u)) σ Q := by
    intro c0
    unfold jdg at hQ
    rw [if_pos c0] at hQ
    unfold f_X2_judge_17
    refine wp_b (wp_nn hU.1 (wp_b (sp_hasUser h hU ?_)))
    refine wp_bz (fun c => ?_) (fun c => ?_)
    · rw [c] at hQ
      simp only [Bool.false_eq_true, if_false] at hQ
      refine wp_b (wp_rR hU.1 ?_)
      rw [h1]
      refine wp_b (wp_nn hG.1 (wp_b (sp_isListed h hG h2 hX ?_)))
      refine wp_bz (fun d => ?_) (fun d => ?_)
      · rw [d] at hQ
        exact wp_p hQ
      · rw [d] at hQ
        simp only [if_true] at hQ
        refine wp_b (wp_rR hU.1 ?_)
        rw [h1]
        refine wp_b (wp_nn h2 (wp_b (sp_isName h h2 id ?_)))
        rw [hX.1.1]
        refine wp_bz (fun e => ?_) (fun e => ?_)
        · rw [if_neg (of_decide_eq_false e)] at hQ
          refine wp_b (wp_rR hU.1 ?_)
          rw [h1]
          refine wp_b (wp_rR h2 ?_)
          rw [h3]
          refine wp_b (wp_nn hG.1 (wp_b (sp_isInSome h hG h4 hA ?_)))
          refine wp_bz (fun z => ?_) (fun z => ?_)
          · rw [z] at hQ
            exact wp_p hQ
          · rw [z] at hQ
            exact wp_p hQ
        · rw [if_pos (of_decide_eq_true e)] at hQ
          refine wp_b (wp_rR hU.1 ?_)
          rw [h1]
          refine wp_b (wp_rR h2 ?_)
          rw [h5]
          refine wp_b (wp_nn hG.1 (wp_b ?_))
          unfold f_X2_judgeAnswers
          exact sp_jaL h hG h6 hX.2 (NA G) 0 0 gF true (by omega) (by omega) (by have := hG.2.2.1.2.1; unfold gF; omega) (wp_p hQ)
    · rw [c] at hQ
      exact wp_p hQ
  unfold f_X2_judge
  refine hU.ri ?_
  refine wp_if (fun c => J (Or.inl c)) (fun c => ?_)
  refine hU.ri ?_
  refine wp_if (fun d => J (Or.inr d)) (fun d => ?_)
  unfold jdg at hQ
  rw [if_neg (fun z => z.elim c d)] at hQ
  exact wp_p hQ
end GB
