/-! WHAT EVERY STATE OF THE SYSTEM KEEPS -/
/-- the kind of what a reference field holds, the length of an array that never changes (0: it may) -/
def ftk (c k : Nat) : Nat := ([[0, 11], [14, 12, 0, 15, 13, 0, 13, 11, 0], [1, 5], [5, 11, 0], [11, 0], [0, 5, 5, 5, 3, 0, 5, 0, 5, 0, 5, 0], [5, 0, 0, 0], [5, 5, 16, 3, 4, 7, 2, 6], [10, 0, 12, 11, 11, 11, 11, 12, 12, 10, 11, 10, 0, 0, 10, 0, 0, 11, 10, 0, 10, 11, 11, 11, 12, 0, 10, 11, 11, 11, 0, 11, 11, 11, 0]].getD c []).getD k 0
def fln (c k : Nat) : Nat := ([[0, 4], [12, 12, 0, 16, 16, 0, 12, 12, 0], [0, 0], [0, 8, 0], [0, 0], [], [], [0, 0, 4, 0, 0, 0, 0, 0], [300, 0, 5, 5, 5, 5, 40, 5, 5, 72000, 30, 300, 0, 0, 300, 0, 0, 8, 400, 0, 3600, 12, 12, 96, 12, 0, 4800, 16, 16, 64, 0, 12, 48, 12, 0]].getD c []).getD k 0
def elk (d : Nat) : Nat := [1, 3, 5, 6].getD (d - 13) 0
def tg (σ : gS) (c k a : Nat) : Nat := (grr σ c k a).getD 0
def rlen (σ : gS) (r : Nat) : Nat := (gii σ 4 1 r).toNatClampNeg
def rcap (σ : gS) (r : Nat) : Nat := gln σ (tg σ 4 0 r)
def rowL (σ : gS) (r : Nat) : List Int32 := (List.range (rlen σ r)).map (gai σ (tg σ 4 0 r))
/-- but for those that are being made -/
def WFx (ex : Nat → Prop) (σ : gS) : Prop :=
  (∀ a, gkd σ a ≠ 0 → a < gsz σ) ∧
  (∀ a c k, gkd σ a = c + 1 → ¬ ex a → c < 9 → k < gnf c → grf c k = true → ∃ b, grr σ c k a = some b ∧ gkd σ b = ftk c k ∧ (fln c k ≠ 0 → gln σ b = fln c k)) ∧
  (∀ a a' c c' k k' b, gkd σ a = c + 1 → gkd σ a' = c' + 1 → k < gnf c → k' < gnf c' → grf c k = true → grf c' k' = true → grr σ c k a = some b → grr σ c' k' a' = some b → c = c' ∧ k = k' ∧ a = a') ∧
  (∀ r, gkd σ r = 5 → ¬ ex r → gii σ 4 1 r = nI (rlen σ r) ∧ rlen σ r ≤ rcap σ r ∧ ∃ i, i ≤ 7 ∧ rcap σ r = 32 * 2 ^ i) ∧
  (∀ a j b, 13 ≤ gkd σ a → gar σ a j = some b → gkd σ b = elk (gkd σ a)) ∧
  (∀ a a' j j' b, 13 ≤ gkd σ a → 13 ≤ gkd σ a' → gar σ a j = some b → gar σ a' j' = some b → a = a' ∧ j = j') ∧
  (∀ a a' c k j b, gkd σ a = c + 1 → k < gnf c → grf c k = true → grr σ c k a = some b → 13 ≤ gkd σ a' → gar σ a' j = some b → False) ∧
  (∀ a c k b, gkd σ a = c + 1 → k < gnf c → grf c k = true → grr σ c k a = some b → gkd σ b ≠ 0) ∧
  (∀ a j b, 13 ≤ gkd σ a → gar σ a j = some b → gkd σ b ≠ 0)
abbrev WF (σ : gS) : Prop := WFx (fun _ => False) σ
/-- room that rows may still want as they grow -/
def pot (σ : gS) (a : Nat) : Nat := if gkd σ a = 5 then 8192 - 2 * rcap σ a else 0
def psum (σ : gS) : Nat → Nat
  | 0 => 0
  | n + 1 => psum σ n + pot σ n
def Bud (σ : gS) (n : Nat) : Prop := psum σ (gsz σ) + n ≤ gsl σ ∧ psum σ (gsz σ) + n ≤ 64 * gcl σ
/-- what may have changed: 0 a row, 1 an int field, 2 a reference field, 3 the contents of a field's array -/
def Mod (X : Nat → Nat → Nat → Nat → Prop) (σ σ' : gS) : Prop :=
  (∀ a, gkd σ a ≠ 0 → gkd σ' a = gkd σ a) ∧ gsz σ ≤ gsz σ' ∧
  (∀ r, gkd σ r = 5 → grr σ 4 0 r ≠ none → grr σ' 4 0 r ≠ none ∧ (¬ X 0 r 0 0 → rowL σ' r = rowL σ r)) ∧
  (∀ c k a, c ≠ 4 → gkd σ a = c + 1 → ¬ X 1 c k a → gii σ' c k a = gii σ c k a) ∧
  (∀ c k a, c ≠ 4 → gkd σ a = c + 1 → (¬ X 2 c k a ∨ 10 ≤ ftk c k) → grr σ' c k a = grr σ c k a) ∧
  (∀ c k a b, c ≠ 4 → gkd σ a = c + 1 → k < gnf c → grf c k = true → 10 ≤ ftk c k → grr σ c k a = some b → gln σ' b = gln σ b ∧ (¬ X 3 c k a → ∀ j, gai σ' b j = gai σ b j ∧ gar σ' b j = gar σ b j))
/-- the room: d of it may have gone -/
def BK (d : Nat) (σ σ' : gS) : Prop := ∀ n, Bud σ (n + d) → Bud σ' n
theorem BK.rf {σ : gS} : BK 0 σ σ := fun _ h => h
theorem BK.trans {d e : Nat} {σ σ1 σ2 : gS} (h1 : BK d σ σ1) (h2 : BK e σ1 σ2) : BK (e + d) σ σ2 := fun n h => h2 n (h1 (n + e) (by rw [Nat.add_assoc]; exact h))
theorem Mod.rf {X : Nat → Nat → Nat → Nat → Prop} {σ : gS} : Mod X σ σ := ⟨fun _ _ => rfl, Nat.le_refl _, fun _ _ h => ⟨h, fun _ => rfl⟩, fun _ _ _ _ _ _ => rfl, fun _ _ _ _ _ _ => rfl, fun _ _ _ _ _ _ _ _ _ _ => ⟨rfl, fun _ _ => ⟨rfl, rfl⟩⟩⟩
theorem Mod.trans {X : Nat → Nat → Nat → Nat → Prop} {σ σ1 σ2 : gS} (h1 : Mod X σ σ1) (h2 : Mod X σ1 σ2) : Mod X σ σ2 := by
  obtain ⟨a1, a2, a3, a4, a5, a6⟩ := h1
  obtain ⟨b1, b2, b3, b4, b5, b6⟩ := h2
  have kk : ∀ a, gkd σ a ≠ 0 → gkd σ1 a = gkd σ a := a1
  refine ⟨fun a h => ?_, Nat.le_trans a2 b2, fun r hr hg => ?_, fun c k a hc ha hx => ?_, fun c k a hc ha hx => ?_, fun c k a b hc ha hk hr ht hb => ?_⟩
  · rw [b1 a (by rw [a1 a h]; exact h), a1 a h]
  · obtain ⟨p1, p2⟩ := a3 r hr hg
    obtain ⟨q1, q2⟩ := b3 r (by rw [a1 r (by rw [hr]; omega)]; exact hr) p1
    exact ⟨q1, fun hx => (q2 hx).trans (p2 hx)⟩
  · rw [b4 c k a hc (by rw [a1 a (by rw [ha]; omega)]; exact ha) hx, a4 c k a hc ha hx]
  · rw [b5 c k a hc (by rw [a1 a (by rw [ha]; omega)]; exact ha) hx, a5 c k a hc ha hx]
  · obtain ⟨q1, q2⟩ := a6 c k a b hc ha hk hr ht hb
    obtain ⟨p1, p2⟩ := b6 c k a b hc (by rw [a1 a (by rw [ha]; omega)]; exact ha) hk hr ht (by rw [a5 c k a hc ha (Or.inr ht)]; exact hb)
    exact ⟨p1.trans q1, fun hx j => ⟨(p2 hx j).1.trans (q2 hx j).1, (p2 hx j).2.trans (q2 hx j).2⟩⟩
theorem Mod.mono {X Y : Nat → Nat → Nat → Nat → Prop} {σ σ' : gS} (h : Mod X σ σ') (hXY : ∀ t a b c, X t a b c → Y t a b c) : Mod Y σ σ' := by
  obtain ⟨a1, a2, a3, a4, a5, a6⟩ := h
  refine ⟨a1, a2, fun r hr hg => ⟨(a3 r hr hg).1, fun hx => (a3 r hr hg).2 (fun z => hx (hXY _ _ _ _ z))⟩, fun c k a hc ha hx => a4 c k a hc ha (fun z => hx (hXY _ _ _ _ z)), fun c k a hc ha hx => a5 c k a hc ha (hx.imp (fun hx z => hx (hXY _ _ _ _ z)) id), fun c k a b hc ha hk hr ht hb => ⟨(a6 c k a b hc ha hk hr ht hb).1, fun hx => (a6 c k a b hc ha hk hr ht hb).2 (fun z => hx (hXY _ _ _ _ z))⟩⟩
theorem rowL_len (σ : gS) (r : Nat) : (rowL σ r).length = rlen σ r := by simp [rowL]
theorem rowL_get {σ : gS} {r j : Nat} (h : j < rlen σ r) : (rowL σ r).getD j 0 = gai σ (tg σ 4 0 r) j := by simp [rowL, h]
theorem tg_of {σ : gS} {c k a b : Nat} (h : grr σ c k a = some b) : tg σ c k a = b := by simp [tg, h]
/-- a row: its array, how long it is, how long the array is -/
theorem WFx.row {ex : Nat → Prop} {σ : gS} (h : WFx ex σ) {r : Nat} (hr : gkd σ r = 5) (hx : ¬ ex r) : grr σ 4 0 r = some (tg σ 4 0 r) ∧ gkd σ (tg σ 4 0 r) = 11 ∧ gii σ 4 1 r = nI (rlen σ r) ∧ rlen σ r ≤ gln σ (tg σ 4 0 r) ∧ gln σ (tg σ 4 0 r) ≤ 4096 ∧ 32 ≤ gln σ (tg σ 4 0 r) := by
  obtain ⟨b, h1, h2, -⟩ := h.2.1 r 4 0 hr hx (by decide) (by decide) rfl
  obtain ⟨g1, g2, i, g3, g4⟩ := h.2.2.2.1 r hr hx
  rw [tg_of h1]
  have e : rcap σ r = gln σ b := by rw [rcap, tg_of h1]
  rw [e] at g2 g4
  have p1 : 2 ^ i ≤ 2 ^ 7 := Nat.pow_le_pow_right (by omega) g3
  have p2 : 1 ≤ 2 ^ i := Nat.one_le_two_pow
  exact ⟨h1, h2, g1, g2, by omega, by omega⟩
/-- byte i of a row, as Row.byteAt has it -/
def bAt (xs : List Int32) (i : Int32) : Int32 := if i < 0 then -1 else if nI xs.length ≤ i then -1 else xs.getD i.toNatClampNeg 0
theorem bAt_nI {xs : List Int32} {j : Nat} (hj : j < xs.length) (hn : xs.length < 2 ^ 31) : bAt xs (nI j) = xs.getD j 0 := by
  unfold bAt
  rw [if_neg (nI_pos (by omega)), if_neg (nI_ge hj hn), nI_clamp (by omega)]
theorem bAt_out {xs : List Int32} {j : Nat} (hj : xs.length ≤ j) (hn : j < 2 ^ 31) : bAt xs (nI j) = -1 := by
  unfold bAt
  rw [if_neg (nI_pos hn), if_pos (nI_le hj hn)]
theorem sp_byteAt {ex : Nat → Prop} {σ : gS} {r : Nat} {i : Int32} {Q : Int32 → gS → Prop} (h : WFx ex σ) (hr : gkd σ r = 5) (hx : ¬ ex r) (hQ : Q (bAt (rowL σ r) i) σ) : wp (f_X5_byteAt (some r) i) σ Q := by
  obtain ⟨g1, g2, g3, g4, g5, g6⟩ := h.row hr hx
  unfold f_X5_byteAt
  unfold bAt at hQ
  rw [rowL_len] at hQ
  refine wp_if (fun c1 => ?_) (fun c1 => ?_)
  · rw [if_pos c1] at hQ
    exact wp_p hQ
  · rw [if_neg c1] at hQ
    refine wp_b (wp_rI hr ?_)
    rw [g3]
    refine wp_if (fun c2 => ?_) (fun c2 => ?_)
    · rw [if_pos c2] at hQ
      exact wp_p hQ
    · rw [if_neg c2] at hQ
      obtain ⟨j, hj, rfl⟩ : ∃ j : Nat, j < rlen σ r ∧ i = nI j := by
        rcases pk_ix i (n := rlen σ r) (by omega) with h | h | h
        · exact absurd h c1
        · exact absurd h c2
        · exact h
      rw [nI_clamp (by omega), rowL_get hj] at hQ
      refine wp_b (wp_rR hr ?_)
      rw [g1]
      refine wp_b (wp_aL (t := 1) g2 ?_)
      refine wp_t (nI_lt (by omega) (by omega)) ?_
      refine wp_b (wp_rR hr ?_)
      rw [g1]
      exact wp_b (wp_aI (t := 1) g2 (by omega) (by omega) (wp_p hQ))
