/-! PURE: what a program does, by what must hold behind it -/
def wp {α : Type} (m : gM α) (σ : gS) (Q : α → gS → Prop) : Prop := ∃ x, m.1 σ = some x ∧ Q x.1 x.2
theorem wp_b {α β : Type} {m : gM α} {k : α → gM β} {σ : gS} {Q : β → gS → Prop} (h : wp m σ (fun x σ' => wp (k x) σ' Q)) : wp (gb m k) σ Q := by
  obtain ⟨x, h1, y, h2, h3⟩ := h
  exact ⟨y, by rw [gb_run h1]; exact h2, h3⟩
theorem wp_p {α : Type} {a : α} {σ : gS} {Q : α → gS → Prop} (h : Q a σ) : wp (gp a) σ Q := ⟨(a, σ), rfl, h⟩
theorem wp_mono {α : Type} {m : gM α} {σ : gS} {Q Q' : α → gS → Prop} (h : wp m σ Q) (hQ : ∀ x τ, Q x τ → Q' x τ) : wp m σ Q' := by
  obtain ⟨x, h1, h2⟩ := h
  exact ⟨x, h1, hQ _ _ h2⟩
theorem wp_if {α : Type} {c : Prop} [Decidable c] {A B : gM α} {σ : gS} {Q : α → gS → Prop} (h1 : c → wp A σ Q) (h2 : ¬ c → wp B σ Q) : wp (if c then A else B) σ Q := by
  by_cases h : c
  · rw [if_pos h]; exact h1 h
  · rw [if_neg h]; exact h2 h
theorem wp_t {α : Type} {c : Prop} [Decidable c] {A B : gM α} {σ : gS} {Q : α → gS → Prop} (h : c) (h1 : wp A σ Q) : wp (if c then A else B) σ Q := by rw [if_pos h]; exact h1
theorem wp_f {α : Type} {c : Prop} [Decidable c] {A B : gM α} {σ : gS} {Q : α → gS → Prop} (h : ¬ c) (h1 : wp B σ Q) : wp (if c then A else B) σ Q := by rw [if_neg h]; exact h1
theorem wp_z {x : Int32} {σ : gS} {Q : Int32 → gS → Prop} (hx : x = 0 ∨ x = 1) (h : Q x σ) : wp (gz x) σ Q := by unfold gz; exact wp_t hx (wp_p h)
theorem wp_z0 {σ : gS} {Q : Int32 → gS → Prop} (h : Q 0 σ) : wp (gz 0) σ Q := wp_z (Or.inl rfl) h
theorem wp_z1 {σ : gS} {Q : Int32 → gS → Prop} (h : Q 1 σ) : wp (gz 1) σ Q := wp_z (Or.inr rfl) h
theorem wp_rI {c k a : Nat} {σ : gS} {Q : Int32 → gS → Prop} (hk : gkd σ a = c + 1) (h : Q (gii σ c k a) σ) : wp (rI c k (some a)) σ Q := ⟨(gii σ c k a, σ), by simp [rI, gq, hk], h⟩
theorem wp_rR {c k a : Nat} {σ : gS} {Q : Option Nat → gS → Prop} (hk : gkd σ a = c + 1) (h : Q (grr σ c k a) σ) : wp (rR c k (some a)) σ Q := ⟨(grr σ c k a, σ), by simp [rR, gq, hk], h⟩
theorem wp_wI {c k a : Nat} {v : Int32} {σ : gS} {Q : Unit → gS → Prop} (hk : gkd σ a = c + 1) (h : Q () (gsI σ c k a v)) : wp (wI c k (some a) v) σ Q := ⟨((), gsI σ c k a v), by simp [wI, gu, hk], h⟩
theorem wp_wZ {c k a : Nat} {v : Int32} {σ : gS} {Q : Unit → gS → Prop} (hk : gkd σ a = c + 1) (hv : v = 0 ∨ v = 1) (h : Q () (gsI σ c k a v)) : wp (wZ c k (some a) v) σ Q := ⟨((), gsI σ c k a v), by simp [wZ, gu, hk, hv], h⟩
theorem wp_wR {c k a : Nat} {v : Option Nat} {σ : gS} {Q : Unit → gS → Prop} (hk : gkd σ a = c + 1) (h : Q () (gsR σ c k a v)) : wp (wR c k (some a) v) σ Q := ⟨((), gsR σ c k a v), by simp [wR, gu, hk], h⟩
theorem wp_nO {c : Nat} {σ : gS} {Q : Option Nat → gS → Prop} (h1 : 1 ≤ gcl σ) (h2 : gnf c ≤ gsl σ) (h : Q (some (gsz σ)) (gsN σ c 0 (gnf c))) : wp (nO c) σ Q := ⟨(some (gsz σ), gsN σ c 0 (gnf c)), by simp [nO, h1, h2], h⟩
theorem wp_nA {t n : Nat} {σ : gS} {Q : Option Nat → gS → Prop} (hn : n ≤ 100000) (h1 : 1 ≤ gcl σ) (h2 : n ≤ gsl σ) (h : Q (some (gsz σ)) (gsN σ (t + 9) n n)) : wp (nA t (nI n)) σ Q := by
  have e := nI_clamp (n := n) (by omega)
  have e0 := nI_pos (n := n) (by omega)
  exact ⟨(some (gsz σ), gsN σ (t + 9) n n), by simp [nA, e, e0, hn, h1, h2], h⟩
theorem wp_aL {t a : Nat} {σ : gS} {Q : Int32 → gS → Prop} (hk : gkd σ a = t + 10) (h : Q (nI (gln σ a)) σ) : wp (aL t (some a)) σ Q := ⟨(Int32.ofNat (gln σ a), σ), by simp [aL, gq, hk], h⟩
theorem gin_nI {j n : Nat} (h : j < n) (hn : n < 2 ^ 31) : gin (nI j) n = true := gin_iff.mpr (vp_in_nI h hn)
theorem wp_aI {t a j : Nat} {σ : gS} {Q : Int32 → gS → Prop} (hk : gkd σ a = t + 10) (hj : j < gln σ a) (hn : gln σ a < 2 ^ 31) (h : Q (gai σ a j) σ) : wp (aI t (some a) (nI j)) σ Q := ⟨(gai σ a j, σ), by simp [aI, gq, hk, gin_nI hj hn, nI_clamp (Nat.lt_trans hj hn)], h⟩
theorem wp_aR {t a j : Nat} {σ : gS} {Q : Option Nat → gS → Prop} (hk : gkd σ a = t + 10) (hj : j < gln σ a) (hn : gln σ a < 2 ^ 31) (h : Q (gar σ a j) σ) : wp (aR t (some a) (nI j)) σ Q := ⟨(gar σ a j, σ), by simp [aR, gq, hk, gin_nI hj hn, nI_clamp (Nat.lt_trans hj hn)], h⟩
theorem wp_sI {t a j : Nat} {v : Int32} {σ : gS} {Q : Unit → gS → Prop} (hk : gkd σ a = t + 10) (hj : j < gln σ a) (hn : gln σ a < 2 ^ 31) (h : Q () (gsA σ a j (gnar t v))) : wp (sI t (some a) (nI j) v) σ Q := ⟨((), gsA σ a j (gnar t v)), by simp [sI, gu, hk, gin_nI hj hn, nI_clamp (Nat.lt_trans hj hn)], h⟩
theorem wp_sR {t c a b j : Nat} {σ : gS} {Q : Unit → gS → Prop} (hk : gkd σ a = t + 10) (hj : j < gln σ a) (hn : gln σ a < 2 ^ 31) (hb : gkd σ b = c + 1) (h : Q () (gsQ σ a j (some b))) : wp (sR t c (some a) (nI j) (some b)) σ Q := ⟨((), gsQ σ a j (some b)), by simp [sR, gu, hk, hb, gin_nI hj hn, nI_clamp (Nat.lt_trans hj hn)], h⟩
theorem wp_nn {c a : Nat} {σ : gS} {Q : Unit → gS → Prop} (hk : gkd σ a = c + 1) (h : Q () σ) : wp (nn c (some a)) σ Q := ⟨((), σ), by simp [nn, gq, hk], h⟩
theorem wp_nz {x : Int32} {σ : gS} {Q : Unit → gS → Prop} (hx : ¬ x = 0) (h : Q () σ) : wp (nz x) σ Q := by unfold nz; exact wp_f hx (wp_p h)
theorem wp_tk {i : Nat} {σ : gS} {Q : Unit → gS → Prop} (hi : i < 24) (h : Q () σ) : wp (tk i) σ Q := by unfold tk; exact wp_t hi (wp_p h)
theorem wp_tA {i j : Nat} {σ : gS} {Q : Int32 → gS → Prop} (hi : i < 24) (hj : j < gLen.getD i 0) (hn : gLen.getD i 0 < 2 ^ 31) (h : Q ((gByt.getD i []).getD j 0) σ) : wp (tA i (nI j)) σ Q := by
  unfold tA
  refine wp_t ⟨hi, gin_nI hj hn⟩ (wp_p ?_)
  rw [nI_clamp (Nat.lt_trans hj hn)]
  exact h
theorem wp_cp {a b n : Nat} {σ : gS} {Q : Unit → gS → Prop} (ha : gkd σ a = 11) (hb : gkd σ b = 11) (h1 : n ≤ gln σ a) (h2 : n ≤ gln σ b) (hn : n < 2 ^ 31) (h : Q () (gsC σ a b n)) : wp (cp (some a) (some b) (nI n)) σ Q := ⟨((), gsC σ a b n), by simp [cp, gu, ha, hb, nI_clamp hn, nI_pos hn, h1, h2], h⟩
theorem wp_ch {x : Int32} {σ : gS} {Q : Int32 → gS → Prop} (hx : narrow .char (.int x) = .int x) (h : Q x σ) : wp (gch x) σ Q := by unfold gch; exact wp_t hx (wp_p h)
theorem wp_by {x : Int32} {σ : gS} {Q : Int32 → gS → Prop} (hx : narrow .byte (.int x) = .int x) (h : Q x σ) : wp (gby x) σ Q := by unfold gby; exact wp_t hx (wp_p h)
theorem wp_e {α : Type} {m m' : gM α} {σ : gS} {Q : α → gS → Prop} (e : m = m') (h : wp m' σ Q) : wp m σ Q := e ▸ h
