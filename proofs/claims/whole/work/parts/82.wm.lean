/-! THE OTHER OBJECT: its state as arrays and ints by their fields -/
abbrev MS : Type := (Nat → Nat → Int32) × (Nat → Int32)
def mA (M : MS) : Nat → Nat → Int32 := M.1
def mI (M : MS) : Nat → Int32 := M.2
def uA (M : MS) (k j : Nat) (v : Int32) : MS := (fun k' j' => if k' = k ∧ j' = j then v else mA M k' j', mI M)
def uN (M : MS) (k : Nat) (v : Int32) : MS := (mA M, fun k' => if k' = k then v else mI M k')
theorem mA_uA (M : MS) (k j : Nat) (v : Int32) (k' j' : Nat) : mA (uA M k j v) k' j' = if k' = k ∧ j' = j then v else mA M k' j' := rfl
theorem mA_uN (M : MS) (k : Nat) (v : Int32) : mA (uN M k v) = mA M := rfl
theorem mI_uA (M : MS) (k j : Nat) (v : Int32) : mI (uA M k j v) = mI M := rfl
theorem mI_uN (M : MS) (k : Nat) (v : Int32) (k' : Nat) : mI (uN M k v) k' = if k' = k then v else mI M k' := rfl
def Md (σ : gS) (m : Nat) (D : Nat → Nat) (M : MS) : Prop := WF σ ∧ gkd σ m = 9 ∧ (∀ k, k < 35 → grf 8 k = true → grr σ 8 k m = some (D k) ∧ ∀ j, gai σ (D k) j = mA M k j) ∧ ∀ k, gii σ 8 k m = mI M k
abbrev XM : Nat → Nat → Nat → Nat → Prop := fun t x _ _ => t ≠ 0 ∧ x = 8
def wm {α : Type} (m : Nat) (D : Nat → Nat) (p : gM α) (M : MS) (P : α → MS → Prop) : Prop := ∀ σ, Md σ m D M → wp p σ (fun r σ' => ∃ M', Md σ' m D M' ∧ Mod XM σ σ' ∧ BK 0 σ σ' ∧ P r M')
/-- field k holds an array of type t -/
def mf (k t : Nat) : Bool := decide (k < 35) && (grf 8 k && decide (ftk 8 k = t + 10))
theorem mf_ok {k t : Nat} (h : mf k t = true) : k < 35 ∧ grf 8 k = true ∧ ftk 8 k = t + 10 := by
  unfold mf at h
  rw [Bool.and_eq_true, Bool.and_eq_true] at h
  exact ⟨of_decide_eq_true h.1, h.2.1, of_decide_eq_true h.2.2⟩
theorem fln8 : ∀ k, k < 35 → fln 8 k ≤ 72000 := by decide
section WM
variable {α β : Type} {m : Nat} {D : Nat → Nat} {M : MS}
theorem wm_b {p : gM α} {K : α → gM β} {P : β → MS → Prop} (h : wm m D p M (fun x M' => wm m D (K x) M' P)) : wm m D (gb p K) M P := by
  intro σ hσ
  refine wp_b (wp_mono (h σ hσ) (fun x σ1 q => ?_))
  obtain ⟨M1, d1, m1, b1, w⟩ := q
  refine wp_mono (w σ1 d1) (fun y σ2 q => ?_)
  obtain ⟨M2, d2, m2, b2, p2⟩ := q
  exact ⟨M2, d2, m1.trans m2, b1.trans b2, p2⟩
theorem wm_p {a : α} {P : α → MS → Prop} (h : P a M) : wm m D (gp a) M P := fun σ hσ => wp_p ⟨M, hσ, Mod.rf, BK.rf, h⟩
theorem wm_mono {p : gM α} {P P' : α → MS → Prop} (h : wm m D p M P) (hP : ∀ x M', P x M' → P' x M') : wm m D p M P' := fun σ hσ => wp_mono (h σ hσ) (fun x σ1 q => by
  obtain ⟨M1, d1, m1, b1, w⟩ := q
  exact ⟨M1, d1, m1, b1, hP _ _ w⟩)
theorem wm_if {c : Prop} [Decidable c] {A B : gM α} {P : α → MS → Prop} (h1 : c → wm m D A M P) (h2 : ¬ c → wm m D B M P) : wm m D (if c then A else B) M P := by
  by_cases h : c
  · rw [if_pos h]; exact h1 h
  · rw [if_neg h]; exact h2 h
theorem wm_t {c : Prop} [Decidable c] {A B : gM α} {P : α → MS → Prop} (h : c) (h1 : wm m D A M P) : wm m D (if c then A else B) M P := by rw [if_pos h]; exact h1
theorem wm_f {c : Prop} [Decidable c] {A B : gM α} {P : α → MS → Prop} (h : ¬ c) (h1 : wm m D B M P) : wm m D (if c then A else B) M P := by rw [if_neg h]; exact h1
theorem wm_bz {b : Bool} {A B : gM α} {P : α → MS → Prop} (h1 : b = false → wm m D A M P) (h2 : b = true → wm m D B M P) : wm m D (if b2i b = 0 then A else B) M P := by
  cases b with
  | false => exact wm_t rfl (h1 rfl)
  | true => exact wm_f (by decide) (h2 rfl)
/-- a program that changes nothing -/
theorem wm_q {p : gM α} {r : α} {P : α → MS → Prop} (hp : ∀ (σ : gS) (Q : α → gS → Prop), Q r σ → wp p σ Q) (h : P r M) : wm m D p M P := fun σ hσ => hp σ _ ⟨M, hσ, Mod.rf, BK.rf, h⟩
theorem wm_z {b : Bool} {P : Int32 → MS → Prop} (h : P (b2i b) M) : wm m D (gz (b2i b)) M P := wm_q (fun _ _ => wp_z (by cases b; exact Or.inl rfl; exact Or.inr rfl)) h
theorem wm_z0 {P : Int32 → MS → Prop} (h : P 0 M) : wm m D (gz 0) M P := wm_z (b := false) h
theorem wm_z1 {P : Int32 → MS → Prop} (h : P 1 M) : wm m D (gz 1) M P := wm_z (b := true) h
theorem wm_nn {P : Unit → MS → Prop} (h : P () M) : wm m D (nn 8 (some m)) M P := fun σ hσ => wp_nn hσ.2.1 ⟨M, hσ, Mod.rf, BK.rf, h⟩
theorem wm_rI {k : Nat} {P : Int32 → MS → Prop} (h : P (mI M k) M) : wm m D (rI 8 k (some m)) M P := fun σ hσ => wp_rI hσ.2.1 ⟨M, hσ, Mod.rf, BK.rf, by rw [hσ.2.2.2 k]; exact h⟩
theorem wm_wI {k : Nat} {v : Int32} {P : Unit → MS → Prop} (h : P () (uN M k v)) : wm m D (wI 8 k (some m) v) M P := fun σ hσ => by
  obtain ⟨w1, w2, w3⟩ := int_upd (c := 8) (k := k) (a := m) (v := v) hσ.1 (by decide)
  refine wp_wI hσ.2.1 ⟨uN M k v, ⟨w1, hσ.2.1, hσ.2.2.1, fun k' => ?_⟩, w2.mono (fun t x y z q => ⟨by omega, q.2.1⟩), w3, h⟩
  rw [qI_ii, mI_uN]
  by_cases c : k' = k
  · rw [if_pos ⟨rfl, c, rfl⟩, if_pos c]
  · rw [if_neg (fun z => c z.2.1), if_neg c]
    exact hσ.2.2.2 k'
theorem wm_rR {k t : Nat} {P : Option Nat → MS → Prop} (hk : mf k t = true) (h : P (some (D k)) M) : wm m D (rR 8 k (some m)) M P := fun σ hσ => wp_rR hσ.2.1 ⟨M, hσ, Mod.rf, BK.rf, by
  obtain ⟨k1, k2, k3⟩ := mf_ok hk
  rw [(hσ.2.2.1 k k1 k2).1]
  exact h⟩
theorem Md.arr {σ : gS} {k t : Nat} (hσ : Md σ m D M) (hk : mf k t = true) (hl : fln 8 k ≠ 0) : gkd σ (D k) = t + 10 ∧ gln σ (D k) = fln 8 k := by
  obtain ⟨k1, k2, k3⟩ := mf_ok hk
  obtain ⟨q1, q2, q3⟩ := hσ.1.fld (c := 8) (k := k) hσ.2.1 id (by decide) k1 k2
  rw [tg_of (hσ.2.2.1 k k1 k2).1] at q2 q3
  exact ⟨q2.trans k3, q3 hl⟩
theorem wm_aI {k t j : Nat} {i : Int32} {P : Int32 → MS → Prop} (hk : mf k t = true) (hi : i = nI j) (hj : j < fln 8 k) (h : P (mA M k j) M) : wm m D (aI t (some (D k)) i) M P := fun σ hσ => by
  obtain ⟨q1, q2⟩ := hσ.arr hk (by omega)
  have := fln8 k (mf_ok hk).1
  subst hi
  exact wp_aI q1 (by omega) (by omega) ⟨M, hσ, Mod.rf, BK.rf, by rw [(hσ.2.2.1 k (mf_ok hk).1 (mf_ok hk).2.1).2 j]; exact h⟩
theorem wm_sI {k t j : Nat} {i v : Int32} {P : Unit → MS → Prop} (hk : mf k t = true) (hi : i = nI j) (hj : j < fln 8 k) (h : P () (uA M k j (gnar t v))) : wm m D (sI t (some (D k)) i v) M P := fun σ hσ => by
  obtain ⟨q1, q2⟩ := hσ.arr hk (by omega)
  have := fln8 k (mf_ok hk).1
  obtain ⟨k1, k2, k3⟩ := mf_ok hk
  subst hi
  obtain ⟨w1, w2, w3⟩ := arr_upd (j := j) (v := gnar t v) hσ.1 (c := 8) (k := k) hσ.2.1 (by decide) k1 k2 (hσ.2.2.1 k k1 k2).1
  refine wp_sI q1 (by omega) (by omega) ⟨uA M k j (gnar t v), ⟨w1, hσ.2.1, fun k' h1 h2 => ⟨(hσ.2.2.1 k' h1 h2).1, fun j' => ?_⟩, hσ.2.2.2⟩, w2.mono (fun t x y z q => ⟨by omega, q.2.1⟩), w3, h⟩
  rw [qA_ai, mA_uA, (hσ.2.2.1 k' h1 h2).2 j']
  by_cases c : k' = k
  · subst c
    by_cases d : j' = j
    · rw [if_pos ⟨rfl, d⟩, if_pos ⟨rfl, d⟩]
    · rw [if_neg (fun z => d z.2), if_neg (fun z => d z.2)]
  · have ne : ¬ (D k' = D k ∧ j' = j) := ?_
    · rw [if_neg ne, if_neg (fun z => c z.1)]
    rintro ⟨z, -⟩
    have e1 := (hσ.2.2.1 k k1 k2).1
    have e2 := (hσ.2.2.1 k' h1 h2).1
    rw [z] at e2
    exact c (hσ.1.2.2.1 m m 8 8 k' k _ hσ.2.1 hσ.2.1 h1 k1 h2 k2 e2 e1).2.1
/-- a read of an array's place -/
theorem wm_get {k t j : Nat} {i : Int32} {K : Int32 → gM β} {P : β → MS → Prop} (hk : mf k t = true) (hi : i = nI j) (hj : j < fln 8 k) (h : wm m D (K (mA M k j)) M P) : wm m D (gb (rR 8 k (some m)) fun v => gb (aI t v i) K) M P := wm_b (wm_rR hk (wm_b (wm_aI hk hi hj h)))
theorem wm_rd {k : Nat} {K : Int32 → gM β} {P : β → MS → Prop} (h : wm m D (K (mI M k)) M P) : wm m D (gb (rI 8 k (some m)) K) M P := wm_b (wm_rI h)
theorem wm_n {K : gM β} {P : β → MS → Prop} (h : wm m D K M P) : wm m D (gb (nn 8 (some m)) fun _ => K) M P := wm_b (wm_nn h)
theorem wm_e {p p' : gM α} {P : α → MS → Prop} (e : p = p') (h : wm m D p' M P) : wm m D p M P := e ▸ h
end WM
/-- only these fields have changed -/
def Ex (S : List Nat) (M M' : MS) : Prop := (∀ k, k ∉ S → mA M' k = mA M k) ∧ ∀ k, k ∉ S → mI M' k = mI M k
theorem Ex.rf {S : List Nat} {M : MS} : Ex S M M := ⟨fun _ _ => rfl, fun _ _ => rfl⟩
theorem Ex.trans {S : List Nat} {M M1 M2 : MS} (h : Ex S M M1) (h2 : Ex S M1 M2) : Ex S M M2 := ⟨fun k hk => (h2.1 k hk).trans (h.1 k hk), fun k hk => (h2.2 k hk).trans (h.2 k hk)⟩
theorem Ex.mono {S S' : List Nat} {M M' : MS} (h : Ex S M M') (hs : ∀ k, k ∈ S → k ∈ S') : Ex S' M M' := ⟨fun k hk => h.1 k (fun z => hk (hs k z)), fun k hk => h.2 k (fun z => hk (hs k z))⟩
theorem Ex.a {S : List Nat} {M : MS} {k j : Nat} {v : Int32} (hk : k ∈ S) : Ex S M (uA M k j v) := by
  refine ⟨fun k' h => ?_, fun _ _ => rfl⟩
  funext j'
  rw [mA_uA, if_neg]
  rintro ⟨rfl, -⟩
  exact h hk
theorem Ex.n {S : List Nat} {M : MS} {k : Nat} {v : Int32} (hk : k ∈ S) : Ex S M (uN M k v) := by
  refine ⟨fun _ _ => rfl, fun k' h => ?_⟩
  rw [mI_uN, if_neg]
  rintro rfl
  exact h hk
/-! BYTES -/
def sb (x : Int32) : Int32 := x.toInt8.toInt32
theorem gnar0 (x : Int32) : gnar 0 x = sb x := vp_nar_byte x
theorem gnar1 (x : Int32) : gnar 1 x = x := rfl
theorem gnar0s (x : Int32) : gnar 0 (sb x) = sb x := (gnar0 _).trans (by rw [← gnar0 x]; exact (gnar0 _).symm.trans (by rw [gnar0 x]; exact pk_vb x))
theorem sb_sb (x : Int32) : sb (sb x) = sb x := (gnar0 (sb x)).symm.trans (gnar0s x)
theorem sb_u : ∀ n, n < 256 → sb (nI n) &&& 255 = nI n := sc_k8
theorem sb_i {a b : Nat} (ha : a < 256) (hb : b < 256) (h : sb (nI a) = sb (nI b)) : a = b := by
  have := congrArg (fun x => x &&& (255 : Int32)) h
  rw [sb_u a ha, sb_u b hb] at this
  exact (nI_eq (by omega) (by omega)).mp this
theorem sb_lo : ∀ n, n < 128 → sb (nI n) = nI n := by decide +kernel
theorem sb_hi : ∀ n, n < 256 → 128 ≤ n → sb (nI n) < 0 := by decide +kernel
/-- a list of bytes -/
def isB (xs : List Int32) : Prop := ∀ x, x ∈ xs → ∃ n, n < 256 ∧ x = nI n
theorem isB.get {xs : List Int32} (h : isB xs) {j : Nat} (hj : j < xs.length) : ∃ n, n < 256 ∧ xs.getD j 0 = nI n := by
  rw [List.getD_eq_getElem?_getD, List.getElem?_eq_getElem hj]
  exact h _ (List.getElem_mem hj)
theorem isB.gm {xs : List Int32} (h : isB xs) (j : Nat) : xs.getD j (-1) = -1 ∨ ∃ n, n < 256 ∧ xs.getD j (-1) = nI n := by
  rcases Nat.lt_or_ge j xs.length with z | z
  · right
    rw [List.getD_eq_getElem?_getD, List.getElem?_eq_getElem z]
    exact h _ (List.getElem_mem z)
  · left
    rw [List.getD_eq_getElem?_getD, List.getElem?_eq_none z]
    rfl
theorem isB.nil : isB [] := fun _ h => by cases h
theorem isB.app {xs ys : List Int32} (h : isB xs) (h2 : isB ys) : isB (xs ++ ys) := fun x hx => (List.mem_append.mp hx).elim (h x) (h2 x)
theorem isB.cons {x : Int32} {xs : List Int32} {n : Nat} (hn : n < 256) (e : x = nI n) (h : isB xs) : isB (x :: xs) := fun y hy => by
  rcases List.mem_cons.mp hy with z | z
  · exact ⟨n, hn, z.trans e⟩
  · exact h y z
theorem isB.take {xs : List Int32} (h : isB xs) (n : Nat) : isB (xs.take n) := fun x hx => h x (List.mem_of_mem_take hx)
/-- an array holds the bytes xs from o on -/
def By (f : Nat → Int32) (o : Nat) (xs : List Int32) : Prop := ∀ j, j < xs.length → f (o + j) = sb (xs.getD j 0)
theorem By.get {f : Nat → Int32} {o j : Nat} {xs : List Int32} (h : By f o xs) (hx : isB xs) (hj : j < xs.length) : f (o + j) &&& 255 = xs.getD j 0 := by
  obtain ⟨n, hn, e⟩ := hx.get hj
  rw [h j hj, e, sb_u n hn]
theorem By.snoc {f g : Nat → Int32} {o : Nat} {xs : List Int32} {x : Int32} (h : By f o xs) (hg : ∀ j, j < xs.length → g (o + j) = f (o + j)) (hx : g (o + xs.length) = sb x) : By g o (xs ++ [x]) := by
  intro j hj
  rw [List.length_append, List.length_singleton] at hj
  rcases Nat.lt_or_ge j xs.length with z | z
  · rw [hg j z, h j z, List.getD_eq_getElem?_getD, List.getD_eq_getElem?_getD, List.getElem?_append_left z]
  · have : j = xs.length := by omega
    subst this
    rw [hx, List.getD_eq_getElem?_getD, List.getElem?_append_right (Nat.le_refl _)]
    simp
theorem By.take {f : Nat → Int32} {o : Nat} {xs : List Int32} (h : By f o xs) (n : Nat) : By f o (xs.take n) := by
  intro j hj
  rw [List.length_take] at hj
  rw [h j (by omega), List.getD_eq_getElem?_getD, List.getD_eq_getElem?_getD, List.getElem?_take, if_pos (by omega)]
theorem By.keep {f g : Nat → Int32} {o : Nat} {xs : List Int32} (h : By f o xs) (hg : ∀ j, j < xs.length → g (o + j) = f (o + j)) : By g o xs := fun j hj => (hg j hj).trans (h j hj)
theorem By.nil {f : Nat → Int32} {o : Nat} : By f o [] := fun j hj => absurd hj (Nat.not_lt_zero _)
theorem getD0 {xs : List Int32} {j : Nat} (hj : j < xs.length) : xs.getD j 0 = xs.getD j (-1) := by
  rw [List.getD_eq_getElem?_getD, List.getD_eq_getElem?_getD, List.getElem?_eq_getElem hj]
  rfl
