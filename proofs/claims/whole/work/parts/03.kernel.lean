/-! THE STATE OF THE WHOLE SYSTEM, apart from the machine: what kind of thing lies at an address (0 none; c + 1 an object of class c of vwCl; 10 + t an array of type t of gTy), int fields, reference fields, lengths, numbers and references in arrays, how many cells there are, how many cells and slots may still come -/
abbrev gS : Type := (Nat → Nat) × (Nat → Nat → Nat → Int32) × (Nat → Nat → Nat → Option Nat) × (Nat → Nat) × (Nat → Nat → Int32) × (Nat → Nat → Option Nat) × Nat × Nat × Nat
def gkd (σ : gS) : Nat → Nat := σ.1
def gii (σ : gS) : Nat → Nat → Nat → Int32 := σ.2.1
def grr (σ : gS) : Nat → Nat → Nat → Option Nat := σ.2.2.1
def gln (σ : gS) : Nat → Nat := σ.2.2.2.1
def gai (σ : gS) : Nat → Nat → Int32 := σ.2.2.2.2.1
def gar (σ : gS) : Nat → Nat → Option Nat := σ.2.2.2.2.2.1
def gsz (σ : gS) : Nat := σ.2.2.2.2.2.2.1
def gcl (σ : gS) : Nat := σ.2.2.2.2.2.2.2.1
def gsl (σ : gS) : Nat := σ.2.2.2.2.2.2.2.2
/-- a program: what it answers and the state behind it, or none where the machine would throw; never more room than before -/
def gM (α : Type) : Type := { f : gS → Option (α × gS) // ∀ σ x, f σ = some x → gcl x.2 ≤ gcl σ ∧ gsl x.2 ≤ gsl σ }
def gb {α β : Type} (m : gM α) (k : α → gM β) : gM β := ⟨fun σ => match m.1 σ with
  | none => none
  | some x => (k x.1).1 x.2, fun σ y h => by
    dsimp only at h
    cases hm : m.1 σ with
    | none => rw [hm] at h; cases h
    | some x =>
      rw [hm] at h
      have h1 := m.2 σ x hm
      have h2 := (k x.1).2 x.2 y h
      exact ⟨Nat.le_trans h2.1 h1.1, Nat.le_trans h2.2 h1.2⟩⟩
def gp {α : Type} (a : α) : gM α := ⟨fun σ => some (a, σ), fun σ y h => by cases h; exact ⟨Nat.le_refl _, Nat.le_refl _⟩⟩
def gno {α : Type} : gM α := ⟨fun _ => none, fun _ _ h => by cases h⟩
/-- a read: an answer, the state as it was -/
def gq {α : Type} (f : gS → Option α) : gM α := ⟨fun σ => (f σ).map (fun a => (a, σ)), fun σ y h => by
  dsimp only at h
  cases hf : f σ with
  | none => rw [hf] at h; cases h
  | some a => rw [hf] at h; cases h; exact ⟨Nat.le_refl _, Nat.le_refl _⟩⟩
/-- a write: the room stays -/
def gu (f : gS → Option gS) (h : ∀ σ τ, f σ = some τ → gcl τ = gcl σ ∧ gsl τ = gsl σ) : gM Unit := ⟨fun σ => (f σ).map (fun τ => ((), τ)), fun σ y hy => by
  dsimp only at hy
  cases hf : f σ with
  | none => rw [hf] at hy; cases hy
  | some a => rw [hf] at hy; cases hy; have := h σ a hf; exact ⟨Nat.le_of_eq this.1, Nat.le_of_eq this.2⟩⟩
theorem gb_run {α β : Type} {m : gM α} {k : α → gM β} {σ : gS} {x : α × gS} (h : m.1 σ = some x) : (gb m k).1 σ = (k x.1).1 x.2 := by show (match m.1 σ with | none => none | some x => (k x.1).1 x.2) = _; rw [h]
theorem gb_some {α β : Type} {m : gM α} {k : α → gM β} {σ : gS} {y : β × gS} (h : (gb m k).1 σ = some y) : ∃ x, m.1 σ = some x ∧ (k x.1).1 x.2 = some y := by
  cases hm : m.1 σ with
  | none => exact absurd h (by show ¬ (match m.1 σ with | none => none | some x => (k x.1).1 x.2) = _; rw [hm]; intro h; cases h)
  | some x => exact ⟨x, rfl, by rw [gb_run hm] at h; exact h⟩
theorem gp_some {α : Type} {a : α} {σ : gS} {y : α × gS} (h : (gp a).1 σ = some y) : y = (a, σ) := by cases h; rfl
theorem gno_some {α : Type} {σ : gS} {y : α × gS} (h : (gno : gM α).1 σ = some y) : False := by cases h
theorem gq_some {α : Type} {f : gS → Option α} {σ : gS} {x : α × gS} (h : (gq f).1 σ = some x) : f σ = some x.1 ∧ x.2 = σ := by
  have h : (f σ).map (fun a => (a, σ)) = some x := h
  cases hf : f σ with
  | none => rw [hf] at h; cases h
  | some a => rw [hf] at h; cases h; exact ⟨rfl, rfl⟩
theorem gu_some {f : gS → Option gS} {hf} {σ : gS} {x : Unit × gS} (h : (gu f hf).1 σ = some x) : f σ = some x.2 := by
  have h : (f σ).map (fun a => ((), a)) = some x := h
  cases hf : f σ with
  | none => rw [hf] at h; cases h
  | some a => rw [hf] at h; cases h; rfl
/-- fields: how many a class has, which are references -/
def gnf (c : Nat) : Nat := [2, 9, 2, 3, 2, 12, 4, 8, 35].getD c 0
def grf (c k : Nat) : Bool := (match c with
  | 0 => [false, true]
  | 1 => [true, true, false, true, true, false, true, true, false]
  | 2 => [true, true]
  | 3 => [true, true, false]
  | 4 => [true, false]
  | 5 => [false, true, true, true, true, false, true, false, true, false, true, false]
  | 6 => [true, false, false, false]
  | 7 => [true, true, true, true, true, true, true, true]
  | _ => [true, false, true, true, true, true, true, true, true, true, true, true, false, false, true, false, false, true, true, false, true, true, true, true, true, false, true, true, true, true, false, true, true, true, false]).getD k false
/-- the writes -/
def gsI (σ : gS) (c k a : Nat) (v : Int32) : gS := (σ.1, fun c' k' a' => if c' = c ∧ k' = k ∧ a' = a then v else σ.2.1 c' k' a', σ.2.2)
def gsR (σ : gS) (c k a : Nat) (v : Option Nat) : gS := (σ.1, σ.2.1, fun c' k' a' => if c' = c ∧ k' = k ∧ a' = a then v else σ.2.2.1 c' k' a', σ.2.2.2)
def gsA (σ : gS) (a i : Nat) (v : Int32) : gS := (σ.1, σ.2.1, σ.2.2.1, σ.2.2.2.1, fun b j => if b = a ∧ j = i then v else σ.2.2.2.2.1 b j, σ.2.2.2.2.2)
def gsQ (σ : gS) (a i : Nat) (v : Option Nat) : gS := (σ.1, σ.2.1, σ.2.2.1, σ.2.2.2.1, σ.2.2.2.2.1, fun b j => if b = a ∧ j = i then v else σ.2.2.2.2.2.1 b j, σ.2.2.2.2.2.2)
/-- a new thing of kind d + 1, of n places, w slots -/
def gsN (σ : gS) (d n w : Nat) : gS := (fun a => if a = gsz σ then d + 1 else σ.1 a, fun c k a => if a = gsz σ then 0 else σ.2.1 c k a, fun c k a => if a = gsz σ then none else σ.2.2.1 c k a, fun a => if a = gsz σ then n else σ.2.2.2.1 a, fun a j => if a = gsz σ then 0 else σ.2.2.2.2.1 a j, fun a j => if a = gsz σ then none else σ.2.2.2.2.2.1 a j, gsz σ + 1, gcl σ - 1, gsl σ - w)
/-- the copy of n numbers of array a from its first place on to array b, from its first place on -/
def gsC (σ : gS) (a b n : Nat) : gS := (σ.1, σ.2.1, σ.2.2.1, σ.2.2.2.1, fun x j => if x = b ∧ j < n then σ.2.2.2.2.1 a j else σ.2.2.2.2.1 x j, σ.2.2.2.2.2)
/-- an index within -/
def gin (i : Int32) (n : Nat) : Bool := !(decide (i < 0) || decide (n ≤ i.toNatClampNeg))
theorem gin_iff {i : Int32} {n : Nat} : gin i n = true ↔ vp_in i n := by simp [gin, vp_in]
/-- what an array of type t keeps of an int: bytes, ints, booleans -/
def gnar (t : Nat) (x : Int32) : Int32 := if t = 0 then vp_nar .byte x else if t = 2 then vp_nar .boolean x else x
/-- the programs' steps -/
def rI (c k : Nat) (r : Option Nat) : gM Int32 := gq fun σ => match r with
  | some a => if gkd σ a = c + 1 then some (gii σ c k a) else none
  | none => none
def rR (c k : Nat) (r : Option Nat) : gM (Option Nat) := gq fun σ => match r with
  | some a => if gkd σ a = c + 1 then some (grr σ c k a) else none
  | none => none
def wI (c k : Nat) (r : Option Nat) (v : Int32) : gM Unit := gu (fun σ => match r with
  | some a => if gkd σ a = c + 1 then some (gsI σ c k a v) else none
  | none => none) (fun σ τ h => by
    cases r with
    | none => cases h
    | some a =>
      dsimp only at h
      split at h
      · cases h; exact ⟨rfl, rfl⟩
      · cases h)
/-- a boolean field: 0 or 1 alone -/
def wZ (c k : Nat) (r : Option Nat) (v : Int32) : gM Unit := gu (fun σ => match r with
  | some a => if gkd σ a = c + 1 ∧ (v = 0 ∨ v = 1) then some (gsI σ c k a v) else none
  | none => none) (fun σ τ h => by
    cases r with
    | none => cases h
    | some a =>
      dsimp only at h
      split at h
      · cases h; exact ⟨rfl, rfl⟩
      · cases h)
def wR (c k : Nat) (r : Option Nat) (v : Option Nat) : gM Unit := gu (fun σ => match r with
  | some a => if gkd σ a = c + 1 then some (gsR σ c k a v) else none
  | none => none) (fun σ τ h => by
    cases r with
    | none => cases h
    | some a =>
      dsimp only at h
      split at h
      · cases h; exact ⟨rfl, rfl⟩
      · cases h)
/-- a new object of class c -/
def nO (c : Nat) : gM (Option Nat) := ⟨fun σ => if 1 ≤ gcl σ ∧ gnf c ≤ gsl σ then some (some (gsz σ), gsN σ c 0 (gnf c)) else none, fun σ x h => by
  dsimp only at h
  split at h
  · cases h
    exact ⟨Nat.sub_le _ _, Nat.sub_le _ _⟩
  · cases h⟩
/-- a new array of type t -/
def nA (t : Nat) (n : Int32) : gM (Option Nat) := ⟨fun σ => if ¬ n < 0 ∧ n.toNatClampNeg ≤ 100000 ∧ 1 ≤ gcl σ ∧ n.toNatClampNeg ≤ gsl σ then some (some (gsz σ), gsN σ (t + 9) n.toNatClampNeg n.toNatClampNeg) else none, fun σ x h => by
  dsimp only at h
  split at h
  · cases h
    exact ⟨Nat.sub_le _ _, Nat.sub_le _ _⟩
  · cases h⟩
/-- an array's length -/
def aL (t : Nat) (r : Option Nat) : gM Int32 := gq fun σ => match r with
  | some a => if gkd σ a = t + 10 then some (Int32.ofNat (gln σ a)) else none
  | none => none
def aI (t : Nat) (r : Option Nat) (i : Int32) : gM Int32 := gq fun σ => match r with
  | some a => if gkd σ a = t + 10 ∧ gin i (gln σ a) = true then some (gai σ a i.toNatClampNeg) else none
  | none => none
def aR (t : Nat) (r : Option Nat) (i : Int32) : gM (Option Nat) := gq fun σ => match r with
  | some a => if gkd σ a = t + 10 ∧ gin i (gln σ a) = true then some (gar σ a i.toNatClampNeg) else none
  | none => none
def sI (t : Nat) (r : Option Nat) (i v : Int32) : gM Unit := gu (fun σ => match r with
  | some a => if gkd σ a = t + 10 ∧ gin i (gln σ a) = true then some (gsA σ a i.toNatClampNeg (gnar t v)) else none
  | none => none) (fun σ τ h => by
    cases r with
    | none => cases h
    | some a =>
      dsimp only at h
      split at h
      · cases h; exact ⟨rfl, rfl⟩
      · cases h)
/-- a reference into an array of type t, whose elements are of class c: an object of that class alone -/
def sR (t c : Nat) (r : Option Nat) (i : Int32) (v : Option Nat) : gM Unit := gu (fun σ => match r, v with
  | some a, some b => if gkd σ a = t + 10 ∧ gin i (gln σ a) = true ∧ gkd σ b = c + 1 then some (gsQ σ a i.toNatClampNeg (some b)) else none
  | _, _ => none) (fun σ τ h => by
    cases r with
    | none => cases h
    | some a =>
      cases v with
      | none => cases h
      | some b =>
        dsimp only at h
        split at h
        · cases h; exact ⟨rfl, rfl⟩
        · cases h)
/-- a called object must be there -/
def nn (c : Nat) (r : Option Nat) : gM Unit := gq fun σ => match r with
  | some a => if gkd σ a = c + 1 then some () else none
  | none => none
/-- a division by 0 is none -/
def nz (x : Int32) : gM Unit := if x = 0 then gno else gp ()
