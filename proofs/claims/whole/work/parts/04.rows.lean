/-! THE WORLD: how a state of the system lies in the machine's heap, and a row an instruction -/
def gT : List Cond := lw_tbl.filter goodWord
theorem gT_of {w : Cond} (h : w ∈ lw_tbl) (h2 : goodWord w = true) : w ∈ gT := List.mem_filter.mpr ⟨h, h2⟩
theorem gT_good {c1 c2 : Cond} (h : c2 ∈ gT) : GoodIn (c1 :: gT) (c2 :: gT) := by
  intro w hw
  rcases List.mem_cons.mp hw with rfl | hw
  · exact ⟨List.mem_cons_of_mem _ h, good_of_word (List.mem_filter.mp h).2⟩
  · exact ⟨List.mem_cons_of_mem _ hw, good_of_word (List.mem_filter.mp hw).2⟩
/-- the classes' numbers and slots, the array classes' numbers, the String constants' addresses and those of their bytes, where the system's own cells begin -/
abbrev gX : Type := (Nat → ClassId) × (Nat → Nat → Nat) × (Nat → ClassId) × (Nat → Nat) × (Nat → Nat) × Nat
abbrev gD (G : gX) : va_G := (G.1, G.2.1)
abbrev gdA (G : gX) : Nat → ClassId := G.2.2.1
abbrev gK (G : gX) : Nat → Nat := G.2.2.2.1
abbrev gV (G : gX) : Nat → Nat := G.2.2.2.2.1
abbrev gB (G : gX) : Nat := G.2.2.2.2.2
abbrev gA (G : gX) : Nat → Prop := fun q => gB G ≤ q
def gTy (G : gX) : List (ClassId × FieldType) := [(gdA G 0, .byte), (gdA G 1, .int), (gdA G 2, .boolean), (gdA G 3, .object RX0), (gdA G 4, .object RX3), (gdA G 5, .object RX5), (gdA G 6, .object RX6)]
def gfs (σ : gS) (c a : Nat) : List Value := (List.range (gnf c)).map (fun k => if grf c k = true then va_rf (grr σ c k a) else .int (gii σ c k a))
def gcell (G : gX) (σ : gS) (a : Nat) : va_E := if gkd σ a < 10 then .inr (gkd σ a - 1, gfs σ (gkd σ a - 1) a) else if gkd σ a < 13 then .inl (gdA G (gkd σ a - 10), gln σ a, .inl (gai σ a)) else .inl (gdA G (gkd σ a - 10), gln σ a, .inr (.inr (.inr (.inr (gar σ a)))))
def gW (G : gX) (σ : gS) (H : Heap) : Prop := H.size = gsz σ ∧ gB G ≤ gsz σ ∧ ∀ a : Nat, gkd σ a ≠ 0 → gB G ≤ a ∧ va_at (gD G) vwCl (a, gcell G σ a) H
theorem gfs_len (σ : gS) (c a : Nat) : (gfs σ c a).length = gnf c := by simp [gfs]
theorem gfs_i {σ : gS} {c a k : Nat} (hk : k < gnf c) (h : grf c k = false) : (gfs σ c a)[k]? = some (.int (gii σ c k a)) := by simp [gfs, hk, h]
theorem gfs_r {σ : gS} {c a k : Nat} (hk : k < gnf c) (h : grf c k = true) : (gfs σ c a)[k]? = some (va_rf (grr σ c k a)) := by simp [gfs, hk, h]
theorem gfs_any {σ : gS} {c a k : Nat} (hk : k < gnf c) : (gfs σ c a)[k]? = some (if grf c k = true then va_rf (grr σ c k a) else .int (gii σ c k a)) := by simp [gfs, hk]
theorem gcell_o {G : gX} {σ : gS} {a c : Nat} (h : gkd σ a = c + 1) (hc : c < 9) : gcell G σ a = .inr (c, gfs σ c a) := by
  simp only [gcell, h, Nat.add_sub_cancel]
  rw [if_pos (by omega)]
theorem gcell_i {G : gX} {σ : gS} {a t : Nat} (h : gkd σ a = t + 10) (ht : t < 3) : gcell G σ a = .inl (gdA G t, gln σ a, .inl (gai σ a)) := by
  simp only [gcell, h, Nat.add_sub_cancel]
  rw [if_neg (by omega), if_pos (by omega)]
theorem gcell_q {G : gX} {σ : gS} {a t : Nat} (h : gkd σ a = t + 10) (ht : 3 ≤ t) : gcell G σ a = .inl (gdA G t, gln σ a, .inr (.inr (.inr (.inr (gar σ a))))) := by
  simp only [gcell, h, Nat.add_sub_cancel]
  rw [if_neg (by omega), if_neg (by omega)]
theorem gW_lt {G : gX} {σ : gS} {H : Heap} (h : gW G σ H) {a : Nat} (ha : gkd σ a ≠ 0) : a < gsz σ := by
  have h1 := va_at.lt (h.2.2 a ha).2
  rw [h.1] at h1
  exact h1
/-- a cell is written -/
theorem gW_upd {G : gX} {σ σ' : gS} {H H1 : Heap} {a : Nat} (h : gW G σ H) (hz : H1.size = H.size) (oq : ∀ q : Nat, q ≠ a → H1[q]? = H[q]?) (hs : gsz σ' = gsz σ) (hk : ∀ b, gkd σ' b = gkd σ b) (hc : ∀ b, b ≠ a → gcell G σ' b = gcell G σ b) (ha : gB G ≤ a) (he : va_at (gD G) vwCl (a, gcell G σ' a) H1) : gW G σ' H1 := by
  refine ⟨by rw [hz, hs]; exact h.1, by rw [hs]; exact h.2.1, fun b hb => ?_⟩
  by_cases e : b = a
  · subst e
    exact ⟨ha, he⟩
  · rw [hk] at hb
    obtain ⟨h1, h2⟩ := h.2.2 b hb
    refine ⟨h1, ?_⟩
    rw [hc b e]
    exact h2.kept (oq b e)
theorem gcell_sI {G : gX} {σ : gS} {c k a b : Nat} {v : Int32} (h : b ≠ a) : gcell G (gsI σ c k a v) b = gcell G σ b := by
  have : ∀ c', gfs (gsI σ c k a v) c' b = gfs σ c' b := fun c' => by simp [gfs, gsI, gii, grr, h]
  simp only [gcell, this]
  rfl
theorem gcell_sR {G : gX} {σ : gS} {c k a b : Nat} {v : Option Nat} (h : b ≠ a) : gcell G (gsR σ c k a v) b = gcell G σ b := by
  have : ∀ c', gfs (gsR σ c k a v) c' b = gfs σ c' b := fun c' => by simp [gfs, gsR, gii, grr, h]
  simp only [gcell, this]
  rfl
theorem gcell_sA {G : gX} {σ : gS} {a b i : Nat} {v : Int32} (h : b ≠ a) : gcell G (gsA σ a i v) b = gcell G σ b := by
  have : gai (gsA σ a i v) b = gai σ b := by funext j; simp [gsA, gai, h]
  simp only [gcell, this]
  rfl
theorem gcell_sQ {G : gX} {σ : gS} {a b i : Nat} {v : Option Nat} (h : b ≠ a) : gcell G (gsQ σ a i v) b = gcell G σ b := by
  have : gar (gsQ σ a i v) b = gar σ b := by funext j; simp [gsQ, gar, h]
  simp only [gcell, this]
  rfl
theorem gfs_setI {σ : gS} {c k a : Nat} {v : Int32} (hr : grf c k = false) : (gfs σ c a).set k (.int v) = gfs (gsI σ c k a v) c a := by
  apply List.ext_getElem?
  intro j
  by_cases hj : j < gnf c
  · by_cases e : k = j
    · subst e
      rw [List.getElem?_set_self (by rw [gfs_len]; exact hj), gfs_i hj hr]
      simp [gsI, gii]
    · rw [List.getElem?_set_ne e, gfs_any hj, gfs_any hj]
      simp [gsI, gii, grr, Ne.symm e]
  · rw [List.getElem?_eq_none (by rw [List.length_set, gfs_len]; omega), List.getElem?_eq_none (by rw [gfs_len]; omega)]
theorem gfs_setR {σ : gS} {c k a : Nat} {v : Option Nat} (hr : grf c k = true) : (gfs σ c a).set k (va_rf v) = gfs (gsR σ c k a v) c a := by
  apply List.ext_getElem?
  intro j
  by_cases hj : j < gnf c
  · by_cases e : k = j
    · subst e
      rw [List.getElem?_set_self (by rw [gfs_len]; exact hj), gfs_r hj hr]
      simp [gsR, grr]
    · rw [List.getElem?_set_ne e, gfs_any hj, gfs_any hj]
      simp [gsR, gii, grr, Ne.symm e]
  · rw [List.getElem?_eq_none (by rw [List.length_set, gfs_len]; omega), List.getElem?_eq_none (by rw [gfs_len]; omega)]
/-- what the tables say of a class -/
def gCls (ci : Nat) (C : String) (T : u_T) (N : Nat) (ty : Nat → FieldType) : Prop := vwCl[ci]? = some (C, T, N) ∧ (∀ w ∈ u_ws C T N, w ∈ gT) ∧ gnf ci = N ∧ ci < 9 ∧ (∀ k, k < N → parseFieldDescriptor (T k).2.2.1 = some (ty k)) ∧ (∀ a, a < N → ∀ b, b < N → a ≠ b → (T a).2.1 ≠ (T b).2.1) ∧ Cond.instantiable C N ∈ gT ∧ Cond.initialized C ∈ gT
theorem gcls_0 : gCls 0 RX0 TX0 2 tyX0 := ⟨rfl, fun w h => gT_of ((by decide +kernel : ∀ w ∈ u_ws RX0 TX0 2, w ∈ lw_tbl) w h) ((by decide +kernel : ∀ w ∈ u_ws RX0 TX0 2, goodWord w = true) w h), rfl, by decide, tyX0_ok, nmX0, gT_of (by decide +kernel) rfl, gT_of (by decide +kernel) rfl⟩
theorem gcls_1 : gCls 1 RX2 TX2 9 tyX2 := ⟨rfl, fun w h => gT_of ((by decide +kernel : ∀ w ∈ u_ws RX2 TX2 9, w ∈ lw_tbl) w h) ((by decide +kernel : ∀ w ∈ u_ws RX2 TX2 9, goodWord w = true) w h), rfl, by decide, tyX2_ok, nmX2, gT_of (by decide +kernel) rfl, gT_of (by decide +kernel) rfl⟩
theorem gcls_2 : gCls 2 RX3 TX3 2 tyX3 := ⟨rfl, fun w h => gT_of ((by decide +kernel : ∀ w ∈ u_ws RX3 TX3 2, w ∈ lw_tbl) w h) ((by decide +kernel : ∀ w ∈ u_ws RX3 TX3 2, goodWord w = true) w h), rfl, by decide, tyX3_ok, nmX3, gT_of (by decide +kernel) rfl, gT_of (by decide +kernel) rfl⟩
theorem gcls_3 : gCls 3 RX4 TX4 3 tyX4 := ⟨rfl, fun w h => gT_of ((by decide +kernel : ∀ w ∈ u_ws RX4 TX4 3, w ∈ lw_tbl) w h) ((by decide +kernel : ∀ w ∈ u_ws RX4 TX4 3, goodWord w = true) w h), rfl, by decide, tyX4_ok, nmX4, gT_of (by decide +kernel) rfl, gT_of (by decide +kernel) rfl⟩
theorem gcls_4 : gCls 4 RX5 TX5 2 tyX5 := ⟨rfl, fun w h => gT_of ((by decide +kernel : ∀ w ∈ u_ws RX5 TX5 2, w ∈ lw_tbl) w h) ((by decide +kernel : ∀ w ∈ u_ws RX5 TX5 2, goodWord w = true) w h), rfl, by decide, tyX5_ok, nmX5, gT_of (by decide +kernel) rfl, gT_of (by decide +kernel) rfl⟩
theorem gcls_5 : gCls 5 RX6 TX6 12 tyX6 := ⟨rfl, fun w h => gT_of ((by decide +kernel : ∀ w ∈ u_ws RX6 TX6 12, w ∈ lw_tbl) w h) ((by decide +kernel : ∀ w ∈ u_ws RX6 TX6 12, goodWord w = true) w h), rfl, by decide, tyX6_ok, nmX6, gT_of (by decide +kernel) rfl, gT_of (by decide +kernel) rfl⟩
theorem gcls_6 : gCls 6 RX7 TX7 4 tyX7 := ⟨rfl, fun w h => gT_of ((by decide +kernel : ∀ w ∈ u_ws RX7 TX7 4, w ∈ lw_tbl) w h) ((by decide +kernel : ∀ w ∈ u_ws RX7 TX7 4, goodWord w = true) w h), rfl, by decide, tyX7_ok, nmX7, gT_of (by decide +kernel) rfl, gT_of (by decide +kernel) rfl⟩
theorem gcls_7 : gCls 7 RX8 TX8 8 tyX8 := ⟨rfl, fun w h => gT_of ((by decide +kernel : ∀ w ∈ u_ws RX8 TX8 8, w ∈ lw_tbl) w h) ((by decide +kernel : ∀ w ∈ u_ws RX8 TX8 8, goodWord w = true) w h), rfl, by decide, tyX8_ok, nmX8, gT_of (by decide +kernel) rfl, gT_of (by decide +kernel) rfl⟩
theorem gcls_8 : gCls 8 RX9 TX9 35 tyX9 := ⟨rfl, fun w h => gT_of ((by decide +kernel : ∀ w ∈ u_ws RX9 TX9 35, w ∈ lw_tbl) w h) ((by decide +kernel : ∀ w ∈ u_ws RX9 TX9 35, goodWord w = true) w h), rfl, by decide, tyX9_ok, nmX9, gT_of (by decide +kernel) rfl, gT_of (by decide +kernel) rfl⟩
