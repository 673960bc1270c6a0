/-! WHAT READING GIVES keeps to what is asked of a record -/
/-- V is U with a tail of at most n added -/
def Tl (n : Nat) (U V : UV) : Prop := (∀ k, k ≠ 6 → k ≠ 8 → k ≠ 10 → uR V k = uR U k) ∧ (∀ k, k ≠ 7 → k ≠ 9 → k ≠ 11 → uI V k = uI U k) ∧ uK V = uK U ∧ uW V = uW U ∧ (sgO U → (uR U 6).length + n + 1 ≤ 4096 → sgO V ∧ (uR V 6).length ≤ (uR U 6).length + n + 1) ∧ (uR V 8).length ≤ (uR U 8).length + n ∧ (uR V 10).length ≤ (uR U 10).length + n ∧ ((uI V 9 = uI U 9 ∧ uR V 8 = uR U 8) ∨ uI V 9 = 1) ∧ (uI V 11 = uI U 11 ∨ uI V 11 = 1)
theorem enF_tl {xs : List Int32} {U : UV} {p : Nat} : Tl (3 * xs.length) U (enF xs U p) := by
  have q : Tl (3 * xs.length) U (quU xs p U).1 ∧ uR (quU xs p U).1 6 = uR U 6 ∧ uI (quU xs p U).1 7 = uI U 7 ∧ uR (quU xs p U).1 10 = uR U 10 ∧ uI (quU xs p U).1 11 = uI U 11 := by
    unfold quU
    by_cases c : xs.getD p (-1) = 63
    · rw [if_pos c]
      have l := escs_len xs 16 (hsS xs (xs.length - (p + 1)) (p + 1) - (p + 1)) (p + 1)
      have b := hsS_le xs (xs.length - (p + 1)) (p + 1)
      refine ⟨⟨fun k h1 h2 h3 => if_neg h2, fun k h1 h2 h3 => if_neg h2, rfl, rfl, fun h _ => ⟨h, by show (uR U 6).length ≤ _; omega⟩, ?_, ?_, Or.inr rfl, Or.inl rfl⟩, rfl, rfl, rfl, rfl⟩
      · show (uR U 8 ++ _).length ≤ _
        rw [List.length_append]
        omega
      · show (uR U 10).length ≤ _
        omega
    · rw [if_neg c]
      exact ⟨⟨fun _ _ _ _ => rfl, fun _ _ _ _ => rfl, rfl, rfl, fun h _ => ⟨h, by show (uR U 6).length ≤ _; omega⟩, by show (uR U 8).length ≤ _; omega, by show (uR U 10).length ≤ _; omega, Or.inl ⟨rfl, rfl⟩, Or.inl rfl⟩, rfl, rfl, rfl, rfl⟩
  obtain ⟨⟨t1, t2, t3, t4, t5, t6, t7, t8, t9⟩, e6, e7, e10, e11⟩ := q
  unfold enF frU
  by_cases c : xs.getD (quU xs p U).2 (-1) = 35
  · rw [if_pos c]
    have l := escs_len xs 17 (xs.length - ((quU xs p U).2 + 1)) ((quU xs p U).2 + 1)
    refine ⟨fun k h1 h2 h3 => (if_neg h3).trans (t1 k h1 h2 h3), fun k h1 h2 h3 => (if_neg h3).trans (t2 k h1 h2 h3), t3, t4, t5, t6, ?_, t8, Or.inr rfl⟩
    show (uR (quU xs p U).1 10 ++ _).length ≤ _
    rw [List.length_append, e10]
    omega
  · rw [if_neg c]
    exact ⟨t1, t2, t3, t4, t5, t6, t7, t8, t9⟩
theorem sgL_ok {xs : List Int32} : ∀ f a U, sgO U → a ≤ xs.length → (uR U 6).length + 3 * (xs.length - a) + 1 ≤ 4096 → sgO (sgL xs f a U).1 ∧ (uR (sgL xs f a U).1 6).length ≤ (uR U 6).length + 3 * (xs.length - a) + 1
  | 0, a, U, h, _, hl => ⟨h, by show (uR U 6).length ≤ _; omega⟩
  | f + 1, a, U, h, ha, hl => by
    have h1 := dvS_le xs (xs.length - a) a
    have hb : ∀ j, a ≤ j → j < dvS xs (xs.length - a) a → xs.getD j (-1) ≠ 47 := fun j h2 h3 => pDiv_47 (dvS_no xs _ _ j h2 h3)
    rw [sgL]
    by_cases c : pSla (xs.getD (dvS xs (xs.length - a) a) (-1)) = 0
    · rw [if_pos c]
      obtain ⟨k1, k2⟩ := tkS_ok (xs := xs) (U := U) (a := a) (b := dvS xs (xs.length - a) a) (mo := false) h (by omega) hb
      refine ⟨k1, ?_⟩
      show (uR (tkS xs a (dvS xs (xs.length - a) a) false U) 6).length ≤ _
      omega
    · rw [if_neg c]
      have z : dvS xs (xs.length - a) a < xs.length := by
        rcases Nat.lt_or_ge (dvS xs (xs.length - a) a) xs.length with z | z
        · exact z
        · rw [gd_out z] at c
          exact absurd rfl c
      obtain ⟨k1, k2⟩ := tkS_ok (xs := xs) (U := U) (a := a) (b := dvS xs (xs.length - a) a) (mo := true) h (by omega) hb
      obtain ⟨i1, i2⟩ := sgL_ok (xs := xs) f (dvS xs (xs.length - a) a + 1) _ k1 (by omega) (by omega)
      exact ⟨i1, by omega⟩
theorem enS_tl {xs : List Int32} {U : UV} {p : Nat} (hp : p ≤ xs.length) : Tl (3 * xs.length) U (enS xs U p) := by
  have f := sgL_fx xs gF p U
  obtain ⟨t1, t2, t3, t4, t5, t6, t7, t8, t9⟩ := enF_tl (xs := xs) (U := (sgL xs gF p U).1) (p := (sgL xs gF p U).2)
  have t5' : uR (enF xs (sgL xs gF p U).1 (sgL xs gF p U).2) 6 = uR (sgL xs gF p U).1 6 ∧ uI (enF xs (sgL xs gF p U).1 (sgL xs gF p U).2) 7 = uI (sgL xs gF p U).1 7 := by
    have q := quU_fx (xs := xs) (U := (sgL xs gF p U).1) (p := (sgL xs gF p U).2)
    unfold enF frU
    split
    · exact ⟨q.1 6 (by decide), q.2.1 7 (by decide)⟩
    · exact ⟨q.1 6 (by decide), q.2.1 7 (by decide)⟩
  show Tl _ U (enF xs (sgL xs gF p U).1 (sgL xs gF p U).2)
  refine ⟨fun k h1 h2 h3 => (t1 k h1 h2 h3).trans (f.1 k h1), fun k h1 h2 h3 => (t2 k h1 h2 h3).trans (f.2.1 k h1), t3.trans f.2.2.1, t4.trans f.2.2.2, fun h hl => ?_, ?_, ?_, ?_, ?_⟩
  · obtain ⟨s1, s2⟩ := sgL_ok (xs := xs) gF p U h hp (by omega)
    refine ⟨?_, ?_⟩
    · unfold sgO
      rw [t5'.1, t5'.2]
      exact s1
    · rw [t5'.1]
      omega
  · rw [f.1 8 (by decide)] at t6
    exact t6
  · rw [f.1 10 (by decide)] at t7
    exact t7
  · rw [f.1 8 (by decide), f.2.1 9 (by decide)] at t8
    exact t8
  · rw [f.2.1 11 (by decide)] at t9
    exact t9
theorem enP_tl {xs : List Int32} {U : UV} {p : Nat} (hp : p ≤ xs.length) : Tl (3 * xs.length) U (enP xs U p) := by
  unfold enP
  refine enS_tl ?_
  by_cases c : pSla (xs.getD p (-1)) = 0
  · rw [if_pos c]
    exact hp
  · rw [if_neg c]
    rcases Nat.lt_or_ge p xs.length with z | z
    · exact z
    · rw [gd_out z] at c
      exact absurd rfl c
/-- lengths -/
def uL (U : UV) : Nat := if usr U = true then (uR U 2).length + ((if (uR U 3).length = 0 then 0 else (uR U 3).length + 1) + 1) else 0
def pL (U : UV) : Nat := if uI U 5 = -1 then 0 else (decL 4 (uI U 5).toNatClampNeg).length + 1
theorem pL_le (U : UV) : pL U ≤ 6 := by
  unfold pL
  have := decL_len 4 (uI U 5).toNatClampNeg
  split <;> omega
theorem uL_le (U : UV) : uL U ≤ (uR U 2).length + (uR U 3).length + 2 := by
  unfold uL
  split
  · split <;> omega
  · omega
theorem wrU_l2 (U : UV) : (wrU U).length = (uR U 1).length + 3 + uL U + (uR U 4).length + pL U + (uR U 6).length + (if uI U 9 = 0 then 0 else (uR U 8).length + 1) + (if uI U 11 = 0 then 0 else (uR U 10).length + 1) := by
  have t : (tstr 18).length = 3 := by decide
  unfold wrU wr3 wr2 wr1 uL pL
  rw [List.length_append, List.length_append, List.length_append, List.length_append, List.length_append, List.length_append, List.length_append, t]
  have e1 : (if usr U = true then uR U 2 ++ ((if (uR U 3).length = 0 then [] else 58 :: uR U 3) ++ [64]) else []).length = if usr U = true then (uR U 2).length + ((if (uR U 3).length = 0 then 0 else (uR U 3).length + 1) + 1) else 0 := by
    split
    · rw [List.length_append, List.length_append]
      split <;> rfl
    · rfl
  have e2 : (if uI U 5 = -1 then [] else 58 :: decL 4 (uI U 5).toNatClampNeg).length = if uI U 5 = -1 then 0 else (decL 4 (uI U 5).toNatClampNeg).length + 1 := by split <;> rfl
  have e3 : (if uI U 9 = 0 then [] else 63 :: uR U 8).length = if uI U 9 = 0 then 0 else (uR U 8).length + 1 := by split <;> rfl
  have e4 : (if uI U 11 = 0 then [] else 35 :: uR U 10).length = if uI U 11 = 0 then 0 else (uR U 10).length + 1 := by split <;> rfl
  rw [e1, e2, e3, e4]
  omega
/-- what is asked before the tail is added -/
def okT (U : UV) : Prop := okA (uK U) (uW U) ∧ (uI U 9 = 0 ∨ uI U 9 = 1) ∧ (uI U 9 = 0 → uR U 8 = []) ∧ (uI U 11 = 0 ∨ uI U 11 = 1) ∧ sgO U ∧ okP (uI U 5) ∧ (uR U 1).length + uL U + (uR U 4).length + pL U + (uR U 6).length + (uR U 8).length + (uR U 10).length ≤ 1300
theorem Tl.ok {n : Nat} {U V : UV} (h : Tl n U V) (hn : n ≤ 900) (k : okT U) : okR V ∧ (uI V 11 = 0 ∨ uI V 11 = 1) := by
  obtain ⟨t1, t2, t3, t4, t5, t6, t7, t8, t9⟩ := h
  obtain ⟨k1, k2, k3, k4, k5, k6, k7⟩ := k
  obtain ⟨t5, t5'⟩ := t5 k5 (by omega)
  have e1 := t1 1 (by decide) (by decide) (by decide)
  have e2 := t1 2 (by decide) (by decide) (by decide)
  have e3 := t1 3 (by decide) (by decide) (by decide)
  have e4 := t1 4 (by decide) (by decide) (by decide)
  have e5 := t2 5 (by decide) (by decide) (by decide)
  have eu : uL V = uL U := by
    unfold uL usr
    rw [e2, e3]
  have ep : pL V = pL U := by
    unfold pL
    rw [e5]
  refine ⟨⟨by rw [t3, t4]; exact k1, ?_, fun z => ?_, t5, by rw [e5]; exact k6, ?_⟩, ?_⟩
  · rcases t8 with z | z
    · rw [z.1]; exact k2
    · exact Or.inr z
  · rcases t8 with y | y
    · rw [y.2]
      exact k3 (by rw [← y.1]; exact z)
    · rw [y] at z
      exact absurd z (by decide)
  · rw [wrU_l2, e1, e4, eu, ep]
    have q : (if uI V 9 = 0 then 0 else (uR V 8).length + 1) ≤ (uR V 8).length + 1 := by split <;> omega
    have r : (if uI V 11 = 0 then 0 else (uR V 10).length + 1) ≤ (uR V 10).length + 1 := by split <;> omega
    omega
  · rcases t9 with z | z
    · rw [z]; exact k4
    · exact Or.inr z
theorem Tl.okw {n : Nat} {U V : UV} (h : Tl n U V) (hn : n ≤ 900) (k : okT U) (hH : okH U) (hs : ∃ s, s < 5 ∧ uI U 0 = nI s ∧ uR U 1 = tstr s) : okW V := by
  obtain ⟨r1, r2⟩ := h.ok hn k
  obtain ⟨t1, t2, t3, t4, t5, t6, t7, t8, t9⟩ := h
  have e1 := t1 1 (by decide) (by decide) (by decide)
  have e4 := t1 4 (by decide) (by decide) (by decide)
  have e0 := t2 0 (by decide) (by decide) (by decide)
  refine ⟨?_, ?_, r1.2.1, r2, r1.2.2.2.2.1⟩
  · unfold okH
    rw [t3, t4, e4]
    exact hH
  · rw [e0, e1]
    exact hs
theorem usL_len (xs : List Int32) : ∀ m i ip U, (uR (usL xs m i ip U) 2).length + (uR (usL xs m i ip U) 3).length ≤ (uR U 2).length + (uR U 3).length + 3 * m
  | 0, _, _, U => by show (uR U 2).length + (uR U 3).length ≤ _; omega
  | m + 1, i, ip, U => by
    have l := (esc_len (xs.getD i (-1)) 6).1
    rw [usL]
    split
    · have := usL_len xs m (i + 1) true U
      omega
    · split
      · have h := usL_len xs m (i + 1) ip (vR U 2 (uR U 2 ++ esc (xs.getD i (-1)) 6))
        have e2 : uR (vR U 2 (uR U 2 ++ esc (xs.getD i (-1)) 6)) 2 = uR U 2 ++ esc (xs.getD i (-1)) 6 := rfl
        have e3 : uR (vR U 2 (uR U 2 ++ esc (xs.getD i (-1)) 6)) 3 = uR U 3 := rfl
        rw [e2, e3, List.length_append] at h
        omega
      · have h := usL_len xs m (i + 1) ip (vR U 3 (uR U 3 ++ esc (xs.getD i (-1)) 6))
        have e2 : uR (vR U 3 (uR U 3 ++ esc (xs.getD i (-1)) 6)) 3 = uR U 3 ++ esc (xs.getD i (-1)) 6 := rfl
        have e3 : uR (vR U 3 (uR U 3 ++ esc (xs.getD i (-1)) 6)) 2 = uR U 2 := rfl
        rw [e2, e3, List.length_append] at h
        omega
theorem auU_len (xs : List Int32) (p : Nat) (U : UV) (hp : p ≤ xs.length) : (uR (auU xs p U).1 2).length + (uR (auU xs p U).1 3).length ≤ (uR U 2).length + (uR U 3).length + 3 * xs.length := by
  have b2 := auU_le xs p U hp
  unfold auU
  cases h : atS xs (auF xs p) (auE xs p) with
  | none =>
    show (uR U 2).length + (uR U 3).length ≤ _
    omega
  | some s =>
    have := atS_le xs _ _ s h
    have := usL_len xs (s - auF xs p) (auF xs p) false U
    show (uR (usL xs (s - auF xs p) (auF xs p) false U) 2).length + (uR (usL xs (s - auF xs p) (auF xs p) false U) 3).length ≤ _
    omega
theorem prt_ok {xs : List Int32} : ∀ m i acc acc', (∀ v, acc = some v → v ≤ 65535) → prt xs m i acc = some acc' → ∀ v, acc' = some v → v ≤ 65535
  | 0, i, acc, acc', h, e => by
    rw [prt] at e
    cases e
    exact h
  | m + 1, i, acc, acc', h, e => by
    rw [prt] at e
    split at e
    · cases e
    · split at e
      · rename_i c
        exact prt_ok m (i + 1) _ acc' (fun v hv => by cases hv; exact c) e
      · cases e
theorem fourL_len (v : Int32) : (fourL 3 v).length ≤ 23 := by
  rw [fourL, fourL, fourL, fourL]
  have := decL_len 4 (byt4 v (2 + 1))
  have := decL_len 4 (byt4 v (1 + 1))
  have := decL_len 4 (byt4 v (0 + 1))
  have := decL_len 4 (byt4 v 0)
  simp only [List.length_append, List.length_singleton]
  omega
theorem sixL_len (w : Nat → Int32) (g b : Nat) : ∀ m k, (sixL w g b m k).length ≤ 1 + 7 * m
  | 0, k => Nat.le_refl _
  | m + 1, k => by
    have ih := sixL_len w g b m (k + 1)
    have h := hexL_len 3 (num6 w k)
    rw [sixL, List.length_append, List.length_append]
    have a : (if k = g then tstr 8 else []).length ≤ 2 := by
      split
      · decide
      · exact Nat.zero_le _
    have c : (if g ≤ k ∧ k < b then [] else (if 0 < k ∧ k ≠ b then [58] else []) ++ hexL 3 (num6 w k)).length ≤ 5 := by
      split
      · exact Nat.zero_le _
      · rw [List.length_append]
        have : (if 0 < k ∧ k ≠ b then [(58 : Int32)] else []).length ≤ 1 := by
          split
          · exact Nat.le_refl _
          · exact Nat.zero_le _
        omega
    omega
theorem host_len {k : Int32} {w : Nat → Int32} {ys : List Int32} (h : okE k w ys) (h0 : k = 0 → ys.length ≤ 300) : ys.length ≤ 300 := by
  rcases h.1.1 with z | z | z
  · exact h0 z
  · rw [h.2.1 z]
    have := fourL_len (w 0)
    omega
  · rw [h.2.2 z]
    have := sixL_len w (gapB w) (gapE w) 8 0
    show (([91] : List Int32) ++ sixL w (gapB w) (gapE w) 8 0).length ≤ 300
    rw [List.length_append, List.length_singleton]
    omega
theorem tstr_5 : ∀ s, s < 5 → (tstr s).length ≤ 5 := by decide
theorem sNo_s : ∀ s, s < 5 → sNo (nI s) = s := by decide
/-- a fresh record with a scheme -/
def okF (U : UV) : Prop := Em U ∧ uI U 5 = -1 ∧ uI U 9 = 0 ∧ uI U 11 = 0 ∧ (uR U 1).length ≤ 5
theorem okF.sc {U : UV} {a : Int32} : okF (scU (emU U) a) := ⟨Em.sc, rfl, rfl, rfl, tstr_5 _ (sNo_lt a)⟩
theorem enA_ok {xs : List Int32} {U V : UV} {p : Nat} (hx : xs.length ≤ 300) (hp : p ≤ xs.length) (hU : okF U) (h : enA xs U p = .inr V) : ∃ W, Tl (3 * xs.length) W V ∧ okT W ∧ okH W ∧ uI W 0 = uI U 0 ∧ uR W 1 = uR U 1 := by
  obtain ⟨⟨m2, m3, m6, m7, m8, m10⟩, u5, u9, u11, u1⟩ := hU
  unfold enA at h
  split at h
  · cases h
  · have au := auU_le xs p U hp
    have he := heS_le xs (auE xs p - (auU xs p U).2) (auU xs p U).2 false
    generalize heS xs (auE xs p - (auU xs p U).2) (auU xs p U).2 false = e at h he
    cases hh : rdH xs (auU xs p U).2 e with
    | inl c => rw [hh] at h; cases h
    | inr H =>
      rw [hh] at h
      dsimp only at h
      obtain ⟨k, w, ys⟩ := H
      obtain ⟨o1, o2, o3⟩ := rdH_ok hh
      cases hpt : prt xs (auE xs p - (e + 1)) (e + 1) none with
      | none => rw [hpt] at h; cases h
      | some acc =>
        rw [hpt] at h
        dsimp only at h
        have h := Sum.inr.inj h
        have fx := auU_fx xs p U
        have len := auU_len xs p U hp
        rw [m2, m3, List.length_nil] at len
        have hl := host_len o2 (fun z => by have := o3 z; omega)
        refine ⟨ptU (vH (auU xs p U).1 k w ys) acc, by rw [← h]; exact enP_tl (by omega), ⟨o2.1, ?_, fun _ => ?_, ?_, ?_, ?_, ?_⟩, ⟨o2.1.1, o2.2.1, o2.2.2, fun _ => hl⟩, ?_, ?_⟩
        · left
          show uI (auU xs p U).1 9 = 0
          rw [fx.2.1, u9]
        · show uR (auU xs p U).1 8 = []
          rw [fx.1 8 (by decide) (by decide), m8]
        · left
          show uI (auU xs p U).1 11 = 0
          rw [fx.2.1, u11]
        · show uI (auU xs p U).1 7 = nI (cn (uR (auU xs p U).1 6)) ∧ (uR (auU xs p U).1 6 = [] ∨ _)
          rw [fx.2.1, fx.1 6 (by decide) (by decide), m6, m7]
          exact ⟨rfl, Or.inl rfl⟩
        · show okP (if oI acc = pOf (uI (vH (auU xs p U).1 k w ys) 0) then -1 else oI acc)
          split
          · exact Or.inl rfl
          · cases acc with
            | none => exact Or.inl rfl
            | some v => exact Or.inr ⟨v, by have := prt_ok _ _ none _ (fun v z => by cases z) hpt v rfl; omega, rfl⟩
        · have a1 : uR (ptU (vH (auU xs p U).1 k w ys) acc) 1 = uR U 1 := fx.1 1 (by decide) (by decide)
          have a4 : uR (ptU (vH (auU xs p U).1 k w ys) acc) 4 = ys := rfl
          have a6 : uR (ptU (vH (auU xs p U).1 k w ys) acc) 6 = [] := (fx.1 6 (by decide) (by decide)).trans m6
          have a8 : uR (ptU (vH (auU xs p U).1 k w ys) acc) 8 = [] := (fx.1 8 (by decide) (by decide)).trans m8
          have a10 : uR (ptU (vH (auU xs p U).1 k w ys) acc) 10 = [] := (fx.1 10 (by decide) (by decide)).trans m10
          have a2 : uL (ptU (vH (auU xs p U).1 k w ys) acc) ≤ 902 := by
            refine Nat.le_trans (uL_le _) ?_
            show (uR (auU xs p U).1 2).length + (uR (auU xs p U).1 3).length + 2 ≤ 902
            omega
          have a5 := pL_le (ptU (vH (auU xs p U).1 k w ys) acc)
          rw [a1, a4, a6, a8, a10, List.length_nil]
          omega
        · show uI (auU xs p U).1 0 = _
          rw [fx.2.1]
        · exact fx.1 1 (by decide) (by decide)
theorem base_len {B : UV} (ok : okV B) : uL B + (uR B 4).length + pL B + (uR B 6).length + (uR B 8).length ≤ 1000 := by
  have h := ok.2
  rw [wrU_l2] at h
  have q : (uR B 8).length ≤ (if uI B 9 = 0 then 0 else (uR B 8).length + 1) := by
    split
    · rename_i c
      rw [ok.1.2.2.1 c]
      exact Nat.le_refl _
    · omega
  omega
theorem okT_base {U B W : UV} (ok : okV B) (hU : okF U) (hI : ∀ k, k ≠ 5 → k ≠ 7 → k ≠ 9 → uI W k = uI U k) (h1 : uR W 1 = uR U 1) (h2 : uR W 2 = uR B 2) (h3 : uR W 3 = uR B 3) (h4 : uR W 4 = uR B 4) (h5 : uI W 5 = uI B 5) (hk : uK W = uK B) (hw : uW W = uW B) (hs : sgO W) (h6 : (uR W 6).length ≤ (uR B 6).length) (h8 : (uI W 9 = 0 ∧ uR W 8 = []) ∨ (uI W 9 = uI B 9 ∧ uR W 8 = uR B 8)) (h10 : uR W 10 = uR U 10) : okT W := by
  obtain ⟨⟨m2, m3, m6, m7, m8, m10⟩, u5, u9, u11, u1⟩ := hU
  obtain ⟨⟨r1, r2, r3, r4, r5, r6⟩, r7⟩ := id ok
  have bl := base_len ok
  refine ⟨by rw [hk, hw]; exact r1, ?_, fun z => ?_, Or.inl (by rw [hI 11 (by decide) (by decide) (by decide), u11]), hs, by rw [h5]; exact r5, ?_⟩
  · rcases h8 with z | z
    · exact Or.inl z.1
    · rw [z.1]; exact r2
  · rcases h8 with y | y
    · exact y.2
    · rw [y.2]
      exact r3 (by rw [← y.1]; exact z)
  · have eu : uL W = uL B := by
      unfold uL usr
      rw [h2, h3]
    have ep : pL W = pL B := by
      unfold pL
      rw [h5]
    have e8 : (uR W 8).length ≤ (uR B 8).length := by
      rcases h8 with z | z
      · rw [z.2]; exact Nat.zero_le _
      · rw [z.2]; exact Nat.le_refl _
    rw [eu, ep, h1, h4, h10, m10, List.length_nil]
    omega
theorem enR_ok {xs : List Int32} {U V B : UV} {p : Nat} (hx : xs.length ≤ 300) (hp : p ≤ xs.length) (hU : okF U) (ok : okV B) (h : enR xs B U p = .inr V) : ∃ W, Tl (3 * xs.length) W V ∧ okT W ∧ (okH W ∨ (uK W = uK B ∧ uW W = uW B ∧ uR W 4 = uR B 4)) ∧ uI W 0 = uI U 0 ∧ uR W 1 = uR U 1 := by
  obtain ⟨⟨m2, m3, m6, m7, m8, m10⟩, u5, u9, u11, u1⟩ := id hU
  have bl := base_len ok
  have sgB := ok.1.2.2.2.1
  unfold enR at h
  split at h
  · obtain ⟨W, w1, w2, w3, w4⟩ := enA_ok hx hp hU h
    exact ⟨W, w1, w2, Or.inl w3, w4⟩
  split at h
  · have h := Sum.inr.inj h
    refine ⟨tkA U B, by rw [← h]; exact enP_tl hp, okT_base ok hU (fun k h5 _ _ => if_neg h5) rfl rfl rfl rfl rfl rfl rfl ?_ ?_ (Or.inl ⟨u9, m8⟩) rfl, Or.inr ⟨rfl, rfl, rfl⟩, rfl, rfl⟩
    · show uI U 7 = nI (cn (uR U 6)) ∧ (uR U 6 = [] ∨ _)
      rw [m6, m7]
      exact ⟨rfl, Or.inl rfl⟩
    · show (uR U 6).length ≤ _
      rw [m6]
      exact Nat.zero_le _
  split at h
  · have h := Sum.inr.inj h
    exact ⟨tkP (tkA U B) B, by rw [← h]; exact enF_tl, okT_base ok hU (fun k h5 h7 _ => (if_neg h7).trans (if_neg h5)) rfl rfl rfl rfl rfl rfl rfl sgB (Nat.le_refl _) (Or.inl ⟨u9, m8⟩) rfl, Or.inr ⟨rfl, rfl, rfl⟩, rfl, rfl⟩
  split at h
  · have h := Sum.inr.inj h
    exact ⟨tkQ (tkP (tkA U B) B) B, by rw [← h]; exact enF_tl, okT_base ok hU (fun k h5 h7 h9 => (if_neg h9).trans ((if_neg h7).trans (if_neg h5))) rfl rfl rfl rfl rfl rfl rfl sgB (Nat.le_refl _) (Or.inr ⟨rfl, rfl⟩) rfl, Or.inr ⟨rfl, rfl, rfl⟩, rfl, rfl⟩
  · have h := Sum.inr.inj h
    have fx := drS_fx (tkP (tkA U B) B)
    have dok := drS_ok (U := tkP (tkA U B) B) sgB (by show (uR B 6).length ≤ 4096; omega)
    exact ⟨drS (tkP (tkA U B) B), by rw [← h]; exact enS_tl hp, okT_base ok hU (fun k h5 h7 _ => (fx.2.1 k h7).trans ((if_neg h7).trans (if_neg h5))) (fx.1 1 (by decide)) (fx.1 2 (by decide)) (fx.1 3 (by decide)) (fx.1 4 (by decide)) (fx.2.1 5 (by decide)) fx.2.2.1 fx.2.2.2 dok.1 dok.2.1 (Or.inl ⟨(fx.2.1 9 (by decide)).trans u9, (fx.1 8 (by decide)).trans m8⟩) (fx.1 10 (by decide)), Or.inr ⟨fx.2.2.1, fx.2.2.2, fx.1 4 (by decide)⟩, fx.2.1 0 (by decide), fx.1 1 (by decide)⟩
/-- what rdU gives -/
theorem rdU_W {T : List Int32} {Bo : Option UV} {U V : UV} (hT : T.length ≤ 300) (hB : ∀ B, Bo = some B → okV B) (h : rdU T Bo U = .inr V) : ∃ W a, Tl (3 * (tdy T).length) W V ∧ okT W ∧ (okH W ∨ ∃ B, Bo = some B ∧ uK W = uK B ∧ uW W = uW B ∧ uR W 4 = uR B 4) ∧ uI W 0 = a ∧ uR W 1 = tstr (sNo a) ∧ ((∃ s, s < 5 ∧ a = nI s) ∨ ∃ B, Bo = some B ∧ a = uI B 0) := by
  have hx := Nat.le_trans (tdy_len T) hT
  rw [rdU_X] at h
  unfold rdX at h
  generalize tdy T = xs at h hx
  have A : ∀ {p a}, p ≤ xs.length → enA xs (scU (emU U) a) p = .inr V → ((∃ s, s < 5 ∧ a = nI s) ∨ ∃ B, Bo = some B ∧ a = uI B 0) → ∃ W a, Tl (3 * xs.length) W V ∧ okT W ∧ (okH W ∨ ∃ B, Bo = some B ∧ uK W = uK B ∧ uW W = uW B ∧ uR W 4 = uR B 4) ∧ uI W 0 = a ∧ uR W 1 = tstr (sNo a) ∧ ((∃ s, s < 5 ∧ a = nI s) ∨ ∃ B, Bo = some B ∧ a = uI B 0) := by
    intro p a hp h z
    obtain ⟨W, w1, w2, w3, w4, w5⟩ := enA_ok hx hp okF.sc h
    exact ⟨W, a, w1, w2, Or.inl w3, w4, w5, z⟩
  have R : ∀ {p a B}, p ≤ xs.length → Bo = some B → enR xs B (scU (emU U) a) p = .inr V → ((∃ s, s < 5 ∧ a = nI s) ∨ ∃ B, Bo = some B ∧ a = uI B 0) → ∃ W a, Tl (3 * xs.length) W V ∧ okT W ∧ (okH W ∨ ∃ B, Bo = some B ∧ uK W = uK B ∧ uW W = uW B ∧ uR W 4 = uR B 4) ∧ uI W 0 = a ∧ uR W 1 = tstr (sNo a) ∧ ((∃ s, s < 5 ∧ a = nI s) ∨ ∃ B, Bo = some B ∧ a = uI B 0) := by
    intro p a B hp eB h z
    obtain ⟨W, w1, w2, w3, w4, w5⟩ := enR_ok hx hp okF.sc (hB B eB) h
    exact ⟨W, a, w1, w2, w3.imp id (fun y => ⟨B, eB, y⟩), w4, w5, z⟩
  cases he : schE xs with
  | none =>
    rw [he] at h
    cases hb : Bo with
    | none => rw [hb] at h; cases h
    | some B =>
      rw [hb] at h
      rw [← hb]
      exact R (Nat.zero_le _) hb h (Or.inr ⟨B, hb, rfl⟩)
  | some c =>
    rw [he] at h
    dsimp only at h
    have cl := schE_lt he
    cases hs : schU xs c 5 0 with
    | none => rw [hs] at h; cases h
    | some s =>
      rw [hs] at h
      have s5 := schU_lt 5 0 s rfl hs
      cases hb : Bo with
      | none =>
        rw [hb] at h
        rw [← hb]
        exact A (by omega) h (Or.inl ⟨s, s5, rfl⟩)
      | some B =>
        rw [hb] at h
        rw [← hb]
        dsimp only at h
        split at h
        · exact R (by omega) hb h (Or.inl ⟨s, s5, rfl⟩)
        · exact A (by omega) h (Or.inl ⟨s, s5, rfl⟩)
theorem rdU_okR {T : List Int32} {Bo : Option UV} {U V : UV} (hT : T.length ≤ 300) (hB : ∀ B, Bo = some B → okV B) (h : rdU T Bo U = .inr V) : okR V := by
  obtain ⟨W, a, w1, w2, -⟩ := rdU_W hT hB h
  have := tdy_len T
  exact (w1.ok (by omega) w2).1
theorem rdU_okW {T : List Int32} {Bo : Option UV} {U V : UV} (hT : T.length ≤ 300) (hB : ∀ B, Bo = some B → okV B ∧ okW B) (h : rdU T Bo U = .inr V) : okW V := by
  obtain ⟨W, a, w1, w2, w3, w4, w5, w6⟩ := rdU_W hT (fun B e => (hB B e).1) h
  have := tdy_len T
  have hs : ∃ s, s < 5 ∧ a = nI s := by
    rcases w6 with z | ⟨B, eB, e⟩
    · exact z
    · obtain ⟨s, q1, q2, q3⟩ := (hB B eB).2.2.1
      exact ⟨s, q1, e.trans q2⟩
  obtain ⟨s, s5, es⟩ := hs
  refine w1.okw (by omega) w2 ?_ ⟨s, s5, w4.trans es, ?_⟩
  · rcases w3 with z | ⟨B, eB, e1, e2, e3⟩
    · exact z
    · unfold okH
      rw [e1, e2, e3]
      exact (hB B eB).2.1
  · rw [w5, es, sNo_s s s5]
theorem rdU_neg {T : List Int32} {Bo : Option UV} {U : UV} {c : Int32} (h : rdU T Bo U = .inl c) : c ≠ 0 := by
  rw [rdU_X] at h
  unfold rdX at h
  generalize tdy T = xs at h
  have A : ∀ {U p}, enA xs U p = .inl c → c ≠ 0 := by
    intro U p h
    unfold enA at h
    split at h
    · cases h
      decide
    · split at h
      · rename_i hh
        cases h
        exact (rdH_neg hh).2
      · split at h
        · cases h
          decide
        · cases h
  have R : ∀ {U B p}, enR xs B U p = .inl c → c ≠ 0 := by
    intro U B p h
    unfold enR at h
    split at h
    · exact A h
    · repeat' split at h
      all_goals cases h
  split at h
  · split at h
    · cases h
      decide
    · exact R h
  · split at h
    · cases h
      decide
    · split at h
      · exact A h
      · split at h
        · exact R h
        · exact A h
