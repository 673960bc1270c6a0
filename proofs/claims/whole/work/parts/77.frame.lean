/-! WHAT ARRAYS HOLD IS APART FROM WHAT FIELDS HOLD -/
/-- reached from g by n fields; from an array's place by n fields -/
def Rt (σ : gS) (g : Nat) : Nat → Nat → Prop
  | 0, x => x = g
  | n + 1, x => ∃ c k a, Rt σ g n a ∧ gkd σ a = c + 1 ∧ k < gnf c ∧ grf c k = true ∧ grr σ c k a = some x
def Rc (σ : gS) (g x : Nat) : Prop := ∃ n, Rt σ g n x
def Ar (σ : gS) : Nat → Nat → Prop
  | 0, x => ∃ a j, 13 ≤ gkd σ a ∧ gar σ a j = some x
  | n + 1, x => ∃ c k a, Ar σ n a ∧ gkd σ a = c + 1 ∧ k < gnf c ∧ grf c k = true ∧ grr σ c k a = some x
theorem gnf_lt {c k : Nat} (h : k < gnf c) : c < 9 := by
  rcases Nat.lt_or_ge c 9 with z | z
  · exact z
  · exfalso
    have : gnf c = 0 := by
      unfold gnf
      rw [List.getD_eq_getElem?_getD, List.getElem?_eq_none (by simpa using z)]
      rfl
    omega
theorem ftk8 : ∀ c, c < 9 → ∀ k, k < 35 → ftk c k ≠ 8 ∧ ftk c k ≠ 9 := by decide
theorem gnf35 : ∀ c, c < 9 → gnf c ≤ 35 := by decide
theorem elk8 (d : Nat) : elk d = 0 ∨ elk d = 1 ∨ elk d = 3 ∨ elk d = 5 ∨ elk d = 6 := by
  unfold elk
  generalize d - 13 = n
  rcases n with _ | _ | _ | _ | n
  · simp
  · simp
  · simp
  · simp
  · left
    simp
theorem noRoot {σ : gS} {g : Nat} (h : WF σ) (hg : gkd σ g = 8 ∨ gkd σ g = 9) : (∀ a c k, gkd σ a = c + 1 → k < gnf c → grf c k = true → grr σ c k a ≠ some g) ∧ (∀ a j, 13 ≤ gkd σ a → gar σ a j ≠ some g) := by
  refine ⟨fun a c k ha hk hf e => ?_, fun a j ha e => ?_⟩
  · have hc := gnf_lt hk
    obtain ⟨b, q1, q2, -⟩ := h.2.1 a c k ha id hc hk hf
    rw [e] at q1
    rw [← Option.some.inj q1] at q2
    have := ftk8 c hc k (Nat.lt_of_lt_of_le hk (gnf35 c hc))
    omega
  · have := h.2.2.2.2.1 a j g ha e
    have := elk8 (gkd σ a)
    omega
theorem ar_rt {σ : gS} {g : Nat} (h : WF σ) (hg : gkd σ g = 8 ∨ gkd σ g = 9) : ∀ (m n x : Nat), Ar σ m x → Rt σ g n x → False := by
  obtain ⟨g1, g2⟩ := noRoot h hg
  intro m
  induction m with
  | zero =>
    intro n x hA hR
    obtain ⟨a, j, q1, q2⟩ := hA
    cases n with
    | zero =>
      have hR : x = g := hR
      rw [hR] at q2
      exact g2 a j q1 q2
    | succ n =>
      obtain ⟨c, k, b, -, b1, b2, b3, b4⟩ := hR
      exact h.2.2.2.2.2.2.1 b a c k j x b1 b2 b3 b4 q1 q2
  | succ m ih =>
    intro n x hA hR
    obtain ⟨c, k, a, a0, a1, a2, a3, a4⟩ := hA
    cases n with
    | zero =>
      have hR : x = g := hR
      rw [hR] at a4
      exact g1 a c k a1 a2 a3 a4
    | succ n =>
      obtain ⟨c', k', b, b0, b1, b2, b3, b4⟩ := hR
      obtain ⟨-, -, e⟩ := h.2.2.1 a b c c' k k' x a1 b1 a2 b2 a3 b3 a4 b4
      rw [← e] at b0
      exact ih n a a0 b0
/-- a change that leaves alone what arrays hold -/
def ES (σ : gS) (X : Nat → Nat → Nat → Nat → Prop) : Prop := ∀ n x, Ar σ n x → ¬ X 0 x 0 0 ∧ ∀ t c k, t ≠ 0 → gkd σ x = c + 1 → ¬ X t c k x
theorem ES.rc {σ : gS} {g : Nat} {X : Nat → Nat → Nat → Nat → Prop} (h : WF σ) (hg : gkd σ g = 8 ∨ gkd σ g = 9) (h0 : ∀ r, X 0 r 0 0 → Rc σ g r) (h1 : ∀ t c k a, t ≠ 0 → X t c k a → Rc σ g a) : ES σ X := fun n x hA => ⟨fun hX => by
  obtain ⟨m, hm⟩ := h0 x hX
  exact ar_rt h hg n m x hA hm, fun t c k ht _ hX => by
  obtain ⟨m, hm⟩ := h1 t c k x ht hX
  exact ar_rt h hg n m x hA hm⟩
section FR
variable {σ σ' : gS} {X : Nat → Nat → Nat → Nat → Prop} {g : Nat} {G : GV}
theorem Ar.fld {n a c k : Nat} (h : WF σ) (hA : Ar σ n a) (ha : gkd σ a = c + 1) (hk : k < gnf c) (hf : grf c k = true) : Ar σ (n + 1) (tg σ c k a) := ⟨c, k, a, hA, ha, hk, hf, (h.fld ha id (gnf_lt hk) hk hf).1⟩
theorem Mod.arf (hM : Mod X σ σ') {c k a b : Nat} (ha : gkd σ a = c + 1) (hc : c ≠ 4) (hk : k < gnf c) (hf : grf c k = true) (ht : 10 ≤ ftk c k) (hb : grr σ c k a = some b) : grr σ' c k a = some b ∧ gln σ' b = gln σ b ∧ (¬ X 3 c k a → ∀ j, gai σ' b j = gai σ b j ∧ gar σ' b j = gar σ b j) := by
  obtain ⟨m1, m2, m3, m4, m5, m6⟩ := hM
  obtain ⟨q1, q2⟩ := m6 c k a b hc ha hk hf ht hb
  exact ⟨(m5 c k a hc ha (Or.inr ht)).trans hb, q1, q2⟩
theorem adO.mod {n a : Nat} {k : Int32} {w : Nat → Int32} (h : WF σ) (hM : Mod X σ σ') (hE : ES σ X) (hn : Ar σ n a) (ka : gkd σ a = 1) (hA : adO σ a k w) : adO σ' a k w := by
  obtain ⟨-, e⟩ := hE n a hn
  obtain ⟨q1, q2, -⟩ := h.fld (c := 0) (k := 1) ka id (by decide) (by decide) rfl
  refine ⟨?_, fun j hj => ?_⟩
  · rw [← hA.1]
    exact hM.int (c := 0) ka (by decide) (e 1 0 0 (by decide) ka)
  · obtain ⟨p1, -, p3⟩ := hM.arf (c := 0) (k := 1) ka (by decide) (by decide) rfl (by decide) q1
    rw [← hA.2 j hj]
    show gai σ' (tg σ' 0 1 a) j = gai σ (tg σ 0 1 a) j
    rw [tg_of p1]
    exact (p3 (e 3 0 1 (by decide) ka) j).1
theorem hsO.mod {n x : Nat} {k : Int32} {w : Nat → Int32} {ys : List Int32} (h : WF σ) (hM : Mod X σ σ') (hE : ES σ X) (hn : Ar σ n x) (kx : gkd σ x = 3) (hX : hsO σ x k w ys) : hsO σ' x k w ys := by
  obtain ⟨q1, q2, q3, q4⟩ := h.host kx id
  obtain ⟨-, e⟩ := hE n x hn
  have e0 : tg σ' 2 0 x = tg σ 2 0 x := hM.tgt (c := 2) kx (by decide) (e 2 2 0 (by decide) kx)
  have e1 : tg σ' 2 1 x = tg σ 2 1 x := hM.tgt (c := 2) kx (by decide) (e 2 2 1 (by decide) kx)
  refine ⟨?_, ?_⟩
  · rw [e0]
    exact adO.mod h hM hE (Ar.fld (c := 2) (k := 0) h hn kx (by decide) rfl) q2 hX.1
  · rw [e1, ← hX.2]
    exact hM.row h q4 id (hE _ _ (Ar.fld (c := 2) (k := 1) h hn kx (by decide) rfl)).1
theorem row.mod {n r : Nat} (h : WF σ) (hM : Mod X σ σ') (hE : ES σ X) (hn : Ar σ n r) (kr : gkd σ r = 5) : rowL σ' r = rowL σ r := hM.row h kr id (hE n r hn).1
theorem Ur.es {n u : Nat} {U : UV} (h : WF σ) (hM : Mod X σ σ') (hE : ES σ X) (hn : Ar σ n u) (hU : Ur σ u U) : Ur σ' u U := by
  obtain ⟨g1, g2, g3, g4, g5, g6⟩ := h.uhost hU.1
  obtain ⟨-, e⟩ := hE n u hn
  have hh : Ar σ (n + 1) (hO σ u) := Ar.fld (c := 5) (k := 4) h hn hU.1 (by decide) rfl
  have hA : Ar σ (n + 2) (hA σ u) := Ar.fld (c := 2) (k := 0) h hh g2 (by decide) rfl
  have hW : Ar σ (n + 2) (hW σ u) := Ar.fld (c := 2) (k := 1) h hh g2 (by decide) rfl
  obtain ⟨-, eh⟩ := hE _ _ hh
  obtain ⟨-, ea⟩ := hE _ _ hA
  exact (hU.mod h hM (fun k hk => (hE _ _ (Ar.fld (c := 5) (k := k) h hn hU.1 (rk hk).1 (rk hk).2.1)).1) (hE _ _ hW).1 (fun k => e 1 5 k (by decide) hU.1) (fun k => e 2 5 k (by decide) hU.1) (fun k => eh 2 2 k (by decide) g2) (ea 1 0 0 (by decide) g4) (ea 3 0 1 (by decide) g4)).1
/-- the arrays of a Gate -/
theorem gat (h : WF σ) (hM : Mod X σ σ') (kg : gkd σ g = 2) {k : Nat} (hk : k < 9) (hf : grf 1 k = true) (ht : 10 ≤ ftk 1 k) : tg σ' 1 k g = tg σ 1 k g ∧ (¬ X 3 1 k g → ∀ j, gai σ' (tg σ 1 k g) j = gai σ (tg σ 1 k g) j ∧ gar σ' (tg σ 1 k g) j = gar σ (tg σ 1 k g) j) := by
  obtain ⟨q1, -, -⟩ := h.gf kg hk hf
  obtain ⟨p1, -, p3⟩ := hM.arf (c := 1) (k := k) kg (by decide) hk hf ht q1
  exact ⟨tg_of p1, p3⟩
theorem gel (h : WF σ) (kg : gkd σ g = 2) {k i o d : Nat} (hk : k < 9) (hf : grf 1 k = true) (ht : 13 ≤ ftk 1 k) (e : gar σ (tg σ 1 k g) i = some o) (hd : elk (ftk 1 k) = d) : Ar σ 0 o ∧ gkd σ o = d := by
  obtain ⟨-, q2, -⟩ := h.gf kg hk hf
  have := h.ek (by rw [q2]; exact ht) e
  rw [q2, hd] at this
  exact ⟨⟨_, _, by rw [q2]; exact ht, e⟩, this⟩
theorem Gt1.mod (h : WF σ) (hM : Mod X σ σ') (hE : ES σ X) (kg : gkd σ g = 2) (x1 : ¬ X 1 1 2 g) (x2 : ¬ X 3 1 0 g) (x3 : ¬ X 3 1 1 g) (hG : Gt1 σ g G) : Gt1 σ' g G := by
  obtain ⟨n1, n2, n3⟩ := hG
  obtain ⟨a1, a2⟩ := gat h hM kg (k := 0) (by decide) rfl (by decide)
  obtain ⟨b1, b2⟩ := gat h hM kg (k := 1) (by decide) rfl (by decide)
  refine ⟨(hM.int (c := 1) kg (by decide) x1).trans n1, n2, fun i hi => ?_⟩
  obtain ⟨o, e1, e2, e3⟩ := n3 i hi
  obtain ⟨w1, w2⟩ := gel h kg (k := 0) (by decide) rfl (by decide) e1 rfl
  refine ⟨o, ?_, e2.mod h hM hE w1 w2, ?_⟩
  · rw [a1, (a2 x2 i).2]; exact e1
  · rw [b1, (b2 x3 i).1]; exact e3
theorem Gt2.mod (h : WF σ) (hM : Mod X σ σ') (hE : ES σ X) (kg : gkd σ g = 2) (x1 : ¬ X 1 1 5 g) (x2 : ¬ X 3 1 3 g) (x3 : ¬ X 3 1 4 g) (hG : Gt2 σ g G) : Gt2 σ' g G := by
  obtain ⟨n1, n2, n3⟩ := hG
  obtain ⟨a1, a2⟩ := gat h hM kg (k := 3) (by decide) rfl (by decide)
  obtain ⟨b1, b2⟩ := gat h hM kg (k := 4) (by decide) rfl (by decide)
  refine ⟨(hM.int (c := 1) kg (by decide) x1).trans n1, n2, fun i hi => ?_⟩
  obtain ⟨r, a, e1, e2, e3, e4⟩ := n3 i hi
  obtain ⟨w1, w2⟩ := gel h kg (k := 3) (by decide) rfl (by decide) e1 rfl
  obtain ⟨v1, v2⟩ := gel h kg (k := 4) (by decide) rfl (by decide) e3 rfl
  refine ⟨r, a, ?_, (row.mod h hM hE w1 w2).trans e2, ?_, e4.mod h hM hE v1 v2⟩
  · rw [a1, (a2 x2 i).2]; exact e1
  · rw [b1, (b2 x3 i).2]; exact e3
theorem Gt3.mod (h : WF σ) (hM : Mod X σ σ') (hE : ES σ X) (kg : gkd σ g = 2) (x1 : ¬ X 1 1 8 g) (x2 : ¬ X 3 1 6 g) (x3 : ¬ X 3 1 7 g) (hG : Gt3 σ g G) : Gt3 σ' g G := by
  obtain ⟨n1, n2, n3⟩ := hG
  obtain ⟨a1, a2⟩ := gat h hM kg (k := 6) (by decide) rfl (by decide)
  obtain ⟨b1, b2⟩ := gat h hM kg (k := 7) (by decide) rfl (by decide)
  refine ⟨(hM.int (c := 1) kg (by decide) x1).trans n1, n2, fun i hi => ?_⟩
  obtain ⟨a, e1, e2, e3⟩ := n3 i hi
  obtain ⟨v1, v2⟩ := gel h kg (k := 6) (by decide) rfl (by decide) e1 rfl
  refine ⟨a, ?_, e2.mod h hM hE v1 v2, ?_⟩
  · rw [a1, (a2 x2 i).2]; exact e1
  · rw [b1, (b2 x3 i).1]; exact e3
theorem Gt.mod (h : WF σ) (hM : Mod X σ σ') (hE : ES σ X) (hx : ∀ t k, t ≠ 0 → ¬ X t 1 k g) (hG : Gt σ g G) : Gt σ' g G := by
  obtain ⟨kg, g1, g2, g3⟩ := hG
  exact ⟨hM.kd kg, g1.mod h hM hE kg (hx 1 2 (by decide)) (hx 3 0 (by decide)) (hx 3 1 (by decide)), g2.mod h hM hE kg (hx 1 5 (by decide)) (hx 3 3 (by decide)) (hx 3 4 (by decide)), g3.mod h hM hE kg (hx 1 8 (by decide)) (hx 3 6 (by decide)) (hx 3 7 (by decide))⟩
/-- the places: none, or a Url -/
def Pl (σ : gS) (g : Nat) (P : Nat → Option UV) : Prop := ∀ i, i < 4 → (gar σ (tg σ 7 2 g) i = none ∧ P i = none) ∨ ∃ u U, gar σ (tg σ 7 2 g) i = some u ∧ P i = some U ∧ Ur σ u U
theorem Pl.mod {P : Nat → Option UV} (h : WF σ) (hM : Mod X σ σ') (hE : ES σ X) (kg : gkd σ g = 8) (hx : ¬ X 3 7 2 g) (hP : Pl σ g P) : Pl σ' g P := by
  obtain ⟨q1, q2, -⟩ := h.fld (c := 7) (k := 2) kg id (by decide) (by decide) rfl
  obtain ⟨p1, -, p3⟩ := hM.arf (c := 7) (k := 2) kg (by decide) (by decide) rfl (by decide) q1
  intro i hi
  rw [tg_of p1, (p3 hx i).2]
  rcases hP i hi with z | ⟨u, U, e1, e2, e3⟩
  · exact Or.inl z
  · exact Or.inr ⟨u, U, e1, e2, e3.es h hM hE (n := 0) ⟨_, _, by rw [q2]; decide, e1⟩⟩
/-- changes of things that were not there -/
theorem Mod.new {σ1 : gS} {Y : Nat → Nat → Nat → Nat → Prop} (h1 : Mod X σ σ1) (h2 : Mod Y σ1 σ') (hY : ∀ t x y z, Y t x y z → X t x y z ∨ (t = 0 ∧ gkd σ x = 0) ∨ (t ≠ 0 ∧ gkd σ z = 0)) : Mod X σ σ' := by
  obtain ⟨a1, a2, a3, a4, a5, a6⟩ := h1
  obtain ⟨b1, b2, b3, b4, b5, b6⟩ := h2
  have N : ∀ t c k a, t ≠ 0 → gkd σ a = c + 1 → ¬ X t c k a → ¬ Y t c k a := fun t c k a ht ha hx hy => by
    rcases hY t c k a hy with z | z | z
    · exact hx z
    · exact ht z.1
    · omega
  refine ⟨fun a h => ?_, Nat.le_trans a2 b2, fun r hr hg => ?_, fun c k a hc ha hx => ?_, fun c k a hc ha hx => ?_, fun c k a b hc ha hk hr ht hb => ?_⟩
  · rw [b1 a (by rw [a1 a h]; exact h), a1 a h]
  · obtain ⟨p1, p2⟩ := a3 r hr hg
    obtain ⟨q1, q2⟩ := b3 r (by rw [a1 r (by rw [hr]; omega)]; exact hr) p1
    refine ⟨q1, fun hx => (q2 (fun hy => ?_)).trans (p2 hx)⟩
    rcases hY 0 r 0 0 hy with z | z | z
    · exact hx z
    · omega
    · exact z.1 rfl
  · rw [b4 c k a hc (by rw [a1 a (by rw [ha]; omega)]; exact ha) (N 1 c k a (by decide) ha hx), a4 c k a hc ha hx]
  · rw [b5 c k a hc (by rw [a1 a (by rw [ha]; omega)]; exact ha) (hx.imp (N 2 c k a (by decide) ha) id), a5 c k a hc ha hx]
  · obtain ⟨q1, q2⟩ := a6 c k a b hc ha hk hr ht hb
    obtain ⟨p1, p2⟩ := b6 c k a b hc (by rw [a1 a (by rw [ha]; omega)]; exact ha) hk hr ht (by rw [a5 c k a hc ha (Or.inr ht)]; exact hb)
    exact ⟨p1.trans q1, fun hx j => ⟨(p2 (N 3 c k a (by decide) ha hx) j).1.trans (q2 hx j).1, (p2 (N 3 c k a (by decide) ha hx) j).2.trans (q2 hx j).2⟩⟩
end FR
