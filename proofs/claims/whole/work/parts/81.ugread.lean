/-! URLGATE: the HOST of the text, read -/
/-- the room that a new place takes -/
def emB (P : Nat → Option UV) (i : Nat) : Nat := if (P i).isSome = true then 0 else 58068
section UN
variable {σ : gS} {g : Nat} {T : List Int32} {P : Nat → Option UV} {G : GV} {Q : Int32 → gS → Prop}
theorem Sys.host (S : Sys σ g T P G) : gkd σ (tg σ 7 3 g) = 3 ∧ gkd σ (tg σ 7 4 g) = 4 ∧ tg σ 7 0 g ≠ tg σ 3 0 (tg σ 7 4 g) ∧ tg σ 7 0 g ≠ tg σ 2 1 (tg σ 7 3 g) := by
  obtain ⟨-, k3⟩ := S.fld (k := 3) (by decide) rfl
  obtain ⟨-, k4⟩ := S.fld (k := 4) (by decide) rfl
  have k3 : gkd σ (tg σ 7 3 g) = 3 := k3
  have k4 : gkd σ (tg σ 7 4 g) = 4 := k4
  refine ⟨k3, k4, ?_, ?_⟩
  · exact S.1.ne (c := 7) (c' := 3) S.2.1 id (by decide) (by decide) rfl k4 id (by decide) (by decide) rfl (fun z => absurd z.1 (by decide))
  · exact S.1.ne (c := 7) (c' := 2) S.2.1 id (by decide) (by decide) rfl k3 id (by decide) (by decide) rfl (fun z => absurd z.1 (by decide))
/-- what the reading of a HOST changes -/
theorem Sys.heard {σ' : gS} (S : Sys σ g T P G) (R : RhAny σ σ' (tg σ 7 4 g) (tg σ 7 3 g)) : Sg σ σ' g T P G 0 := by
  obtain ⟨k3, k4, n1, n2⟩ := S.host
  obtain ⟨-, k0⟩ := S.fld (k := 0) (by decide) rfl
  obtain ⟨q1, q2, q3, q4⟩ := S.1.host k3 id
  have r3 : Rc σ g (tg σ 7 3 g) := S.rc (by decide) rfl
  have r4 : Rc σ g (tg σ 7 4 g) := S.rc (by decide) rfl
  have ra : Rc σ g (tg σ 2 0 (tg σ 7 3 g)) := Rc.fld S.1 r3 (c := 2) k3 (by decide) rfl
  have rr : Rc σ g (tg σ 2 1 (tg σ 7 3 g)) := Rc.fld S.1 r3 (c := 2) k3 (by decide) rfl
  have rn : Rc σ g (tg σ 3 0 (tg σ 7 4 g)) := Rc.fld S.1 r4 (c := 3) k4 (by decide) rfl
  obtain ⟨W, M, B⟩ := R
  refine ⟨S.upd W M (ES.rc S.1 (Or.inl S.2.1) (fun r z => ?_) (fun t c k a ht z => ?_)) (fun t k ht z => ?_) (fun t k ht z => ?_) ?_ S.2.2.2.1, M.mono (fun t x y z q => ?_), B⟩
  · rcases z with (⟨z, -⟩ | ⟨z, -⟩) | ⟨-, z⟩ | (⟨z, -⟩ | ⟨z, -⟩) | ⟨-, z⟩
    · exact absurd z (by decide)
    · exact absurd z (by decide)
    · rw [z]; exact rn
    · exact absurd z (by decide)
    · exact absurd z (by decide)
    · rw [z]; exact rr
  · rcases z with (⟨-, -, -, z⟩ | ⟨-, -, -, z⟩) | ⟨z, -⟩ | (⟨-, -, -, z⟩ | ⟨-, -, -, z⟩) | ⟨z, -⟩
    · rw [z]; exact r4
    · rw [z]; exact r4
    · exact absurd z ht
    · rw [z]; exact ra
    · rw [z]; exact ra
    · exact absurd z ht
  · rcases z with (⟨-, z, -⟩ | ⟨-, z, -⟩) | ⟨z, -⟩ | (⟨-, z, -⟩ | ⟨-, z, -⟩) | ⟨z, -⟩
    · exact absurd z (by decide)
    · exact absurd z (by decide)
    · exact ht z
    · exact absurd z (by decide)
    · exact absurd z (by decide)
    · exact ht z
  · rcases z with (⟨-, z, -⟩ | ⟨-, z, -⟩) | ⟨z, -⟩ | (⟨-, z, -⟩ | ⟨-, z, -⟩) | ⟨z, -⟩
    · exact absurd z (by decide)
    · exact absurd z (by decide)
    · exact ht z
    · exact absurd z (by decide)
    · exact absurd z (by decide)
    · exact ht z
  · rw [M.row S.1 k0 id (fun z => ?_)]
    · exact S.2.2.1
    · rcases z with (⟨z, -⟩ | ⟨z, -⟩) | ⟨-, z⟩ | (⟨z, -⟩ | ⟨z, -⟩) | ⟨-, z⟩
      · exact absurd z (by decide)
      · exact absurd z (by decide)
      · exact n1 z
      · exact absurd z (by decide)
      · exact absurd z (by decide)
      · exact n2 z
  · rcases q with (⟨-, z, -⟩ | ⟨-, z, -⟩) | ⟨z, -⟩ | (⟨-, z, -⟩ | ⟨-, z, -⟩) | ⟨z, -⟩
    · exact Or.inr (by rw [z]; decide)
    · exact Or.inr (by rw [z]; decide)
    · exact Or.inl z
    · exact Or.inr (by rw [z]; decide)
    · exact Or.inr (by rw [z]; decide)
    · exact Or.inl z
theorem sp_hear (S : Sys σ g T P G) (hB : Bud σ 0) (h0 : ∀ c σ', rdH T 0 T.length = .inl c → Sg σ σ' g [] P G 0 → Q c σ') (h1 : ∀ k w ys σ', rdH T 0 T.length = .inr (k, w, ys) → Sg σ σ' g [] P G 0 → hsO σ' (tg σ' 7 3 g) k w ys → Q 0 σ') : wp (f_X8_hearHost (some g)) σ Q := by
  obtain ⟨k3, k4, n1, n2⟩ := S.host
  obtain ⟨e0, k0⟩ := S.fld (k := 0) (by decide) rfl
  obtain ⟨e3, -⟩ := S.fld (k := 3) (by decide) rfl
  obtain ⟨e4, -⟩ := S.fld (k := 4) (by decide) rfl
  have kg := S.2.1
  have hl := S.2.2.2.1
  unfold f_X8_hearHost
  refine wp_b (wp_rR kg ?_)
  rw [e4]
  refine wp_b (wp_rR kg ?_)
  refine S.len ?_
  refine wp_b (wp_rR kg ?_)
  rw [e0, e3]
  have Sr0 : Sr σ (tg σ 7 0 g) T := ⟨S.1, k0, S.2.2.1, by omega⟩
  refine wp_b (wp_nn k4 (wp_b (sp_readHost (a := 0) Sr0 k4 k3 (Nat.zero_le _) (Nat.le_refl _) hB n1 (fun c σ1 e R => ?_) (fun k w ys σ1 e R => ?_))))
  · have S1 := S.heard R
    exact sp_cut0 S1.1 (fun σ2 S2 _ => wp_p (h0 c σ2 e (S1.trans S2)))
  · obtain ⟨R, r1, r2, r3⟩ := R
    have S1 := S.heard R
    obtain ⟨W, M, -⟩ := R
    refine sp_cut0 S1.1 (fun σ2 S2 R2 => wp_p (h1 k w ys σ2 e (S1.trans S2) ?_))
    have t3 : tg σ1 7 3 g = tg σ 7 3 g := M.tgt (c := 7) kg (by decide) (by simp)
    obtain ⟨k3', -, -, n2'⟩ := S1.1.host
    have t2 : tg σ2 7 3 g = tg σ 7 3 g := by rw [R2.2.1.tgt (c := 7) S1.1.2.1 (by decide) (by simp), t3]
    have H1 : hsO σ1 (tg σ 7 3 g) k w ys := by
      have a0 : tg σ1 2 0 (tg σ 7 3 g) = tg σ 2 0 (tg σ 7 3 g) := M.tgt (c := 2) k3 (by decide) (by simp)
      have a1 : tg σ1 2 1 (tg σ 7 3 g) = tg σ 2 1 (tg σ 7 3 g) := M.tgt (c := 2) k3 (by decide) (by simp)
      exact ⟨⟨by rw [a0]; exact r1, fun j hj => by rw [a0]; exact r2 j hj⟩, by rw [a1]; exact r3⟩
    rw [t2]
    rw [t3] at k3' n2'
    exact H1.mx W R2.2.1 k3' (by simp) (fun z => n2' z.2.symm) (by simp) (by simp)
theorem sp_list {b : Bool} (S : Sys σ g T P G) (hB : Bud σ 8456) (h0 : ∀ c σ', rdH T 0 T.length = .inl c → Sg σ σ' g [] P G 0 → c ≠ 0 → Q c σ') (h1 : ∀ k w ys σ', rdH T 0 T.length = .inr (k, w, ys) → b = true → k ≠ 0 → Sg σ σ' g [] P G 0 → Q (-2) σ') (h2 : ∀ k w ys σ', rdH T 0 T.length = .inr (k, w, ys) → (b = false ∨ k = 0) → NH G = 12 → Sg σ σ' g [] P G 0 → Q (-3) σ') (h3 : ∀ k w ys σ', rdH T 0 T.length = .inr (k, w, ys) → (b = false ∨ k = 0) → NH G < 12 → Sg σ σ' g [] P (adH G (k, w4 k (w 0) (w 1) (w 2) (w 3), ys, b2i b)) 8456 → Q (nI (NH G + 1)) σ') : wp (f_X8_list (some g) (b2i b)) σ Q := by
  unfold f_X8_list
  refine wp_b (wp_nn S.2.1 (wp_b (sp_hear S (hB.le (by omega)) (fun c σ1 e S1 => ?_) (fun k w ys σ1 e S1 H => ?_))))
  · have hc := (rdH_neg e).2
    exact wp_f hc (wp_p (h0 c σ1 e S1 hc))
  · obtain ⟨k3, -, -, -⟩ := S1.1.host
    obtain ⟨e3, -⟩ := S1.1.fld (k := 3) (by decide) rfl
    obtain ⟨e6, k6⟩ := S1.1.fld (k := 6) (by decide) rfl
    have kg := S1.1.2.1
    have go : (b = false ∨ k = 0) → wp (f_X8_list_28 (some g) (b2i b)) σ1 Q := by
      intro hb
      unfold f_X8_list_28
      refine wp_b (wp_rR kg ?_)
      rw [e6]
      refine wp_b (wp_rR kg ?_)
      rw [e3]
      refine wp_b (wp_nn k6 (wp_b (sp_addHost S1.1.1 S1.1.2.2.2.2.2.1 k3 H (S1.2.2 8456 (hB.le (by omega))) (fun z => wp_p (h2 k w ys σ1 e hb z S1)) (fun σ2 z W M B hG => wp_p ?_))))
      exact h3 k w ys σ2 e hb z (S1.trans (S1.1.sg W M B hG))
    refine wp_t rfl ?_
    refine wp_bz (fun c => go (Or.inl c)) (fun c => ?_)
    refine wp_b (wp_rR kg ?_)
    rw [e3]
    refine wp_b (wp_nn k3 (wp_b (sp_isName S1.1.1 k3 id ?_)))
    rw [H.1.1]
    refine wp_bz (fun d => ?_) (fun d => go (Or.inr (of_decide_eq_true d)))
    exact wp_p (h1 k w ys σ1 e c (of_decide_eq_false d) S1)
theorem sp_resolve {a p q r s : Int32} (S : Sys σ g T P G) (hB : Bud σ 8390) (hz : ¬ (a = 4 ∨ a = 6) → Q (-2) σ) (h0 : ∀ c σ', (a = 4 ∨ a = 6) → rdH T 0 T.length = .inl c → Sg σ σ' g [] P G 0 → c ≠ 0 → Q c σ') (h1 : ∀ k w ys σ', (a = 4 ∨ a = 6) → rdH T 0 T.length = .inr (k, w, ys) → k ≠ 0 → Sg σ σ' g [] P G 0 → Q (-2) σ') (h2 : ∀ w ys σ', (a = 4 ∨ a = 6) → rdH T 0 T.length = .inr (0, w, ys) → NA G = 16 → Sg σ σ' g [] P G 0 → Q (-3) σ') (h3 : ∀ w ys σ', (a = 4 ∨ a = 6) → rdH T 0 T.length = .inr (0, w, ys) → NA G < 16 → Sg σ σ' g [] P (adA G (ys, a, w4 a p q r s)) 8390 → Q (nI (NA G + 1)) σ') : wp (f_X8_resolve (some g) a p q r s) σ Q := by
  have go : (a = 4 ∨ a = 6) → wp (f_X8_resolve_14 (some g) a p q r s) σ Q := by
    intro ha
    unfold f_X8_resolve_14
    refine wp_b (wp_nn S.2.1 (wp_b (sp_hear S (hB.le (by omega)) (fun c σ1 e S1 => ?_) (fun k w ys σ1 e S1 H => ?_))))
    · have hc := (rdH_neg e).2
      exact wp_f hc (wp_p (h0 c σ1 ha e S1 hc))
    · obtain ⟨k3, -, -, -⟩ := S1.1.host
      obtain ⟨e3, -⟩ := S1.1.fld (k := 3) (by decide) rfl
      obtain ⟨e6, k6⟩ := S1.1.fld (k := 6) (by decide) rfl
      have kg := S1.1.2.1
      obtain ⟨-, -, q3, q4⟩ := S1.1.1.host k3 id
      refine wp_t rfl ?_
      refine wp_b (wp_rR kg ?_)
      rw [e3]
      refine wp_b (wp_nn k3 (wp_b (sp_isName S1.1.1 k3 id ?_)))
      rw [H.1.1]
      refine wp_bz (fun d => wp_p (h1 k w ys σ1 ha e (of_decide_eq_false d) S1)) (fun d => ?_)
      have hk := of_decide_eq_true d
      subst hk
      refine wp_b (wp_rR kg ?_)
      rw [e6]
      refine wp_b (wp_rR kg ?_)
      rw [e3]
      refine wp_b (wp_rR k3 ?_)
      rw [q3]
      refine wp_b (wp_nn k6 (wp_b (sp_addAnswer S1.1.1 S1.1.2.2.2.2.2.1 q4 H.2 (S1.2.2 8390 (hB.le (by omega))) (fun z => wp_p (h2 w ys σ1 ha e z S1)) (fun σ2 z W M B hG => wp_p ?_))))
      exact h3 w ys σ2 ha e z (S1.trans (S1.1.sg W M B hG))
  unfold f_X8_resolve
  refine wp_if (fun c => go (Or.inl c)) (fun c => ?_)
  exact wp_if (fun d => go (Or.inr d)) (fun d => wp_p (hz (fun z => z.elim c d)))
/-- what the reading of a text changes -/
theorem Sys.read {σ' : gS} (S : Sys σ g T P G) (F : Fl σ σ' (tg σ 7 5 g) (tg σ 7 4 g) (tg σ 7 7 g)) : Sg σ σ' g T P G 0 := by
  obtain ⟨k3, k4, n1, n2⟩ := S.host
  obtain ⟨-, k0⟩ := S.fld (k := 0) (by decide) rfl
  obtain ⟨-, k5⟩ := S.fld (k := 5) (by decide) rfl
  obtain ⟨-, k7⟩ := S.fld (k := 7) (by decide) rfl
  have k5 : gkd σ (tg σ 7 5 g) = 7 := k5
  have k7 : gkd σ (tg σ 7 7 g) = 6 := k7
  have r4 : Rc σ g (tg σ 7 4 g) := S.rc (by decide) rfl
  have r5 : Rc σ g (tg σ 7 5 g) := S.rc (by decide) rfl
  have r7 : Rc σ g (tg σ 7 7 g) := S.rc (by decide) rfl
  generalize eu : tg σ 7 7 g = u at *
  obtain ⟨h1, h2, h3, h4, h5, h6⟩ := S.1.uhost k7
  have rh : Rc σ g (hO σ u) := Rc.fld S.1 r7 (c := 5) (k := 4) k7 (by decide) rfl
  have ra : Rc σ g (hA σ u) := Rc.fld S.1 rh (c := 2) (k := 0) h2 (by decide) rfl
  have rw' : Rc σ g (hW σ u) := Rc.fld S.1 rh (c := 2) (k := 1) h2 (by decide) rfl
  have rs : Rc σ g (tg σ 6 0 (tg σ 7 5 g)) := Rc.fld S.1 r5 (c := 6) k5 (by decide) rfl
  have rn : Rc σ g (tg σ 3 0 (tg σ 7 4 g)) := Rc.fld S.1 r4 (c := 3) k4 (by decide) rfl
  have rk' : ∀ k, ftk 5 k = 5 → Rc σ g (tg σ 5 k u) := fun k hk => Rc.fld S.1 r7 (c := 5) k7 (rk hk).1 (rk hk).2.1
  obtain ⟨W, M, B⟩ := F
  have key : ∀ t x y z, XL σ (tg σ 7 5 g) (tg σ 7 4 g) u t x y z → (t = 0 ∧ Rc σ g x ∧ x ≠ tg σ 7 0 g) ∨ (t ≠ 0 ∧ x ≠ 7 ∧ x ≠ 1 ∧ x ≠ 8 ∧ Rc σ g z) := by
    intro t x y z q
    rcases q with (⟨q, k, hk, e⟩ | ⟨q, e, e'⟩ | (⟨q, e, -, e'⟩ | ⟨q, e, -, e'⟩) | ⟨q, e⟩) | ⟨q, e, e'⟩ | ⟨q, e⟩ | (⟨q, e, -, e'⟩ | ⟨q, e, -, e'⟩) | ⟨q, e⟩
    · exact Or.inl ⟨q, by rw [e]; exact rk' k hk, by rw [e]; exact S.1.ne (c := 5) (c' := 7) (k' := 0) k7 id (by decide) (rk hk).1 (rk hk).2.1 S.2.1 id (by decide) (by decide) rfl (fun z => absurd z.1 (by decide))⟩
    · exact Or.inr ⟨by omega, by omega, by omega, by omega, by rw [e']; exact r7⟩
    · exact Or.inr ⟨by omega, by omega, by omega, by omega, by rw [e']; exact ra⟩
    · exact Or.inr ⟨by omega, by omega, by omega, by omega, by rw [e']; exact ra⟩
    · exact Or.inl ⟨q, by rw [e]; exact rw', by rw [e]; exact S.1.ne (c := 2) (k := 1) (c' := 7) (k' := 0) h2 id (by decide) (by decide) rfl S.2.1 id (by decide) (by decide) rfl (fun z => absurd z.1 (by decide))⟩
    · exact Or.inr ⟨by omega, by omega, by omega, by omega, by rw [e']; exact r5⟩
    · exact Or.inl ⟨q, by rw [e]; exact rs, by rw [e]; exact S.1.ne (c := 6) (k := 0) (c' := 7) (k' := 0) k5 id (by decide) (by decide) rfl S.2.1 id (by decide) (by decide) rfl (fun z => absurd z.1 (by decide))⟩
    · exact Or.inr ⟨by omega, by omega, by omega, by omega, by rw [e']; exact r4⟩
    · exact Or.inr ⟨by omega, by omega, by omega, by omega, by rw [e']; exact r4⟩
    · exact Or.inl ⟨q, by rw [e]; exact rn, by rw [e]; exact fun z => n1 z.symm⟩
  refine ⟨S.upd W M (ES.rc S.1 (Or.inl S.2.1) (fun r z => ?_) (fun t c k a ht z => ?_)) (fun t k ht z => ?_) (fun t k ht z => ?_) ?_ S.2.2.2.1, M.mono (fun t x y z q => ?_), B⟩
  · rcases key _ _ _ _ z with ⟨-, q, -⟩ | ⟨q, -⟩
    · exact q
    · exact absurd rfl q
  · rcases key _ _ _ _ z with ⟨q, -⟩ | ⟨-, -, -, -, q⟩
    · exact absurd q ht
    · exact q
  · rcases key _ _ _ _ z with ⟨q, -⟩ | ⟨-, q, -⟩
    · exact ht q
    · exact q rfl
  · rcases key _ _ _ _ z with ⟨q, -⟩ | ⟨-, -, q, -⟩
    · exact ht q
    · exact q rfl
  · rw [M.row S.1 k0 id (fun z => ?_)]
    · exact S.2.2.1
    · rcases key _ _ _ _ z with ⟨-, -, q⟩ | ⟨q, -⟩
      · exact q rfl
      · exact q rfl
  · rcases key _ _ _ _ q with ⟨z, -⟩ | ⟨-, -, -, z, -⟩
    · exact Or.inl z
    · exact Or.inr z
theorem Ur.ex {u : Nat} (h : gkd σ u = 6) : ∃ U, Ur σ u U := ⟨(fun k => if k = 4 then rowL σ (hW σ u) else rowL σ (tg σ 5 k u), fun k => gii σ 5 k u, aK σ (hA σ u), fun j => aW σ (hA σ u) j), h, fun k hk => by show _ = if k = 4 then _ else _; rw [if_neg (rk hk).2.2], by show rowL σ (hW σ u) = if (4 : Nat) = 4 then rowL σ (hW σ u) else rowL σ (tg σ 5 4 u); rw [if_pos rfl], fun _ => rfl, rfl, fun _ _ => rfl⟩
def setP (P : Nat → Option UV) (i : Nat) (V : UV) : Nat → Option UV := fun j => if j = i then some V else P j
/-- a place takes the spare record -/
theorem sp_swap {i : Nat} {V : UV} (S : Sys σ g T P G) (hi : i < 4) (hB : Bud σ 58068) (hV : Ur σ (tg σ 7 7 g) V) (ok : okV V) (hQ : ∀ σ', Sg σ σ' g T (setP P i V) G (emB P i) → Q 0 σ') : wp (gb (rR 7 2 (some g)) fun v11 => gb (aR 6 v11 (nI i)) fun v12 => gb (rR 7 2 (some g)) fun v13 => gb (rR 7 7 (some g)) fun v14 => gb (sR 6 5 v13 (nI i) v14) fun _ => if v12 = none then (gb (nO 5) fun v15 => gb (nn 5 v15) fun _ => gb (f_X6_init v15) fun _ => f_X8_read_128 (some g) v15) else (f_X8_read_128 (some g) v12)) σ Q := by
  have h := S.1
  have kg := S.2.1
  obtain ⟨e7, k7⟩ := S.fld (k := 7) (by decide) rfl
  obtain ⟨q1, q2, q3⟩ := h.fld (c := 7) (k := 2) kg id (by decide) (by decide) rfl
  have q2 : gkd σ (tg σ 7 2 g) = 16 := q2
  have q3 : gln σ (tg σ 7 2 g) = 4 := q3 (by decide)
  obtain ⟨-, k0⟩ := S.fld (k := 0) (by decide) rfl
  obtain ⟨-, k6⟩ := S.fld (k := 6) (by decide) rfl
  refine wp_b (wp_rR kg ?_)
  rw [q1]
  refine wp_b (wp_aR (t := 6) q2 (by omega) (by omega) ?_)
  refine wp_b (wp_rR kg ?_)
  rw [q1]
  refine wp_b (wp_rR kg ?_)
  rw [e7]
  refine wp_b (wp_sR (t := 6) (c := 5) q2 (by omega) (by omega) k7 ?_)
  -- the end, for both
  have fin : ∀ σ', WF σ' → Mod (XW g) σ σ' → BK (emB P i) σ σ' → (∀ j, gar σ' (tg σ 7 2 g) j = if j = i then some (tg σ 7 7 g) else gar σ (tg σ 7 2 g) j) → Sg σ σ' g T (setP P i V) G (emB P i) := by
    intro σ' W M B hg
    have hE : ES σ (XW g) := ES.rc h (Or.inl kg) (fun r z => by rcases z with ⟨z, -⟩ | ⟨z, -⟩ <;> exact absurd z (by decide)) (fun t c k a _ z => by rcases z with ⟨-, -, -, z⟩ | ⟨-, -, -, z⟩ <;> exact ⟨0, z⟩)
    have t0 : tg σ' 7 0 g = tg σ 7 0 g := M.tgt (c := 7) kg (by decide) (by simp)
    have t6 : tg σ' 7 6 g = tg σ 7 6 g := M.tgt (c := 7) kg (by decide) (by simp)
    have t2 : tg σ' 7 2 g = tg σ 7 2 g := M.tgt (c := 7) kg (by decide) (by simp)
    refine ⟨⟨W, M.kd kg, ?_, S.2.2.2.1, fun j hj => ?_, ?_, fun j U hj e => ?_⟩, M.mono (fun t x y z q => by rcases q with ⟨-, q, -⟩ | ⟨-, q, -⟩ <;> exact Or.inr (by rw [q]; decide)), B⟩
    · rw [t0, M.row h k0 id (by simp)]
      exact S.2.2.1
    · rw [t2, hg]
      unfold setP
      by_cases z : j = i
      · rw [if_pos z, if_pos z]
        refine Or.inr ⟨_, V, rfl, rfl, ?_⟩
        exact (hV.mod h M (by simp) (by simp) (by simp) (by simp) (by simp) (by simp) (by simp)).1
      · rw [if_neg z, if_neg z]
        rcases S.2.2.2.2.1 j hj with y | ⟨u, U, y1, y2, y3⟩
        · exact Or.inl y
        · exact Or.inr ⟨u, U, y1, y2, y3.es h M hE (n := 0) ⟨_, _, by rw [q2]; decide, y1⟩⟩
    · rw [t6]
      exact S.2.2.2.2.2.1.mod h M hE (fun t k _ z => by rcases z with ⟨-, z, -⟩ | ⟨-, z, -⟩ <;> exact absurd z (by decide))
    · unfold setP at e
      by_cases z : j = i
      · rw [if_pos z] at e
        cases e
        exact ok
      · rw [if_neg z] at e
        exact S.2.2.2.2.2.2 j U hj e
  cases ho : gar σ (tg σ 7 2 g) i with
  | none =>
    refine wp_t rfl ?_
    have hB4 : Bud (gsQ σ (tg σ 7 2 g) i (some (tg σ 7 7 g))) 58068 := (bk_q h.rok).1 58068 hB
    refine un_url Int32 (gsz (gsQ σ (tg σ 7 2 g) i (some (tg σ 7 7 g)))) (fun _ => False) _ Q (cut_self (bk_q h.rok).2) (Nat.le_refl _) (bk_q h.rok).2 hB4 _ (fun σ5 N => ?_)
    obtain ⟨W, M, B, kg5, hg⟩ := sw_none h kg e7 N
    unfold f_X8_read_128
    have eb : emB P i = 58068 := by
      rcases S.2.2.2.2.1 i hi with ⟨-, z⟩ | ⟨u, U, z, -⟩
      · unfold emB
        rw [z]
        rfl
      · rw [ho] at z
        cases z
    refine wp_b (wp_wR (c := 7) kg5 (wp_p (hQ _ (fin _ W M (by rw [eb]; exact B) (fun j => ?_)))))
    show gar σ5 _ j = _
    rw [hg, qQ_ar]
    by_cases z : j = i
    · rw [if_pos ⟨rfl, z⟩, if_pos z]
    · rw [if_neg (fun y => z y.2), if_neg z]
  | some o =>
    refine wp_f (by simp) ?_
    obtain ⟨W, M, B⟩ := sw_some h kg e7 ho
    unfold f_X8_read_128
    refine wp_b (wp_wR (c := 7) kg (wp_p (hQ _ (fin _ W M (B.le (by omega)) (fun j => ?_)))))
    show gar (gsQ σ _ i _) _ j = _
    rw [qQ_ar]
    by_cases z : j = i
    · rw [if_pos ⟨rfl, z⟩, if_pos z]
    · rw [if_neg (fun y => z y.2), if_neg z]
/-- the base that a call names -/
def bsI (P : Nat → Option UV) (j : Int32) : Option UV := plI P j
theorem plI_ok {i : Int32} {U : UV} (S : Sys σ g T P G) (e : plI P i = some U) : okV U := by
  unfold plI at e
  split at e
  · cases e
  · rename_i c
    split at e
    · rename_i d
      rcases pk_ix i (n := 4) (by omega) with z | z | ⟨j, hj, rfl⟩
      · exact absurd z c
      · exact absurd d (by rw [Int32.not_lt]; exact z)
      · rw [nI_clamp (by omega)] at e
        exact S.2.2.2.2.2.2 j U hj e
    · cases e
theorem sp_read {i j : Int32} (S : Sys σ g T P G) (hB : Bud σ 58068) (hok : ∀ U V Bo, (∀ B, Bo = some B → okV B) → rdU T Bo U = .inr V → okR V) (hneg : ∀ U Bo c, rdU T Bo U = .inl c → c ≠ 0) (hz : (i < 0 ∨ ¬ i < 4 ∨ (j ≠ -1 ∧ plI P j = none)) → Q (-2) σ)
    (h0 : ∀ n U c σ', i = nI n → n < 4 → (j = -1 ∨ plI P j ≠ none) → rdU T (plI P j) U = .inl c → Sg σ σ' g [] P G 0 → Q c σ')
    (h1 : ∀ n U V σ', i = nI n → n < 4 → (j = -1 ∨ plI P j ≠ none) → rdU T (plI P j) U = .inr V → 1000 < (wrU V).length → Sg σ σ' g [] P G 0 → Q (-3) σ')
    (h2 : ∀ n U V σ', i = nI n → n < 4 → (j = -1 ∨ plI P j ≠ none) → rdU T (plI P j) U = .inr V → (wrU V).length ≤ 1000 → Sg σ σ' g [] (setP P n V) G (emB P n) → Q 0 σ') : wp (f_X8_read (some g) i j) σ Q := by
  have h := S.1
  have kg := S.2.1
  have hl := S.2.2.2.1
  have main : ∀ n bo, i = nI n → n < 4 → (j = -1 ∨ plI P j ≠ none) → ((bo = none ∧ plI P j = none) ∨ ∃ b B, bo = some b ∧ plI P j = some B ∧ Ur σ b B ∧ Ar σ 0 b) → wp (f_X8_read_27 (some g) i bo) σ Q := by
    intro n bo hi hn hj hbo
    subst hi
    obtain ⟨e0, k0⟩ := S.fld (k := 0) (by decide) rfl
    obtain ⟨e4, k4⟩ := S.fld (k := 4) (by decide) rfl
    obtain ⟨e5, k5⟩ := S.fld (k := 5) (by decide) rfl
    obtain ⟨e7, k7⟩ := S.fld (k := 7) (by decide) rfl
    have k4 : gkd σ (tg σ 7 4 g) = 4 := k4
    have k5 : gkd σ (tg σ 7 5 g) = 7 := k5
    have k7 : gkd σ (tg σ 7 7 g) = 6 := k7
    obtain ⟨U, hU⟩ := Ur.ex k7
    have A : Ac σ (tg σ 7 5 g) (tg σ 7 4 g) (tg σ 7 7 g) := ⟨h, k5, k4, k7, hB.le (by omega)⟩
    have hts : tg σ 7 0 g ≠ tg σ 6 0 (tg σ 7 5 g) := h.ne (c := 7) (c' := 6) kg id (by decide) (by decide) rfl k5 id (by decide) (by decide) rfl (fun z => absurd z.1 (by decide))
    have okb : ∀ B, plI P j = some B → okV B := fun B e => plI_ok S e
    have hBs : Bs σ (tg σ 7 7 g) bo (plI P j) := by
      rcases hbo with z | ⟨b, B, z1, z2, z3, z4⟩
      · exact Or.inl z
      · refine Or.inr ⟨b, B, z1, z2, z3, fun e => ?_, (okb B z2).ob⟩
        obtain ⟨m, hm⟩ := S.rc (k := 7) (by decide) rfl
        rw [e] at z4
        exact ar_rt h (Or.inl kg) 0 m _ z4 hm
    unfold f_X8_read_27
    refine wp_b (wp_rR kg ?_)
    rw [e5]
    refine wp_b (wp_rR kg ?_)
    rw [e0]
    refine wp_b (wp_rR kg ?_)
    rw [e7]
    refine wp_b (wp_rR kg ?_)
    rw [e4]
    refine wp_b (wp_nn k5 (wp_b (sp_readUrl A ⟨h, k0, S.2.2.1, by omega⟩ hl hts hU hBs (fun c σ1 e F => ?_) (fun V σ1 e O => ?_))))
    · have S1 := S.read F
      refine sp_cut0 S1.1 (fun σ2 S2 _ => ?_)
      exact wp_f (hneg U _ c e) (wp_p (h0 n U c σ2 rfl hn hj e (S1.trans S2)))
    · obtain ⟨W1, M1, B1, hV1⟩ := O
      have S1 := S.read ⟨W1, M1, B1⟩
      have ok := hok U V _ okb e
      have t7 : tg σ1 7 7 g = tg σ 7 7 g := M1.tgt (c := 7) kg (by decide) (by simp [XL, XU, XH, XA, XP])
      rw [← t7] at hV1
      have kg1 := S1.1.2.1
      refine sp_cut0 S1.1 (fun σ2 S2 R2 => ?_)
      have t72 : tg σ2 7 7 g = tg σ1 7 7 g := R2.2.1.tgt (c := 7) kg1 (by decide) (by simp)
      have hV2 : Ur σ2 (tg σ1 7 7 g) V := by
        refine (hV1.mod W1 R2.2.1 (fun k hk z => ?_) (fun z => ?_) (by simp) (by simp) (by simp) (by simp) (by simp)).1
        · exact W1.ne (c := 5) (c' := 7) (k' := 0) hV1.1 id (by decide) (rk hk).1 (rk hk).2.1 kg1 id (by decide) (by decide) rfl (fun q => absurd q.1 (by decide)) z.2
        · exact W1.ne (c := 2) (k := 1) (c' := 7) (k' := 0) (W1.uhost hV1.1).2.1 id (by decide) (by decide) rfl kg1 id (by decide) (by decide) rfl (fun q => absurd q.1 (by decide)) z.2
      rw [← t72] at hV2
      have S2' := S1.trans S2
      have kg2 := S2.1.2.1
      have W2 := S2.1.1
      obtain ⟨f7, -⟩ := S2.1.fld (k := 7) (by decide) rfl
      obtain ⟨f1, g1⟩ := S2.1.fld (k := 1) (by decide) rfl
      refine wp_t rfl ?_
      refine wp_b (wp_rR kg2 ?_)
      rw [f7]
      refine wp_b (wp_rR kg2 ?_)
      rw [f1]
      have hF : Fr σ2 (tg σ2 7 7 g) (tg σ2 7 1 g) := by
        refine ⟨fun k hk z => ?_, fun z => ?_⟩
        · exact W2.ne (c := 5) (c' := 7) (k' := 1) hV2.1 id (by decide) (rk hk).1 (rk hk).2.1 kg2 id (by decide) (by decide) rfl (fun q => absurd q.1 (by decide)) z
        · exact W2.ne (c := 2) (k := 1) (c' := 7) (k' := 1) (W2.uhost hV2.1).2.1 id (by decide) (by decide) rfl kg2 id (by decide) (by decide) rfl (fun q => absurd q.1 (by decide)) z
      refine wp_b (wp_nn hV2.1 (wp_b (sp_writeTo W2 hV2 hF g1 (S2'.2.2 0 (hB.le (by omega))) ok.2.2.2.2.1 ok.2.2.2.2.2 (fun σ3 R3 hV3 => ?_))))
      have S3 := S2.1.row1 R3
      have S3' := S2'.trans S3
      have kg3 := S3.1.2.1
      have t73 : tg σ3 7 7 g = tg σ2 7 7 g := R3.2.1.tgt (c := 7) kg2 (by decide) (by simp)
      have t13 : tg σ3 7 1 g = tg σ2 7 1 g := R3.2.1.tgt (c := 7) kg2 (by decide) (by simp)
      rw [← t73] at hV3
      obtain ⟨f1', g1'⟩ := S3.1.fld (k := 1) (by decide) rfl
      have r1 : rowL σ3 (tg σ3 7 1 g) = wrU V := by rw [t13]; exact R3.2.2.1
      have hw := ok.2.2.2.2.2
      refine wp_b (wp_rR kg3 ?_)
      rw [f1']
      refine wp_b (wp_rI g1' ?_)
      rw [(R3.1.row g1' id).2.2.1, ← rowL_len, r1]
      refine wp_if (fun c => ?_) (fun c => wp_p (h1 n U V σ3 rfl hn hj e ?_ S3'))
      · have c : (wrU V).length ≤ 1000 := (nI_leI (a := (wrU V).length) (b := 1000) (by omega) (by omega)).mp c
        refine sp_swap S3.1 hn (S3'.2.2 58068 (hB.le (by omega))) hV3 ⟨ok, c⟩ (fun σ4 S4 => ?_)
        exact h2 n U V σ4 rfl hn hj e c (S3'.trans S4)
      · rcases Nat.lt_or_ge 1000 (wrU V).length with z | z
        · exact z
        · exact absurd (nI_le (a := (wrU V).length) (b := 1000) z (by omega)) c
  have ixi : ¬ i < 0 → i < 4 → ∃ n, n < 4 ∧ i = nI n := fun c d => by
    rcases pk_ix i (n := 4) (by omega) with z | z | z
    · exact absurd z c
    · exact absurd d (by rw [Int32.not_lt]; exact z)
    · exact z
  unfold f_X8_read
  refine wp_b (wp_nn kg (wp_b (sp_rec S (fun e => ?_) (fun b B e hb hA => ?_))))
  · refine wp_if (fun c => wp_p (hz (Or.inl c))) (fun c => ?_)
    refine wp_if (fun d => wp_p (hz (Or.inr (Or.inl (by rw [Int32.not_lt]; exact d))))) (fun d => ?_)
    obtain ⟨n, hn, hi⟩ := ixi c (by rw [Int32.not_le] at d; exact d)
    refine wp_if (fun f => main n none hi hn (Or.inl f) (Or.inl ⟨rfl, e⟩)) (fun f => ?_)
    exact wp_t rfl (wp_p (hz (Or.inr (Or.inr ⟨f, e⟩))))
  · refine wp_if (fun c => wp_p (hz (Or.inl c))) (fun c => ?_)
    refine wp_if (fun d => wp_p (hz (Or.inr (Or.inl (by rw [Int32.not_lt]; exact d))))) (fun d => ?_)
    obtain ⟨n, hn, hi⟩ := ixi c (by rw [Int32.not_le] at d; exact d)
    have m := main n (some b) hi hn (Or.inr (by rw [e]; simp)) (Or.inr ⟨b, B, rfl, e, hb, hA⟩)
    exact wp_if (fun _ => m) (fun _ => wp_f (by simp) m)
end UN
