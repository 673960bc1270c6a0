/-! BOTH OBJECTS: the start -/
theorem gs0_kd (N a : Nat) : gkd (gs0 N) a = 0 := rfl
theorem gs0_wf (N : Nat) : WF (gs0 N) := by
  have z : ∀ a d, gkd (gs0 N) a = d + 1 → False := fun a d h => by
    have : (0 : Nat) = d + 1 := h
    omega
  have y : ∀ a, 13 ≤ gkd (gs0 N) a → False := fun a h => by
    have : 13 ≤ (0 : Nat) := h
    omega
  exact ⟨fun a h => absurd (gs0_kd N a) h, fun a c k h => (z a c h).elim, fun a a' c c' k k' b h => (z a c h).elim, fun r h => (z r 4 h).elim, fun a j b h => (y a h).elim, fun a a' j j' b h => (y a h).elim, fun a a' c k j b h => (z a c h).elim, fun a c k b h => (z a c h).elim, fun a j b h => (y a h).elim⟩
theorem gs0_bud (N n : Nat) (h : n ≤ 7302250) : Bud (gs0 N) n := by
  have p : ∀ k, psum (gs0 N) k = 0 := by
    intro k
    induction k with
    | zero => rfl
    | succ k ih =>
      rw [psum, ih]
      unfold pot
      rw [gs0_kd]
      rfl
  unfold Bud
  rw [p]
  have e1 : gsl (gs0 N) = 7302250 := rfl
  have e2 : gcl (gs0 N) = 600000 := rfl
  rw [e1, e2]
  omega
def G0 : GV := (fun _ => (0, fun _ => 0, [], 0), 0, fun _ => ([], 0, fun _ => 0), 0, fun _ => (0, fun _ => 0, 0), 0)
def P0 : Nat → Option UV := fun _ => none
def M0 : MS := (fun _ _ => 0, fun _ => 0)
/-- the new UrlGate -/
theorem st_sys {N d : Nat} {σ : gS} (X : Nw (gsz (gs0 N)) (fun _ => False) (gs0 N) σ 7 0 d) : Sys σ (gsz (gs0 N)) [] P0 G0 ∧ BK d (gs0 N) σ := by
  obtain ⟨⟨n1, n2, n3, n4, n5⟩, n6, n7, n8, n9, n10⟩ := X
  have W : WF σ := merge (gs0_wf N) n2 n1
  have zr : ∀ x, gkd σ x ≠ 0 → (∀ j, gai σ x j = 0 ∧ gar σ x j = none) ∧ ∀ c k, ¬ (c = 5 ∧ k = 5) → gii σ c k x = 0 := by
    intro x hx
    refine n9 x ?_ (W.1 x hx)
    rcases Nat.lt_or_ge x (gsz (gs0 N)) with z | z
    · rw [(n2.2 x z).1] at hx
      exact absurd (gs0_kd N x) hx
    · exact z
  have fl : ∀ k, k < 8 → grf 7 k = true → gkd σ (tg σ 7 k (gsz (gs0 N))) = ftk 7 k := fun k hk hf => (W.fld (c := 7) n6 id (by decide) hk hf).2.1
  have k0 : gkd σ (tg σ 7 0 (gsz (gs0 N))) = 5 := fl 0 (by decide) rfl
  have k2 : gkd σ (tg σ 7 2 (gsz (gs0 N))) = 16 := fl 2 (by decide) rfl
  have k6 : gkd σ (tg σ 7 6 (gsz (gs0 N))) = 2 := fl 6 (by decide) rfl
  have z6 := (zr _ (by rw [k6]; decide)).2
  refine ⟨⟨W, n6, ?_, Nat.zero_le _, fun i hi => Or.inl ⟨((zr _ (by rw [k2]; decide)).1 i).2, rfl⟩, ⟨k6, ⟨z6 1 2 (by decide), Nat.zero_le _, fun i hi => absurd hi (Nat.not_lt_zero _)⟩, ⟨z6 1 5 (by decide), Nat.zero_le _, fun i hi => absurd hi (Nat.not_lt_zero _)⟩, ⟨z6 1 8 (by decide), Nat.zero_le _, fun i hi => absurd hi (Nat.not_lt_zero _)⟩⟩, fun i U hi e => by cases e⟩, n4⟩
  unfold rowL rlen
  rw [(zr _ (by rw [k0]; decide)).2 4 1 (by decide)]
  rfl
theorem M0_mo : Mo M0 (fun _ => []) [] P0 G0 := by
  refine ⟨⟨rfl, by decide, isB.nil, By.nil⟩, fun q hq => ⟨rfl, Nat.zero_le _, isB.nil, By.nil⟩, fun i hi => ⟨rfl, fun U e => by cases e⟩, ⟨rfl, Nat.zero_le _, fun i hi => absurd hi (Nat.not_lt_zero _)⟩, ⟨rfl, Nat.zero_le _, fun i hi => absurd hi (Nat.not_lt_zero _)⟩, ⟨rfl, Nat.zero_le _, fun i hi => absurd hi (Nat.not_lt_zero _)⟩⟩
/-- the new other object -/
theorem st_md {d : Nat} {σ σ' : gS} (h : WF σ) (X : Nw (gsz σ) (fun _ => False) σ σ' 8 0 d) : Md σ' (gsz σ) (fun k => tg σ' 8 k (gsz σ)) M0 ∧ Mod (fun _ _ _ _ => False) σ σ' ∧ BK d σ σ' := by
  obtain ⟨⟨n1, n2, n3, n4, n5⟩, n6, n7, n8, n9, n10⟩ := X
  have W : WF σ' := merge h n2 n1
  refine ⟨⟨W, n6, fun k hk hf => ?_, fun k => (n9 (gsz σ) (Nat.le_refl _) n10).2 8 k (fun z => absurd z.1 (by decide))⟩, n2.mod h.tin, n4⟩
  have e := (W.fld (c := 8) n6 id (by decide) hk hf).1
  refine ⟨e, fun j => ?_⟩
  have c := n1.2.2.2.2.2.2.2.1 (gsz σ) 8 k (tg σ' 8 k (gsz σ)) (by rw [cut_ge (Nat.le_refl _)]; exact n6) hk hf e
  have hb := W.1 _ (W.2.2.2.2.2.2.2.1 (gsz σ) 8 k _ n6 hk hf e)
  refine ((n9 _ ?_ hb).1 j).1
  rcases Nat.lt_or_ge (tg σ' 8 k (gsz σ)) (gsz σ) with q | q
  · rw [cut_kd, if_pos q] at c
    exact absurd rfl c
  · exact q
theorem ftk_8 : ∀ k, k < 35 → grf 8 k = true → 10 ≤ ftk 8 k := by decide
/-- the class changes nothing of the other object -/
theorem Md.keep {σ σ' : gS} {m : Nat} {D : Nat → Nat} {M : MS} (h : Md σ m D M) (W : WF σ') (hM : Mod XC σ σ') : Md σ' m D M := by
  obtain ⟨h1, h2, h3, h4⟩ := h
  refine ⟨W, hM.kd h2, fun k hk hf => ?_, fun k => ?_⟩
  · obtain ⟨e1, e2⟩ := h3 k hk hf
    obtain ⟨q1, q2, q3⟩ := hM.arf (c := 8) h2 (by decide) hk hf (ftk_8 k hk hf) e1
    refine ⟨q1, fun j => ?_⟩
    rw [(q3 (fun z => z.elim (by decide) (fun z => z rfl)) j).1]
    exact e2 j
  · rw [hM.2.2.2.1 8 k m (by decide) h2 (fun z => z.elim (by decide) (fun z => z rfl))]
    exact h4 k
/-- the state of both -/
def St (σ : gS) (g m : Nat) (D : Nat → Nat) (T : List Int32) (P : Nat → Option UV) (G : GV) : Prop := Sys σ g T P G ∧ ∃ M R, Md σ m D M ∧ Mo M R T P G
theorem st_step {σ σ1 : gS} {g m d : Nat} {D : Nat → Nat} {M : MS} {T : List Int32} {P : Nat → Option UV} {G : GV} {p : gM Int32} {v : Int32} {K : Int32 → gM Int32} {Q : Int32 → gS → Prop} (hM : Md σ m D M) (S : Sg σ σ1 g T P G d) (hw : wm m D p M (fun r M' => r = v ∧ ∃ R', Mo M' R' T P G)) (hK : ∀ σ2, St σ2 g m D T P G → BK d σ σ2 → wp (K v) σ2 Q) : wp (gb (nn 8 (some m)) fun _ => gb p K) σ1 Q := by
  obtain ⟨S1, M1, B1⟩ := S
  have d1 := hM.keep S1.1 M1
  refine wp_b (wp_nn d1.2.1 (wp_b (wp_mono (hw σ1 d1) (fun r σ2 q => ?_))))
  obtain ⟨M', d2, m2, b2, e, R', h⟩ := q
  subst e
  refine hK σ2 ⟨S1.oth d2.1 m2, M', R', d2, h⟩ ?_
  exact (B1.trans b2).le (by omega)
