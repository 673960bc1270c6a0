/-! URLGATE: the state, the spare record and a place change -/
theorem WFx.mono {ex ex' : Nat → Prop} {σ : gS} (h : WFx ex σ) (hx : ∀ a, ex a → ex' a) : WFx ex' σ := by
  obtain ⟨w1, w2, w3, w4, w5, w6, w7, w8, w9⟩ := h
  exact ⟨w1, fun a c k ha hn => w2 a c k ha (fun z => hn (hx a z)), w3, fun r hr hn => w4 r hr (fun z => hn (hx r z)), w5, w6, w7, w8, w9⟩
theorem fre_uns {σ : gS} {c k a x : Nat} (h : Free σ x) : Free (gsR σ c k a none) x := by
  refine ⟨fun y c' k' hy hk hf e => ?_, h.2⟩
  rw [qR_rr] at e
  split at e
  · cases e
  · exact h.1 y c' k' hy hk hf e
theorem gsR_gsR {σ : gS} {c k a : Nat} {v w : Option Nat} : gsR (gsR σ c k a v) c k a w = gsR σ c k a w := by
  have key : (fun c' k' a' => if c' = c ∧ k' = k ∧ a' = a then w else if c' = c ∧ k' = k ∧ a' = a then v else grr σ c' k' a') = fun c' k' a' => if c' = c ∧ k' = k ∧ a' = a then w else grr σ c' k' a' := by
    funext c' k' a'
    by_cases z : c' = c ∧ k' = k ∧ a' = a
    · rw [if_pos z, if_pos z]
    · rw [if_neg z, if_neg z, if_neg z]
  exact congrArg (fun f => ((σ.1, σ.2.1, f, σ.2.2.2) : gS)) key
theorem Od.both {σ σ' : gS} {c k a : Nat} {v : Option Nat} (h : Od σ σ') : Od (gsR σ c k a v) (gsR σ' c k a v) := by
  refine ⟨h.1, fun x hx => ?_⟩
  obtain ⟨a1, a2, a3, a4, a5, a6⟩ := h.2 x hx
  exact ⟨a1, a2, fun c' k' => by rw [qR_rr, qR_rr, a3], a4, a5, a6⟩
abbrev XW (g : Nat) : Nat → Nat → Nat → Nat → Prop := fun t x y z => (t = 2 ∧ x = 7 ∧ y = 7 ∧ z = g) ∨ (t = 3 ∧ x = 7 ∧ y = 2 ∧ z = g)
section SW
variable {σ : gS} {g i u : Nat}
/-- the parts of both changes that are the same -/
theorem sw_mid (h : WF σ) (kg : gkd σ g = 8) (hu : grr σ 7 7 g = some u) : WFx (fun x => x = g) (gsR (gsQ σ (tg σ 7 2 g) i (some u)) 7 7 g none) ∧ gkd σ u = 6 := by
  obtain ⟨p1, p2, -⟩ := h.fld (c := 7) (k := 7) kg id (by decide) (by decide) rfl
  rw [tg_of hu] at p2
  have p2 : gkd σ u = 6 := p2
  obtain ⟨q1, q2, -⟩ := h.fld (c := 7) (k := 2) kg id (by decide) (by decide) rfl
  have q2 : gkd σ (tg σ 7 2 g) = 16 := q2
  have A := uns_wf (c := 7) (k := 7) (a := g) (h.mono (ex' := fun x => x = g) (fun _ z => z.elim)) rfl
  have F := uns_free (c := 7) (k := 7) h kg (by decide) rfl hu
  refine ⟨?_, p2⟩
  exact arr_wf (a := tg σ 7 2 g) (i := i) A (by show 13 ≤ gkd σ _; rw [q2]; decide) F (by show gkd σ u = elk (gkd σ (tg σ 7 2 g)); rw [q2, p2]; rfl) (by show gkd σ u ≠ 0; rw [p2]; decide)
theorem sw_some {o : Nat} (h : WF σ) (kg : gkd σ g = 8) (hu : grr σ 7 7 g = some u) (ho : gar σ (tg σ 7 2 g) i = some o) : WF (gsR (gsQ σ (tg σ 7 2 g) i (some u)) 7 7 g (some o)) ∧ Mod (XW g) σ (gsR (gsQ σ (tg σ 7 2 g) i (some u)) 7 7 g (some o)) ∧ BK 0 σ (gsR (gsQ σ (tg σ 7 2 g) i (some u)) 7 7 g (some o)) := by
  obtain ⟨W, ku⟩ := sw_mid (i := i) h kg hu
  obtain ⟨q1, q2, -⟩ := h.fld (c := 7) (k := 2) kg id (by decide) (by decide) rfl
  have q2 : gkd σ (tg σ 7 2 g) = 16 := q2
  have h13 : 13 ≤ gkd σ (tg σ 7 2 g) := by rw [q2]; decide
  have ko : gkd σ o = 6 := by
    have := h.ek h13 ho
    rw [q2] at this
    exact this
  have hne : o ≠ u := fun e => h.2.2.2.2.2.2.1 g (tg σ 7 2 g) 7 7 i u kg (by decide) rfl hu h13 (by rw [← e]; exact ho)
  have F : Free (gsR (gsQ σ (tg σ 7 2 g) i (some u)) 7 7 g none) o := fre_uns (arr_free h h13 ho hne)
  have W2 := set_wf (c := 7) (k := 7) (a := g) (b := o) W kg rfl (by decide) rfl F (by show gkd σ o ≠ 0; rw [ko]; decide)
  rw [gsR_gsR] at W2
  refine ⟨?_, ?_, ((bk_q h.rok).1.trans (bk_r (bk_q h.rok).2 (by decide)).1).le (by omega)⟩
  · refine close_wf (a := g) (W2.mono (fun _ z => Or.inr z)) (fun c k hk hc hkn hf => ?_) (fun hk => ?_)
    · have hk : gkd σ g = c + 1 := hk
      have hc7 : c = 7 := by omega
      subst hc7
      rw [qR_rr]
      by_cases z : k = 7
      · rw [if_pos ⟨rfl, z, rfl⟩]
        exact ⟨o, rfl, by show gkd σ o = _; rw [z, ko]; rfl, fun y => by rw [z] at y; exact absurd rfl y⟩
      · rw [if_neg (fun y => z y.2.1)]
        obtain ⟨r1, r2, r3⟩ := h.fld kg id (by decide) hkn hf
        exact ⟨_, r1, r2, r3⟩
    · have hk : gkd σ g = 5 := hk
      omega
  · refine Mod.trans (σ1 := gsQ σ (tg σ 7 2 g) i (some u)) ?_ ?_
    · exact (mod_q (i := i) (v := some u) h (c := 7) (k := 2) kg (by decide) rfl q1).mono (fun _ _ _ _ z => Or.inr z)
    · exact (mod_r (c := 7) (k := 7) (a := g) (v := some o) (by decide) (by decide)).mono (fun _ _ _ _ z => Or.inl z)
theorem sw_none {σ5 : gS} {d : Nat} (h : WF σ) (kg : gkd σ g = 8) (hu : grr σ 7 7 g = some u) (N : Nw (gsz (gsQ σ (tg σ 7 2 g) i (some u))) (fun _ => False) (gsQ σ (tg σ 7 2 g) i (some u)) σ5 5 0 d) : WF (gsR σ5 7 7 g (some (gsz σ))) ∧ Mod (XW g) σ (gsR σ5 7 7 g (some (gsz σ))) ∧ BK d σ (gsR σ5 7 7 g (some (gsz σ))) ∧ gkd σ5 g = 8 ∧ ∀ j, gar σ5 (tg σ 7 2 g) j = gar (gsQ σ (tg σ 7 2 g) i (some u)) (tg σ 7 2 g) j := by
  obtain ⟨W, ku⟩ := sw_mid (i := i) h kg hu
  obtain ⟨q1, q2, -⟩ := h.fld (c := 7) (k := 2) kg id (by decide) (by decide) rfl
  have q2 : gkd σ (tg σ 7 2 g) = 16 := q2
  generalize e4 : gsQ σ (tg σ 7 2 g) i (some u) = σ4 at *
  have s4 : gsz σ4 = gsz σ := by rw [← e4]; rfl
  have k4 : ∀ a, gkd σ4 a = gkd σ a := fun a => by rw [← e4]; rfl
  have r4 : ∀ c k a, grr σ4 c k a = grr σ c k a := fun c k a => by rw [← e4]; rfl
  have l4 : ∀ a, gln σ4 a = gln σ a := fun a => by rw [← e4]; rfl
  have R4 : Rok σ4 := by rw [← e4]; exact (bk_q h.rok).2
  obtain ⟨⟨n1, n2, n3, n4, n5⟩, n6, n7, n8, n9, n10⟩ := N
  have hg : g < gsz σ4 := by rw [s4]; exact h.1 g (by rw [kg]; decide)
  have ha : tg σ 7 2 g < gsz σ4 := by rw [s4]; exact h.1 _ (by rw [q2]; decide)
  have O5 : Od (gsR σ4 7 7 g none) (gsR σ5 7 7 g none) := n2.both
  have C5 : WFx (fun x => x = g) (cut (gsz (gsR σ4 7 7 g none)) (gsR σ5 7 7 g none)) := cut_old (s := gsz σ4) (n1.mono (fun _ z => z.elim)) hg
  have W5 := merge W O5 C5
  have F5 : Free (gsR σ5 7 7 g none) (gsz σ4) := merge_free W O5 C5 (fre_uns (c := 7) (k := 7) (a := g) n8) (Nat.le_refl _)
  have kg5 : gkd σ5 g = 8 := by rw [(n2.2 g hg).1, k4]; exact kg
  have W6 := set_wf (c := 7) (k := 7) (a := g) (b := gsz σ4) W5 kg5 rfl (by decide) rfl F5 (by show gkd σ5 _ ≠ 0; rw [n6]; decide)
  rw [gsR_gsR, s4] at W6
  rw [s4] at n6
  refine ⟨?_, ?_, ?_, kg5, fun j => (n2.2 _ ha).2.2.2.2.2 j⟩
  · refine close_wf (a := g) (W6.mono (fun _ z => Or.inr z)) (fun c k hk hc hkn hf => ?_) (fun hk => ?_)
    · have hk : gkd σ5 g = c + 1 := hk
      have hc7 : c = 7 := by omega
      subst hc7
      rw [qR_rr]
      by_cases z : k = 7
      · rw [if_pos ⟨rfl, z, rfl⟩]
        exact ⟨_, rfl, by show gkd σ5 _ = _; rw [z, n6]; rfl, fun y => by rw [z] at y; exact absurd rfl y⟩
      · rw [if_neg (fun y => z y.2.1)]
        obtain ⟨r1, r2, r3⟩ := h.fld kg id (by decide) hkn hf
        have hb : tg σ 7 k g < gsz σ4 := by
          rw [s4]
          exact h.1 _ (h.2.2.2.2.2.2.2.1 g 7 k _ kg hkn hf r1)
        refine ⟨tg σ 7 k g, ?_, ?_, fun y => ?_⟩
        · rw [(n2.2 g hg).2.2.1, r4]; exact r1
        · show gkd σ5 _ = _
          rw [(n2.2 _ hb).1, k4]; exact r2
        · show gln σ5 _ = _
          rw [(n2.2 _ hb).2.2.2.1, l4]; exact r3 y
    · have hk : gkd σ5 g = 5 := hk
      omega
  · have T4 : Tin σ4 := by rw [← e4]; exact h.tin
    refine Mod.trans (σ1 := σ4) ?_ (Mod.trans (σ1 := σ5) (n2.mod T4) ?_)
    · rw [← e4]
      exact (mod_q (i := i) (v := some u) h (c := 7) (k := 2) kg (by decide) rfl q1).mono (fun _ _ _ _ z => Or.inr z)
    · exact (mod_r (c := 7) (k := 7) (a := g) (v := some (gsz σ)) (by decide) (by decide)).mono (fun _ _ _ _ z => Or.inl z)
  · have b1 : BK 0 σ σ4 := by rw [← e4]; exact (bk_q h.rok).1
    exact ((b1.trans n4).trans (bk_r n5 (by decide)).1).le (by omega)
end SW
/-- a record as read; one that is kept -/
def okR (V : UV) : Prop := okA (uK V) (uW V) ∧ (uI V 9 = 0 ∨ uI V 9 = 1) ∧ (uI V 9 = 0 → uR V 8 = []) ∧ sgO V ∧ okP (uI V 5) ∧ 6 + (wrU V).length ≤ 4096
def okV (V : UV) : Prop := okR V ∧ (wrU V).length ≤ 1000
theorem okV.ob {V : UV} (h : okV V) : okB V := by
  obtain ⟨⟨h1, h2, h3, h4, h5, h6⟩, h7⟩ := h
  unfold wrU wr3 wr2 at h7
  simp only [List.length_append] at h7
  refine ⟨h1, h2, h4, by omega, ?_⟩
  by_cases z : uI V 9 = 0
  · rw [h3 z]
    exact Nat.zero_le _
  · rw [if_neg z, List.length_cons] at h7
    omega
def Sys (σ : gS) (g : Nat) (T : List Int32) (P : Nat → Option UV) (G : GV) : Prop := WF σ ∧ gkd σ g = 8 ∧ rowL σ (tg σ 7 0 g) = T ∧ T.length ≤ 300 ∧ Pl σ g P ∧ Gt σ (tg σ 7 6 g) G ∧ ∀ i U, i < 4 → P i = some U → okV U
/-- what the class may change: nothing of the other object's fields -/
abbrev XC : Nat → Nat → Nat → Nat → Prop := fun t x _ _ => t = 0 ∨ x ≠ 8
def Sg (σ σ' : gS) (g : Nat) (T : List Int32) (P : Nat → Option UV) (G : GV) (d : Nat) : Prop := Sys σ' g T P G ∧ Mod XC σ σ' ∧ BK d σ σ'
section SY
variable {σ σ' : gS} {g : Nat} {T : List Int32} {P : Nat → Option UV} {G : GV} {X : Nat → Nat → Nat → Nat → Prop}
theorem Sys.wf (S : Sys σ g T P G) : WF σ := S.1
theorem Sys.fld (S : Sys σ g T P G) {k : Nat} (hk : k < 8) (hf : grf 7 k = true) : grr σ 7 k g = some (tg σ 7 k g) ∧ gkd σ (tg σ 7 k g) = ftk 7 k := by
  obtain ⟨p1, p2, -⟩ := S.1.fld (c := 7) S.2.1 id (by decide) hk hf
  exact ⟨p1, p2⟩
theorem Rc.fld {a c k : Nat} (h : WF σ) (hR : Rc σ g a) (ha : gkd σ a = c + 1) (hk : k < gnf c) (hf : grf c k = true) : Rc σ g (tg σ c k a) := by
  obtain ⟨n, hn⟩ := hR
  exact ⟨n + 1, c, k, a, hn, ha, hk, hf, (h.fld ha id (gnf_lt hk) hk hf).1⟩
theorem Sys.rc (S : Sys σ g T P G) {k : Nat} (hk : k < 8) (hf : grf 7 k = true) : Rc σ g (tg σ 7 k g) := Rc.fld S.1 ⟨0, rfl⟩ S.2.1 hk hf
theorem Sys.upd {T' : List Int32} (S : Sys σ g T P G) (W : WF σ') (hM : Mod X σ σ') (hE : ES σ X) (x7 : ∀ t k, t ≠ 0 → ¬ X t 7 k g) (xg : ∀ t k, t ≠ 0 → ¬ X t 1 k (tg σ 7 6 g)) (hT : rowL σ' (tg σ 7 0 g) = T') (hl : T'.length ≤ 300) : Sys σ' g T' P G := by
  obtain ⟨h, kg, s1, s2, s3, s4, s5⟩ := S
  have e : ∀ k, tg σ' 7 k g = tg σ 7 k g := fun k => hM.tgt (c := 7) kg (by decide) (x7 2 k (by decide))
  refine ⟨W, hM.kd kg, by rw [e]; exact hT, hl, s3.mod h hM hE kg (x7 3 2 (by decide)), ?_, s5⟩
  rw [e]
  exact s4.mod h hM hE xg
theorem Sys.gate {G' : GV} (S : Sys σ g T P G) (W : WF σ') (hM : Mod (XG (tg σ 7 6 g)) σ σ') (hG : Gt σ' (tg σ 7 6 g) G') : Sys σ' g T P G' := by
  obtain ⟨h, kg, s1, s2, s3, s4, s5⟩ := S
  have nx : ∀ t k, ¬ XG (tg σ 7 6 g) t 7 k g := fun t k z => absurd z.2.1 (by decide)
  have e : ∀ k, tg σ' 7 k g = tg σ 7 k g := fun k => hM.tgt (c := 7) kg (by decide) (nx 2 k)
  obtain ⟨-, k0, -⟩ := h.fld (c := 7) (k := 0) kg id (by decide) (by decide) rfl
  refine ⟨W, hM.kd kg, ?_, s2, s3.mod h hM (gt_es h s4.1) kg (nx 3 2), ?_, s5⟩
  · rw [e, hM.row h k0 id (fun z => (xg_r z).1 rfl)]
    exact s1
  · rw [e]
    exact hG
/-- changes of the other object -/
theorem Sys.oth (S : Sys σ g T P G) (W : WF σ') (hM : Mod (fun t x _ _ => t ≠ 0 ∧ x = 8) σ σ') : Sys σ' g T P G := by
  obtain ⟨-, k0⟩ := S.fld (k := 0) (by decide) rfl
  have hE : ES σ (fun t x _ _ => t ≠ 0 ∧ x = 8) := by
    intro n x hA
    refine ⟨fun z => z.1 rfl, fun t c k ht hk z => ?_⟩
    have hk9 : gkd σ x = 9 := by rw [hk, z.2]
    obtain ⟨r1, r2⟩ := noRoot S.1 (Or.inr hk9)
    cases n with
    | zero =>
      obtain ⟨b, j, p1, p2⟩ := hA
      exact r2 b j p1 p2
    | succ n =>
      obtain ⟨c', k', b, -, b1, b2, b3, b4⟩ := hA
      exact r1 b c' k' b1 b2 b3 b4
  exact S.upd W hM hE (fun t k _ z => absurd z.2 (by decide)) (fun t k _ z => absurd z.2 (by decide)) ((hM.row S.1 k0 id (fun z => z.1 rfl)).trans S.2.2.1) S.2.2.2.1
theorem Sg.rf (S : Sys σ g T P G) : Sg σ σ g T P G 0 := ⟨S, Mod.rf, BK.rf⟩
theorem Sg.trans {σ2 : gS} {T1 T2 : List Int32} {P1 P2 : Nat → Option UV} {G1 G2 : GV} {d e : Nat} (h1 : Sg σ σ' g T1 P1 G1 d) (h2 : Sg σ' σ2 g T2 P2 G2 e) : Sg σ σ2 g T2 P2 G2 (e + d) := ⟨h2.1, h1.2.1.trans h2.2.1, h1.2.2.trans h2.2.2⟩
/-- a change of the text's row -/
theorem Sys.txt {T' : List Int32} (S : Sys σ g T P G) (R : RowTo (fun _ => False) σ σ' (tg σ 7 0 g) T') (hl : T'.length ≤ 300) : Sg σ σ' g T' P G 0 := by
  refine ⟨S.upd R.1 R.2.1 (ES.rc S.1 (Or.inl S.2.1) (fun r z => by rw [z.2]; exact S.rc (by decide) rfl) (fun t c k a ht z => absurd z.1 ht)) (fun t k ht z => ht z.1) (fun t k ht z => ht z.1) R.2.2.1 hl, R.2.1.mono (fun t x y z q => Or.inl q.1), R.2.2.2⟩
/-- a change of another row of the UrlGate -/
theorem Sys.row1 {T' : List Int32} (S : Sys σ g T P G) (R : RowTo (fun _ => False) σ σ' (tg σ 7 1 g) T') : Sg σ σ' g T P G 0 := by
  obtain ⟨-, k0⟩ := S.fld (k := 0) (by decide) rfl
  refine ⟨S.upd R.1 R.2.1 (ES.rc S.1 (Or.inl S.2.1) (fun r z => by rw [z.2]; exact S.rc (by decide) rfl) (fun t c k a ht z => absurd z.1 ht)) (fun t k ht z => ht z.1) (fun t k ht z => ht z.1) ?_ S.2.2.2.1, R.2.1.mono (fun t x y z q => Or.inl q.1), R.2.2.2⟩
  rw [R.oth S.1 k0 id (S.1.ne (c := 7) (c' := 7) S.2.1 id (by decide) (by decide) rfl S.2.1 id (by decide) (by decide) rfl (fun z => absurd z.2.1 (by decide)))]
  exact S.2.2.1
def plI (P : Nat → Option UV) (i : Int32) : Option UV := if i < 0 then none else if i < 4 then P i.toNatClampNeg else none
theorem sp_rec {i : Int32} {Q : Option Nat → gS → Prop} (S : Sys σ g T P G) (h0 : plI P i = none → Q none σ) (h1 : ∀ u U, plI P i = some U → Ur σ u U → Ar σ 0 u → Q (some u) σ) : wp (f_X8_recordAt (some g) i) σ Q := by
  obtain ⟨h, kg, s1, s2, s3, s4, s5⟩ := S
  unfold f_X8_recordAt f_X8_recordAt_9
  unfold plI at h0 h1
  refine wp_if (fun c => ?_) (fun c => ?_)
  · rw [if_pos c] at h0
    exact wp_p (h0 rfl)
  · rw [if_neg c] at h0 h1
    refine wp_if (fun d => ?_) (fun d => ?_)
    · rw [if_pos d] at h0 h1
      obtain ⟨j, hj, rfl⟩ : ∃ j : Nat, j < 4 ∧ i = nI j := by
        rcases pk_ix i (n := 4) (by omega) with z | z | z
        · exact absurd z c
        · exact absurd d (by rw [Int32.not_lt]; exact z)
        · exact z
      rw [nI_clamp (by omega)] at h0 h1
      obtain ⟨q1, q2, q3⟩ := h.fld (c := 7) (k := 2) kg id (by decide) (by decide) rfl
      have q3 : gln σ (tg σ 7 2 g) = 4 := q3 (by decide)
      refine wp_b (wp_rR kg ?_)
      rw [q1]
      refine wp_b (wp_aR (t := 6) q2 (by omega) (by omega) (wp_p ?_))
      rcases s3 j hj with ⟨e1, e2⟩ | ⟨u, U, e1, e2, e3⟩
      · rw [e1]
        exact h0 e2
      · rw [e1]
        exact h1 u U e2 e3 ⟨_, _, by rw [q2]; decide, e1⟩
    · rw [if_neg d] at h0
      exact wp_p (h0 rfl)
end SY
