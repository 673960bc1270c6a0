/-! THE GATE: what is added to it -/
abbrev XG (g : Nat) : Nat → Nat → Nat → Nat → Prop := fun t x _ z => (t = 1 ∨ t = 3) ∧ x = 1 ∧ z = g
abbrev X0 : Nat → Nat → Nat → Nat → Prop := fun _ _ _ _ => False
theorem gnar2 {b : Bool} : gnar 2 (b2i b) = b2i b := by cases b <;> decide
section GW
variable {σ σ' : gS} {X : Nat → Nat → Nat → Nat → Prop} {g : Nat} {G : GV}
theorem adO.mx {a : Nat} {k : Int32} {w : Nat → Int32} (h : WF σ) (hM : Mod X σ σ') (ka : gkd σ a = 1) (x1 : ¬ X 1 0 0 a) (x3 : ¬ X 3 0 1 a) (hA : adO σ a k w) : adO σ' a k w := by
  obtain ⟨q1, q2, -⟩ := h.fld (c := 0) (k := 1) ka id (by decide) (by decide) rfl
  refine ⟨?_, fun j hj => ?_⟩
  · rw [← hA.1]
    exact hM.int (c := 0) ka (by decide) x1
  · obtain ⟨p1, -, p3⟩ := hM.arf (c := 0) (k := 1) ka (by decide) (by decide) rfl (by decide) q1
    rw [← hA.2 j hj]
    show gai σ' (tg σ' 0 1 a) j = gai σ (tg σ 0 1 a) j
    rw [tg_of p1]
    exact (p3 x3 j).1
theorem hsO.mx {x : Nat} {k : Int32} {w : Nat → Int32} {ys : List Int32} (h : WF σ) (hM : Mod X σ σ') (kx : gkd σ x = 3) (x2 : ∀ k, ¬ X 2 2 k x) (x0 : ¬ X 0 (tg σ 2 1 x) 0 0) (x1 : ¬ X 1 0 0 (tg σ 2 0 x)) (x3 : ¬ X 3 0 1 (tg σ 2 0 x)) (hX : hsO σ x k w ys) : hsO σ' x k w ys := by
  obtain ⟨q1, q2, q3, q4⟩ := h.host kx id
  have e0 : tg σ' 2 0 x = tg σ 2 0 x := hM.tgt (c := 2) kx (by decide) (x2 0)
  have e1 : tg σ' 2 1 x = tg σ 2 1 x := hM.tgt (c := 2) kx (by decide) (x2 1)
  refine ⟨?_, ?_⟩
  · rw [e0]
    exact adO.mx h hM q2 x1 x3 hX.1
  · rw [e1, ← hX.2]
    exact hM.row h q4 id x0
theorem Mod.ar0 (hM : Mod X σ σ') (h : WF σ) {a k c : Nat} (ka : gkd σ a = c + 1) (hc : c ≠ 4) (hk : k < gnf c) (hf : grf c k = true) (ht : 10 ≤ ftk c k) : grr σ' c k a = some (tg σ c k a) ∧ gkd σ' (tg σ c k a) = ftk c k ∧ (fln c k ≠ 0 → gln σ' (tg σ c k a) = fln c k) := by
  obtain ⟨q1, q2, q3⟩ := h.fld ka id (gnf_lt hk) hk hf
  obtain ⟨p1, p2, -⟩ := hM.arf ka hc hk hf ht q1
  exact ⟨p1, (hM.1 _ (by rw [q2]; omega)).trans q2, fun z => p2.trans (q3 z)⟩
theorem ftk2 : ∀ c, c < 9 → ∀ k, k < 35 → ftk c k = 2 → c = 7 := by decide
theorem gt_es (h : WF σ) (kg : gkd σ g = 2) : ES σ (XG g) := by
  have N : ∀ n x, Ar σ n x → x ≠ g := by
    intro n x hA e
    rw [e] at hA
    cases n with
    | zero =>
      obtain ⟨a, j, q1, q2⟩ := hA
      have := h.ek q1 q2
      have := elk8 (gkd σ a)
      omega
    | succ n =>
      obtain ⟨c, k, a, a0, a1, a2, a3, a4⟩ := hA
      have hc := gnf_lt a2
      obtain ⟨b, q1, q2, -⟩ := h.2.1 a c k a1 id hc a2 a3
      rw [a4] at q1
      rw [← Option.some.inj q1, kg] at q2
      have h7 := ftk2 c hc k (Nat.lt_of_lt_of_le a2 (gnf35 c hc)) q2.symm
      rw [h7] at a1
      obtain ⟨r1, r2⟩ := noRoot h (Or.inl a1)
      cases n with
      | zero =>
        obtain ⟨b, j, p1, p2⟩ := a0
        exact r2 b j p1 p2
      | succ n =>
        obtain ⟨c', k', b, -, b1, b2, b3, b4⟩ := a0
        exact r1 b c' k' b1 b2 b3 b4
  intro n x hA
  refine ⟨fun z => ?_, fun t c k _ _ z => N n x hA z.2.2⟩
  rcases z with ⟨z | z, -⟩
  · exact absurd z (by decide)
  · exact absurd z (by decide)
/-- a new thing, all old things as they were -/
def Nu (σ σ' : gS) (a c d : Nat) : Prop := WF σ' ∧ Mod X0 σ σ' ∧ gkd σ' a = c + 1 ∧ Free σ' a ∧ BK d σ σ' ∧ gkd σ a = 0 ∧ ∀ k, k < gnf c → grf c k = true → gkd σ (tg σ' c k a) = 0
theorem nw_nu {c d : Nat} (h : WF σ) (N : Nw (gsz σ) (fun _ => False) σ σ' c 0 d) : Nu σ σ' (gsz σ) c d := by
  obtain ⟨⟨n1, n2, n3, n4, n5⟩, n6, n7, n8, n9, n10⟩ := N
  have z : ∀ a, gsz σ ≤ a → gkd σ a = 0 := fun a ha => by
    rcases Nat.eq_zero_or_pos (gkd σ a) with q | q
    · exact q
    · have := h.1 a (by omega); omega
  have W := merge h n2 n1
  refine ⟨W, n2.mod h.tin, n6, merge_free h n2 n1 n8 (Nat.le_refl _), n4, z _ (Nat.le_refl _), fun k hk hf => z _ ?_⟩
  have e := (W.fld n6 id (gnf_lt hk) hk hf).1
  have := n1.2.2.2.2.2.2.2.1 (gsz σ) c k (tg σ' c k (gsz σ)) (by rw [cut_ge (Nat.le_refl _)]; exact n6) hk hf e
  rcases Nat.lt_or_ge (tg σ' c k (gsz σ)) (gsz σ) with q | q
  · rw [cut_kd, if_pos q] at this
    exact absurd rfl this
  · exact q
theorem wp_unt {β : Type} {c D : Nat} {I : Option Nat → gM Unit} {K : Option Nat → gM β} {P : β → gS → Prop} (hU : Unt c D I) (h : WF σ) (hB : Bud σ D) (hQ : ∀ σ' a, Nu σ σ' a c D → wp (K (some a)) σ' P) : wp (gb (nO c) fun v => gb (nn c v) fun _ => gb (I v) fun _ => K v) σ P := hU β (gsz σ) (fun _ => False) σ P (cut_self h.rok) (Nat.le_refl _) h.rok hB K (fun σ' N => hQ σ' _ (nw_nu h N))
/-- a thing that nothing holds goes into an array of the Gate -/
theorem gt_put {k i b : Nat} (h : WF σ) (kg : gkd σ g = 2) (hk : k < 9) (hf : grf 1 k = true) (ht : 13 ≤ ftk 1 k) (hb : Free σ b) (kb : gkd σ b = elk (ftk 1 k)) (k0 : gkd σ b ≠ 0) : WF (gsQ σ (tg σ 1 k g) i (some b)) ∧ Mod (XG g) σ (gsQ σ (tg σ 1 k g) i (some b)) ∧ BK 0 σ (gsQ σ (tg σ 1 k g) i (some b)) := by
  obtain ⟨q1, q2, q3⟩ := h.gf kg hk hf
  refine ⟨arr_wf h (by rw [q2]; exact ht) hb (by rw [q2]; exact kb) k0, ?_, (bk_q h.rok).1⟩
  exact (mod_q (i := i) (v := some b) h (c := 1) kg hk hf q1).mono (fun t x y z q => ⟨Or.inr q.1, q.2.1, q.2.2.2⟩)
theorem sp_forget {Q : Int32 → gS → Prop} (h : WF σ) (hG : Gt σ g G) (hQ : ∀ σ', WF σ' → Mod (XG g) σ σ' → BK 0 σ σ' → Gt σ' g (GH G, 0, GA G, 0, GR G, 0) → Q (nI (NH G + NA G + NR G)) σ') : wp (f_X2_forget (some g)) σ Q := by
  obtain ⟨kg, ⟨a1, a2, a3⟩, ⟨b1, b2, b3⟩, c1, c2, c3⟩ := hG
  unfold f_X2_forget
  refine wp_b (wp_rI kg (wp_b (wp_rI kg (wp_b (wp_rI kg ?_)))))
  rw [a1, b1, c1]
  refine wp_b (wp_wI (c := 1) kg ?_)
  obtain ⟨w1, m1, k1⟩ := int_upd (c := 1) (k := 2) (a := g) (v := 0) h (by decide)
  refine wp_b (wp_wI (c := 1) kg ?_)
  obtain ⟨w2, m2, k2⟩ := int_upd (c := 1) (k := 5) (a := g) (v := 0) w1 (by decide)
  refine wp_b (wp_wI (c := 1) kg ?_)
  obtain ⟨w3, m3, k3⟩ := int_upd (c := 1) (k := 8) (a := g) (v := 0) w2 (by decide)
  rw [nI_add, nI_add]
  refine wp_p (hQ _ w3 ?_ ((k1.trans k2).trans k3) ⟨kg, ?_, ?_, ?_⟩)
  · exact ((m1.mono (Y := XG g) (fun t x y z q => ⟨Or.inl q.1, q.2.1, q.2.2.2⟩)).trans (m2.mono (Y := XG g) (fun t x y z q => ⟨Or.inl q.1, q.2.1, q.2.2.2⟩))).trans (m3.mono (Y := XG g) (fun t x y z q => ⟨Or.inl q.1, q.2.1, q.2.2.2⟩))
  · exact ⟨by rw [qI_ii, if_neg (by simp), qI_ii, if_neg (by simp), qI_ii, if_pos ⟨rfl, rfl, rfl⟩]; rfl, Nat.zero_le _, fun i hi => absurd hi (Nat.not_lt_zero _)⟩
  · exact ⟨by rw [qI_ii, if_neg (by simp), qI_ii, if_pos ⟨rfl, rfl, rfl⟩]; rfl, Nat.zero_le _, fun i hi => absurd hi (Nat.not_lt_zero _)⟩
  · exact ⟨by rw [qI_ii, if_pos ⟨rfl, rfl, rfl⟩]; rfl, Nat.zero_le _, fun i hi => absurd hi (Nat.not_lt_zero _)⟩
def adH (G : GV) (e : HE) : GV := (fun i => if i = NH G then e else GH G i, NH G + 1, GA G, NA G, GR G, NR G)
def adA (G : GV) (e : AE) : GV := (GH G, NH G, fun i => if i = NA G then e else GA G i, NA G + 1, GR G, NR G)
def adR (G : GV) (e : RE) : GV := (GH G, NH G, GA G, NA G, fun i => if i = NR G then e else GR G i, NR G + 1)
theorem sp_addHost {x : Nat} {k : Int32} {w : Nat → Int32} {ys : List Int32} {b : Bool} {Q : Int32 → gS → Prop} (h : WF σ) (hG : Gt σ g G) (kx : gkd σ x = 3) (hX : hsO σ x k w ys) (hB : Bud σ 8456) (h0 : NH G = 12 → Q (-3) σ) (hQ : ∀ σ', NH G < 12 → WF σ' → Mod (XG g) σ σ' → BK 8456 σ σ' → Gt σ' g (adH G (k, w4 k (w 0) (w 1) (w 2) (w 3), ys, b2i b)) → Q (nI (NH G + 1)) σ') : wp (f_X2_addHost (some g) (some x) (b2i b)) σ Q := by
  have hG0 := hG
  obtain ⟨kg, ⟨a1, a2, a3⟩, hg2, hg3⟩ := hG
  unfold f_X2_addHost
  refine wp_b (wp_rI kg ?_)
  rw [a1]
  refine wp_if (fun c => ?_) (fun c => wp_p (h0 ?_))
  · have hn : NH G < 12 := by
      rcases Nat.lt_or_ge (NH G) 12 with z | z
      · exact z
      · exact absurd c (nI_nlt (a := NH G) (b := 12) z (by omega))
    refine wp_unt un_host h hB (fun σ1 a N => ?_)
    obtain ⟨W1, M1, ka, fa, B1, ka0, kf0⟩ := N
    have ka : gkd σ1 a = 3 := ka
    have kx1 : gkd σ1 x = 3 := M1.kd kx
    have hX1 : hsO σ1 x k w ys := hX.mx h M1 kx (fun _ => id) id id id
    have nxa : x ≠ a := fun e => by rw [e, ka0] at kx; cases kx
    refine wp_b (wp_nn ka ?_)
    refine wp_b (wp_mono (qt_wp (sp_hTake (Q := fun _ σ' => HoTo (fun _ => False) σ1 σ' a _ _ _) W1 ka kx1 id id id id id id nxa (B1 0 hB) (fun σ' H => H)) qt_htake W1.1) (fun _ σ2 H => ?_))
    obtain ⟨⟨W2, M2, H1, H2, H3, B2⟩, S2⟩ := H
    obtain ⟨p1, p2, p3, p4⟩ := W1.host ka id
    have f2 : Free σ2 a := S2.free M2 (fun c k z q => by rcases q with (⟨q, -⟩ | ⟨q, -⟩) | ⟨q, -⟩ <;> exact absurd q (by decide)) W2 (fun _ _ => id) fa (by rw [ka]; decide) (by rw [ka]; decide)
    have ka2 : gkd σ2 a = 3 := M2.kd ka
    have hN : hsO σ2 a k (w4 k (w 0) (w 1) (w 2) (w 3)) ys := by
      have e0 : tg σ2 2 0 a = tg σ1 2 0 a := M2.tgt (c := 2) ka (by decide) (by simp)
      have e1 : tg σ2 2 1 a = tg σ1 2 1 a := M2.tgt (c := 2) ka (by decide) (by simp)
      refine ⟨⟨by rw [e0, H1]; exact hX1.1.1, fun j hj => ?_⟩, by rw [e1, H3]; exact hX1.2⟩
      rw [e0, H2 j hj, hX1.1.1, hX1.1.2 0 (by omega), hX1.1.2 1 (by omega), hX1.1.2 2 (by omega), hX1.1.2 3 (by omega)]
    have M12 : Mod X0 σ σ2 := M1.new M2 (fun t x y z q => by
      rcases q with (⟨q1, -, -, q2⟩ | ⟨q1, -, -, q2⟩) | ⟨q1, q2⟩
      · exact Or.inr (Or.inr ⟨by omega, by rw [q2]; exact kf0 0 (by decide) rfl⟩)
      · exact Or.inr (Or.inr ⟨by omega, by rw [q2]; exact kf0 0 (by decide) rfl⟩)
      · exact Or.inr (Or.inl ⟨q1, by rw [q2]; exact kf0 1 (by decide) rfl⟩))
    have kg2 : gkd σ2 g = 2 := M12.kd kg
    obtain ⟨r0, r1, r2⟩ := M12.ar0 h (c := 1) (k := 0) kg (by decide) (by decide) rfl (by decide)
    have r2 : gln σ2 (tg σ 1 0 g) = 12 := r2 (by decide)
    have i2 : gii σ2 1 2 g = nI (NH G) := (M12.int (c := 1) kg (by decide) id).trans a1
    refine wp_b (wp_rR kg2 ?_)
    rw [r0]
    refine wp_b (wp_rI kg2 ?_)
    rw [i2]
    refine wp_b (wp_sR (t := 4) (c := 2) r1 (by omega) (by omega) ka2 ?_)
    have t0 : tg σ2 1 0 g = tg σ 1 0 g := tg_of r0
    obtain ⟨W3, M3, B3⟩ := gt_put (i := NH G) W2 kg2 (k := 0) (by decide) rfl (by decide) f2 ka2 (by rw [ka2]; decide)
    rw [t0] at W3 M3 B3
    generalize e3 : gsQ σ2 (tg σ 1 0 g) (NH G) (some a) = σ3 at *
    have kg3 : gkd σ3 g = 2 := M3.kd kg2
    obtain ⟨s0, s1, s2⟩ := M12.ar0 h (c := 1) (k := 1) kg (by decide) (by decide) rfl (by decide)
    have s2 : gln σ2 (tg σ 1 1 g) = 12 := s2 (by decide)
    have s0' : grr σ3 1 1 g = some (tg σ 1 1 g) := by rw [← e3]; exact s0
    have s1' : gkd σ3 (tg σ 1 1 g) = 12 := by rw [← e3]; exact s1
    have s2' : gln σ3 (tg σ 1 1 g) = 12 := by rw [← e3]; exact s2
    have i3 : gii σ3 1 2 g = nI (NH G) := by rw [← e3]; exact i2
    refine wp_b (wp_rR kg3 ?_)
    rw [s0']
    refine wp_b (wp_rI kg3 ?_)
    rw [i3]
    refine wp_b (wp_sI (t := 2) s1' (by omega) (by omega) ?_)
    rw [gnar2]
    obtain ⟨W4, M4, B4⟩ := arr_upd (j := NH G) (v := b2i b) W3 (c := 1) (k := 1) kg3 (by decide) (by decide) rfl s0'
    generalize e4 : gsA σ3 (tg σ 1 1 g) (NH G) (b2i b) = σ4 at *
    have kg4 : gkd σ4 g = 2 := M4.kd kg3
    have i4 : gii σ4 1 2 g = nI (NH G) := by rw [← e4]; exact i3
    refine wp_b (wp_rI kg4 ?_)
    rw [i4, nI_1]
    refine wp_b (wp_wI (c := 1) kg4 ?_)
    obtain ⟨W5, M5, B5⟩ := int_upd (c := 1) (k := 2) (a := g) (v := nI (NH G + 1)) W4 (by decide)
    generalize e5 : gsI σ4 1 2 g (nI (NH G + 1)) = σ5 at *
    have kg5 : gkd σ5 g = 2 := M5.kd kg4
    have i5 : gii σ5 1 2 g = nI (NH G + 1) := by rw [← e5, qI_ii, if_pos ⟨rfl, rfl, rfl⟩]
    refine wp_b (wp_rI kg5 ?_)
    rw [i5]
    have M4' : Mod (XG g) σ3 σ4 := M4.mono (fun t x y z q => ⟨Or.inr q.1, q.2.1, q.2.2.2⟩)
    have M5' : Mod (XG g) σ4 σ5 := M5.mono (fun t x y z q => ⟨Or.inl q.1, q.2.1, q.2.2.2⟩)
    have M25 : Mod (XG g) σ2 σ5 := (M3.trans M4').trans M5'
    have M05 : Mod (XG g) σ σ5 := (M12.mono (fun _ _ _ _ q => q.elim)).trans M25
    have hE := gt_es h kg
    have ngs : ∀ i, gar σ5 (tg σ 1 0 g) i = if i = NH G then some a else gar σ (tg σ 1 0 g) i := fun i => by
      rw [← e5, qI_ar, ← e4, qA_ar, ← e3, qQ_ar]
      by_cases z : i = NH G
      · rw [if_pos ⟨rfl, z⟩, if_pos z]
      · rw [if_neg (fun q => z q.2), if_neg z, ((gat h M12 kg (k := 0) (by decide) rfl (by decide)).2 id i).2]
    have nis : ∀ i, gai σ5 (tg σ 1 1 g) i = if i = NH G then b2i b else gai σ (tg σ 1 1 g) i := fun i => by
      rw [← e5, qI_ai, ← e4, qA_ai]
      by_cases z : i = NH G
      · rw [if_pos ⟨rfl, z⟩, if_pos z]
      · rw [if_neg (fun q => z q.2), if_neg z, ← e3, qQ_ai, ((gat h M12 kg (k := 1) (by decide) rfl (by decide)).2 id i).1]
    have T0 : tg σ5 1 0 g = tg σ 1 0 g := (gat h M05 kg (k := 0) (by decide) rfl (by decide)).1
    have T1 : tg σ5 1 1 g = tg σ 1 1 g := (gat h M05 kg (k := 1) (by decide) rfl (by decide)).1
    refine wp_p (hQ σ5 hn W5 M05 ?_ ⟨kg5, ⟨i5, hn, fun i hi => ?_⟩, ?_, ?_⟩)
    · exact (((B1.trans B2).trans B3).trans (B4.trans B5)).le (by omega)
    · rw [T0, T1, ngs, nis]
      show ∃ h, _ ∧ hsO σ5 h (if i = NH G then _ else _ : HE).1 (if i = NH G then _ else _ : HE).2.1 (if i = NH G then _ else _ : HE).2.2.1 ∧ _ = (if i = NH G then _ else _ : HE).2.2.2
      by_cases z : i = NH G
      · simp only [z, if_true]
        exact ⟨a, rfl, hN.mx W2 M25 ka2 (fun k q => by rcases q with ⟨q | q, -⟩ <;> omega) (fun q => by rcases q with ⟨q | q, -⟩ <;> omega) (fun q => absurd q.2.1 (by decide)) (fun q => absurd q.2.1 (by decide)), trivial⟩
      · simp only [z, if_false]
        have hi : i < NH G + 1 := hi
        obtain ⟨o, q1, q2, q3⟩ := a3 i (by omega)
        obtain ⟨w1, w2⟩ := gel h kg (k := 0) (by decide) rfl (by decide) q1 rfl
        exact ⟨o, q1, q2.mod h M05 hE w1 w2, q3⟩
    · -- the answers: their own fields are as they were
      have : Gt2 σ5 g G := hg2.mod h (X := fun t x y z => (t = 1 ∧ x = 1 ∧ y = 2 ∧ z = g) ∨ (t = 3 ∧ x = 1 ∧ (y = 0 ∨ y = 1) ∧ z = g)) ?_ ?_ kg (by simp) (by simp) (by simp)
      · exact this
      · refine Mod.trans (σ1 := σ2) (M12.mono (fun _ _ _ _ q => q.elim)) (Mod.trans (σ1 := σ4) (Mod.trans (σ1 := σ3) ?_ ?_) ?_)
        · rw [← e3]
          exact (mod_q (i := NH G) (v := some a) W2 (c := 1) (k := 0) kg2 (by decide) rfl r0).mono (fun t x y z q => Or.inr ⟨q.1, q.2.1, Or.inl q.2.2.1, q.2.2.2⟩)
        · exact M4.mono (fun t x y z q => Or.inr ⟨q.1, q.2.1, Or.inr q.2.2.1, q.2.2.2⟩)
        · exact M5.mono (fun t x y z q => Or.inl q)
      · exact fun n y hA => ⟨fun z => by rcases z with ⟨z, -⟩ | ⟨z, -⟩ <;> exact absurd z (by decide), fun t c k ht hk z => (hE n y hA).2 t c k ht hk (by rcases z with ⟨z1, z2, -, z3⟩ | ⟨z1, z2, -, z3⟩; exact ⟨Or.inl z1, z2, z3⟩; exact ⟨Or.inr z1, z2, z3⟩)⟩
    · have : Gt3 σ5 g G := hg3.mod h (X := fun t x y z => (t = 1 ∧ x = 1 ∧ y = 2 ∧ z = g) ∨ (t = 3 ∧ x = 1 ∧ (y = 0 ∨ y = 1) ∧ z = g)) ?_ ?_ kg (by simp) (by simp) (by simp)
      · exact this
      · refine Mod.trans (σ1 := σ2) (M12.mono (fun _ _ _ _ q => q.elim)) (Mod.trans (σ1 := σ4) (Mod.trans (σ1 := σ3) ?_ ?_) ?_)
        · rw [← e3]
          exact (mod_q (i := NH G) (v := some a) W2 (c := 1) (k := 0) kg2 (by decide) rfl r0).mono (fun t x y z q => Or.inr ⟨q.1, q.2.1, Or.inl q.2.2.1, q.2.2.2⟩)
        · exact M4.mono (fun t x y z q => Or.inr ⟨q.1, q.2.1, Or.inr q.2.2.1, q.2.2.2⟩)
        · exact M5.mono (fun t x y z q => Or.inl q)
      · exact fun n y hA => ⟨fun z => by rcases z with ⟨z, -⟩ | ⟨z, -⟩ <;> exact absurd z (by decide), fun t c k ht hk z => (hE n y hA).2 t c k ht hk (by rcases z with ⟨z1, z2, -, z3⟩ | ⟨z1, z2, -, z3⟩; exact ⟨Or.inl z1, z2, z3⟩; exact ⟨Or.inr z1, z2, z3⟩)⟩
  · rcases Nat.lt_or_ge (NH G) 12 with z | z
    · exact absurd (nI_lt (a := NH G) (b := 12) z (by omega)) c
    · omega
theorem ES.mono {Y : Nat → Nat → Nat → Nat → Prop} (hE : ES σ X) (h : ∀ t x y z, Y t x y z → X t x y z) : ES σ Y := fun n x hA => ⟨fun z => (hE n x hA).1 (h _ _ _ _ z), fun t c k ht hk z => (hE n x hA).2 t c k ht hk (h _ _ _ _ z)⟩
theorem xg_r {t : Nat} {x : Nat} {y : Nat} {z : Nat} (h : XG g t x y z) : t ≠ 0 ∧ t ≠ 2 ∧ x = 1 := by
  rcases h with ⟨h | h, e, -⟩ <;> exact ⟨by omega, by omega, e⟩
theorem sp_addAnswer {x : Nat} {k p q r s : Int32} {ys : List Int32} {Q : Int32 → gS → Prop} (h : WF σ) (hG : Gt σ g G) (kx : gkd σ x = 5) (hX : rowL σ x = ys) (hB : Bud σ 8390) (h0 : NA G = 16 → Q (-3) σ) (hQ : ∀ σ', NA G < 16 → WF σ' → Mod (XG g) σ σ' → BK 8390 σ σ' → Gt σ' g (adA G (ys, k, w4 k p q r s)) → Q (nI (NA G + 1)) σ') : wp (f_X2_addAnswer (some g) (some x) k p q r s) σ Q := by
  obtain ⟨kg, hg1, ⟨a1, a2, a3⟩, hg3⟩ := hG
  unfold f_X2_addAnswer
  refine wp_b (wp_rI kg ?_)
  rw [a1]
  refine wp_if (fun c => ?_) (fun c => wp_p (h0 ?_))
  · have hn : NA G < 16 := by
      rcases Nat.lt_or_ge (NA G) 16 with z | z
      · exact z
      · exact absurd c (nI_nlt (a := NA G) (b := 16) z (by omega))
    refine wp_unt un_row h (hB.le (by omega)) (fun σ1 a N => ?_)
    obtain ⟨W1, M1, ka, fa, B1, ka0, kf0⟩ := N
    have ka : gkd σ1 a = 5 := ka
    have kx1 : gkd σ1 x = 5 := M1.kd kx
    have hX1 : rowL σ1 x = ys := (M1.row h kx id id).trans hX
    have nxa : x ≠ a := fun e => by rw [e, ka0] at kx; cases kx
    refine wp_b (wp_nn ka ?_)
    refine wp_b (wp_mono (qt_wp (sp_take (Q := fun _ σ' => RowTo (fun _ => False) σ1 σ' a (rowL σ1 x)) W1 ka kx1 id id nxa (B1 0 (hB.le (by omega))) (fun σ' H => H)) qt_take W1.1) (fun _ σ2 H => ?_))
    obtain ⟨⟨W2, M2, H3, B2⟩, S2⟩ := H
    have f2 : Free σ2 a := S2.free M2 (fun c k z q => absurd q.1 (by decide)) W2 (fun _ _ => id) fa (by rw [ka]; decide) (by rw [ka]; decide)
    have ka2 : gkd σ2 a = 5 := M2.kd ka
    have hN : rowL σ2 a = ys := H3.trans hX1
    have M12 : Mod X0 σ σ2 := M1.new M2 (fun t x y z q => Or.inr (Or.inl ⟨q.1, by rw [q.2]; exact ka0⟩))
    have kg2 : gkd σ2 g = 2 := M12.kd kg
    obtain ⟨r0, r1, r2⟩ := M12.ar0 h (c := 1) (k := 3) kg (by decide) (by decide) rfl (by decide)
    have r2 : gln σ2 (tg σ 1 3 g) = 16 := r2 (by decide)
    have i2 : gii σ2 1 5 g = nI (NA G) := (M12.int (c := 1) kg (by decide) id).trans a1
    refine wp_b (wp_rR kg2 ?_)
    rw [r0]
    refine wp_b (wp_rI kg2 ?_)
    rw [i2]
    refine wp_b (wp_sR (t := 5) (c := 4) r1 (by omega) (by omega) ka2 ?_)
    have t0 : tg σ2 1 3 g = tg σ 1 3 g := tg_of r0
    obtain ⟨W3, -, B3⟩ := gt_put (i := NA G) W2 kg2 (k := 3) (by decide) rfl (by decide) f2 ka2 (by rw [ka2]; decide)
    have M3 := mod_q (i := NA G) (v := some a) W2 (c := 1) (k := 3) kg2 (by decide) rfl r0
    rw [t0] at W3 B3
    generalize e3 : gsQ σ2 (tg σ 1 3 g) (NA G) (some a) = σ3 at *
    have kg3 : gkd σ3 g = 2 := M3.kd kg2
    have i3 : gii σ3 1 5 g = nI (NA G) := by rw [← e3]; exact i2
    have bu3 : Bud σ3 134 := B3 134 (B2 134 (B1 134 (hB.le (by omega))))
    refine wp_unt un_addr W3 bu3 (fun σ4 b N => ?_)
    obtain ⟨W4, M4, kb, fb, B4, kb0, kfb0⟩ := N
    have kb : gkd σ4 b = 1 := kb
    refine wp_b (wp_nn kb ?_)
    refine wp_b (wp_mono (qt_wp (sp_setTo (Q := fun _ σ' => AdTo (fun _ => False) σ4 σ' b k (w4 k p q r s)) W4 kb id (fun σ' H => H)) qt_setTo W4.1) (fun _ σ5 H => ?_))
    obtain ⟨⟨W5, M5, H4, H5, B5⟩, S5⟩ := H
    have f5 : Free σ5 b := S5.free M5 (fun c k z q => by rcases q with ⟨q, -⟩ | ⟨q, -⟩ <;> exact absurd q (by decide)) W5 (fun _ _ => id) fb (by rw [kb]; decide) (by rw [kb]; decide)
    have kb5 : gkd σ5 b = 1 := M5.kd kb
    have M35 : Mod X0 σ3 σ5 := M4.new M5 (fun t x y z q => by
      rcases q with ⟨q1, -, -, q2⟩ | ⟨q1, -, -, q2⟩
      · exact Or.inr (Or.inr ⟨by omega, by rw [q2]; exact kb0⟩)
      · exact Or.inr (Or.inr ⟨by omega, by rw [q2]; exact kb0⟩))
    have kg5 : gkd σ5 g = 2 := M35.kd kg3
    have s0 : grr σ5 1 4 g = some (tg σ 1 4 g) := by
      have e1 : grr σ2 1 4 g = some (tg σ 1 4 g) := (M12.ar0 h (c := 1) (k := 4) kg (by decide) (by decide) rfl (by decide)).1
      have e2 : grr σ3 1 4 g = some (tg σ 1 4 g) := by rw [← e3]; exact e1
      have := (M35.ar0 W3 (c := 1) (k := 4) kg3 (by decide) (by decide) rfl (by decide)).1
      rw [this, tg_of e2]
    obtain ⟨u0, u1, u2⟩ := W5.gf kg5 (k := 4) (by decide) rfl
    rw [tg_of s0] at u1 u2
    have u1 : gkd σ5 (tg σ 1 4 g) = 13 := u1
    have u2 : gln σ5 (tg σ 1 4 g) = 16 := u2 (by decide)
    have i5 : gii σ5 1 5 g = nI (NA G) := (M35.int (c := 1) kg3 (by decide) id).trans i3
    refine wp_b (wp_rR kg5 ?_)
    rw [s0]
    refine wp_b (wp_rI kg5 ?_)
    rw [i5]
    refine wp_b (wp_sR (t := 3) (c := 0) u1 (by omega) (by omega) kb5 ?_)
    obtain ⟨W6, -, B6⟩ := gt_put (i := NA G) W5 kg5 (k := 4) (by decide) rfl (by decide) f5 kb5 (by rw [kb5]; decide)
    have M6 := mod_q (i := NA G) (v := some b) W5 (c := 1) (k := 4) kg5 (by decide) rfl s0
    rw [tg_of s0] at W6 B6
    generalize e6 : gsQ σ5 (tg σ 1 4 g) (NA G) (some b) = σ6 at *
    have kg6 : gkd σ6 g = 2 := M6.kd kg5
    have i6 : gii σ6 1 5 g = nI (NA G) := by rw [← e6]; exact i5
    refine wp_b (wp_rI kg6 ?_)
    rw [i6, nI_1]
    refine wp_b (wp_wI (c := 1) kg6 ?_)
    obtain ⟨W7, M7, B7⟩ := int_upd (c := 1) (k := 5) (a := g) (v := nI (NA G + 1)) W6 (by decide)
    generalize e7 : gsI σ6 1 5 g (nI (NA G + 1)) = σ7 at *
    have kg7 : gkd σ7 g = 2 := M7.kd kg6
    have i7 : gii σ7 1 5 g = nI (NA G + 1) := by rw [← e7, qI_ii, if_pos ⟨rfl, rfl, rfl⟩]
    refine wp_b (wp_rI kg7 ?_)
    rw [i7]
    -- all in all
    have hE := gt_es h kg
    have Z : ∀ t x y z, ((t = 1 ∧ x = 1 ∧ y = 5 ∧ z = g) ∨ (t = 3 ∧ x = 1 ∧ (y = 3 ∨ y = 4) ∧ z = g)) → XG g t x y z := fun t x y z q => by
      rcases q with ⟨z1, z2, -, z3⟩ | ⟨z1, z2, -, z3⟩
      · exact ⟨Or.inl z1, z2, z3⟩
      · exact ⟨Or.inr z1, z2, z3⟩
    have MZ27 : Mod (fun t x y z => (t = 1 ∧ x = 1 ∧ y = 5 ∧ z = g) ∨ (t = 3 ∧ x = 1 ∧ (y = 3 ∨ y = 4) ∧ z = g)) σ2 σ7 := Mod.trans (σ1 := σ3) (M3.mono (fun t x y z q => Or.inr ⟨q.1, q.2.1, Or.inl q.2.2.1, q.2.2.2⟩)) (Mod.trans (σ1 := σ5) (M35.mono (fun _ _ _ _ q => q.elim)) (Mod.trans (σ1 := σ6) (M6.mono (fun t x y z q => Or.inr ⟨q.1, q.2.1, Or.inr q.2.2.1, q.2.2.2⟩)) (M7.mono (fun t x y z q => Or.inl q))))
    have MZ : Mod (fun t x y z => (t = 1 ∧ x = 1 ∧ y = 5 ∧ z = g) ∨ (t = 3 ∧ x = 1 ∧ (y = 3 ∨ y = 4) ∧ z = g)) σ σ7 := Mod.trans (σ1 := σ2) (M12.mono (fun _ _ _ _ q => q.elim)) MZ27
    have M57 : Mod (XG g) σ5 σ7 := Mod.trans (σ1 := σ6) (M6.mono (fun t x y z q => ⟨Or.inr q.1, q.2.1, q.2.2.2⟩)) (M7.mono (fun t x y z q => ⟨Or.inl q.1, q.2.1, q.2.2.2⟩))
    have ng3 : ∀ i, gar σ7 (tg σ 1 3 g) i = if i = NA G then some a else gar σ (tg σ 1 3 g) i := fun i => by
      have t3 : grr σ3 1 3 g = some (tg σ 1 3 g) := by rw [← e3]; exact r0
      have t5 : tg σ5 1 3 g = tg σ 1 3 g := by rw [(gat W3 M35 kg3 (k := 3) (by decide) rfl (by decide)).1, tg_of t3]
      have g36 : gar σ6 (tg σ 1 3 g) i = gar σ5 (tg σ 1 3 g) i := by
        have := ((gat W5 M6 kg5 (k := 3) (by decide) rfl (by decide)).2 (by simp) i).2
        rw [t5] at this
        exact this
      have g35 : gar σ5 (tg σ 1 3 g) i = gar σ3 (tg σ 1 3 g) i := by
        have := ((gat W3 M35 kg3 (k := 3) (by decide) rfl (by decide)).2 id i).2
        rw [tg_of t3] at this
        exact this
      rw [← e7, qI_ar, g36, g35, ← e3, qQ_ar]
      by_cases z : i = NA G
      · rw [if_pos ⟨rfl, z⟩, if_pos z]
      · rw [if_neg (fun q => z q.2), if_neg z, ((gat h M12 kg (k := 3) (by decide) rfl (by decide)).2 id i).2]
    have ng4 : ∀ i, gar σ7 (tg σ 1 4 g) i = if i = NA G then some b else gar σ (tg σ 1 4 g) i := fun i => by
      have t2 : tg σ2 1 4 g = tg σ 1 4 g := (gat h M12 kg (k := 4) (by decide) rfl (by decide)).1
      have t3 : tg σ3 1 4 g = tg σ 1 4 g := by rw [(gat W2 M3 kg2 (k := 4) (by decide) rfl (by decide)).1, t2]
      rw [← e7, qI_ar, ← e6, qQ_ar]
      by_cases z : i = NA G
      · rw [if_pos ⟨rfl, z⟩, if_pos z]
      · rw [if_neg (fun q => z q.2), if_neg z]
        have g1 := ((gat W3 M35 kg3 (k := 4) (by decide) rfl (by decide)).2 id i).2
        rw [t3] at g1
        have g2 := ((gat W2 M3 kg2 (k := 4) (by decide) rfl (by decide)).2 (by simp) i).2
        rw [t2] at g2
        rw [g1, g2, ((gat h M12 kg (k := 4) (by decide) rfl (by decide)).2 id i).2]
    have T3 : tg σ7 1 3 g = tg σ 1 3 g := (gat h MZ kg (k := 3) (by decide) rfl (by decide)).1
    have T4 : tg σ7 1 4 g = tg σ 1 4 g := (gat h MZ kg (k := 4) (by decide) rfl (by decide)).1
    refine wp_p (hQ σ7 hn W7 (MZ.mono Z) ?_ ⟨kg7, ?_, ⟨i7, hn, fun i hi => ?_⟩, ?_⟩)
    · exact ((((B1.trans B2).trans B3).trans (B4.trans B5)).trans (B6.trans B7)).le (by omega)
    · have : Gt1 σ7 g G := hg1.mod h MZ (hE.mono Z) kg (by simp) (by simp) (by simp)
      exact this
    · rw [T3, T4, ng3, ng4]
      show ∃ r a, _ ∧ rowL σ7 r = (if i = NA G then _ else _ : AE).1 ∧ _ ∧ adO σ7 a (if i = NA G then _ else _ : AE).2.1 (if i = NA G then _ else _ : AE).2.2
      by_cases z : i = NA G
      · simp only [z, if_true]
        refine ⟨a, b, rfl, ?_, rfl, ?_⟩
        · rw [MZ27.row W2 ka2 id (by simp)]
          exact hN
        · have : adO σ5 b k (w4 k p q r s) := ⟨H4, H5⟩
          exact this.mx W5 M57 kb5 (fun q => absurd (xg_r q).2.2 (by decide)) (fun q => absurd (xg_r q).2.2 (by decide))
      · simp only [z, if_false]
        have hi : i < NA G + 1 := hi
        obtain ⟨r', a', q1, q2, q3, q4⟩ := a3 i (by omega)
        obtain ⟨w1, w2⟩ := gel h kg (k := 3) (by decide) rfl (by decide) q1 rfl
        obtain ⟨v1, v2⟩ := gel h kg (k := 4) (by decide) rfl (by decide) q3 rfl
        exact ⟨r', a', q1, (row.mod h MZ (hE.mono Z) w1 w2).trans q2, q3, q4.mod h MZ (hE.mono Z) v1 v2⟩
    · have : Gt3 σ7 g G := hg3.mod h MZ (hE.mono Z) kg (by simp) (by simp) (by simp)
      exact this
  · rcases Nat.lt_or_ge (NA G) 16 with z | z
    · exact absurd (nI_lt (a := NA G) (b := 16) z (by omega)) c
    · omega
theorem sp_addRange {k p q r s n : Int32} {Q : Int32 → gS → Prop} (h : WF σ) (hG : Gt σ g G) (hB : Bud σ 134) (h0 : NR G = 12 → Q (-3) σ) (hQ : ∀ σ', NR G < 12 → WF σ' → Mod (XG g) σ σ' → BK 134 σ σ' → Gt σ' g (adR G (k, w4 k p q r s, n)) → Q (nI (NR G + 1)) σ') : wp (f_X2_addRange (some g) k p q r s n) σ Q := by
  obtain ⟨kg, hg1, hg2, a1, a2, a3⟩ := hG
  unfold f_X2_addRange
  refine wp_b (wp_rI kg ?_)
  rw [a1]
  refine wp_if (fun c => ?_) (fun c => wp_p (h0 ?_))
  · have hn : NR G < 12 := by
      rcases Nat.lt_or_ge (NR G) 12 with z | z
      · exact z
      · exact absurd c (nI_nlt (a := NR G) (b := 12) z (by omega))
    refine wp_unt un_addr h hB (fun σ1 a N => ?_)
    obtain ⟨W1, M1, ka, fa, B1, ka0, kf0⟩ := N
    have ka : gkd σ1 a = 1 := ka
    refine wp_b (wp_nn ka ?_)
    refine wp_b (wp_mono (qt_wp (sp_setTo (Q := fun _ σ' => AdTo (fun _ => False) σ1 σ' a k (w4 k p q r s)) W1 ka id (fun σ' H => H)) qt_setTo W1.1) (fun _ σ2 H => ?_))
    obtain ⟨⟨W2, M2, H1, H2, B2⟩, S2⟩ := H
    have f2 : Free σ2 a := S2.free M2 (fun c k z q => by rcases q with ⟨q, -⟩ | ⟨q, -⟩ <;> exact absurd q (by decide)) W2 (fun _ _ => id) fa (by rw [ka]; decide) (by rw [ka]; decide)
    have ka2 : gkd σ2 a = 1 := M2.kd ka
    have M12 : Mod X0 σ σ2 := M1.new M2 (fun t x y z q => by
      rcases q with ⟨q1, -, -, q2⟩ | ⟨q1, -, -, q2⟩
      · exact Or.inr (Or.inr ⟨by omega, by rw [q2]; exact ka0⟩)
      · exact Or.inr (Or.inr ⟨by omega, by rw [q2]; exact ka0⟩))
    have kg2 : gkd σ2 g = 2 := M12.kd kg
    obtain ⟨r0, r1, r2⟩ := M12.ar0 h (c := 1) (k := 6) kg (by decide) (by decide) rfl (by decide)
    have r2 : gln σ2 (tg σ 1 6 g) = 12 := r2 (by decide)
    have i2 : gii σ2 1 8 g = nI (NR G) := (M12.int (c := 1) kg (by decide) id).trans a1
    refine wp_b (wp_rR kg2 ?_)
    rw [r0]
    refine wp_b (wp_rI kg2 ?_)
    rw [i2]
    refine wp_b (wp_sR (t := 3) (c := 0) r1 (by omega) (by omega) ka2 ?_)
    have t0 : tg σ2 1 6 g = tg σ 1 6 g := tg_of r0
    obtain ⟨W3, -, B3⟩ := gt_put (i := NR G) W2 kg2 (k := 6) (by decide) rfl (by decide) f2 ka2 (by rw [ka2]; decide)
    have M3 := mod_q (i := NR G) (v := some a) W2 (c := 1) (k := 6) kg2 (by decide) rfl r0
    rw [t0] at W3 B3
    generalize e3 : gsQ σ2 (tg σ 1 6 g) (NR G) (some a) = σ3 at *
    have kg3 : gkd σ3 g = 2 := M3.kd kg2
    obtain ⟨s0, s1, s2⟩ := M12.ar0 h (c := 1) (k := 7) kg (by decide) (by decide) rfl (by decide)
    have s2 : gln σ2 (tg σ 1 7 g) = 12 := s2 (by decide)
    have s0' : grr σ3 1 7 g = some (tg σ 1 7 g) := by rw [← e3]; exact s0
    have s1' : gkd σ3 (tg σ 1 7 g) = 11 := by rw [← e3]; exact s1
    have s2' : gln σ3 (tg σ 1 7 g) = 12 := by rw [← e3]; exact s2
    have i3 : gii σ3 1 8 g = nI (NR G) := by rw [← e3]; exact i2
    refine wp_b (wp_rR kg3 ?_)
    rw [s0']
    refine wp_b (wp_rI kg3 ?_)
    rw [i3]
    refine wp_b (wp_sI (t := 1) s1' (by omega) (by omega) ?_)
    rw [show gnar 1 n = n from rfl]
    obtain ⟨W4, M4, B4⟩ := arr_upd (j := NR G) (v := n) W3 (c := 1) (k := 7) kg3 (by decide) (by decide) rfl s0'
    generalize e4 : gsA σ3 (tg σ 1 7 g) (NR G) n = σ4 at *
    have kg4 : gkd σ4 g = 2 := M4.kd kg3
    have i4 : gii σ4 1 8 g = nI (NR G) := by rw [← e4]; exact i3
    refine wp_b (wp_rI kg4 ?_)
    rw [i4, nI_1]
    refine wp_b (wp_wI (c := 1) kg4 ?_)
    obtain ⟨W5, M5, B5⟩ := int_upd (c := 1) (k := 8) (a := g) (v := nI (NR G + 1)) W4 (by decide)
    generalize e5 : gsI σ4 1 8 g (nI (NR G + 1)) = σ5 at *
    have kg5 : gkd σ5 g = 2 := M5.kd kg4
    have i5 : gii σ5 1 8 g = nI (NR G + 1) := by rw [← e5, qI_ii, if_pos ⟨rfl, rfl, rfl⟩]
    refine wp_b (wp_rI kg5 ?_)
    rw [i5]
    have hE := gt_es h kg
    have Z : ∀ t x y z, ((t = 1 ∧ x = 1 ∧ y = 8 ∧ z = g) ∨ (t = 3 ∧ x = 1 ∧ (y = 6 ∨ y = 7) ∧ z = g)) → XG g t x y z := fun t x y z q => by
      rcases q with ⟨z1, z2, -, z3⟩ | ⟨z1, z2, -, z3⟩
      · exact ⟨Or.inl z1, z2, z3⟩
      · exact ⟨Or.inr z1, z2, z3⟩
    have MZ25 : Mod (fun t x y z => (t = 1 ∧ x = 1 ∧ y = 8 ∧ z = g) ∨ (t = 3 ∧ x = 1 ∧ (y = 6 ∨ y = 7) ∧ z = g)) σ2 σ5 := Mod.trans (σ1 := σ3) (M3.mono (fun t x y z q => Or.inr ⟨q.1, q.2.1, Or.inl q.2.2.1, q.2.2.2⟩)) (Mod.trans (σ1 := σ4) (M4.mono (fun t x y z q => Or.inr ⟨q.1, q.2.1, Or.inr q.2.2.1, q.2.2.2⟩)) (M5.mono (fun t x y z q => Or.inl q)))
    have MZ : Mod (fun t x y z => (t = 1 ∧ x = 1 ∧ y = 8 ∧ z = g) ∨ (t = 3 ∧ x = 1 ∧ (y = 6 ∨ y = 7) ∧ z = g)) σ σ5 := Mod.trans (σ1 := σ2) (M12.mono (fun _ _ _ _ q => q.elim)) MZ25
    have ngs : ∀ i, gar σ5 (tg σ 1 6 g) i = if i = NR G then some a else gar σ (tg σ 1 6 g) i := fun i => by
      rw [← e5, qI_ar, ← e4, qA_ar, ← e3, qQ_ar]
      by_cases z : i = NR G
      · rw [if_pos ⟨rfl, z⟩, if_pos z]
      · rw [if_neg (fun q => z q.2), if_neg z, ((gat h M12 kg (k := 6) (by decide) rfl (by decide)).2 id i).2]
    have nis : ∀ i, gai σ5 (tg σ 1 7 g) i = if i = NR G then n else gai σ (tg σ 1 7 g) i := fun i => by
      rw [← e5, qI_ai, ← e4, qA_ai]
      by_cases z : i = NR G
      · rw [if_pos ⟨rfl, z⟩, if_pos z]
      · rw [if_neg (fun q => z q.2), if_neg z, ← e3, qQ_ai, ((gat h M12 kg (k := 7) (by decide) rfl (by decide)).2 id i).1]
    have T0 : tg σ5 1 6 g = tg σ 1 6 g := (gat h MZ kg (k := 6) (by decide) rfl (by decide)).1
    have T1 : tg σ5 1 7 g = tg σ 1 7 g := (gat h MZ kg (k := 7) (by decide) rfl (by decide)).1
    refine wp_p (hQ σ5 hn W5 (MZ.mono Z) ?_ ⟨kg5, ?_, ?_, i5, hn, fun i hi => ?_⟩)
    · exact (((B1.trans B2).trans B3).trans (B4.trans B5)).le (by omega)
    · have : Gt1 σ5 g G := hg1.mod h MZ (hE.mono Z) kg (by simp) (by simp) (by simp)
      exact this
    · have : Gt2 σ5 g G := hg2.mod h MZ (hE.mono Z) kg (by simp) (by simp) (by simp)
      exact this
    · rw [T0, T1, ngs, nis]
      show ∃ a, _ ∧ adO σ5 a (if i = NR G then _ else _ : RE).1 (if i = NR G then _ else _ : RE).2.1 ∧ _ = (if i = NR G then _ else _ : RE).2.2
      by_cases z : i = NR G
      · simp only [z, if_true]
        have : adO σ2 a k (w4 k p q r s) := ⟨H1, H2⟩
        exact ⟨a, rfl, this.mx W2 MZ25 ka2 (by simp) (by simp), trivial⟩
      · simp only [z, if_false]
        have hi : i < NR G + 1 := hi
        obtain ⟨o, q1, q2, q3⟩ := a3 i (by omega)
        obtain ⟨w1, w2⟩ := gel h kg (k := 6) (by decide) rfl (by decide) q1 rfl
        exact ⟨o, q1, q2.mod h MZ (hE.mono Z) w1 w2, q3⟩
  · rcases Nat.lt_or_ge (NR G) 12 with z | z
    · exact absurd (nI_lt (a := NR G) (b := 12) z (by omega)) c
    · omega
end GW
