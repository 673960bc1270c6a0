/-! NEW THINGS TAKE THEIR PLACE -/
theorem cut_self {ex : Nat → Prop} {σ : gS} (hR : Rok σ) : WFx ex (cut (gsz σ) σ) := by
  have z : ∀ a, gkd (cut (gsz σ) σ) a = 0 := fun a => by
    rw [cut_kd]
    by_cases c : a < gsz σ
    · rw [if_pos c]
    · rw [if_neg c]
      rcases Nat.eq_zero_or_pos (gkd σ a) with q | q
      · exact q
      · exact absurd (hR.1 a (by omega)) c
  refine ⟨fun a ha => absurd (z a) ha, fun a c k ha => ?_, fun a a' c c' k k' b ha => ?_, fun r hr => ?_, fun a j b ha => ?_, fun a a' j j' b ha => ?_, fun a a' c k j b ha => ?_, fun a c k b ha => ?_, fun a j b ha => ?_⟩
  · rw [z] at ha; cases ha
  · rw [z] at ha; cases ha
  · rw [z] at hr; cases hr
  · rw [z] at ha; omega
  · rw [z] at ha; omega
  · rw [z] at ha; cases ha
  · rw [z] at ha; cases ha
  · rw [z] at ha; omega
section MG
variable {ex : Nat → Prop} {σ σ' : gS}
theorem merge (h : WFx ex σ) (hO : Od σ σ') (hC : WFx ex (cut (gsz σ) σ')) : WFx ex σ' := by
  obtain ⟨w1, w2, w3, w4, w5, w6, w7, w8, w9⟩ := h
  obtain ⟨v1, v2, v3, v4, v5, v6, v7, v8, v9⟩ := hC
  have ko : ∀ a, a < gsz σ → gkd σ' a = gkd σ a := fun a ha => (hO.2 a ha).1
  have ro : ∀ a c k, a < gsz σ → grr σ' c k a = grr σ c k a := fun a c k ha => (hO.2 a ha).2.2.1 c k
  have ao : ∀ a j, a < gsz σ → gar σ' a j = gar σ a j := fun a j ha => (hO.2 a ha).2.2.2.2.2 j
  have kn : ∀ a, gsz σ ≤ a → gkd (cut (gsz σ) σ') a = gkd σ' a := fun a ha => cut_ge ha
  have kz : ∀ a, gkd (cut (gsz σ) σ') a ≠ 0 → gsz σ ≤ a := fun a ha => by
    rcases Nat.lt_or_ge a (gsz σ) with c | c
    · rw [cut_kd, if_pos c] at ha; exact absurd rfl ha
    · exact c
  -- targets of the old are old, of the new new
  have to : ∀ a c k b, a < gsz σ → gkd σ' a = c + 1 → k < gnf c → grf c k = true → grr σ' c k a = some b → b < gsz σ := fun a c k b ha hk hkn hf e => w1 b (w8 a c k b (by rw [← ko a ha]; exact hk) hkn hf (by rw [← ro a c k ha]; exact e))
  have tn : ∀ a c k b, gsz σ ≤ a → gkd σ' a = c + 1 → k < gnf c → grf c k = true → grr σ' c k a = some b → gsz σ ≤ b := fun a c k b ha hk hkn hf e => kz b (v8 a c k b (by rw [kn a ha]; exact hk) hkn hf e)
  have uo : ∀ a j b, a < gsz σ → 13 ≤ gkd σ' a → gar σ' a j = some b → b < gsz σ := fun a j b ha hk e => w1 b (w9 a j b (by rw [← ko a ha]; exact hk) (by rw [← ao a j ha]; exact e))
  have un : ∀ a j b, gsz σ ≤ a → 13 ≤ gkd σ' a → gar σ' a j = some b → gsz σ ≤ b := fun a j b ha hk e => kz b (v9 a j b (by rw [kn a ha]; exact hk) e)
  refine ⟨fun a ha => ?_, fun a c k ha hx hc hk hf => ?_, fun a a' c c' k k' b ha ha' hk hk' hf hf' e e' => ?_, fun r hr hx => ?_, fun a j b ha e => ?_, fun a a' j j' b ha ha' e e' => ?_, fun a a' c k j b ha hk hf e ha' e' => ?_, fun a c k b ha hk hf e => ?_, fun a j b ha e => ?_⟩
  · rcases Nat.lt_or_ge a (gsz σ) with c | c
    · exact Nat.lt_of_lt_of_le c hO.1
    · exact v1 a (by rw [kn a c]; exact ha)
  · rcases Nat.lt_or_ge a (gsz σ) with z | z
    · obtain ⟨b, q1, q2, q3⟩ := w2 a c k (by rw [← ko a z]; exact ha) hx hc hk hf
      have hb : b < gsz σ := to a c k b z ha hk hf (by rw [ro a c k z]; exact q1)
      exact ⟨b, by rw [ro a c k z]; exact q1, by rw [ko b hb]; exact q2, fun y => by rw [(hO.2 b hb).2.2.2.1]; exact q3 y⟩
    · obtain ⟨b, q1, q2, q3⟩ := v2 a c k (by rw [kn a z]; exact ha) hx hc hk hf
      have hb : gsz σ ≤ b := tn a c k b z ha hk hf q1
      exact ⟨b, q1, by rw [← kn b hb]; exact q2, q3⟩
  · rcases Nat.lt_or_ge a (gsz σ) with z | z
    · rcases Nat.lt_or_ge a' (gsz σ) with z' | z'
      · exact w3 a a' c c' k k' b (by rw [← ko a z]; exact ha) (by rw [← ko a' z']; exact ha') hk hk' hf hf' (by rw [← ro a c k z]; exact e) (by rw [← ro a' c' k' z']; exact e')
      · have := to a c k b z ha hk hf e
        have := tn a' c' k' b z' ha' hk' hf' e'
        omega
    · rcases Nat.lt_or_ge a' (gsz σ) with z' | z'
      · have := tn a c k b z ha hk hf e
        have := to a' c' k' b z' ha' hk' hf' e'
        omega
      · exact v3 a a' c c' k k' b (by rw [kn a z]; exact ha) (by rw [kn a' z']; exact ha') hk hk' hf hf' e e'
  · rcases Nat.lt_or_ge r (gsz σ) with z | z
    · have hr0 : gkd σ r = 5 := by rw [← ko r z]; exact hr
      obtain ⟨q1, q2, q3⟩ := w4 r hr0 hx
      obtain ⟨b, p1, p2, -⟩ := w2 r 4 0 hr0 hx (by decide) (by decide) rfl
      have hb : b < gsz σ := w1 b (by rw [p2]; decide)
      have e0 : gii σ' 4 1 r = gii σ 4 1 r := (hO.2 r z).2.1 4 1
      have e1 : rlen σ' r = rlen σ r := by rw [rlen, rlen, e0]
      have e2 : rcap σ' r = rcap σ r := by rw [rcap, rcap, tg, tg, ro r 4 0 z, p1]; exact (hO.2 b hb).2.2.2.1
      rw [e0, e1, e2]
      exact ⟨q1, q2, q3⟩
    · exact v4 r (by rw [kn r z]; exact hr) hx
  · rcases Nat.lt_or_ge a (gsz σ) with z | z
    · rw [ko b (uo a j b z ha e), ko a z]
      exact w5 a j b (by rw [← ko a z]; exact ha) (by rw [← ao a j z]; exact e)
    · have := v5 a j b (by rw [kn a z]; exact ha) e
      rw [kn a z, kn b (un a j b z ha e)] at this
      exact this
  · rcases Nat.lt_or_ge a (gsz σ) with z | z
    · rcases Nat.lt_or_ge a' (gsz σ) with z' | z'
      · exact w6 a a' j j' b (by rw [← ko a z]; exact ha) (by rw [← ko a' z']; exact ha') (by rw [← ao a j z]; exact e) (by rw [← ao a' j' z']; exact e')
      · have := uo a j b z ha e
        have := un a' j' b z' ha' e'
        omega
    · rcases Nat.lt_or_ge a' (gsz σ) with z' | z'
      · have := un a j b z ha e
        have := uo a' j' b z' ha' e'
        omega
      · exact v6 a a' j j' b (by rw [kn a z]; exact ha) (by rw [kn a' z']; exact ha') e e'
  · rcases Nat.lt_or_ge a (gsz σ) with z | z
    · rcases Nat.lt_or_ge a' (gsz σ) with z' | z'
      · exact w7 a a' c k j b (by rw [← ko a z]; exact ha) hk hf (by rw [← ro a c k z]; exact e) (by rw [← ko a' z']; exact ha') (by rw [← ao a' j z']; exact e')
      · have := to a c k b z ha hk hf e
        have := un a' j b z' ha' e'
        omega
    · rcases Nat.lt_or_ge a' (gsz σ) with z' | z'
      · have := tn a c k b z ha hk hf e
        have := uo a' j b z' ha' e'
        omega
      · exact v7 a a' c k j b (by rw [kn a z]; exact ha) hk hf e (by rw [kn a' z']; exact ha') e'
  · rcases Nat.lt_or_ge a (gsz σ) with z | z
    · rw [ko b (to a c k b z ha hk hf e)]
      exact w8 a c k b (by rw [← ko a z]; exact ha) hk hf (by rw [← ro a c k z]; exact e)
    · have := v8 a c k b (by rw [kn a z]; exact ha) hk hf e
      rw [kn b (tn a c k b z ha hk hf e)] at this
      exact this
  · rcases Nat.lt_or_ge a (gsz σ) with z | z
    · rw [ko b (uo a j b z ha e)]
      exact w9 a j b (by rw [← ko a z]; exact ha) (by rw [← ao a j z]; exact e)
    · have := v9 a j b (by rw [kn a z]; exact ha) e
      rw [kn b (un a j b z ha e)] at this
      exact this
/-- what nothing new refers to -/
theorem merge_free {b : Nat} (h : WFx ex σ) (hO : Od σ σ') (hC : WFx ex (cut (gsz σ) σ')) (hb : Free (cut (gsz σ) σ') b) (hb2 : gsz σ ≤ b) : Free σ' b := by
  refine ⟨fun a c k ha hk hf e => ?_, fun a j ha e => ?_⟩
  · rcases Nat.lt_or_ge a (gsz σ) with z | z
    · rw [(hO.2 a z).1] at ha
      rw [(hO.2 a z).2.2.1] at e
      have := h.1 b (h.2.2.2.2.2.2.2.1 a c k b ha hk hf e)
      omega
    · exact hb.1 a c k (by rw [cut_ge z]; exact ha) hk hf e
  · rcases Nat.lt_or_ge a (gsz σ) with z | z
    · rw [(hO.2 a z).1] at ha
      rw [(hO.2 a z).2.2.2.2.2] at e
      have := h.1 b (h.2.2.2.2.2.2.2.2 a j b ha e)
      omega
    · exact hb.2 a j (by rw [cut_ge z]; exact ha) e
def Tin (σ : gS) : Prop := (∀ a, gkd σ a ≠ 0 → a < gsz σ) ∧ ∀ a c k b, gkd σ a = c + 1 → k < gnf c → grf c k = true → grr σ c k a = some b → b < gsz σ
theorem WFx.tin (h : WFx ex σ) : Tin σ := ⟨h.1, fun a c k b ha hk hf e => h.1 b (h.2.2.2.2.2.2.2.1 a c k b ha hk hf e)⟩
theorem Od.mod {X : Nat → Nat → Nat → Nat → Prop} (hO : Od σ σ') (hT : Tin σ) : Mod X σ σ' := by
  obtain ⟨t1, t2⟩ := hT
  have lt : ∀ a c, gkd σ a = c + 1 → a < gsz σ := fun a c ha => t1 a (by omega)
  refine ⟨fun a ha => (hO.2 a (t1 a ha)).1, hO.1, fun r hr hg => ?_, fun c k a _ ha _ => (hO.2 a (lt a c ha)).2.1 c k, fun c k a _ ha _ => (hO.2 a (lt a c ha)).2.2.1 c k, fun c k a b _ ha hk hf _ e => ?_⟩
  · have hl := lt r 4 hr
    have e3 : grr σ' 4 0 r = grr σ 4 0 r := (hO.2 r hl).2.2.1 4 0
    refine ⟨by rw [e3]; exact hg, fun _ => ?_⟩
    cases hb : grr σ 4 0 r with
    | none => exact absurd hb hg
    | some b =>
      have hbl := t2 r 4 0 b hr (by decide) rfl hb
      have e1 : rlen σ' r = rlen σ r := by rw [rlen, rlen, (hO.2 r hl).2.1]
      have e2 : tg σ' 4 0 r = b := tg_of (by rw [e3]; exact hb)
      unfold rowL
      rw [e1, e2, tg_of hb]
      exact List.map_congr_left (fun j _ => (hO.2 b hbl).2.2.2.2.1 j)
  · have hbl := t2 a c k b ha hk hf e
    exact ⟨(hO.2 b hbl).2.2.2.1, fun _ j => ⟨(hO.2 b hbl).2.2.2.2.1 j, (hO.2 b hbl).2.2.2.2.2 j⟩⟩
variable {ρ : gS}
theorem uns_wf {c k a : Nat} (h : WFx ex ρ) (hx : ex a) : WFx ex (gsR ρ c k a none) := by
  have rr : ∀ x c' k' y, grr (gsR ρ c k a none) c' k' x = some y → grr ρ c' k' x = some y := fun x c' k' y e => by
    rw [qR_rr] at e
    split at e
    · cases e
    · exact e
  obtain ⟨w1, w2, w3, w4, w5, w6, w7, w8, w9⟩ := h
  refine ⟨w1, fun x c' k' hxk hxx hc hk' hf' => ?_, fun x x' c1 c2 k1 k2 y h1 h2 hk1 hk2 hf1 hf2 e1 e2 => w3 x x' c1 c2 k1 k2 y h1 h2 hk1 hk2 hf1 hf2 (rr _ _ _ _ e1) (rr _ _ _ _ e2), fun r hr hxr => ?_, w5, w6, fun x x' c1 k1 j y h1 hk1 hf1 e1 h2 e2 => w7 x x' c1 k1 j y h1 hk1 hf1 (rr _ _ _ _ e1) h2 e2, fun x c1 k1 y h1 hk1 hf1 e1 => w8 x c1 k1 y h1 hk1 hf1 (rr _ _ _ _ e1), w9⟩
  · have z : x ≠ a := fun z => hxx (by rw [z]; exact hx)
    obtain ⟨y, q1, q2, q3⟩ := w2 x c' k' hxk hxx hc hk' hf'
    exact ⟨y, by rw [qR_rr, if_neg (fun q => z q.2.2)]; exact q1, q2, q3⟩
  · have z : r ≠ a := fun z => hxr (by rw [z]; exact hx)
    obtain ⟨q1, q2, q3⟩ := w4 r hr hxr
    have e : tg (gsR ρ c k a none) 4 0 r = tg ρ 4 0 r := by rw [tg, tg, qR_rr, if_neg (fun q => z q.2.2)]
    have e2 : rcap (gsR ρ c k a none) r = rcap ρ r := by rw [rcap, rcap, e]; rfl
    rw [e2]
    exact ⟨q1, q2, q3⟩
theorem uns_free {c k a b : Nat} (h : WFx ex ρ) (ha : gkd ρ a = c + 1) (hk : k < gnf c) (hf : grf c k = true) (hb : grr ρ c k a = some b) : Free (gsR ρ c k a none) b := by
  refine ⟨fun x c' k' hx hk' hf' e => ?_, fun x j hx e => h.2.2.2.2.2.2.1 a x c k j b ha hk hf hb hx e⟩
  rw [qR_rr] at e
  by_cases z : c' = c ∧ k' = k ∧ x = a
  · rw [if_pos z] at e
    cases e
  · rw [if_neg z] at e
    exact z (h.2.2.1 x a c' c k' k b hx ha hk' hk hf' hf e hb)
theorem arr_wf {a i b : Nat} (h : WFx ex ρ) (ha : 13 ≤ gkd ρ a) (hb : Free ρ b) (kb : gkd ρ b = elk (gkd ρ a)) (k0 : gkd ρ b ≠ 0) : WFx ex (gsQ ρ a i (some b)) := by
  have ar : ∀ x j y, gar (gsQ ρ a i (some b)) x j = some y → (x = a ∧ j = i ∧ y = b) ∨ (¬ (x = a ∧ j = i) ∧ gar ρ x j = some y) := fun x j y e => by
    rw [qQ_ar] at e
    by_cases z : x = a ∧ j = i
    · rw [if_pos z] at e
      exact Or.inl ⟨z.1, z.2, (Option.some.inj e).symm⟩
    · rw [if_neg z] at e
      exact Or.inr ⟨z, e⟩
  obtain ⟨w1, w2, w3, w4, w5, w6, w7, w8, w9⟩ := h
  refine ⟨w1, w2, w3, w4, fun x j y hx e => ?_, fun x x' j j' y hx hx' e e' => ?_, fun x x' c k j y hx hk hf e hx' e' => ?_, w8, fun x j y hx e => ?_⟩
  · rcases ar _ _ _ e with ⟨rfl, rfl, rfl⟩ | ⟨-, e⟩
    · exact kb
    · exact w5 x j y hx e
  · rcases ar _ _ _ e with ⟨rfl, rfl, rfl⟩ | ⟨-, e1⟩
    · rcases ar _ _ _ e' with ⟨rfl, rfl, -⟩ | ⟨-, e2⟩
      · exact ⟨rfl, rfl⟩
      · exact absurd e2 (hb.2 _ _ hx')
    · rcases ar _ _ _ e' with ⟨rfl, rfl, rfl⟩ | ⟨-, e2⟩
      · exact absurd e1 (hb.2 _ _ hx)
      · exact w6 x x' j j' y hx hx' e1 e2
  · rcases ar _ _ _ e' with ⟨rfl, rfl, rfl⟩ | ⟨-, e2⟩
    · exact hb.1 _ _ _ hx hk hf e
    · exact w7 x x' c k j y hx hk hf e hx' e2
  · rcases ar _ _ _ e with ⟨rfl, rfl, rfl⟩ | ⟨-, e⟩
    · exact k0
    · exact w9 x j y hx e
theorem arr_free {a i b o : Nat} (h : WFx ex ρ) (ha : 13 ≤ gkd ρ a) (ho : gar ρ a i = some o) (hne : o ≠ b) : Free (gsQ ρ a i (some b)) o := by
  refine ⟨fun x c k hx hk hf e => h.2.2.2.2.2.2.1 x a c k i o hx hk hf e ha ho, fun x j hx e => ?_⟩
  rw [qQ_ar] at e
  by_cases z : x = a ∧ j = i
  · rw [if_pos z] at e
    exact hne (Option.some.inj e).symm
  · rw [if_neg z] at e
    exact z (h.2.2.2.2.2.1 x a j i o hx ha e ho)
theorem arr_fre2 {a i b x : Nat} (hx : Free ρ x) (hne : x ≠ b) : Free (gsQ ρ a i (some b)) x := by
  refine ⟨hx.1, fun y j hy e => ?_⟩
  rw [qQ_ar] at e
  split at e
  · exact hne (Option.some.inj e).symm
  · exact hx.2 y j hy e
theorem bk_q {a i : Nat} {v : Option Nat} (hR : Rok ρ) : BK 0 ρ (gsQ ρ a i v) ∧ Rok (gsQ ρ a i v) := ⟨fun m hm => Bud.same (σ := ρ) (σ' := gsQ ρ a i v) (fun _ => rfl) rfl rfl rfl hm, hR⟩
theorem mod_q {c k a b i : Nat} {v : Option Nat} (h : WFx ex ρ) (ha : gkd ρ a = c + 1) (hk : k < gnf c) (hf : grf c k = true) (hb : grr ρ c k a = some b) : Mod (fun t x y z => t = 3 ∧ x = c ∧ y = k ∧ z = a) ρ (gsQ ρ b i v) := by
  refine ⟨fun _ _ => rfl, Nat.le_refl _, fun r _ hg => ⟨hg, fun _ => rfl⟩, fun _ _ _ _ _ _ => rfl, fun _ _ _ _ _ _ => rfl, fun c' k' a' b' _ ha' hk' hf' _ e => ⟨rfl, fun hx j => ⟨rfl, ?_⟩⟩⟩
  rw [qQ_ar, if_neg]
  rintro ⟨rfl, -⟩
  obtain ⟨z1, z2, z3⟩ := h.2.2.1 a' a c' c k' k b' ha' ha hk' hk hf' hf e hb
  exact hx ⟨rfl, z1, z2, z3⟩
theorem mod_r {c k a : Nat} {v : Option Nat} (hc : c ≠ 4) (ht : ftk c k < 10) : Mod (fun t x y z => t = 2 ∧ x = c ∧ y = k ∧ z = a) ρ (gsR ρ c k a v) := by
  have e4 : ∀ r, grr (gsR ρ c k a v) 4 0 r = grr ρ 4 0 r := fun r => by rw [qR_rr, if_neg (fun z => hc z.1.symm)]
  refine ⟨fun _ _ => rfl, Nat.le_refl _, fun r _ hg => ⟨by rw [e4]; exact hg, fun _ => ?_⟩, fun _ _ _ _ _ _ => rfl, fun c' k' a' _ _ hx => ?_, fun _ _ _ _ _ _ _ _ _ _ => ⟨rfl, fun _ _ => ⟨rfl, rfl⟩⟩⟩
  · unfold rowL
    have : tg (gsR ρ c k a v) 4 0 r = tg ρ 4 0 r := by rw [tg, tg, e4]
    rw [this]
    rfl
  · rw [qR_rr, if_neg]
    rintro ⟨rfl, rfl, rfl⟩
    rcases hx with hx | hx
    · exact hx ⟨rfl, rfl, rfl, rfl⟩
    · omega
theorem cut_old {s c k g : Nat} {v : Option Nat} (h : WFx ex (cut s ρ)) (hg : g < s) : WFx ex (cut s (gsR ρ c k g v)) := by
  have ne : ∀ x d, gkd (cut s ρ) x = d + 1 → x ≠ g := fun x d hx e => by
    have := (cut_of hx).1
    omega
  have rr : ∀ x c' k' d, gkd (cut s ρ) x = d + 1 → grr (gsR ρ c k g v) c' k' x = grr ρ c' k' x := fun x c' k' d hx => by rw [qR_rr, if_neg (fun z => ne x d hx z.2.2)]
  obtain ⟨w1, w2, w3, w4, w5, w6, w7, w8, w9⟩ := h
  refine ⟨w1, fun x c' k' hx hxx hc hk hf => ?_, fun x x' c1 c2 k1 k2 y h1 h2 hk1 hk2 hf1 hf2 e1 e2 => w3 x x' c1 c2 k1 k2 y h1 h2 hk1 hk2 hf1 hf2 ((rr x c1 k1 c1 h1).symm.trans e1) ((rr x' c2 k2 c2 h2).symm.trans e2), fun r hr hxr => ?_, w5, w6, fun x x' c1 k1 j y h1 hk1 hf1 e1 h2 e2 => w7 x x' c1 k1 j y h1 hk1 hf1 ((rr x c1 k1 c1 h1).symm.trans e1) h2 e2, fun x c1 k1 y h1 hk1 hf1 e1 => w8 x c1 k1 y h1 hk1 hf1 ((rr x c1 k1 c1 h1).symm.trans e1), w9⟩
  · obtain ⟨b, q1, q2, q3⟩ := w2 x c' k' hx hxx hc hk hf
    exact ⟨b, (rr x c' k' c' hx).trans q1, q2, q3⟩
  · obtain ⟨q1, q2, q3⟩ := w4 r hr hxr
    have e : tg (gsR ρ c k g v) 4 0 r = tg ρ 4 0 r := by rw [tg, tg, rr r 4 0 4 hr]
    have e2 : rcap (cut s (gsR ρ c k g v)) r = rcap (cut s ρ) r := by
      show gln ρ (tg (gsR ρ c k g v) 4 0 r) = gln ρ (tg ρ 4 0 r)
      rw [e]
    rw [e2]
    exact ⟨q1, q2, q3⟩
end MG
/-! PROGRAMS THAT MAKE NO OBJECT AND PUT NONE INTO AN ARRAY -/
def Sf (σ σ' : gS) : Prop := (∀ a, gkd σ a = 0 → gkd σ' a = 0 ∨ gkd σ' a = 11) ∧ (∀ a, gkd σ a ≠ 0 → gkd σ' a = gkd σ a) ∧ gsz σ ≤ gsz σ' ∧ ∀ a j, 13 ≤ gkd σ a → gar σ' a j = gar σ a j
theorem Sf.rf {σ : gS} : Sf σ σ := ⟨fun _ h => Or.inl h, fun _ _ => rfl, Nat.le_refl _, fun _ _ _ => rfl⟩
theorem Sf.trans {σ σ1 σ2 : gS} (h : Sf σ σ1) (h2 : Sf σ1 σ2) : Sf σ σ2 := by
  obtain ⟨a1, a2, a3, a4⟩ := h
  obtain ⟨b1, b2, b3, b4⟩ := h2
  refine ⟨fun a ha => ?_, fun a ha => ?_, Nat.le_trans a3 b3, fun a j ha => ?_⟩
  · rcases a1 a ha with z | z
    · exact b1 a z
    · right
      rw [b2 a (by omega), z]
  · rw [b2 a (by rw [a2 a ha]; exact ha), a2 a ha]
  · rw [b4 a j (by rw [a2 a (by omega)]; exact ha), a4 a j ha]
def Qt {α : Type} (m : gM α) : Prop := ∀ σ x, (∀ a, gkd σ a ≠ 0 → a < gsz σ) → m.1 σ = some x → Sf σ x.2 ∧ (∀ a, gkd x.2 a ≠ 0 → a < gsz x.2)
theorem qt_b {α β : Type} {m : gM α} {k : α → gM β} (h : Qt m) (hk : ∀ x, Qt (k x)) : Qt (gb m k) := by
  intro σ y hσ e
  obtain ⟨x, e1, e2⟩ := gb_some e
  obtain ⟨s1, s2⟩ := h σ x hσ e1
  obtain ⟨s3, s4⟩ := hk x.1 x.2 y s2 e2
  exact ⟨s1.trans s3, s4⟩
theorem qt_p {α : Type} {a : α} : Qt (gp a) := fun σ x hσ e => by cases e; exact ⟨Sf.rf, hσ⟩
theorem qt_no {α : Type} : Qt (gno : gM α) := fun σ x hσ e => by cases e
theorem qt_if {α : Type} {c : Prop} [Decidable c] {A B : gM α} (h1 : Qt A) (h2 : Qt B) : Qt (if c then A else B) := by
  by_cases h : c
  · rw [if_pos h]; exact h1
  · rw [if_neg h]; exact h2
theorem qt_q {α : Type} (f : gS → Option α) : Qt (gq f) := by
  intro σ x hσ e
  have e : (f σ).map (fun a => (a, σ)) = some x := e
  cases hf : f σ with
  | none => rw [hf] at e; cases e
  | some a =>
    rw [hf] at e
    cases e
    exact ⟨Sf.rf, hσ⟩
theorem qt_u {f : gS → Option gS} {h : ∀ σ τ, f σ = some τ → gcl τ = gcl σ ∧ gsl τ = gsl σ} (hf : ∀ σ τ, f σ = some τ → gkd τ = gkd σ ∧ gsz τ = gsz σ ∧ gar τ = gar σ) : Qt (gu f h) := by
  intro σ x hσ e
  have e : (f σ).map (fun τ => ((), τ)) = some x := e
  cases hq : f σ with
  | none => rw [hq] at e; cases e
  | some τ =>
    rw [hq] at e
    cases e
    obtain ⟨a1, a2, a3⟩ := hf σ τ hq
    refine ⟨⟨fun a h => Or.inl (by show gkd τ a = 0; rw [a1]; exact h), fun a _ => by show gkd τ a = _; rw [a1], by show _ ≤ gsz τ; omega, fun a j _ => by show gar τ a j = _; rw [a3]⟩, fun a ha => ?_⟩
    have ha : gkd τ a ≠ 0 := ha
    rw [a1] at ha
    show a < gsz τ
    rw [a2]
    exact hσ a ha
theorem qt_wI {c k : Nat} {r : Option Nat} {v : Int32} : Qt (wI c k r v) := qt_u (fun σ τ h => by
  cases r with
  | none => cases h
  | some a =>
    dsimp only at h
    split at h
    · cases h; exact ⟨rfl, rfl, rfl⟩
    · cases h)
theorem qt_wR {c k : Nat} {r v : Option Nat} : Qt (wR c k r v) := qt_u (fun σ τ h => by
  cases r with
  | none => cases h
  | some a =>
    dsimp only at h
    split at h
    · cases h; exact ⟨rfl, rfl, rfl⟩
    · cases h)
theorem qt_sI {t : Nat} {r : Option Nat} {i v : Int32} : Qt (sI t r i v) := qt_u (fun σ τ h => by
  cases r with
  | none => cases h
  | some a =>
    dsimp only at h
    split at h
    · cases h; exact ⟨rfl, rfl, rfl⟩
    · cases h)
theorem qt_cp {a b : Option Nat} {n : Int32} : Qt (cp a b n) := qt_u (fun σ τ h => by
  cases a with
  | none => cases h
  | some a =>
    cases b with
    | none => cases h
    | some b =>
      dsimp only at h
      split at h
      · cases h; exact ⟨rfl, rfl, rfl⟩
      · cases h)
theorem qt_nA {n : Int32} : Qt (nA 1 n) := by
  intro σ x hσ e
  have e : (if ¬ n < 0 ∧ n.toNatClampNeg ≤ 100000 ∧ 1 ≤ gcl σ ∧ n.toNatClampNeg ≤ gsl σ then some (some (gsz σ), gsN σ (1 + 9) n.toNatClampNeg n.toNatClampNeg) else none) = some x := e
  split at e
  · cases e
    refine ⟨⟨fun a h => ?_, fun a h => ?_, Nat.le_succ _, fun a j h => ?_⟩, fun a h => ?_⟩
    · show gkd (gsN σ (1 + 9) _ _) a = 0 ∨ _
      rw [qN_kd]
      split
      · exact Or.inr rfl
      · exact Or.inl h
    · show gkd (gsN σ (1 + 9) _ _) a = _
      rw [qN_kd, if_neg (fun z => by have := hσ a h; omega)]
    · show gar (gsN σ (1 + 9) _ _) a j = _
      rw [qN_ar, if_neg (fun z => by have := hσ a (by omega); omega)]
    · have h : gkd (gsN σ (1 + 9) n.toNatClampNeg n.toNatClampNeg) a ≠ 0 := h
      show a < gsz σ + 1
      rw [qN_kd] at h
      split at h
      · omega
      · have := hσ a h; omega
  · cases e
theorem qt_wp {α : Type} {m : gM α} {σ : gS} {Q : α → gS → Prop} (h : wp m σ Q) (hm : Qt m) (hσ : ∀ a, gkd σ a ≠ 0 → a < gsz σ) : wp m σ (fun x σ' => Q x σ' ∧ Sf σ σ') := by
  obtain ⟨x, e, hx⟩ := h
  exact ⟨x, e, hx, (hm σ x hσ e).1⟩
theorem qt_copy {a : Option Nat} {n : Int32} : Qt (f_J7_copyOf_59c91 a n) := by
  unfold f_J7_copyOf_59c91
  repeat' (first | exact qt_p | exact qt_no | exact qt_q _ | exact qt_wI | exact qt_wR | exact qt_sI | exact qt_cp | exact qt_nA | refine qt_if ?_ ?_ | refine qt_b ?_ (fun _ => ?_))
theorem qt_byteAt {a : Option Nat} {n : Int32} : Qt (f_X5_byteAt a n) := by
  unfold f_X5_byteAt
  repeat' (first | exact qt_p | exact qt_no | exact qt_q _ | exact qt_wI | exact qt_wR | exact qt_sI | exact qt_cp | exact qt_nA | refine qt_if ?_ ?_ | refine qt_b ?_ (fun _ => ?_))
theorem qt_add {a : Option Nat} {n : Int32} : Qt (f_X5_add a n) := by
  unfold f_X5_add f_X5_add_40
  have T : ∀ {v : Option Nat} {i x : Int32}, Qt (gb (sI 1 v i x) fun _ => gb (rI 4 1 a) fun v3 => gb (wI 4 1 a (v3 + 1)) fun _ => gp ()) := qt_b qt_sI fun _ => qt_b (qt_q _) fun _ => qt_b qt_wI fun _ => qt_p
  have U : Qt (gb (rR 4 0 a) fun v1 => gb (rI 4 1 a) fun v2 => gb (sI 1 v1 v2 n) fun _ => gb (rI 4 1 a) fun v3 => gb (wI 4 1 a (v3 + 1)) fun _ => gp ()) := qt_b (qt_q _) fun _ => qt_b (qt_q _) fun _ => T
  exact qt_b (qt_q _) fun _ => qt_if (qt_b (qt_q _) fun _ => qt_b (qt_q _) fun _ => qt_b (qt_q _) fun _ => qt_if U (qt_b (qt_q _) fun _ => qt_b (qt_q _) fun _ => qt_b qt_copy fun _ => qt_b qt_wR fun _ => U)) qt_p
theorem qt_take {a b : Option Nat} : Qt (f_X5_take a b) := by
  unfold f_X5_take
  have L : ∀ (n : Nat) (x y : Int32) (z : Nat), Qt (f_X5_take_L12 n a b x y) ∧ z = z := by
    intro n
    induction n with
    | zero => exact fun x y z => ⟨qt_no, rfl⟩
    | succ n ih =>
      intro x y z
      refine ⟨?_, rfl⟩
      rw [f_X5_take_L12]
      unfold f_X5_take_12
      refine qt_if qt_p (qt_b (qt_q _) fun _ => qt_b qt_byteAt fun _ => qt_b (qt_q _) fun _ => qt_b qt_add fun _ => (ih _ _ 0).1)
  exact qt_b (qt_q _) fun _ => qt_b qt_wI fun _ => (L _ _ _ 0).1
theorem qt_setTo {a : Option Nat} {p q r s t : Int32} : Qt (f_X0_setTo a p q r s t) := by
  unfold f_X0_setTo f_X0_setTo_19 f_X0_setTo_36 f_X0_setTo_54 f_X0_setTo_72
  repeat' (first | exact qt_p | exact qt_no | exact qt_q _ | exact qt_wI | exact qt_wR | exact qt_sI | exact qt_cp | exact qt_nA | refine qt_if ?_ ?_ | refine qt_b ?_ (fun _ => ?_))
theorem qt_atake {a b : Option Nat} : Qt (f_X0_take a b) := by
  unfold f_X0_take
  exact qt_b (qt_q _) fun _ => qt_b (qt_q _) fun _ => qt_b (qt_q _) fun _ => qt_b (qt_q _) fun _ => qt_b (qt_q _) fun _ => qt_b (qt_q _) fun _ => qt_b (qt_q _) fun _ => qt_b (qt_q _) fun _ => qt_b (qt_q _) fun _ => qt_b (qt_q _) fun _ => qt_b qt_setTo fun _ => qt_p
theorem qt_htake {a b : Option Nat} : Qt (f_X3_take a b) := by
  unfold f_X3_take
  exact qt_b (qt_q _) fun _ => qt_b (qt_q _) fun _ => qt_b (qt_q _) fun _ => qt_b qt_atake fun _ => qt_b (qt_q _) fun _ => qt_b (qt_q _) fun _ => qt_b (qt_q _) fun _ => qt_b qt_take fun _ => qt_p
/-- what was free stays free -/
theorem Sf.free {ex : Nat → Prop} {X : Nat → Nat → Nat → Nat → Prop} {σ σ' : gS} {b : Nat} (hS : Sf σ σ') (hM : Mod X σ σ') (hX : ∀ c k a, ¬ X 2 c k a) (h' : WFx ex σ') (hx : ∀ r, gkd σ' r = 5 → ¬ ex r) (hb : Free σ b) (kb : gkd σ b ≠ 0) (kb2 : gkd σ b ≠ 11) : Free σ' b := by
  obtain ⟨s1, s2, s3, s4⟩ := hS
  refine ⟨fun a c k ha hk hf e => ?_, fun a j ha e => ?_⟩
  · by_cases c4 : c = 4
    · subst c4
      have k0 : k = 0 := by
        rcases Nat.eq_zero_or_pos k with z | z
        · exact z
        · have : k = 1 := by have : gnf 4 = 2 := rfl; omega
          subst this
          cases hf
      subst k0
      obtain ⟨q1, q2, -⟩ := h'.row ha (hx a ha)
      rw [q1] at e
      rw [Option.some.inj e, s2 b kb] at q2
      exact kb2 q2
    · by_cases z : gkd σ a = 0
      · rcases s1 a z with y | y
        · rw [y] at ha; cases ha
        · rw [y] at ha
          have : c = 10 := by omega
          subst this
          have : gnf 10 = 0 := rfl
          omega
      · have ka : gkd σ a = c + 1 := by rw [← s2 a z]; exact ha
        rw [hM.2.2.2.2.1 c k a c4 ka (Or.inl (hX c k a))] at e
        exact hb.1 a c k ka hk hf e
  · by_cases z : gkd σ a = 0
    · rcases s1 a z with y | y <;> omega
    · have ka : 13 ≤ gkd σ a := by rw [← s2 a z]; exact ha
      rw [s4 a j ka] at e
      exact hb.2 a j ka e
