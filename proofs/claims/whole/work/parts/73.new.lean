/-! NEW THINGS -/
/-- the part of the state from address s on -/
def cut (s : Nat) (σ : gS) : gS := (fun a => if a < s then 0 else gkd σ a, σ.2)
theorem cut_kd (s : Nat) (σ : gS) (a : Nat) : gkd (cut s σ) a = if a < s then 0 else gkd σ a := rfl
theorem cut_ge {s : Nat} {σ : gS} {a : Nat} (h : s ≤ a) : gkd (cut s σ) a = gkd σ a := by rw [cut_kd, if_neg (by omega)]
theorem cut_of {s : Nat} {σ : gS} {a d : Nat} (h : gkd (cut s σ) a = d + 1) : s ≤ a ∧ gkd σ a = d + 1 := by
  rw [cut_kd] at h
  by_cases c : a < s
  · rw [if_pos c] at h; omega
  · rw [if_neg c] at h; exact ⟨by omega, h⟩
theorem cut_gsR (s : Nat) (σ : gS) (c k a : Nat) (v : Option Nat) : cut s (gsR σ c k a v) = gsR (cut s σ) c k a v := rfl
theorem cut_gsI (s : Nat) (σ : gS) (c k a : Nat) (v : Int32) : cut s (gsI σ c k a v) = gsI (cut s σ) c k a v := rfl
theorem cut_gsN {s : Nat} {σ : gS} (h : s ≤ gsz σ) (d n w : Nat) : cut s (gsN σ d n w) = gsN (cut s σ) d n w := by
  show (_, _) = (_, _)
  congr 1
  funext a
  show (if a < s then 0 else if a = gsz σ then d + 1 else gkd σ a) = if a = gsz σ then d + 1 else if a < s then 0 else gkd σ a
  by_cases c : a < s
  · rw [if_pos c, if_neg (by omega), if_pos c]
  · rw [if_neg c, if_neg c]
def Free (σ : gS) (b : Nat) : Prop := (∀ a c k, gkd σ a = c + 1 → k < gnf c → grf c k = true → grr σ c k a ≠ some b) ∧ (∀ a j, 13 ≤ gkd σ a → gar σ a j ≠ some b)
/-- what was there stays as it is -/
def Od (σ σ' : gS) : Prop := gsz σ ≤ gsz σ' ∧ ∀ a, a < gsz σ → gkd σ' a = gkd σ a ∧ (∀ c k, gii σ' c k a = gii σ c k a) ∧ (∀ c k, grr σ' c k a = grr σ c k a) ∧ gln σ' a = gln σ a ∧ (∀ j, gai σ' a j = gai σ a j) ∧ (∀ j, gar σ' a j = gar σ a j)
theorem Od.rf {σ : gS} : Od σ σ := ⟨Nat.le_refl _, fun _ _ => ⟨rfl, fun _ _ => rfl, fun _ _ => rfl, rfl, fun _ => rfl, fun _ => rfl⟩⟩
theorem Od.trans {σ σ1 σ2 : gS} (h : Od σ σ1) (h2 : Od σ1 σ2) : Od σ σ2 := by
  refine ⟨Nat.le_trans h.1 h2.1, fun a ha => ?_⟩
  obtain ⟨a1, a2, a3, a4, a5, a6⟩ := h.2 a ha
  obtain ⟨b1, b2, b3, b4, b5, b6⟩ := h2.2 a (Nat.lt_of_lt_of_le ha h.1)
  exact ⟨b1.trans a1, fun c k => (b2 c k).trans (a2 c k), fun c k => (b3 c k).trans (a3 c k), b4.trans a4, fun j => (b5 j).trans (a5 j), fun j => (b6 j).trans (a6 j)⟩
theorem Od.new {σ : gS} {d n w : Nat} : Od σ (gsN σ d n w) := by
  refine ⟨by rw [qN_sz]; omega, fun a ha => ?_⟩
  have hn : a ≠ gsz σ := by omega
  refine ⟨by rw [qN_kd, if_neg hn], fun c k => by rw [qN_ii, if_neg hn], fun c k => by rw [qN_rr, if_neg hn], by rw [qN_ln, if_neg hn], fun j => by rw [qN_ai, if_neg hn], fun j => by rw [qN_ar, if_neg hn]⟩
theorem Od.r {σ0 σ : gS} {c k a : Nat} {v : Option Nat} (h : Od σ0 σ) (ha : gsz σ0 ≤ a) : Od σ0 (gsR σ c k a v) := by
  refine ⟨h.1, fun x hx => ?_⟩
  obtain ⟨a1, a2, a3, a4, a5, a6⟩ := h.2 x hx
  exact ⟨a1, a2, fun c' k' => by rw [qR_rr, if_neg (fun z => by omega)]; exact a3 c' k', a4, a5, a6⟩
theorem Od.i {σ0 σ : gS} {c k a : Nat} {v : Int32} (h : Od σ0 σ) (ha : gsz σ0 ≤ a) : Od σ0 (gsI σ c k a v) := by
  refine ⟨h.1, fun x hx => ?_⟩
  obtain ⟨a1, a2, a3, a4, a5, a6⟩ := h.2 x hx
  exact ⟨a1, fun c' k' => by rw [qI_ii, if_neg (fun z => by omega)]; exact a2 c' k', a3, a4, a5, a6⟩
section NW
variable {ex : Nat → Prop} {ρ : gS}
theorem new_wf {d n w : Nat} (h : WFx ex ρ) : WFx (fun x => ex x ∨ x = gsz ρ) (gsN ρ d n w) := by
  have lt : ∀ a, gkd ρ a ≠ 0 → a < gsz ρ := h.1
  have kd1 : ∀ a, a ≠ gsz ρ → gkd (gsN ρ d n w) a = gkd ρ a := fun a ha => by rw [qN_kd, if_neg ha]
  have kd0 : ∀ a, gkd ρ a ≠ 0 → gkd (gsN ρ d n w) a = gkd ρ a := fun a ha => kd1 a (fun e => by have := lt a ha; omega)
  have rr : ∀ a c k b, grr (gsN ρ d n w) c k a = some b → a ≠ gsz ρ ∧ grr ρ c k a = some b := fun a c k b e => by
    rw [qN_rr] at e
    by_cases z : a = gsz ρ
    · rw [if_pos z] at e; cases e
    · rw [if_neg z] at e; exact ⟨z, e⟩
  have ar : ∀ a j b, gar (gsN ρ d n w) a j = some b → a ≠ gsz ρ ∧ gar ρ a j = some b := fun a j b e => by
    rw [qN_ar] at e
    by_cases z : a = gsz ρ
    · rw [if_pos z] at e; cases e
    · rw [if_neg z] at e; exact ⟨z, e⟩
  obtain ⟨w1, w2, w3, w4, w5, w6, w7, w8, w9⟩ := h
  refine ⟨fun a ha => ?_, fun a c k ha hx hc hk hf => ?_, fun a a' c c' k k' b ha ha' hk hk' hf hf' e e' => ?_, fun r hr hx => ?_, fun a j b ha e => ?_, fun a a' j j' b ha ha' e e' => ?_, fun a a' c k j b ha hk hf e ha' e' => ?_, fun a c k b ha hk hf e => ?_, fun a j b ha e => ?_⟩
  · rw [qN_sz]
    by_cases z : a = gsz ρ
    · omega
    · rw [kd1 a z] at ha
      have := lt a ha
      omega
  · have z : a ≠ gsz ρ := fun z => hx (Or.inr z)
    rw [kd1 a z] at ha
    obtain ⟨b, q1, q2, q3⟩ := w2 a c k ha (fun y => hx (Or.inl y)) hc hk hf
    have hb := w8 a c k b ha hk hf q1
    have zb : b ≠ gsz ρ := fun e => by have := lt b hb; omega
    exact ⟨b, by rw [qN_rr, if_neg z]; exact q1, by rw [kd1 b zb]; exact q2, fun y => by rw [qN_ln, if_neg zb]; exact q3 y⟩
  · obtain ⟨z, e⟩ := rr _ _ _ _ e
    obtain ⟨z', e'⟩ := rr _ _ _ _ e'
    rw [kd1 a z] at ha
    rw [kd1 a' z'] at ha'
    exact w3 a a' c c' k k' b ha ha' hk hk' hf hf' e e'
  · have z : r ≠ gsz ρ := fun z => hx (Or.inr z)
    rw [kd1 r z] at hr
    obtain ⟨q1, q2, q3⟩ := w4 r hr (fun y => hx (Or.inl y))
    obtain ⟨b, p1, p2, -⟩ := w2 r 4 0 hr (fun y => hx (Or.inl y)) (by decide) (by decide) rfl
    have zb : b ≠ gsz ρ := fun e => by have := lt b (by rw [p2]; decide); omega
    have e1 : rlen (gsN ρ d n w) r = rlen ρ r := by rw [rlen, rlen, qN_ii, if_neg z]
    have e2 : tg (gsN ρ d n w) 4 0 r = b := tg_of (by rw [qN_rr, if_neg z]; exact p1)
    have e3 : rcap (gsN ρ d n w) r = rcap ρ r := by rw [rcap, rcap, e2, tg_of p1, qN_ln, if_neg zb]
    rw [e1, e3, qN_ii, if_neg z]
    exact ⟨q1, q2, q3⟩
  · obtain ⟨z, e⟩ := ar _ _ _ e
    rw [kd1 a z] at ha ⊢
    rw [kd0 b (w9 a j b ha e)]
    exact w5 a j b ha e
  · obtain ⟨z, e⟩ := ar _ _ _ e
    obtain ⟨z', e'⟩ := ar _ _ _ e'
    rw [kd1 a z] at ha
    rw [kd1 a' z'] at ha'
    exact w6 a a' j j' b ha ha' e e'
  · obtain ⟨z, e⟩ := rr _ _ _ _ e
    obtain ⟨z', e'⟩ := ar _ _ _ e'
    rw [kd1 a z] at ha
    rw [kd1 a' z'] at ha'
    exact w7 a a' c k j b ha hk hf e ha' e'
  · obtain ⟨z, e⟩ := rr _ _ _ _ e
    rw [kd1 a z] at ha
    have := w8 a c k b ha hk hf e
    rw [kd0 b this]
    exact this
  · obtain ⟨z, e⟩ := ar _ _ _ e
    rw [kd1 a z] at ha
    have := w9 a j b ha e
    rw [kd0 b this]
    exact this
theorem new_free {d n w : Nat} (h : WFx ex ρ) : Free (gsN ρ d n w) (gsz ρ) ∧ ∀ b, Free ρ b → Free (gsN ρ d n w) b := by
  have key : ∀ b, ((∀ a c k, a ≠ gsz ρ → gkd ρ a = c + 1 → k < gnf c → grf c k = true → grr ρ c k a ≠ some b) ∧ (∀ a j, a ≠ gsz ρ → 13 ≤ gkd ρ a → gar ρ a j ≠ some b)) → Free (gsN ρ d n w) b := by
    intro b hb
    refine ⟨fun a c k ha hk hf e => ?_, fun a j ha e => ?_⟩
    · rw [qN_rr] at e
      by_cases z : a = gsz ρ
      · rw [if_pos z] at e; cases e
      · rw [if_neg z] at e
        rw [qN_kd, if_neg z] at ha
        exact hb.1 a c k z ha hk hf e
    · rw [qN_ar] at e
      by_cases z : a = gsz ρ
      · rw [if_pos z] at e; cases e
      · rw [if_neg z] at e
        rw [qN_kd, if_neg z] at ha
        exact hb.2 a j z ha e
  refine ⟨key _ ⟨fun a c k _ ha hk hf e => ?_, fun a j _ ha e => ?_⟩, fun b hb => key b ⟨fun a c k _ ha hk hf e => hb.1 a c k ha hk hf e, fun a j _ ha e => hb.2 a j ha e⟩⟩
  · have := h.1 _ (h.2.2.2.2.2.2.2.1 a c k _ ha hk hf e)
    omega
  · have := h.1 _ (h.2.2.2.2.2.2.2.2 a j _ ha e)
    omega
theorem set_wf {c k a b : Nat} (h : WFx ex ρ) (ha : gkd ρ a = c + 1) (hx : ex a) (hk : k < gnf c) (hf : grf c k = true) (hb : Free ρ b) (kb : gkd ρ b ≠ 0) : WFx ex (gsR ρ c k a (some b)) := by
  have rr : ∀ x c' k' y, grr (gsR ρ c k a (some b)) c' k' x = some y → (c' = c ∧ k' = k ∧ x = a ∧ y = b) ∨ (¬ (c' = c ∧ k' = k ∧ x = a) ∧ grr ρ c' k' x = some y) := fun x c' k' y e => by
    rw [qR_rr] at e
    by_cases z : c' = c ∧ k' = k ∧ x = a
    · rw [if_pos z] at e
      exact Or.inl ⟨z.1, z.2.1, z.2.2, (Option.some.inj e).symm⟩
    · rw [if_neg z] at e
      exact Or.inr ⟨z, e⟩
  obtain ⟨w1, w2, w3, w4, w5, w6, w7, w8, w9⟩ := h
  refine ⟨w1, fun x c' k' hxk hxx hc hk' hf' => ?_, fun x x' c1 c2 k1 k2 y h1 h2 hk1 hk2 hf1 hf2 e1 e2 => ?_, fun r hr hxr => ?_, w5, w6, fun x x' c1 k1 j y h1 hk1 hf1 e1 h2 e2 => ?_, fun x c1 k1 y h1 hk1 hf1 e1 => ?_, w9⟩
  · have z : x ≠ a := fun z => hxx (by rw [z]; exact hx)
    obtain ⟨y, q1, q2, q3⟩ := w2 x c' k' hxk hxx hc hk' hf'
    exact ⟨y, by rw [qR_rr, if_neg (fun q => z q.2.2)]; exact q1, q2, q3⟩
  · rcases rr _ _ _ _ e1 with ⟨rfl, rfl, rfl, rfl⟩ | ⟨n1, e1'⟩
    · rcases rr _ _ _ _ e2 with ⟨rfl, rfl, rfl, -⟩ | ⟨n2, e2'⟩
      · exact ⟨rfl, rfl, rfl⟩
      · exact absurd e2' (hb.1 _ _ _ h2 hk2 hf2)
    · rcases rr _ _ _ _ e2 with ⟨rfl, rfl, rfl, rfl⟩ | ⟨n2, e2'⟩
      · exact absurd e1' (hb.1 _ _ _ h1 hk1 hf1)
      · exact w3 x x' c1 c2 k1 k2 y h1 h2 hk1 hk2 hf1 hf2 e1' e2'
  · have z : r ≠ a := fun z => hxr (by rw [z]; exact hx)
    obtain ⟨q1, q2, q3⟩ := w4 r hr hxr
    have e : tg (gsR ρ c k a (some b)) 4 0 r = tg ρ 4 0 r := by rw [tg, tg, qR_rr, if_neg (fun q => z q.2.2)]
    have e2 : rcap (gsR ρ c k a (some b)) r = rcap ρ r := by rw [rcap, rcap, e]; rfl
    rw [e2]
    exact ⟨q1, q2, q3⟩
  · rcases rr _ _ _ _ e1 with ⟨rfl, rfl, rfl, rfl⟩ | ⟨n1, e1⟩
    · exact hb.2 _ _ h2 e2
    · exact w7 x x' c1 k1 j y h1 hk1 hf1 e1 h2 e2
  · rcases rr _ _ _ _ e1 with ⟨rfl, rfl, rfl, rfl⟩ | ⟨n1, e1⟩
    · exact kb
    · exact w8 x c1 k1 y h1 hk1 hf1 e1
theorem set_free {c k a b x : Nat} (hx : Free ρ x) (hne : x ≠ b) : Free (gsR ρ c k a (some b)) x := by
  refine ⟨fun y c' k' hy hk hf e => ?_, hx.2⟩
  rw [qR_rr] at e
  split at e
  · exact hne (Option.some.inj e).symm
  · exact hx.1 y c' k' hy hk hf e
theorem int_wf {c k a : Nat} {v : Int32} (h : WFx ex ρ) (hx : ex a) : WFx ex (gsI ρ c k a v) := by
  obtain ⟨w1, w2, w3, w4, w5, w6, w7, w8, w9⟩ := h
  refine ⟨w1, w2, w3, fun r hr hxr => ?_, w5, w6, w7, w8, w9⟩
  have z : r ≠ a := fun z => hxr (by rw [z]; exact hx)
  obtain ⟨q1, q2, q3⟩ := w4 r hr hxr
  have e : gii (gsI ρ c k a v) 4 1 r = gii ρ 4 1 r := by rw [qI_ii, if_neg (fun q => z q.2.2)]
  rw [e]
  have e1 : rlen (gsI ρ c k a v) r = rlen ρ r := by rw [rlen, rlen, e]
  rw [e1]
  exact ⟨q1, q2, q3⟩
theorem int_free {c k a x : Nat} {v : Int32} (hx : Free ρ x) : Free (gsI ρ c k a v) x := hx
theorem close_wf {a : Nat} (h : WFx (fun x => ex x ∨ x = a) ρ) (hf : ∀ c k, gkd ρ a = c + 1 → c < 9 → k < gnf c → grf c k = true → ∃ b, grr ρ c k a = some b ∧ gkd ρ b = ftk c k ∧ (fln c k ≠ 0 → gln ρ b = fln c k)) (hr : gkd ρ a = 5 → gii ρ 4 1 a = nI (rlen ρ a) ∧ rlen ρ a ≤ rcap ρ a ∧ ∃ i, i ≤ 7 ∧ rcap ρ a = 32 * 2 ^ i) : WFx ex ρ := by
  obtain ⟨w1, w2, w3, w4, w5, w6, w7, w8, w9⟩ := h
  refine ⟨w1, fun x c k hxk hxx hc hk hff => ?_, w3, fun r hrr hxr => ?_, w5, w6, w7, w8, w9⟩
  · by_cases z : x = a
    · rw [z] at hxk ⊢
      exact hf c k hxk hc hk hff
    · exact w2 x c k hxk (fun y => y.elim hxx z) hc hk hff
  · by_cases z : r = a
    · rw [z] at hrr ⊢
      exact hr hrr
    · exact w4 r hrr (fun y => y.elim hxr z)
end NW
/-- rows' arrays are there -/
def Rok (σ : gS) : Prop := (∀ a, gkd σ a ≠ 0 → a < gsz σ) ∧ (∀ a b, gkd σ a = 5 → grr σ 4 0 a = some b → b < gsz σ)
theorem WFx.rok {ex : Nat → Prop} {σ : gS} (h : WFx ex σ) : Rok σ := ⟨h.1, fun a b ha hb => h.1 b (h.2.2.2.2.2.2.2.1 a 4 0 b ha (by decide) rfl hb)⟩
theorem pot_od {σ σ' : gS} (hR : Rok σ) (hO : Od σ σ') {a : Nat} (ha : a < gsz σ) : pot σ' a = pot σ a := by
  obtain ⟨a1, a2, a3, a4, a5, a6⟩ := hO.2 a ha
  unfold pot
  rw [a1]
  by_cases hk : gkd σ a = 5
  · rw [if_pos hk, if_pos hk]
    have e : rcap σ' a = rcap σ a := by
      rw [rcap, rcap, tg, tg, a3]
      cases hg : grr σ 4 0 a with
      | none => exact (hO.2 0 (by omega)).2.2.2.1
      | some b => exact (hO.2 b (hR.2 a b hk hg)).2.2.2.1
    rw [e]
  · rw [if_neg hk, if_neg hk]
/-- one thing more that is no row -/
theorem bk_new {σ : gS} {d n w : Nat} (hR : Rok σ) (hd : d ≠ 4) : BK (w + 64) σ (gsN σ d n w) ∧ Rok (gsN σ d n w) := by
  have e1 : psum (gsN σ d n w) (gsz σ) = psum σ (gsz σ) := psum_congr (fun a ha => pot_od hR Od.new ha)
  have e2 : pot (gsN σ d n w) (gsz σ) = 0 := by
    unfold pot
    rw [qN_kd, if_pos rfl, if_neg (by omega)]
  refine ⟨fun m hm => ?_, fun a ha => ?_, fun a b ha hb => ?_⟩
  · obtain ⟨h1, h2⟩ := hm
    unfold Bud
    rw [qN_sz, qN_cl, qN_sl]
    show psum (gsN σ d n w) (gsz σ) + pot (gsN σ d n w) (gsz σ) + m ≤ _ ∧ psum (gsN σ d n w) (gsz σ) + pot (gsN σ d n w) (gsz σ) + m ≤ _
    rw [e1, e2]
    omega
  · rw [qN_kd] at ha
    rw [qN_sz]
    split at ha
    · omega
    · have := hR.1 a ha; omega
  · rw [qN_kd] at ha
    rw [qN_rr] at hb
    rw [qN_sz]
    split at hb
    · cases hb
    · rename_i z
      rw [if_neg z] at ha
      have := hR.2 a b ha hb
      omega
theorem bk_r {σ : gS} {c k a : Nat} {v : Option Nat} (hR : Rok σ) (hc : c ≠ 4) : BK 0 σ (gsR σ c k a v) ∧ Rok (gsR σ c k a v) := by
  have e : ∀ x, grr (gsR σ c k a v) 4 0 x = grr σ 4 0 x := fun x => by rw [qR_rr, if_neg (fun z => hc z.1.symm)]
  refine ⟨fun m hm => Bud.same (σ := σ) (σ' := gsR σ c k a v) (fun x => ?_) rfl rfl rfl hm, hR.1, fun x b hx hb => by rw [e] at hb; exact hR.2 x b hx hb⟩
  unfold pot
  have : rcap (gsR σ c k a v) x = rcap σ x := by rw [rcap, rcap, tg, tg, e]; rfl
  rw [this]
  rfl
theorem bk_i {σ : gS} {c k a : Nat} {v : Int32} (hR : Rok σ) : BK 0 σ (gsI σ c k a v) ∧ Rok (gsI σ c k a v) := ⟨fun m hm => Bud.same (σ := σ) (σ' := gsI σ c k a v) (fun _ => rfl) rfl rfl rfl hm, hR⟩
theorem Bud.le {σ : gS} {m n : Nat} (h : Bud σ m) (hn : n ≤ m) : Bud σ n := ⟨by have := h.1; omega, by have := h.2; omega⟩
theorem Bud.rm {σ : gS} {n : Nat} (h : Bud σ n) : n ≤ gsl σ ∧ n ≤ 64 * gcl σ := ⟨by have := h.1; omega, by have := h.2; omega⟩
/-- a unit of new things, from address s on -/
def Ext (s : Nat) (ex : Nat → Prop) (σ σ' : gS) (d : Nat) : Prop := WFx ex (cut s σ') ∧ Od σ σ' ∧ (∀ b, b < gsz σ → Free (cut s σ) b → Free (cut s σ') b) ∧ BK d σ σ' ∧ Rok σ'
theorem u_arr {s : Nat} {ex : Nat → Prop} {σ : gS} {t n : Nat} (h : WFx ex (cut s σ)) (hs : s ≤ gsz σ) (hR : Rok σ) : Ext s ex σ (gsN σ (t + 9) n n) (n + 64) ∧ Free (cut s (gsN σ (t + 9) n n)) (gsz σ) := by
  obtain ⟨b1, b2⟩ := bk_new (d := t + 9) (n := n) (w := n) hR (by omega)
  have N := new_wf (d := t + 9) (n := n) (w := n) h
  obtain ⟨f1, f2⟩ := new_free (d := t + 9) (n := n) (w := n) h
  rw [Ext, cut_gsN hs]
  refine ⟨⟨close_wf (a := gsz σ) N (fun c k hk hc _ _ => ?_) (fun hk => ?_), Od.new, fun b _ hb => f2 b hb, b1, b2⟩, f1⟩
  · rw [qN_kd, if_pos (show gsz σ = gsz (cut s σ) from rfl)] at hk; omega
  · rw [qN_kd, if_pos (show gsz σ = gsz (cut s σ) from rfl)] at hk; omega
