theorem qI_kd (σ : gS) (c k a : Nat) (v : Int32) : gkd (gsI σ c k a v) = gkd σ := rfl
theorem qI_ii (σ : gS) (c k a : Nat) (v : Int32) (c' k' a' : Nat) : gii (gsI σ c k a v) c' k' a' = if c' = c ∧ k' = k ∧ a' = a then v else gii σ c' k' a' := rfl
theorem qI_rr (σ : gS) (c k a : Nat) (v : Int32) : grr (gsI σ c k a v) = grr σ := rfl
theorem qI_ln (σ : gS) (c k a : Nat) (v : Int32) : gln (gsI σ c k a v) = gln σ := rfl
theorem qI_ai (σ : gS) (c k a : Nat) (v : Int32) : gai (gsI σ c k a v) = gai σ := rfl
theorem qI_ar (σ : gS) (c k a : Nat) (v : Int32) : gar (gsI σ c k a v) = gar σ := rfl
theorem qI_sz (σ : gS) (c k a : Nat) (v : Int32) : gsz (gsI σ c k a v) = gsz σ := rfl
theorem qI_cl (σ : gS) (c k a : Nat) (v : Int32) : gcl (gsI σ c k a v) = gcl σ := rfl
theorem qI_sl (σ : gS) (c k a : Nat) (v : Int32) : gsl (gsI σ c k a v) = gsl σ := rfl
theorem qR_kd (σ : gS) (c k a : Nat) (v : Option Nat) : gkd (gsR σ c k a v) = gkd σ := rfl
theorem qR_ii (σ : gS) (c k a : Nat) (v : Option Nat) : gii (gsR σ c k a v) = gii σ := rfl
theorem qR_rr (σ : gS) (c k a : Nat) (v : Option Nat) (c' k' a' : Nat) : grr (gsR σ c k a v) c' k' a' = if c' = c ∧ k' = k ∧ a' = a then v else grr σ c' k' a' := rfl
theorem qR_ln (σ : gS) (c k a : Nat) (v : Option Nat) : gln (gsR σ c k a v) = gln σ := rfl
theorem qR_ai (σ : gS) (c k a : Nat) (v : Option Nat) : gai (gsR σ c k a v) = gai σ := rfl
theorem qR_ar (σ : gS) (c k a : Nat) (v : Option Nat) : gar (gsR σ c k a v) = gar σ := rfl
theorem qR_sz (σ : gS) (c k a : Nat) (v : Option Nat) : gsz (gsR σ c k a v) = gsz σ := rfl
theorem qR_cl (σ : gS) (c k a : Nat) (v : Option Nat) : gcl (gsR σ c k a v) = gcl σ := rfl
theorem qR_sl (σ : gS) (c k a : Nat) (v : Option Nat) : gsl (gsR σ c k a v) = gsl σ := rfl
theorem qA_kd (σ : gS) (a i : Nat) (v : Int32) : gkd (gsA σ a i v) = gkd σ := rfl
theorem qA_ii (σ : gS) (a i : Nat) (v : Int32) : gii (gsA σ a i v) = gii σ := rfl
theorem qA_rr (σ : gS) (a i : Nat) (v : Int32) : grr (gsA σ a i v) = grr σ := rfl
theorem qA_ln (σ : gS) (a i : Nat) (v : Int32) : gln (gsA σ a i v) = gln σ := rfl
theorem qA_ai (σ : gS) (a i : Nat) (v : Int32) (x j : Nat) : gai (gsA σ a i v) x j = if x = a ∧ j = i then v else gai σ x j := rfl
theorem qA_ar (σ : gS) (a i : Nat) (v : Int32) : gar (gsA σ a i v) = gar σ := rfl
theorem qA_sz (σ : gS) (a i : Nat) (v : Int32) : gsz (gsA σ a i v) = gsz σ := rfl
theorem qA_cl (σ : gS) (a i : Nat) (v : Int32) : gcl (gsA σ a i v) = gcl σ := rfl
theorem qA_sl (σ : gS) (a i : Nat) (v : Int32) : gsl (gsA σ a i v) = gsl σ := rfl
theorem qQ_kd (σ : gS) (a i : Nat) (v : Option Nat) : gkd (gsQ σ a i v) = gkd σ := rfl
theorem qQ_ii (σ : gS) (a i : Nat) (v : Option Nat) : gii (gsQ σ a i v) = gii σ := rfl
theorem qQ_rr (σ : gS) (a i : Nat) (v : Option Nat) : grr (gsQ σ a i v) = grr σ := rfl
theorem qQ_ln (σ : gS) (a i : Nat) (v : Option Nat) : gln (gsQ σ a i v) = gln σ := rfl
theorem qQ_ai (σ : gS) (a i : Nat) (v : Option Nat) : gai (gsQ σ a i v) = gai σ := rfl
theorem qQ_ar (σ : gS) (a i : Nat) (v : Option Nat) (x j : Nat) : gar (gsQ σ a i v) x j = if x = a ∧ j = i then v else gar σ x j := rfl
theorem qQ_sz (σ : gS) (a i : Nat) (v : Option Nat) : gsz (gsQ σ a i v) = gsz σ := rfl
theorem qQ_cl (σ : gS) (a i : Nat) (v : Option Nat) : gcl (gsQ σ a i v) = gcl σ := rfl
theorem qQ_sl (σ : gS) (a i : Nat) (v : Option Nat) : gsl (gsQ σ a i v) = gsl σ := rfl
theorem qN_kd (σ : gS) (d n w : Nat) (x : Nat) : gkd (gsN σ d n w) x = if x = gsz σ then d + 1 else gkd σ x := rfl
theorem qN_ii (σ : gS) (d n w : Nat) (c k x : Nat) : gii (gsN σ d n w) c k x = if x = gsz σ then 0 else gii σ c k x := rfl
theorem qN_rr (σ : gS) (d n w : Nat) (c k x : Nat) : grr (gsN σ d n w) c k x = if x = gsz σ then none else grr σ c k x := rfl
theorem qN_ln (σ : gS) (d n w : Nat) (x : Nat) : gln (gsN σ d n w) x = if x = gsz σ then n else gln σ x := rfl
theorem qN_ai (σ : gS) (d n w : Nat) (x j : Nat) : gai (gsN σ d n w) x j = if x = gsz σ then 0 else gai σ x j := rfl
theorem qN_ar (σ : gS) (d n w : Nat) (x j : Nat) : gar (gsN σ d n w) x j = if x = gsz σ then none else gar σ x j := rfl
theorem qN_sz (σ : gS) (d n w : Nat) : gsz (gsN σ d n w) = gsz σ + 1 := rfl
theorem qN_cl (σ : gS) (d n w : Nat) : gcl (gsN σ d n w) = gcl σ - 1 := rfl
theorem qN_sl (σ : gS) (d n w : Nat) : gsl (gsN σ d n w) = gsl σ - w := rfl
theorem qC_kd (σ : gS) (a b n : Nat) : gkd (gsC σ a b n) = gkd σ := rfl
theorem qC_ii (σ : gS) (a b n : Nat) : gii (gsC σ a b n) = gii σ := rfl
theorem qC_rr (σ : gS) (a b n : Nat) : grr (gsC σ a b n) = grr σ := rfl
theorem qC_ln (σ : gS) (a b n : Nat) : gln (gsC σ a b n) = gln σ := rfl
theorem qC_ai (σ : gS) (a b n : Nat) (x j : Nat) : gai (gsC σ a b n) x j = if x = b ∧ j < n then gai σ a j else gai σ x j := rfl
theorem qC_ar (σ : gS) (a b n : Nat) : gar (gsC σ a b n) = gar σ := rfl
theorem qC_sz (σ : gS) (a b n : Nat) : gsz (gsC σ a b n) = gsz σ := rfl
theorem qC_cl (σ : gS) (a b n : Nat) : gcl (gsC σ a b n) = gcl σ := rfl
theorem qC_sl (σ : gS) (a b n : Nat) : gsl (gsC σ a b n) = gsl σ := rfl
/-- a row's array is its own -/
theorem WFx.own {ex : Nat → Prop} {σ : gS} (h : WFx ex σ) {a c k r b : Nat} (ha : gkd σ a = c + 1) (hk : k < gnf c) (hf : grf c k = true) (hb : grr σ c k a = some b) (hr : gkd σ r = 5) (hrb : grr σ 4 0 r = some b) : c = 4 ∧ k = 0 ∧ a = r := h.2.2.1 a r c 4 k 0 b ha hr hk (by decide) hf rfl hb hrb
theorem psum_congr {σ σ' : gS} {n : Nat} (h : ∀ a, a < n → pot σ' a = pot σ a) : psum σ' n = psum σ n := by
  induction n with
  | zero => rfl
  | succ n ih =>
    show psum σ' n + pot σ' n = psum σ n + pot σ n
    rw [ih (fun a ha => h a (by omega)), h n (by omega)]
theorem psum_ge {σ : gS} {n a : Nat} (h : a < n) : pot σ a ≤ psum σ n := by
  induction n with
  | zero => omega
  | succ n ih =>
    show pot σ a ≤ psum σ n + pot σ n
    rcases Nat.lt_or_ge a n with q | q
    · have := ih q
      omega
    · rw [show a = n by omega]
      omega
/-- one row wants less than before -/
theorem psum_one {σ σ' : gS} {n r d : Nat} (hr : r < n) (h : ∀ a, a < n → a ≠ r → pot σ' a = pot σ a) (hd : pot σ' r + d = pot σ r) : psum σ' n + d = psum σ n := by
  induction n with
  | zero => omega
  | succ n ih =>
    show psum σ' n + pot σ' n + d = psum σ n + pot σ n
    rcases Nat.lt_or_ge r n with q | q
    · have e1 := ih q (fun a ha hn => h a (by omega) hn)
      have e2 := h n (by omega) (by omega)
      omega
    · have e0 : r = n := by omega
      subst e0
      have e1 : psum σ' r = psum σ r := psum_congr (fun a ha => h a (by omega) (by omega))
      omega
theorem Bud.same {σ σ' : gS} (h1 : ∀ a, pot σ' a = pot σ a) (h2 : gsz σ' = gsz σ) (h3 : gsl σ' = gsl σ) (h4 : gcl σ' = gcl σ) {n : Nat} (h : Bud σ n) : Bud σ' n := by
  unfold Bud
  rw [h2, h3, h4, psum_congr (fun a _ => h1 a)]
  exact h
/-- a row's array or length is written, nothing else -/
theorem row_upd {ex : Nat → Prop} {σ σ' : gS} {r n : Nat} (h : WFx ex σ) (hr : gkd σ r = 5) (hx : ¬ ex r) (hn : n ≤ rcap σ r) (e1 : gkd σ' = gkd σ) (e2 : grr σ' = grr σ) (e3 : gln σ' = gln σ) (e4 : gar σ' = gar σ) (e5 : gsz σ' = gsz σ) (e6 : gcl σ' = gcl σ) (e7 : gsl σ' = gsl σ) (e8 : ∀ c k a, ¬ (c = 4 ∧ k = 1 ∧ a = r) → gii σ' c k a = gii σ c k a) (e9 : gii σ' 4 1 r = nI n) (e10 : ∀ x j, x ≠ tg σ 4 0 r → gai σ' x j = gai σ x j) : WFx ex σ' ∧ Mod (fun t a _ _ => t = 0 ∧ a = r) σ σ' ∧ rowL σ' r = (List.range n).map (gai σ' (tg σ 4 0 r)) ∧ BK 0 σ σ' := by
  obtain ⟨g1, g2, g3, g4, g5, g6⟩ := h.row hr hx
  have g5' : rcap σ r ≤ 4096 := g5
  have htg : ∀ c k x, tg σ' c k x = tg σ c k x := fun c k x => by rw [tg, tg, e2]
  have hcap : ∀ x, rcap σ' x = rcap σ x := fun x => by rw [rcap, rcap, htg, e3]
  have hlen : ∀ x, rlen σ' x = if x = r then n else rlen σ x := by
    intro x
    by_cases e : x = r
    · rw [if_pos e, e, rlen, e9]
      exact nI_clamp (by omega)
    · rw [if_neg e, rlen, rlen, e8 4 1 x (fun q => e q.2.2)]
  refine ⟨?_, ⟨fun a _ => by rw [e1], by rw [e5]; exact Nat.le_refl _, fun x hxr hg => ⟨by rw [e2]; exact hg, fun hX => ?_⟩, fun c k a hc ha _ => e8 c k a (fun q => hc q.1), fun _ _ _ _ _ _ => by rw [e2], fun c k a b hc ha hk hf ht hb => ⟨by rw [e3], fun _ i => ⟨e10 b i (fun q => ?_), by rw [e4]⟩⟩⟩, ?_, fun m hm => ?_⟩
  · obtain ⟨w1, w2, w3, w4, w5, w6, w7, w8, w9⟩ := h
    unfold WFx
    simp only [e1, e2, e3, e4, e5]
    refine ⟨w1, w2, w3, fun x hxr hxx => ?_, w5, w6, w7, w8, w9⟩
    obtain ⟨q1, q2, q3⟩ := w4 x hxr hxx
    rw [hlen, hcap]
    by_cases e : x = r
    · subst e
      rw [if_pos rfl]
      exact ⟨e9, hn, q3⟩
    · rw [if_neg e]
      exact ⟨by rw [e8 4 1 x (fun q => e q.2.2)]; exact q1, q2, q3⟩
  · have e : x ≠ r := fun e => hX ⟨rfl, e⟩
    unfold rowL
    rw [hlen, if_neg e, htg]
    apply List.map_congr_left
    intro i _
    refine e10 _ _ (fun q => ?_)
    cases hgx : grr σ 4 0 x with
    | none => exact hg hgx
    | some b =>
      rw [tg_of hgx] at q
      exact e (h.own (c := 4) (k := 0) (b := b) hxr (by decide) rfl hgx hr (by rw [g1, ← q])).2.2
  · exact hc (h.own ha hk hf hb hr (by rw [g1, ← q])).1
  · unfold rowL
    rw [hlen, if_pos rfl, htg]
  · exact Bud.same (σ := σ) (σ' := σ') (fun a => by rw [pot, pot, e1, hcap]) e5 e7 e6 hm
/-- what an operation on one row does -/
def RowTo (ex : Nat → Prop) (σ σ' : gS) (r : Nat) (ys : List Int32) : Prop := WFx ex σ' ∧ Mod (fun t a _ _ => t = 0 ∧ a = r) σ σ' ∧ rowL σ' r = ys ∧ BK 0 σ σ'
/-- a row's array is replaced by one twice as long -/
theorem row_grow {ex : Nat → Prop} {σ : gS} {r i : Nat} (h : WFx ex σ) (hr : gkd σ r = 5) (hx : ¬ ex r) (hi : i ≤ 6) (hc : rcap σ r = 32 * 2 ^ i) : WFx ex (gsR (gsC (gsN σ 10 (2 * rcap σ r) (2 * rcap σ r)) (tg σ 4 0 r) (gsz σ) (rcap σ r)) 4 0 r (some (gsz σ))) ∧ Mod (fun _ _ _ _ => False) σ (gsR (gsC (gsN σ 10 (2 * rcap σ r) (2 * rcap σ r)) (tg σ 4 0 r) (gsz σ) (rcap σ r)) 4 0 r (some (gsz σ))) ∧ rcap (gsR (gsC (gsN σ 10 (2 * rcap σ r) (2 * rcap σ r)) (tg σ 4 0 r) (gsz σ) (rcap σ r)) 4 0 r (some (gsz σ))) r = 2 * rcap σ r ∧ rlen (gsR (gsC (gsN σ 10 (2 * rcap σ r) (2 * rcap σ r)) (tg σ 4 0 r) (gsz σ) (rcap σ r)) 4 0 r (some (gsz σ))) r = rlen σ r ∧ BK 0 σ (gsR (gsC (gsN σ 10 (2 * rcap σ r) (2 * rcap σ r)) (tg σ 4 0 r) (gsz σ) (rcap σ r)) 4 0 r (some (gsz σ))) := by
  obtain ⟨g1, g2, g3, g4, g5, g6⟩ := h.row hr hx
  generalize hb : tg σ 4 0 r = b at *
  generalize hm : rcap σ r = m at *
  generalize hσ : gsR (gsC (gsN σ 10 (2 * m) (2 * m)) b (gsz σ) m) 4 0 r (some (gsz σ)) = σ'
  have hgl : gln σ b = m := by rw [← hm, rcap, hb]
  have lt : ∀ a, gkd σ a ≠ 0 → a < gsz σ := h.1
  have hrq : r ≠ gsz σ := fun e => by have := lt r (by rw [hr]; omega); omega
  have hbq : b ≠ gsz σ := fun e => by have := lt b (by rw [g2]; omega); omega
  have ekd : ∀ a, gkd σ' a = if a = gsz σ then 11 else gkd σ a := fun a => by rw [← hσ]; simp [qI_kd, qI_ii, qI_rr, qI_ln, qI_ai, qI_ar, qI_sz, qI_cl, qI_sl, qR_kd, qR_ii, qR_rr, qR_ln, qR_ai, qR_ar, qR_sz, qR_cl, qR_sl, qA_kd, qA_ii, qA_rr, qA_ln, qA_ai, qA_ar, qA_sz, qA_cl, qA_sl, qQ_kd, qQ_ii, qQ_rr, qQ_ln, qQ_ai, qQ_ar, qQ_sz, qQ_cl, qQ_sl, qN_kd, qN_ii, qN_rr, qN_ln, qN_ai, qN_ar, qN_sz, qN_cl, qN_sl, qC_kd, qC_ii, qC_rr, qC_ln, qC_ai, qC_ar, qC_sz, qC_cl, qC_sl]
  have ekd0 : ∀ a, gkd σ a ≠ 0 → gkd σ' a = gkd σ a := fun a ha => by rw [ekd, if_neg]; intro e; have := lt a ha; omega
  have ekd1 : ∀ a d, d ≠ 11 → gkd σ' a = d → gkd σ a = d := fun a d hd ha => by rw [ekd] at ha; split at ha; exact absurd ha.symm hd; exact ha
  have eii : ∀ c k a, a ≠ gsz σ → gii σ' c k a = gii σ c k a := fun c k a ha => by rw [← hσ]; simp [qI_kd, qI_ii, qI_rr, qI_ln, qI_ai, qI_ar, qI_sz, qI_cl, qI_sl, qR_kd, qR_ii, qR_rr, qR_ln, qR_ai, qR_ar, qR_sz, qR_cl, qR_sl, qA_kd, qA_ii, qA_rr, qA_ln, qA_ai, qA_ar, qA_sz, qA_cl, qA_sl, qQ_kd, qQ_ii, qQ_rr, qQ_ln, qQ_ai, qQ_ar, qQ_sz, qQ_cl, qQ_sl, qN_kd, qN_ii, qN_rr, qN_ln, qN_ai, qN_ar, qN_sz, qN_cl, qN_sl, qC_kd, qC_ii, qC_rr, qC_ln, qC_ai, qC_ar, qC_sz, qC_cl, qC_sl, ha]
  have err : ∀ c k a, a ≠ gsz σ → grr σ' c k a = if c = 4 ∧ k = 0 ∧ a = r then some (gsz σ) else grr σ c k a := fun c k a ha => by rw [← hσ]; simp [qI_kd, qI_ii, qI_rr, qI_ln, qI_ai, qI_ar, qI_sz, qI_cl, qI_sl, qR_kd, qR_ii, qR_rr, qR_ln, qR_ai, qR_ar, qR_sz, qR_cl, qR_sl, qA_kd, qA_ii, qA_rr, qA_ln, qA_ai, qA_ar, qA_sz, qA_cl, qA_sl, qQ_kd, qQ_ii, qQ_rr, qQ_ln, qQ_ai, qQ_ar, qQ_sz, qQ_cl, qQ_sl, qN_kd, qN_ii, qN_rr, qN_ln, qN_ai, qN_ar, qN_sz, qN_cl, qN_sl, qC_kd, qC_ii, qC_rr, qC_ln, qC_ai, qC_ar, qC_sz, qC_cl, qC_sl, ha]
  have err1 : ∀ c k a, a ≠ gsz σ → ¬ (c = 4 ∧ k = 0 ∧ a = r) → grr σ' c k a = grr σ c k a := fun c k a ha hn => by rw [err c k a ha, if_neg hn]
  have eln : ∀ a, a ≠ gsz σ → gln σ' a = gln σ a := fun a ha => by rw [← hσ]; simp [qI_kd, qI_ii, qI_rr, qI_ln, qI_ai, qI_ar, qI_sz, qI_cl, qI_sl, qR_kd, qR_ii, qR_rr, qR_ln, qR_ai, qR_ar, qR_sz, qR_cl, qR_sl, qA_kd, qA_ii, qA_rr, qA_ln, qA_ai, qA_ar, qA_sz, qA_cl, qA_sl, qQ_kd, qQ_ii, qQ_rr, qQ_ln, qQ_ai, qQ_ar, qQ_sz, qQ_cl, qQ_sl, qN_kd, qN_ii, qN_rr, qN_ln, qN_ai, qN_ar, qN_sz, qN_cl, qN_sl, qC_kd, qC_ii, qC_rr, qC_ln, qC_ai, qC_ar, qC_sz, qC_cl, qC_sl, ha]
  have elnq : gln σ' (gsz σ) = 2 * m := by rw [← hσ]; simp [qI_kd, qI_ii, qI_rr, qI_ln, qI_ai, qI_ar, qI_sz, qI_cl, qI_sl, qR_kd, qR_ii, qR_rr, qR_ln, qR_ai, qR_ar, qR_sz, qR_cl, qR_sl, qA_kd, qA_ii, qA_rr, qA_ln, qA_ai, qA_ar, qA_sz, qA_cl, qA_sl, qQ_kd, qQ_ii, qQ_rr, qQ_ln, qQ_ai, qQ_ar, qQ_sz, qQ_cl, qQ_sl, qN_kd, qN_ii, qN_rr, qN_ln, qN_ai, qN_ar, qN_sz, qN_cl, qN_sl, qC_kd, qC_ii, qC_rr, qC_ln, qC_ai, qC_ar, qC_sz, qC_cl, qC_sl]
  have eai : ∀ a j, a ≠ gsz σ → gai σ' a j = gai σ a j := fun a j ha => by rw [← hσ]; simp [qI_kd, qI_ii, qI_rr, qI_ln, qI_ai, qI_ar, qI_sz, qI_cl, qI_sl, qR_kd, qR_ii, qR_rr, qR_ln, qR_ai, qR_ar, qR_sz, qR_cl, qR_sl, qA_kd, qA_ii, qA_rr, qA_ln, qA_ai, qA_ar, qA_sz, qA_cl, qA_sl, qQ_kd, qQ_ii, qQ_rr, qQ_ln, qQ_ai, qQ_ar, qQ_sz, qQ_cl, qQ_sl, qN_kd, qN_ii, qN_rr, qN_ln, qN_ai, qN_ar, qN_sz, qN_cl, qN_sl, qC_kd, qC_ii, qC_rr, qC_ln, qC_ai, qC_ar, qC_sz, qC_cl, qC_sl, ha]
  have eaiq : ∀ j, j < m → gai σ' (gsz σ) j = gai σ b j := fun j hj => by rw [← hσ]; simp [qI_kd, qI_ii, qI_rr, qI_ln, qI_ai, qI_ar, qI_sz, qI_cl, qI_sl, qR_kd, qR_ii, qR_rr, qR_ln, qR_ai, qR_ar, qR_sz, qR_cl, qR_sl, qA_kd, qA_ii, qA_rr, qA_ln, qA_ai, qA_ar, qA_sz, qA_cl, qA_sl, qQ_kd, qQ_ii, qQ_rr, qQ_ln, qQ_ai, qQ_ar, qQ_sz, qQ_cl, qQ_sl, qN_kd, qN_ii, qN_rr, qN_ln, qN_ai, qN_ar, qN_sz, qN_cl, qN_sl, qC_kd, qC_ii, qC_rr, qC_ln, qC_ai, qC_ar, qC_sz, qC_cl, qC_sl, hj, hbq]
  have ear : ∀ a j, a ≠ gsz σ → gar σ' a j = gar σ a j := fun a j ha => by rw [← hσ]; simp [qI_kd, qI_ii, qI_rr, qI_ln, qI_ai, qI_ar, qI_sz, qI_cl, qI_sl, qR_kd, qR_ii, qR_rr, qR_ln, qR_ai, qR_ar, qR_sz, qR_cl, qR_sl, qA_kd, qA_ii, qA_rr, qA_ln, qA_ai, qA_ar, qA_sz, qA_cl, qA_sl, qQ_kd, qQ_ii, qQ_rr, qQ_ln, qQ_ai, qQ_ar, qQ_sz, qQ_cl, qQ_sl, qN_kd, qN_ii, qN_rr, qN_ln, qN_ai, qN_ar, qN_sz, qN_cl, qN_sl, qC_kd, qC_ii, qC_rr, qC_ln, qC_ai, qC_ar, qC_sz, qC_cl, qC_sl, ha]
  have earq : ∀ j, gar σ' (gsz σ) j = none := fun j => by rw [← hσ]; simp [qI_kd, qI_ii, qI_rr, qI_ln, qI_ai, qI_ar, qI_sz, qI_cl, qI_sl, qR_kd, qR_ii, qR_rr, qR_ln, qR_ai, qR_ar, qR_sz, qR_cl, qR_sl, qA_kd, qA_ii, qA_rr, qA_ln, qA_ai, qA_ar, qA_sz, qA_cl, qA_sl, qQ_kd, qQ_ii, qQ_rr, qQ_ln, qQ_ai, qQ_ar, qQ_sz, qQ_cl, qQ_sl, qN_kd, qN_ii, qN_rr, qN_ln, qN_ai, qN_ar, qN_sz, qN_cl, qN_sl, qC_kd, qC_ii, qC_rr, qC_ln, qC_ai, qC_ar, qC_sz, qC_cl, qC_sl]
  have esz : gsz σ' = gsz σ + 1 := by rw [← hσ]; simp [qI_kd, qI_ii, qI_rr, qI_ln, qI_ai, qI_ar, qI_sz, qI_cl, qI_sl, qR_kd, qR_ii, qR_rr, qR_ln, qR_ai, qR_ar, qR_sz, qR_cl, qR_sl, qA_kd, qA_ii, qA_rr, qA_ln, qA_ai, qA_ar, qA_sz, qA_cl, qA_sl, qQ_kd, qQ_ii, qQ_rr, qQ_ln, qQ_ai, qQ_ar, qQ_sz, qQ_cl, qQ_sl, qN_kd, qN_ii, qN_rr, qN_ln, qN_ai, qN_ar, qN_sz, qN_cl, qN_sl, qC_kd, qC_ii, qC_rr, qC_ln, qC_ai, qC_ar, qC_sz, qC_cl, qC_sl]
  have ecl : gcl σ' = gcl σ - 1 := by rw [← hσ]; simp [qI_kd, qI_ii, qI_rr, qI_ln, qI_ai, qI_ar, qI_sz, qI_cl, qI_sl, qR_kd, qR_ii, qR_rr, qR_ln, qR_ai, qR_ar, qR_sz, qR_cl, qR_sl, qA_kd, qA_ii, qA_rr, qA_ln, qA_ai, qA_ar, qA_sz, qA_cl, qA_sl, qQ_kd, qQ_ii, qQ_rr, qQ_ln, qQ_ai, qQ_ar, qQ_sz, qQ_cl, qQ_sl, qN_kd, qN_ii, qN_rr, qN_ln, qN_ai, qN_ar, qN_sz, qN_cl, qN_sl, qC_kd, qC_ii, qC_rr, qC_ln, qC_ai, qC_ar, qC_sz, qC_cl, qC_sl]
  have esl : gsl σ' = gsl σ - 2 * m := by rw [← hσ]; simp [qI_kd, qI_ii, qI_rr, qI_ln, qI_ai, qI_ar, qI_sz, qI_cl, qI_sl, qR_kd, qR_ii, qR_rr, qR_ln, qR_ai, qR_ar, qR_sz, qR_cl, qR_sl, qA_kd, qA_ii, qA_rr, qA_ln, qA_ai, qA_ar, qA_sz, qA_cl, qA_sl, qQ_kd, qQ_ii, qQ_rr, qQ_ln, qQ_ai, qQ_ar, qQ_sz, qQ_cl, qQ_sl, qN_kd, qN_ii, qN_rr, qN_ln, qN_ai, qN_ar, qN_sz, qN_cl, qN_sl, qC_kd, qC_ii, qC_rr, qC_ln, qC_ai, qC_ar, qC_sz, qC_cl, qC_sl]
  have etg : tg σ' 4 0 r = gsz σ := by rw [tg, err 4 0 r hrq]; simp
  have etg1 : ∀ x, gkd σ x = 5 → x ≠ r → tg σ' 4 0 x = tg σ 4 0 x := fun x hxk hxr => by
    have hxq : x ≠ gsz σ := fun e => by have := lt x (by rw [hxk]; omega); omega
    rw [tg, tg, err1 4 0 x hxq (fun q => hxr q.2.2)]
  have erl : ∀ x, x ≠ gsz σ → rlen σ' x = rlen σ x := fun x hxq => by rw [rlen, rlen, eii 4 1 x hxq]
  have slotq : ∀ c k a, gkd σ a = c + 1 → k < gnf c → grf c k = true → grr σ c k a ≠ some (gsz σ) := fun c k a ha hk hf e => by
    have := lt _ (h.2.2.2.2.2.2.2.1 a c k _ ha hk hf e)
    omega
  have ecap : ∀ x, gkd σ x = 5 → x ≠ r → grr σ 4 0 x ≠ none → rcap σ' x = rcap σ x := fun x hxk hxr hg => by
    rw [rcap, rcap, etg1 x hxk hxr, eln]
    intro e
    cases hgx : grr σ 4 0 x with
    | none => exact hg hgx
    | some b' =>
      rw [tg_of hgx] at e
      exact slotq 4 0 x hxk (by decide) rfl (by rw [hgx, e])
  have p1 : 2 ^ i ≤ 2 ^ 6 := Nat.pow_le_pow_right (by omega) hi
  have p2 : 1 ≤ 2 ^ i := Nat.one_le_two_pow
  refine ⟨⟨?_, ?_, ?_, ?_, ?_, ?_, ?_, ?_, ?_⟩, ⟨ekd0, by omega, ?_, ?_, ?_, ?_⟩, ?_, erl r hrq, ?_⟩
  · intro a ha
    rw [ekd] at ha
    split at ha
    · omega
    · have := lt a ha
      omega
  · intro a c k ha hxa hc9 hk hf
    by_cases e : c = 4 ∧ k = 0 ∧ a = r
    · obtain ⟨rfl, rfl, rfl⟩ := e
      refine ⟨gsz σ, by rw [err 4 0 a hrq]; simp, by rw [ekd, if_pos rfl]; rfl, fun z => absurd rfl z⟩
    · have ha' := ekd1 a (c + 1) (by omega) ha
      have haq : a ≠ gsz σ := fun e => by have := lt a (by rw [ha']; omega); omega
      obtain ⟨b', q1, q2, q3⟩ := h.2.1 a c k ha' hxa hc9 hk hf
      have hb'0 := h.2.2.2.2.2.2.2.1 a c k b' ha' hk hf q1
      have hb'q : b' ≠ gsz σ := fun e => by have := lt b' hb'0; omega
      exact ⟨b', by rw [err1 c k a haq e]; exact q1, by rw [ekd0 b' hb'0]; exact q2, fun z => by rw [eln b' hb'q]; exact q3 z⟩
  · intro a a' c c' k k' b' ha ha' hk hk' hf hf' hb1 hb2
    have hc9 : c + 1 ≠ 11 := fun e => by rw [show c = 10 by omega, show gnf 10 = 0 from rfl] at hk; omega
    have hc9' : c' + 1 ≠ 11 := fun e => by rw [show c' = 10 by omega, show gnf 10 = 0 from rfl] at hk'; omega
    have k1 := ekd1 a _ hc9 ha
    have k2 := ekd1 a' _ hc9' ha'
    have haq : a ≠ gsz σ := fun e => by have := lt a (by rw [k1]; omega); omega
    have haq' : a' ≠ gsz σ := fun e => by have := lt a' (by rw [k2]; omega); omega
    rw [err c k a haq] at hb1
    rw [err c' k' a' haq'] at hb2
    split at hb1
    · rename_i e1
      split at hb2
      · rename_i e2
        exact ⟨e1.1.trans e2.1.symm, e1.2.1.trans e2.2.1.symm, e1.2.2.trans e2.2.2.symm⟩
      · exact absurd (hb2.trans hb1.symm) (slotq c' k' a' k2 hk' hf')
    · split at hb2
      · exact absurd (hb1.trans hb2.symm) (slotq c k a k1 hk hf)
      · exact h.2.2.1 a a' c c' k k' b' k1 k2 hk hk' hf hf' hb1 hb2
  · intro x hxk hxx
    have k1 := ekd1 x 5 (by omega) hxk
    have hxq : x ≠ gsz σ := fun e => by have := lt x (by rw [k1]; omega); omega
    obtain ⟨q1, q2, q3⟩ := h.2.2.2.1 x k1 hxx
    rw [erl x hxq, eii 4 1 x hxq]
    by_cases e : x = r
    · subst e
      have : rcap σ' x = 2 * m := by rw [rcap, etg, elnq]
      rw [this]
      rw [hm] at q2
      refine ⟨q1, by omega, i + 1, by omega, ?_⟩
      rw [hc, Nat.pow_succ]
      omega
    · rw [ecap x k1 e (by rw [(h.row k1 hxx).1]; exact fun z => by cases z)]
      exact ⟨q1, q2, q3⟩
  · intro a j b' ha hb'
    by_cases e : a = gsz σ
    · rw [e, earq] at hb'
      cases hb'
    · rw [ear a j e] at hb'
      rw [show gkd σ' a = gkd σ a by rw [ekd, if_neg e]] at ha ⊢
      rw [ekd0 b' (h.2.2.2.2.2.2.2.2 a j b' ha hb')]
      exact h.2.2.2.2.1 a j b' ha hb'
  · intro a a' j j' b' ha ha' hb1 hb2
    by_cases e : a = gsz σ
    · rw [e, earq] at hb1
      cases hb1
    · by_cases e' : a' = gsz σ
      · rw [e', earq] at hb2
        cases hb2
      · rw [ear a j e] at hb1
        rw [ear a' j' e'] at hb2
        rw [ekd, if_neg e] at ha
        rw [ekd, if_neg e'] at ha'
        exact h.2.2.2.2.2.1 a a' j j' b' ha ha' hb1 hb2
  · intro a a' c k j b' ha hk hf hb1 ha' hb2
    have hc9 : c + 1 ≠ 11 := fun e => by rw [show c = 10 by omega, show gnf 10 = 0 from rfl] at hk; omega
    have k1 := ekd1 a _ hc9 ha
    have haq : a ≠ gsz σ := fun e => by have := lt a (by rw [k1]; omega); omega
    by_cases e' : a' = gsz σ
    · rw [e', earq] at hb2
      cases hb2
    · rw [ear a' j e'] at hb2
      rw [ekd, if_neg e'] at ha'
      rw [err c k a haq] at hb1
      split at hb1
      · cases hb1
        have := lt _ (h.2.2.2.2.2.2.2.2 a' j _ ha' hb2)
        omega
      · exact h.2.2.2.2.2.2.1 a a' c k j b' k1 hk hf hb1 ha' hb2
  · intro a c k b' ha hk hf hb1
    have hc9 : c + 1 ≠ 11 := fun e => by rw [show c = 10 by omega, show gnf 10 = 0 from rfl] at hk; omega
    have k1 := ekd1 a _ hc9 ha
    have haq : a ≠ gsz σ := fun e => by have := lt a (by rw [k1]; omega); omega
    rw [err c k a haq] at hb1
    split at hb1
    · cases hb1
      rw [ekd, if_pos rfl]
      omega
    · have := h.2.2.2.2.2.2.2.1 a c k b' k1 hk hf hb1
      rw [ekd0 b' this]
      exact this
  · intro a j b' ha hb'
    by_cases e : a = gsz σ
    · rw [e, earq] at hb'
      cases hb'
    · rw [ear a j e] at hb'
      rw [show gkd σ' a = gkd σ a by rw [ekd, if_neg e]] at ha
      have := h.2.2.2.2.2.2.2.2 a j b' ha hb'
      rw [ekd0 b' this]
      exact this
  · intro x hxk hg
    have hxq : x ≠ gsz σ := fun e => by have := lt x (by rw [hxk]; omega); omega
    by_cases e : x = r
    · subst e
      refine ⟨by rw [err 4 0 x hxq]; simp, fun _ => ?_⟩
      unfold rowL
      rw [erl x hxq, etg, hb]
      apply List.map_congr_left
      intro j hj
      have := List.mem_range.mp hj
      exact eaiq j (by omega)
    · refine ⟨by rw [err1 4 0 x hxq (fun q => e q.2.2)]; exact hg, fun _ => ?_⟩
      unfold rowL
      rw [erl x hxq, etg1 x hxk e]
      apply List.map_congr_left
      intro j _
      refine eai _ _ ?_
      intro z
      cases hgx : grr σ 4 0 x with
      | none => exact hg hgx
      | some b' =>
        rw [tg_of hgx] at z
        exact slotq 4 0 x hxk (by decide) rfl (by rw [hgx, z])
  · intro c k a hc ha _
    exact eii c k a (fun e => by have := lt a (by rw [ha]; omega); omega)
  · intro c k a hc ha _
    exact err1 c k a (fun e => by have := lt a (by rw [ha]; omega); omega) (fun q => hc q.1)
  · intro c k a b' hc ha hk hf ht hb'
    have hb'q : b' ≠ gsz σ := fun e => slotq c k a ha hk hf (by rw [hb', e])
    exact ⟨eln b' hb'q, fun _ j => ⟨eai b' j hb'q, ear b' j hb'q⟩⟩
  · rw [rcap, etg, elnq]
  · intro n hn
    obtain ⟨n1, n2⟩ := hn
    simp only [Nat.add_zero] at n1 n2
    have hp : psum σ' (gsz σ) + 2 * m = psum σ (gsz σ) := by
      refine psum_one (lt r (by rw [hr]; omega)) (fun a ha hne => ?_) ?_
      · unfold pot
        rw [show gkd σ' a = gkd σ a by rw [ekd, if_neg (Nat.ne_of_lt ha)]]
        by_cases hk : gkd σ a = 5
        · rw [if_pos hk, if_pos hk]
          by_cases hg : grr σ 4 0 a = none
          · have : rcap σ' a = rcap σ a := by
              rw [rcap, rcap, etg1 a hk hne]
              refine eln _ ?_
              rw [tg, hg]
              show (0 : Nat) ≠ gsz σ
              omega
            rw [this]
          · rw [ecap a hk hne hg]
        · rw [if_neg hk, if_neg hk]
      · unfold pot
        rw [ekd0 r (by rw [hr]; omega), hr, if_pos rfl, if_pos rfl, hm]
        have : rcap σ' r = 2 * m := by rw [rcap, etg, elnq]
        rw [this]
        omega
    have hs : psum σ' (gsz σ') = psum σ' (gsz σ) := by
      rw [esz]
      show psum σ' (gsz σ) + pot σ' (gsz σ) = _
      have : pot σ' (gsz σ) = 0 := by
        unfold pot
        rw [show gkd σ' (gsz σ) = 11 by rw [ekd, if_pos rfl], if_neg (by omega)]
      omega
    unfold Bud
    rw [hs, ecl, esl]
    omega

theorem sp_copyOf {σ : gS} {b m n : Nat} {Q : Option Nat → gS → Prop} (hb : gkd σ b = 11) (hm : gln σ b = m) (hq : b ≠ gsz σ) (h1 : m < n) (hn : n ≤ 100000) (hc : 1 ≤ gcl σ) (hs : n ≤ gsl σ) (hQ : Q (some (gsz σ)) (gsC (gsN σ 10 n n) b (gsz σ) m)) : wp (f_J7_copyOf_59c91 (some b) (nI n)) σ Q := by
  unfold f_J7_copyOf_59c91
  refine wp_b (wp_aL (t := 1) hb ?_)
  rw [hm]
  refine wp_f (fun e => ?_) ?_
  · rw [nI_eq (by omega) (by omega)] at e
    omega
  refine wp_b (wp_nA (t := 1) hn hc hs ?_)
  have hb1 : gkd (gsN σ (1 + 9) n n) b = 11 := by rw [qN_kd, if_neg hq]; exact hb
  have hb2 : gln (gsN σ (1 + 9) n n) b = m := by rw [qN_ln, if_neg hq]; exact hm
  refine wp_b (wp_aL (t := 1) hb1 ?_)
  rw [hb2, if_neg (nI_nlt (by omega) (by omega))]
  refine wp_b (wp_cp hb1 (by rw [qN_kd, if_pos rfl]) (by omega) (by rw [qN_ln, if_pos rfl]; omega) (by omega) ?_)
  exact wp_p hQ
theorem sp_add40 {ex : Nat → Prop} {σ : gS} {r : Nat} {v : Int32} {Q : Unit → gS → Prop} (h : WFx ex σ) (hr : gkd σ r = 5) (hx : ¬ ex r) (hl : rlen σ r < rcap σ r) (hQ : ∀ σ', RowTo ex σ σ' r (rowL σ r ++ [v]) → Q () σ') : wp (f_X5_add_40 (some r) v) σ Q := by
  obtain ⟨g1, g2, g3, g4, g5, g6⟩ := h.row hr hx
  have hl' : rlen σ r < gln σ (tg σ 4 0 r) := hl
  unfold f_X5_add_40
  refine wp_b (wp_rR hr ?_)
  rw [g1]
  refine wp_b (wp_rI hr ?_)
  rw [g3]
  refine wp_b (wp_sI (t := 1) g2 hl' (by omega) ?_)
  refine wp_b (wp_rI hr ?_)
  have e0 : gii (gsA σ (tg σ 4 0 r) (rlen σ r) (gnar 1 v)) 4 1 r = nI (rlen σ r) := g3
  rw [e0, nI_1]
  refine wp_b (wp_wI hr ?_)
  refine wp_p (hQ _ ?_)
  obtain ⟨p1, p2, p3, p4⟩ := row_upd (σ' := gsI (gsA σ (tg σ 4 0 r) (rlen σ r) (gnar 1 v)) 4 1 r (nI (rlen σ r + 1))) (n := rlen σ r + 1) h hr hx hl rfl rfl rfl rfl rfl rfl rfl (fun c k a hn => by simp [qI_kd, qI_ii, qI_rr, qI_ln, qI_ai, qI_ar, qI_sz, qI_cl, qI_sl, qR_kd, qR_ii, qR_rr, qR_ln, qR_ai, qR_ar, qR_sz, qR_cl, qR_sl, qA_kd, qA_ii, qA_rr, qA_ln, qA_ai, qA_ar, qA_sz, qA_cl, qA_sl, qQ_kd, qQ_ii, qQ_rr, qQ_ln, qQ_ai, qQ_ar, qQ_sz, qQ_cl, qQ_sl, qN_kd, qN_ii, qN_rr, qN_ln, qN_ai, qN_ar, qN_sz, qN_cl, qN_sl, qC_kd, qC_ii, qC_rr, qC_ln, qC_ai, qC_ar, qC_sz, qC_cl, qC_sl, hn]) (by simp [qI_kd, qI_ii, qI_rr, qI_ln, qI_ai, qI_ar, qI_sz, qI_cl, qI_sl, qR_kd, qR_ii, qR_rr, qR_ln, qR_ai, qR_ar, qR_sz, qR_cl, qR_sl, qA_kd, qA_ii, qA_rr, qA_ln, qA_ai, qA_ar, qA_sz, qA_cl, qA_sl, qQ_kd, qQ_ii, qQ_rr, qQ_ln, qQ_ai, qQ_ar, qQ_sz, qQ_cl, qQ_sl, qN_kd, qN_ii, qN_rr, qN_ln, qN_ai, qN_ar, qN_sz, qN_cl, qN_sl, qC_kd, qC_ii, qC_rr, qC_ln, qC_ai, qC_ar, qC_sz, qC_cl, qC_sl]) (fun x j hxb => by simp [qI_kd, qI_ii, qI_rr, qI_ln, qI_ai, qI_ar, qI_sz, qI_cl, qI_sl, qR_kd, qR_ii, qR_rr, qR_ln, qR_ai, qR_ar, qR_sz, qR_cl, qR_sl, qA_kd, qA_ii, qA_rr, qA_ln, qA_ai, qA_ar, qA_sz, qA_cl, qA_sl, qQ_kd, qQ_ii, qQ_rr, qQ_ln, qQ_ai, qQ_ar, qQ_sz, qQ_cl, qQ_sl, qN_kd, qN_ii, qN_rr, qN_ln, qN_ai, qN_ar, qN_sz, qN_cl, qN_sl, qC_kd, qC_ii, qC_rr, qC_ln, qC_ai, qC_ar, qC_sz, qC_cl, qC_sl, hxb])
  refine ⟨p1, p2, p3.trans ?_, p4⟩
  rw [List.range_succ, List.map_append]
  congr 1
  · unfold rowL
    apply List.map_congr_left
    intro i hi
    have := List.mem_range.mp hi
    simp [qI_kd, qI_ii, qI_rr, qI_ln, qI_ai, qI_ar, qI_sz, qI_cl, qI_sl, qR_kd, qR_ii, qR_rr, qR_ln, qR_ai, qR_ar, qR_sz, qR_cl, qR_sl, qA_kd, qA_ii, qA_rr, qA_ln, qA_ai, qA_ar, qA_sz, qA_cl, qA_sl, qQ_kd, qQ_ii, qQ_rr, qQ_ln, qQ_ai, qQ_ar, qQ_sz, qQ_cl, qQ_sl, qN_kd, qN_ii, qN_rr, qN_ln, qN_ai, qN_ar, qN_sz, qN_cl, qN_sl, qC_kd, qC_ii, qC_rr, qC_ln, qC_ai, qC_ar, qC_sz, qC_cl, qC_sl]
    omega
  · simp [qI_kd, qI_ii, qI_rr, qI_ln, qI_ai, qI_ar, qI_sz, qI_cl, qI_sl, qR_kd, qR_ii, qR_rr, qR_ln, qR_ai, qR_ar, qR_sz, qR_cl, qR_sl, qA_kd, qA_ii, qA_rr, qA_ln, qA_ai, qA_ar, qA_sz, qA_cl, qA_sl, qQ_kd, qQ_ii, qQ_rr, qQ_ln, qQ_ai, qQ_ar, qQ_sz, qQ_cl, qQ_sl, qN_kd, qN_ii, qN_rr, qN_ln, qN_ai, qN_ar, qN_sz, qN_cl, qN_sl, qC_kd, qC_ii, qC_rr, qC_ln, qC_ai, qC_ar, qC_sz, qC_cl, qC_sl, gnar]
theorem sp_add {ex : Nat → Prop} {σ : gS} {r : Nat} {v : Int32} {Q : Unit → gS → Prop} (h : WFx ex σ) (hr : gkd σ r = 5) (hx : ¬ ex r) (hl : (rowL σ r).length < 4096) (hB : Bud σ 0) (hQ : ∀ σ', RowTo ex σ σ' r (rowL σ r ++ [v]) → Q () σ') : wp (f_X5_add (some r) v) σ Q := by
  obtain ⟨g1, g2, g3, g4, g5, g6⟩ := h.row hr hx
  rw [rowL_len] at hl
  unfold f_X5_add
  refine wp_b (wp_rI hr ?_)
  rw [g3]
  refine wp_t (show nI (rlen σ r) < nI 4096 from nI_lt hl (by omega)) ?_
  refine wp_b (wp_rI hr ?_)
  rw [g3]
  refine wp_b (wp_rR hr ?_)
  rw [g1]
  refine wp_b (wp_aL (t := 1) g2 ?_)
  refine wp_if (fun c1 => ?_) (fun c1 => ?_)
  · have c1 : rlen σ r < gln σ (tg σ 4 0 r) := (nI_ltI (by omega) (by omega)).mp c1
    exact sp_add40 h hr hx c1 hQ
  · have c1 : gln σ (tg σ 4 0 r) ≤ rlen σ r := Nat.not_lt.mp (fun z => c1 (nI_lt z (by omega)))
    obtain ⟨-, -, i, hi, hcap⟩ := h.2.2.2.1 r hr hx
    have hcl : rcap σ r = rlen σ r := by
      have : rcap σ r = gln σ (tg σ 4 0 r) := rfl
      omega
    have hi6 : i ≤ 6 := by
      rcases Nat.lt_or_ge i 7 with q | q
      · omega
      · rw [show i = 7 by omega] at hcap
        omega
    have p1 : 2 ^ i ≤ 2 ^ 6 := Nat.pow_le_pow_right (by omega) hi6
    have p2 : 1 ≤ 2 ^ i := Nat.one_le_two_pow
    have hrs : r < gsz σ := h.1 r (by rw [hr]; omega)
    have hbs : tg σ 4 0 r < gsz σ := h.1 _ (by rw [g2]; omega)
    have hpot : pot σ r = 8192 - 2 * rcap σ r := by rw [pot, if_pos hr]
    have hps := psum_ge (σ := σ) hrs
    obtain ⟨b1, b2⟩ := hB
    refine wp_b (wp_rR hr ?_)
    rw [g1]
    refine wp_b (wp_rI hr ?_)
    rw [g3]
    have e2 : (2 : Int32) * nI (rlen σ r) = nI (2 * rcap σ r) := by rw [hcl]; exact pk_mul 2 (rlen σ r)
    rw [e2]
    refine wp_b (sp_copyOf g2 (m := rcap σ r) rfl (by omega) (by omega) (by omega) (by omega) (by omega) ?_)
    have hr' : gkd (gsC (gsN σ 10 (2 * rcap σ r) (2 * rcap σ r)) (tg σ 4 0 r) (gsz σ) (rcap σ r)) r = 4 + 1 := by
      rw [qC_kd, qN_kd, if_neg (by omega)]
      exact hr
    refine wp_b (wp_wR hr' ?_)
    obtain ⟨w1, w2, w3, w4, w5⟩ := row_grow h hr hx hi6 hcap
    have k1 := w2.1 r (by rw [hr]; omega)
    have hrow : rowL (gsR (gsC (gsN σ 10 (2 * rcap σ r) (2 * rcap σ r)) (tg σ 4 0 r) (gsz σ) (rcap σ r)) 4 0 r (some (gsz σ))) r = rowL σ r := (w2.2.2.1 r hr (by rw [g1]; exact fun z => by cases z)).2 (fun z => z)
    refine sp_add40 w1 (k1.trans hr) hx (by rw [w3, w4]; omega) (fun σ' hσ' => ?_)
    refine hQ σ' ⟨hσ'.1, (w2.mono (fun _ _ _ _ z => z.elim)).trans hσ'.2.1, ?_, w5.trans hσ'.2.2.2⟩
    rw [hσ'.2.2.1, hrow]
theorem sp_cutTo {ex : Nat → Prop} {σ : gS} {r k : Nat} {Q : Unit → gS → Prop} (h : WFx ex σ) (hr : gkd σ r = 5) (hx : ¬ ex r) (hk : k < 2 ^ 31) (hQ : ∀ σ', RowTo ex σ σ' r ((rowL σ r).take k) → Q () σ') : wp (f_X5_cutTo (some r) (nI k)) σ Q := by
  obtain ⟨g1, g2, g3, g4, g5, g6⟩ := h.row hr hx
  unfold f_X5_cutTo
  refine wp_f (nI_pos hk) ?_
  refine wp_b (wp_rI hr ?_)
  rw [g3]
  refine wp_if (fun c1 => ?_) (fun c1 => ?_)
  · have c1 : rlen σ r ≤ k := (nI_leI (by omega) hk).mp c1
    exact wp_p (hQ σ ⟨h, Mod.rf, by rw [List.take_of_length_le (by rw [rowL_len]; exact c1)], BK.rf⟩)
  · have c1 : k < rlen σ r := Nat.not_le.mp (fun z => c1 (nI_le z hk))
    refine wp_b (wp_wI hr (wp_p (hQ _ ?_)))
    obtain ⟨p1, p2, p3, p4⟩ := row_upd (σ' := gsI σ 4 1 r (nI k)) (n := k) h hr hx (by have : rcap σ r = gln σ (tg σ 4 0 r) := rfl; omega) rfl rfl rfl rfl rfl rfl rfl (fun c k a hn => by simp [qI_kd, qI_ii, qI_rr, qI_ln, qI_ai, qI_ar, qI_sz, qI_cl, qI_sl, qR_kd, qR_ii, qR_rr, qR_ln, qR_ai, qR_ar, qR_sz, qR_cl, qR_sl, qA_kd, qA_ii, qA_rr, qA_ln, qA_ai, qA_ar, qA_sz, qA_cl, qA_sl, qQ_kd, qQ_ii, qQ_rr, qQ_ln, qQ_ai, qQ_ar, qQ_sz, qQ_cl, qQ_sl, qN_kd, qN_ii, qN_rr, qN_ln, qN_ai, qN_ar, qN_sz, qN_cl, qN_sl, qC_kd, qC_ii, qC_rr, qC_ln, qC_ai, qC_ar, qC_sz, qC_cl, qC_sl, hn]) (by simp [qI_kd, qI_ii, qI_rr, qI_ln, qI_ai, qI_ar, qI_sz, qI_cl, qI_sl, qR_kd, qR_ii, qR_rr, qR_ln, qR_ai, qR_ar, qR_sz, qR_cl, qR_sl, qA_kd, qA_ii, qA_rr, qA_ln, qA_ai, qA_ar, qA_sz, qA_cl, qA_sl, qQ_kd, qQ_ii, qQ_rr, qQ_ln, qQ_ai, qQ_ar, qQ_sz, qQ_cl, qQ_sl, qN_kd, qN_ii, qN_rr, qN_ln, qN_ai, qN_ar, qN_sz, qN_cl, qN_sl, qC_kd, qC_ii, qC_rr, qC_ln, qC_ai, qC_ar, qC_sz, qC_cl, qC_sl]) (fun x j hxb => rfl)
    refine ⟨p1, p2, p3.trans ?_, p4⟩
    unfold rowL
    rw [← List.map_take, List.take_range, Nat.min_eq_left (by omega)]
    rfl
