/-! UNITS OF NEW THINGS -/
/-- what is new from address s on is empty -/
def Zr (s : Nat) (σ : gS) : Prop := ∀ x, s ≤ x → x < gsz σ → (∀ j, gai σ x j = 0 ∧ gar σ x j = none) ∧ ∀ c k, ¬ (c = 5 ∧ k = 5) → gii σ c k x = 0
def Nw (s : Nat) (ex : Nat → Prop) (σ σ' : gS) (c n d : Nat) : Prop := Ext s ex σ σ' d ∧ gkd σ' (gsz σ) = c + 1 ∧ gln σ' (gsz σ) = n ∧ Free (cut s σ') (gsz σ) ∧ Zr (gsz σ) σ' ∧ gsz σ < gsz σ'
theorem BK.le {d e : Nat} {σ σ' : gS} (h : BK d σ σ') (hd : d ≤ e) : BK e σ σ' := fun n hn => h n (hn.le (by omega))
theorem Zr.new {s d n w : Nat} {σ : gS} (h : Zr s σ) : Zr s (gsN σ d n w) := by
  intro x hx hy
  by_cases z : x = gsz σ
  · exact ⟨fun j => ⟨by rw [qN_ai, if_pos z], by rw [qN_ar, if_pos z]⟩, fun c k _ => by rw [qN_ii, if_pos z]⟩
  · rw [qN_sz] at hy
    obtain ⟨h1, h2⟩ := h x hx (by omega)
    exact ⟨fun j => ⟨by rw [qN_ai, if_neg z]; exact (h1 j).1, by rw [qN_ar, if_neg z]; exact (h1 j).2⟩, fun c k hn => by rw [qN_ii, if_neg z]; exact h2 c k hn⟩
theorem Zr.self {σ : gS} : Zr (gsz σ) σ := fun x h1 h2 => absurd h1 (by omega)
theorem Zr.join {s : Nat} {σ σ' : gS} (h : Zr s σ) (hO : Od σ σ') (h2 : Zr (gsz σ) σ') : Zr s σ' := by
  intro x hx hy
  rcases Nat.lt_or_ge x (gsz σ) with c | c
  · obtain ⟨h1, h3⟩ := h x hx c
    obtain ⟨-, a2, -, -, a5, a6⟩ := hO.2 x c
    exact ⟨fun j => ⟨by rw [a5]; exact (h1 j).1, by rw [a6]; exact (h1 j).2⟩, fun c k hn => by rw [a2]; exact h3 c k hn⟩
  · exact h2 x c hy
theorem Zr.r {s c k a : Nat} {v : Option Nat} {σ : gS} (h : Zr s σ) : Zr s (gsR σ c k a v) := h
theorem Zr.i {s c k a : Nat} {v : Int32} {σ : gS} (h : Zr s σ) (hv : v = 0 ∨ (c = 5 ∧ k = 5)) : Zr s (gsI σ c k a v) := by
  intro x hx hy
  obtain ⟨h1, h2⟩ := h x hx hy
  refine ⟨h1, fun c' k' hn => ?_⟩
  rw [qI_ii]
  by_cases z : c' = c ∧ k' = k ∧ x = a
  · rw [if_pos z]
    rcases hv with hv | hv
    · exact hv
    · exact absurd ⟨z.1.trans hv.1, z.2.1.trans hv.2⟩ hn
  · rw [if_neg z]
    exact h2 c' k' hn
section UN
variable {s : Nat} {ex : Nat → Prop} {σ : gS}
theorem nw_arr {t n : Nat} (h : WFx ex (cut s σ)) (hs : s ≤ gsz σ) (hR : Rok σ) : Nw s ex σ (gsN σ (t + 9) n n) (t + 9) n (n + 64) := by
  obtain ⟨e1, e2⟩ := u_arr (t := t) (n := n) h hs hR
  exact ⟨e1, by rw [qN_kd, if_pos rfl], by rw [qN_ln, if_pos rfl], e2, Zr.self.new, by rw [qN_sz]; omega⟩
/-- an object whose reference fields below m are set -/
def Bd (s : Nat) (ex : Nat → Prop) (σ0 σ : gS) (c m d : Nat) : Prop := WFx (fun x => ex x ∨ x = gsz σ0) (cut s σ) ∧ Od σ0 σ ∧ gkd σ (gsz σ0) = c + 1 ∧ gln σ (gsz σ0) = 0 ∧ Free (cut s σ) (gsz σ0) ∧ (∀ b, b < gsz σ0 → Free (cut s σ0) b → Free (cut s σ) b) ∧ BK d σ0 σ ∧ Rok σ ∧ Zr (gsz σ0) σ ∧ gsz σ0 < gsz σ ∧ s ≤ gsz σ0 ∧ (∀ k, k < m → k < gnf c → grf c k = true → ∃ b, grr σ c k (gsz σ0) = some b ∧ gkd σ b = ftk c k ∧ (fln c k ≠ 0 → gln σ b = fln c k) ∧ gsz σ0 < b ∧ b < gsz σ)
theorem bd_start {c : Nat} (h : WFx ex (cut s σ)) (hs : s ≤ gsz σ) (hR : Rok σ) (hc : c ≠ 4) : Bd s ex σ (gsN σ c 0 (gnf c)) c 0 (gnf c + 64) := by
  obtain ⟨b1, b2⟩ := bk_new (d := c) (n := 0) (w := gnf c) hR hc
  obtain ⟨f1, f2⟩ := new_free (d := c) (n := 0) (w := gnf c) h
  refine ⟨?_, Od.new, by rw [qN_kd, if_pos rfl], by rw [qN_ln, if_pos rfl], by rw [cut_gsN hs]; exact f1, fun b _ hb => by rw [cut_gsN hs]; exact f2 b hb, b1, b2, Zr.self.new, by rw [qN_sz]; omega, hs, fun k hk => absurd hk (by omega)⟩
  rw [cut_gsN hs]
  exact new_wf h
variable {σ0 : gS}
theorem Bd.set {c m d k c' n e : Nat} {σ1 : gS} (B : Bd s ex σ0 σ c m d) (N : Nw s (fun x => ex x ∨ x = gsz σ0) σ σ1 c' n e) (hc : c ≠ 4) (hk : k < gnf c ∧ grf c k = true ∧ ftk c k = c' + 1 ∧ (fln c k ≠ 0 → n = fln c k)) (hm : ∀ j, j < k → m ≤ j → grf c j = false) : Bd s ex σ0 (gsR σ1 c k (gsz σ0) (some (gsz σ))) c (k + 1) (e + d) := by
  obtain ⟨b1, b2, b3, b4, b5, b6, b7, b8, b9, b10, b11, b12⟩ := B
  obtain ⟨⟨n1, n2, n3, n4, n5⟩, n6, n7, n8, n9, n10⟩ := N
  have ka : gkd σ1 (gsz σ0) = c + 1 := by rw [(n2.2 _ b10).1]; exact b3
  have fa : Free (cut s σ1) (gsz σ0) := n3 _ b10 b5
  refine ⟨?_, (b2.trans n2).r (Nat.le_refl _), ka, by show gln σ1 _ = _; rw [(n2.2 _ b10).2.2.2.1]; exact b4, ?_, fun b hb hf => ?_, ?_, (bk_r n5 hc).2, (b9.join n2 n9).r, Nat.lt_trans b10 n10, b11, fun j hj hj1 hj2 => ?_⟩
  · rw [cut_gsR]
    exact set_wf n1 (by rw [cut_ge b11]; exact ka) (Or.inr rfl) hk.1 hk.2.1 n8 (by rw [cut_ge (by omega), n6]; omega)
  · rw [cut_gsR]
    exact set_free fa (by omega)
  · rw [cut_gsR]
    exact set_free (n3 b (by omega) (b6 b hb hf)) (by omega)
  · have := (b7.trans n4).trans (bk_r (c := c) (k := k) (a := gsz σ0) (v := some (gsz σ)) n5 hc).1
    exact this.le (by omega)
  · by_cases z : j = k
    · refine ⟨gsz σ, by rw [qR_rr, if_pos ⟨rfl, z, rfl⟩], ?_, fun hl => ?_, b10, n10⟩
      · show gkd σ1 _ = _
        rw [n6, z]; exact hk.2.2.1.symm
      · show gln σ1 _ = _
        rw [n7, z]; exact hk.2.2.2 (by rw [← z]; exact hl)
    · have hjm : j < m := by
        rcases Nat.lt_or_ge j m with q | q
        · exact q
        · have := hm j (by omega) q
          rw [this] at hj2
          cases hj2
      obtain ⟨b, q1, q2, q3, q4, q5⟩ := b12 j hjm hj1 hj2
      refine ⟨b, ?_, ?_, fun hl => ?_, q4, Nat.lt_trans q5 n10⟩
      · rw [qR_rr, if_neg (fun y => z y.2.1), (n2.2 _ b10).2.2.1]; exact q1
      · show gkd σ1 _ = _
        rw [(n2.2 _ q5).1]; exact q2
      · show gln σ1 _ = _
        rw [(n2.2 _ q5).2.2.2.1]; exact q3 hl
theorem Bd.int {c m d k : Nat} {v : Int32} (B : Bd s ex σ0 σ c m d) (hv : v = 0 ∨ (c = 5 ∧ k = 5)) : Bd s ex σ0 (gsI σ c k (gsz σ0) v) c m d := by
  obtain ⟨b1, b2, b3, b4, b5, b6, b7, b8, b9, b10, b11, b12⟩ := B
  refine ⟨?_, b2.i (Nat.le_refl _), b3, b4, b5, b6, ?_, b8, b9.i hv, b10, b11, b12⟩
  · rw [cut_gsI]
    exact int_wf b1 (Or.inr rfl)
  · exact (b7.trans (bk_i (c := c) (k := k) (a := gsz σ0) (v := v) b8).1).le (by omega)
theorem Bd.done {c m d D : Nat} (B : Bd s ex σ0 σ c m d) (hm : gnf c ≤ m) (hc : c ≠ 4) (hd : d ≤ D) : Nw s ex σ0 σ c 0 D := by
  obtain ⟨b1, b2, b3, b4, b5, b6, b7, b8, b9, b10, b11, b12⟩ := B
  refine ⟨⟨close_wf b1 (fun c' k hk hc' hkn hf => ?_) (fun hk => ?_), b2, b6, b7.le hd, b8⟩, b3, b4, b5, b9, b10⟩
  · rw [cut_ge b11, b3] at hk
    have : c' = c := by omega
    subst this
    obtain ⟨b, q1, q2, q3, q4, q5⟩ := b12 k (by omega) hkn hf
    exact ⟨b, q1, by rw [cut_ge (by omega)]; exact q2, q3⟩
  · rw [cut_ge b11, b3] at hk
    omega
/-- the last fields of a class may be ints -/
theorem Bd.skip {c m d m' : Nat} (B : Bd s ex σ0 σ c m d) (hm : ∀ j, j < m' → m ≤ j → grf c j = false) : Bd s ex σ0 σ c m' d := by
  obtain ⟨b1, b2, b3, b4, b5, b6, b7, b8, b9, b10, b11, b12⟩ := B
  refine ⟨b1, b2, b3, b4, b5, b6, b7, b8, b9, b10, b11, fun k hk hk1 hk2 => b12 k ?_ hk1 hk2⟩
  rcases Nat.lt_or_ge k m with q | q
  · exact q
  · have := hm k hk q
    rw [this] at hk2
    cases hk2
theorem Bd.kd {c m d : Nat} (B : Bd s ex σ0 σ c m d) : gkd σ (gsz σ0) = c + 1 := B.2.2.1
theorem Bd.wf {c m d : Nat} (B : Bd s ex σ0 σ c m d) : WFx (fun x => ex x ∨ x = gsz σ0) (cut s σ) ∧ s ≤ gsz σ ∧ Rok σ := ⟨B.1, by have := B.2.2.2.2.2.2.2.2.2.1; have := B.2.2.2.2.2.2.2.2.2.2.1; omega, B.2.2.2.2.2.2.2.1⟩
theorem Bd.bk {c m d : Nat} (B : Bd s ex σ0 σ c m d) : BK d σ0 σ := B.2.2.2.2.2.2.1
variable {Q : Unit → gS → Prop}
theorem bd_wI {c m d k : Nat} {v : Int32} {K : gM Unit} (B : Bd s ex σ0 σ c m d) (hv : v = 0 ∨ (c = 5 ∧ k = 5)) (h : ∀ σ', Bd s ex σ0 σ' c m d → σ' = gsI σ c k (gsz σ0) v → wp K σ' Q) : wp (gb (wI c k (some (gsz σ0)) v) fun _ => K) σ Q := wp_b (wp_wI B.kd (h _ (B.int hv) rfl))
theorem bd_wZ {c m d k : Nat} {v : Int32} {K : gM Unit} (B : Bd s ex σ0 σ c m d) (hv : v = 0) (h : ∀ σ', Bd s ex σ0 σ' c m d → σ' = gsI σ c k (gsz σ0) v → wp K σ' Q) : wp (gb (wZ c k (some (gsz σ0)) v) fun _ => K) σ Q := wp_b (wp_wZ B.kd (Or.inl hv) (h _ (B.int (Or.inl hv)) rfl))
theorem bd_arr {c m d k t n D : Nat} {K : gM Unit} (B : Bd s ex σ0 σ c m d) (hB : Bud σ0 D) (hD : n + 64 + d ≤ D) (hn : n ≤ 100000) (hc : c ≠ 4) (hk : k < gnf c ∧ grf c k = true ∧ ftk c k = t + 9 + 1 ∧ (fln c k ≠ 0 → n = fln c k)) (hm : ∀ j, j < k → m ≤ j → grf c j = false) (h : ∀ σ', Bd s ex σ0 σ' c (k + 1) (n + 64 + d) → wp K σ' Q) : wp (gb (nA t (nI n)) fun v => gb (wR c k (some (gsz σ0)) v) fun _ => K) σ Q := by
  obtain ⟨w1, w2, w3⟩ := B.wf
  obtain ⟨r1, r2⟩ := (B.bk (n + 64) (hB.le hD)).rm
  have N := nw_arr (t := t) (n := n) w1 w2 w3
  refine wp_b (wp_nA hn (by omega) (by omega) ?_)
  have B' := B.set N hc hk hm
  exact wp_b (wp_wR B'.kd (h _ B'))
theorem bd_obj {c m d k c' n e D : Nat} {I : Option Nat → gM Unit} {K : gM Unit} (B : Bd s ex σ0 σ c m d) (hB : Bud σ0 D) (hD : e + d ≤ D) (hU : WFx (fun x => ex x ∨ x = gsz σ0) (cut s σ) → s ≤ gsz σ → Rok σ → Bud σ e → ∀ (K' : Option Nat → gM Unit), (∀ σ', Nw s (fun x => ex x ∨ x = gsz σ0) σ σ' c' n e → wp (K' (some (gsz σ))) σ' Q) → wp (gb (nO c') fun v => gb (nn c' v) fun _ => gb (I v) fun _ => K' v) σ Q) (hc : c ≠ 4) (hk : k < gnf c ∧ grf c k = true ∧ ftk c k = c' + 1 ∧ (fln c k ≠ 0 → n = fln c k)) (hm : ∀ j, j < k → m ≤ j → grf c j = false) (h : ∀ σ' σ1, Bd s ex σ0 σ' c (k + 1) (e + d) → Nw s (fun x => ex x ∨ x = gsz σ0) σ σ1 c' n e → σ' = gsR σ1 c k (gsz σ0) (some (gsz σ)) → wp K σ' Q) : wp (gb (nO c') fun v => gb (nn c' v) fun _ => gb (I v) fun _ => gb (wR c k (some (gsz σ0)) v) fun _ => K) σ Q := by
  obtain ⟨w1, w2, w3⟩ := B.wf
  refine hU w1 w2 w3 (B.bk e (hB.le hD)) (fun v => gb (wR c k (some (gsz σ0)) v) fun _ => K) (fun σ' N => ?_)
  have B' := B.set N hc hk hm
  exact wp_b (wp_wR B'.kd (h _ _ B' N rfl))
end UN
/-- a unit: room for D, then an object of class c' that I has made -/
def Unt (c D : Nat) (I : Option Nat → gM Unit) : Prop := ∀ (β : Type) (s : Nat) (ex : Nat → Prop) (σ : gS) (Q : β → gS → Prop), WFx ex (cut s σ) → s ≤ gsz σ → Rok σ → Bud σ D → ∀ (K : Option Nat → gM β), (∀ σ', Nw s ex σ σ' c 0 D → wp (K (some (gsz σ))) σ' Q) → wp (gb (nO c) fun v => gb (nn c v) fun _ => gb (I v) fun _ => K v) σ Q
theorem unt {c D : Nat} {I : Option Nat → gM Unit} (hc : c ≠ 4) (hD : gnf c + 64 ≤ D) (hI : ∀ (s : Nat) (ex : Nat → Prop) (σ σ1 : gS), Bud σ D → Bd s ex σ σ1 c 0 (gnf c + 64) → wp (I (some (gsz σ))) σ1 (fun _ σ' => Nw s ex σ σ' c 0 D)) : Unt c D I := by
  intro β s ex σ Q h hs hR hB K hK
  obtain ⟨r1, r2⟩ := hB.rm
  have B := bd_start (c := c) h hs hR hc
  refine wp_b (wp_nO (by omega) (by omega) ?_)
  refine wp_b (wp_nn B.kd ?_)
  exact wp_b (wp_mono (hI s ex σ _ hB B) (fun _ σ' N => hK σ' N))
theorem un_addr : Unt 0 134 f_X0_init := by
  refine unt (by decide) (by decide) (fun s ex σ σ1 hB B => ?_)
  unfold f_X0_init
  refine wp_f (by simp) ?_
  refine bd_wI B (Or.inl rfl) (fun σ2 B _ => ?_)
  refine bd_arr (n := 4) B hB (by decide) (by decide) (by decide) (by decide) (by decide) (fun σ3 B => ?_)
  exact wp_p (B.done (by decide) (by decide) (by decide))
theorem un_row : Unt 4 8256 f_X5_init := by
  intro β s ex σ Q h hs hR hB K hK
  obtain ⟨r1, r2⟩ := hB.rm
  refine wp_b (wp_nO (by omega) (by have : gnf 4 = 2 := rfl; omega) ?_)
  have k1 : gkd (gsN σ 4 0 (gnf 4)) (gsz σ) = 5 := by rw [qN_kd, if_pos rfl]
  refine wp_b (wp_nn k1 ?_)
  refine wp_b ?_
  unfold f_X5_init
  refine wp_f (by simp) ?_
  refine wp_b (wp_nA (n := 32) (by decide) (by rw [qN_cl]; omega) (by rw [qN_sl]; have : gnf 4 = 2 := rfl; omega) ?_)
  generalize e1 : gsN σ 4 0 (gnf 4) = σ1 at k1
  have z1 : gsz σ1 = gsz σ + 1 := by rw [← e1]; rfl
  have k2 : gkd (gsN σ1 (1 + 9) 32 32) (gsz σ) = 5 := by rw [qN_kd, if_neg (by omega)]; exact k1
  refine wp_b (wp_wR k2 ?_)
  refine wp_b (wp_wI (c := 4) k2 ?_)
  refine wp_p (hK _ ?_)
  have N1 := new_wf (d := 4) (n := 0) (w := gnf 4) h
  obtain ⟨f1, f2⟩ := new_free (d := 4) (n := 0) (w := gnf 4) h
  rw [← cut_gsN hs, e1] at N1
  have hs1 : s ≤ gsz σ1 := by omega
  have f1 : Free (cut s σ1) (gsz σ) := by rw [← e1, cut_gsN hs]; exact f1
  have f2 : ∀ b, Free (cut s σ) b → Free (cut s σ1) b := fun b hb => by rw [← e1, cut_gsN hs]; exact f2 b hb
  have N2 := new_wf (d := 1 + 9) (n := 32) (w := 32) N1
  obtain ⟨g1, g2⟩ := new_free (d := 1 + 9) (n := 32) (w := 32) N1
  rw [← cut_gsN hs1] at N2
  have g1 : Free (cut s (gsN σ1 (1 + 9) 32 32)) (gsz σ1) := by rw [cut_gsN hs1]; exact g1
  have g2 : ∀ b, Free (cut s σ1) b → Free (cut s (gsN σ1 (1 + 9) 32 32)) b := fun b hb => by rw [cut_gsN hs1]; exact g2 b hb
  have hO1 : Od σ σ1 := by rw [← e1]; exact Od.new
  have Z1 : Zr (gsz σ) σ1 := by rw [← e1]; exact Zr.self.new
  generalize e2 : gsN σ1 (1 + 9) 32 32 = σ2 at *
  have hO2 : Od σ1 σ2 := by rw [← e2]; exact Od.new
  have k3 : gkd σ2 (gsz σ1) = 11 := by rw [← e2, qN_kd, if_pos rfl]
  have l3 : gln σ2 (gsz σ1) = 32 := by rw [← e2, qN_ln, if_pos rfl]
  have z2 : gsz σ2 = gsz σ + 2 := by rw [← e2]; show gsz σ1 + 1 = _; omega
  have Z2 : Zr (gsz σ) σ2 := by rw [← e2]; exact Z1.new
  have W3 : WFx (fun x => (ex x ∨ x = gsz σ) ∨ x = gsz σ1) (gsR (cut s σ2) 4 0 (gsz σ) (some (gsz σ1))) := set_wf N2 (by rw [cut_ge hs]; exact k2) (Or.inl (Or.inr rfl)) (by decide) rfl g1 (by rw [cut_ge hs1, k3]; decide)
  have W4 := int_wf (c := 4) (k := 1) (a := gsz σ) (v := 0) W3 (Or.inl (Or.inr rfl))
  have fr : ∀ b, b ≠ gsz σ1 → Free (cut s σ2) b → Free (gsI (gsR (cut s σ2) 4 0 (gsz σ) (some (gsz σ1))) 4 1 (gsz σ) 0) b := fun b hn hb => int_free (set_free hb hn)
  generalize e4 : gsI (gsR σ2 4 0 (gsz σ) (some (gsz σ1))) 4 1 (gsz σ) 0 = σ4
  have c4 : cut s σ4 = gsI (gsR (cut s σ2) 4 0 (gsz σ) (some (gsz σ1))) 4 1 (gsz σ) 0 := by rw [← e4]; rfl
  rw [← c4] at W4 fr
  have K4 : ∀ a, gkd σ4 a = gkd σ2 a := fun a => by rw [← e4]; rfl
  have L4 : ∀ a, gln σ4 a = gln σ2 a := fun a => by rw [← e4]; rfl
  have S4 : gsz σ4 = gsz σ2 := by rw [← e4]; rfl
  have t4 : grr σ4 4 0 (gsz σ) = some (gsz σ1) := by rw [← e4, qI_rr, qR_rr, if_pos ⟨rfl, rfl, rfl⟩]
  have i4 : gii σ4 4 1 (gsz σ) = 0 := by rw [← e4, qI_ii, if_pos ⟨rfl, rfl, rfl⟩]
  have cp4 : rcap σ4 (gsz σ) = 32 := by rw [rcap, tg_of t4, L4]; exact l3
  have rl4 : rlen σ4 (gsz σ) = 0 := by rw [rlen, i4]; rfl
  have W5 : WFx (fun x => ex x ∨ x = gsz σ) (cut s σ4) := by
    refine close_wf W4 (fun c k hk hc _ _ => ?_) (fun hk => ?_)
    · rw [cut_ge hs1, K4, k3] at hk; omega
    · rw [cut_ge hs1, K4, k3] at hk; omega
  have W6 : WFx ex (cut s σ4) := by
    refine close_wf W5 (fun c k hk hc hkn hf => ?_) (fun hk => ?_)
    · rw [cut_ge hs, K4, k2] at hk
      have hc4 : c = 4 := by omega
      subst hc4
      have hk0 : k = 0 := by
        rcases Nat.eq_zero_or_pos k with z | z
        · exact z
        · have : k = 1 := by have : gnf 4 = 2 := rfl; omega
          subst this
          cases hf
      subst hk0
      exact ⟨gsz σ1, t4, by rw [cut_ge hs1, K4]; exact k3, fun z => absurd rfl z⟩
    · have r1 : rlen (cut s σ4) (gsz σ) = 0 := rl4
      have r2 : rcap (cut s σ4) (gsz σ) = 32 := cp4
      rw [r1, r2]
      exact ⟨i4, by omega, 0, by omega, by decide⟩
  have hO : Od σ σ4 := by
    rw [← e4]
    exact ((hO1.trans hO2).r (Nat.le_refl _)).i (Nat.le_refl _)
  have Z4 : Zr (gsz σ) σ4 := by
    rw [← e4]
    exact (Zr.r Z2).i (Or.inl rfl)
  have cl4 : gcl σ4 = gcl σ - 1 - 1 := by rw [← e4, qI_cl, qR_cl, ← e2, qN_cl, ← e1, qN_cl]
  have sl4 : gsl σ4 = gsl σ - 2 - 32 := by rw [← e4, qI_sl, qR_sl, ← e2, qN_sl, ← e1, qN_sl]; rfl
  refine ⟨⟨W6, hO, fun b hb hf => fr b (by omega) (g2 b (f2 b hf)), fun n hn => ?_, fun a ha => ?_, fun a b ha hb => ?_⟩, by rw [K4]; exact k2, ?_, fr _ (by omega) (g2 _ f1), Z4, by omega⟩
  · have p1 : psum σ4 (gsz σ) = psum σ (gsz σ) := psum_congr (fun a ha => pot_od hR hO ha)
    have p2 : pot σ4 (gsz σ) = 8128 := by rw [pot, if_pos (by rw [K4]; exact k2), cp4]
    have p3 : pot σ4 (gsz σ + 1) = 0 := by rw [pot, if_neg (by rw [K4, ← z1, k3]; decide)]
    obtain ⟨q1, q2⟩ := hn
    unfold Bud
    rw [S4, z2, cl4, sl4]
    show psum σ4 (gsz σ) + pot σ4 (gsz σ) + pot σ4 (gsz σ + 1) + n ≤ _ ∧ psum σ4 (gsz σ) + pot σ4 (gsz σ) + pot σ4 (gsz σ + 1) + n ≤ _
    rw [p1, p2, p3]
    omega
  · rw [K4, ← e2, qN_kd] at ha
    rw [S4, z2]
    split at ha
    · omega
    · rw [← e1, qN_kd] at ha
      split at ha
      · omega
      · have := hR.1 a ha; omega
  · rw [S4, z2]
    rw [K4] at ha
    by_cases za : a = gsz σ
    · rw [za, t4] at hb
      have := Option.some.inj hb
      omega
    · rw [← e4, qI_rr, qR_rr, if_neg (fun y => za y.2.2), ← e2, qN_rr] at hb
      split at hb
      · cases hb
      · rename_i z'
        rw [← e2, qN_kd, if_neg z', ← e1, qN_kd, if_neg za] at ha
        rw [← e1, qN_rr, if_neg za] at hb
        have := hR.2 a b ha hb
        omega
  · rw [L4, (hO2.2 (gsz σ) (by omega)).2.2.2.1, ← e1, qN_ln, if_pos rfl]
theorem un_host : Unt 2 8456 f_X3_init := by
  refine unt (by decide) (by decide) (fun s ex σ σ1 hB B => ?_)
  unfold f_X3_init
  refine wp_f (by simp) ?_
  refine bd_obj B hB (e := 134) (by decide) (un_addr _ _ _ _ _) (by decide) (by decide) (by decide) (fun σ2 _ B _ _ => ?_)
  refine bd_obj B hB (e := 8256) (by decide) (un_row _ _ _ _ _) (by decide) (by decide) (by decide) (fun σ3 _ B _ _ => ?_)
  exact wp_p (B.done (by decide) (by decide) (by decide))
theorem un_hreader : Unt 3 8395 f_X4_init := by
  refine unt (by decide) (by decide) (fun s ex σ σ1 hB B => ?_)
  unfold f_X4_init
  refine wp_f (by simp) ?_
  refine bd_obj B hB (e := 8256) (by decide) (un_row _ _ _ _ _) (by decide) (by decide) (by decide) (fun σ2 _ B _ _ => ?_)
  refine bd_arr (n := 8) B hB (by decide) (by decide) (by decide) (by decide) (by decide) (fun σ3 B => ?_)
  refine bd_wI B (Or.inl rfl) (fun σ2 B _ => ?_)
  exact wp_p ((B.skip (m' := 3) (by decide)).done (by decide) (by decide) (by decide))
theorem un_reader : Unt 6 8324 f_X7_init := by
  refine unt (by decide) (by decide) (fun s ex σ σ1 hB B => ?_)
  unfold f_X7_init
  refine wp_f (by simp) ?_
  refine bd_obj B hB (e := 8256) (by decide) (un_row _ _ _ _ _) (by decide) (by decide) (by decide) (fun σ2 _ B _ _ => ?_)
  refine bd_wI B (Or.inl rfl) (fun σ2 B _ => ?_)
  refine bd_wI B (Or.inl rfl) (fun σ2 B _ => ?_)
  refine bd_wI B (Or.inl rfl) (fun σ2 B _ => ?_)
  exact wp_p ((B.skip (m' := 4) (by decide)).done (by decide) (by decide) (by decide))
theorem un_gate : Unt 1 537 f_X2_init := by
  refine unt (by decide) (by decide) (fun s ex σ σ1 hB B => ?_)
  unfold f_X2_init
  refine wp_f (by simp) ?_
  refine bd_arr (n := 12) B hB (by decide) (by decide) (by decide) (by decide) (by decide) (fun σ3 B => ?_)
  refine bd_arr (n := 12) B hB (by decide) (by decide) (by decide) (by decide) (by decide) (fun σ3 B => ?_)
  refine bd_wI B (Or.inl rfl) (fun σ2 B _ => ?_)
  refine bd_arr (n := 16) B hB (by decide) (by decide) (by decide) (by decide) (by decide) (fun σ3 B => ?_)
  refine bd_arr (n := 16) B hB (by decide) (by decide) (by decide) (by decide) (by decide) (fun σ3 B => ?_)
  refine bd_wI B (Or.inl rfl) (fun σ2 B _ => ?_)
  refine bd_arr (n := 12) B hB (by decide) (by decide) (by decide) (by decide) (by decide) (fun σ3 B => ?_)
  refine bd_arr (n := 12) B hB (by decide) (by decide) (by decide) (by decide) (by decide) (fun σ3 B => ?_)
  refine bd_wI B (Or.inl rfl) (fun σ2 B _ => ?_)
  exact wp_p ((B.skip (m' := 9) (by decide)).done (by decide) (by decide) (by decide))
theorem un_url : Unt 5 58068 f_X6_init := by
  refine unt (by decide) (by decide) (fun s ex σ σ1 hB B => ?_)
  unfold f_X6_init
  refine wp_f (by simp) ?_
  refine bd_wI B (Or.inl rfl) (fun σ2 B _ => ?_)
  refine bd_obj B hB (e := 8256) (by decide) (un_row _ _ _ _ _) (by decide) (by decide) (by decide) (fun σ2 _ B _ _ => ?_)
  refine bd_obj B hB (e := 8256) (by decide) (un_row _ _ _ _ _) (by decide) (by decide) (by decide) (fun σ2 _ B _ _ => ?_)
  refine bd_obj B hB (e := 8256) (by decide) (un_row _ _ _ _ _) (by decide) (by decide) (by decide) (fun σ2 _ B _ _ => ?_)
  refine bd_obj B hB (e := 8456) (by decide) (un_host _ _ _ _ _) (by decide) (by decide) (by decide) (fun σ2 _ B _ _ => ?_)
  refine bd_wI B (Or.inr ⟨rfl, rfl⟩) (fun σ2 B _ => ?_)
  refine bd_obj B hB (e := 8256) (by decide) (un_row _ _ _ _ _) (by decide) (by decide) (by decide) (fun σ2 _ B _ _ => ?_)
  refine bd_wI B (Or.inl rfl) (fun σ2 B _ => ?_)
  refine bd_obj B hB (e := 8256) (by decide) (un_row _ _ _ _ _) (by decide) (by decide) (by decide) (fun σ2 _ B _ _ => ?_)
  refine bd_wZ B rfl (fun σ2 B _ => ?_)
  refine bd_obj B hB (e := 8256) (by decide) (un_row _ _ _ _ _) (by decide) (by decide) (by decide) (fun σ2 _ B _ _ => ?_)
  refine bd_wZ B rfl (fun σ2 B _ => ?_)
  exact wp_p ((B.skip (m' := 12) (by decide)).done (by decide) (by decide) (by decide))
theorem un_ugate : Unt 7 100432 f_X8_init := by
  refine unt (by decide) (by decide) (fun s ex σ σ1 hB B => ?_)
  unfold f_X8_init
  refine wp_f (by simp) ?_
  refine bd_obj B hB (e := 8256) (by decide) (un_row _ _ _ _ _) (by decide) (by decide) (by decide) (fun σ2 _ B _ _ => ?_)
  refine bd_obj B hB (e := 8256) (by decide) (un_row _ _ _ _ _) (by decide) (by decide) (by decide) (fun σ2 _ B _ _ => ?_)
  refine bd_arr (n := 4) B hB (by decide) (by decide) (by decide) (by decide) (by decide) (fun σ3 B => ?_)
  refine bd_obj B hB (e := 8456) (by decide) (un_host _ _ _ _ _) (by decide) (by decide) (by decide) (fun σ2 _ B _ _ => ?_)
  refine bd_obj B hB (e := 8395) (by decide) (un_hreader _ _ _ _ _) (by decide) (by decide) (by decide) (fun σ2 _ B _ _ => ?_)
  refine bd_obj B hB (e := 8324) (by decide) (un_reader _ _ _ _ _) (by decide) (by decide) (by decide) (fun σ2 _ B _ _ => ?_)
  refine bd_obj B hB (e := 537) (by decide) (un_gate _ _ _ _ _) (by decide) (by decide) (by decide) (fun σ2 _ B _ _ => ?_)
  refine bd_obj B hB (e := 58068) (by decide) (un_url _ _ _ _ _) (by decide) (by decide) (by decide) (fun σ2 _ B _ _ => ?_)
  exact wp_p (B.done (by decide) (by decide) (by decide))
theorem un_model : Unt 8 83871 f_X9_init := by
  refine unt (by decide) (by decide) (fun s ex σ σ1 hB B => ?_)
  unfold f_X9_init
  refine wp_f (by simp) ?_
  refine bd_arr (n := 300) B hB (by decide) (by decide) (by decide) (by decide) (by decide) (fun σ3 B => ?_)
  refine bd_arr (n := 5) B hB (by decide) (by decide) (by decide) (by decide) (by decide) (fun σ3 B => ?_)
  refine bd_arr (n := 5) B hB (by decide) (by decide) (by decide) (by decide) (by decide) (fun σ3 B => ?_)
  refine bd_arr (n := 5) B hB (by decide) (by decide) (by decide) (by decide) (by decide) (fun σ3 B => ?_)
  refine bd_arr (n := 5) B hB (by decide) (by decide) (by decide) (by decide) (by decide) (fun σ3 B => ?_)
  refine bd_arr (n := 40) B hB (by decide) (by decide) (by decide) (by decide) (by decide) (fun σ3 B => ?_)
  refine bd_arr (n := 5) B hB (by decide) (by decide) (by decide) (by decide) (by decide) (fun σ3 B => ?_)
  refine bd_arr (n := 5) B hB (by decide) (by decide) (by decide) (by decide) (by decide) (fun σ3 B => ?_)
  refine bd_arr (n := 72000) B hB (by decide) (by decide) (by decide) (by decide) (by decide) (fun σ3 B => ?_)
  refine bd_arr (n := 30) B hB (by decide) (by decide) (by decide) (by decide) (by decide) (fun σ3 B => ?_)
  refine bd_arr (n := 300) B hB (by decide) (by decide) (by decide) (by decide) (by decide) (fun σ3 B => ?_)
  refine bd_arr (n := 300) B hB (by decide) (by decide) (by decide) (by decide) (by decide) (fun σ3 B => ?_)
  refine bd_arr (n := 8) B hB (by decide) (by decide) (by decide) (by decide) (by decide) (fun σ3 B => ?_)
  refine bd_arr (n := 400) B hB (by decide) (by decide) (by decide) (by decide) (by decide) (fun σ3 B => ?_)
  refine bd_arr (n := 3600) B hB (by decide) (by decide) (by decide) (by decide) (by decide) (fun σ3 B => ?_)
  refine bd_arr (n := 12) B hB (by decide) (by decide) (by decide) (by decide) (by decide) (fun σ3 B => ?_)
  refine bd_arr (n := 12) B hB (by decide) (by decide) (by decide) (by decide) (by decide) (fun σ3 B => ?_)
  refine bd_arr (n := 96) B hB (by decide) (by decide) (by decide) (by decide) (by decide) (fun σ3 B => ?_)
  refine bd_arr (n := 12) B hB (by decide) (by decide) (by decide) (by decide) (by decide) (fun σ3 B => ?_)
  refine bd_arr (n := 4800) B hB (by decide) (by decide) (by decide) (by decide) (by decide) (fun σ3 B => ?_)
  refine bd_arr (n := 16) B hB (by decide) (by decide) (by decide) (by decide) (by decide) (fun σ3 B => ?_)
  refine bd_arr (n := 16) B hB (by decide) (by decide) (by decide) (by decide) (by decide) (fun σ3 B => ?_)
  refine bd_arr (n := 64) B hB (by decide) (by decide) (by decide) (by decide) (by decide) (fun σ3 B => ?_)
  refine bd_arr (n := 12) B hB (by decide) (by decide) (by decide) (by decide) (by decide) (fun σ3 B => ?_)
  refine bd_arr (n := 48) B hB (by decide) (by decide) (by decide) (by decide) (by decide) (fun σ3 B => ?_)
  refine bd_arr (n := 12) B hB (by decide) (by decide) (by decide) (by decide) (by decide) (fun σ3 B => ?_)
  exact wp_p ((B.skip (m' := 35) (by decide)).done (by decide) (by decide) (by decide))
