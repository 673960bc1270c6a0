/-! THE OTHER OBJECT: readScheme -/
section MS
variable {m : Nat} {D : Nat → Nat} {M : MS} {xs : List Int32} {R : Nat → List Int32} {U : UV} {P : Unit → MS → Prop}
theorem Em_sc (U : UV) (a : Int32) : Em (scU (emU U) a) := Em.sc
theorem Bm.pre {x : Int32} {Bo : Option UV} {v : Int32} (h : Bm M R x Bo) : Bm (uA M 3 4 v) R x Bo := by
  rcases h with z | ⟨b, B, h1, h2, h3, h4, h5, h6⟩
  · exact Or.inl z
  · refine Or.inr ⟨b, B, h1, h2, h3, ⟨h4.1, ?_, h4.2.2⟩, h5, h6⟩
    rw [mA_uA, if_neg (fun z => by omega)]
    exact h4.2.1
def rdY (xs : List Int32) (Bo : Option UV) (U : UV) (c s : Nat) : Int32 ⊕ UV := match Bo with
  | none => enA xs (scU (emU U) (nI s)) (c + 1)
  | some B => if uI B 0 = nI s ∧ hasS xs (c + 1) (tstr 5) = false then enR xs B (scU (emU U) (nI s)) (c + 1) else enA xs (scU (emU U) (nI s)) (c + 1)
theorem rdX_s {Bo : Option UV} {c s : Nat} (hs : schE xs = some c) (hu : schU xs c 5 0 = some s) : rdX xs Bo U = rdY xs Bo U c s := by
  unfold rdX
  rw [hs]
  dsimp only
  rw [hu]
  cases Bo <;> rfl
theorem m_scheme {x : Int32} {Bo : Option UV} (hI : In M xs) (hR : Rw M R) (hA : ∀ a, PA (uA M 3 4 a) R 4 (scU (emU U) a)) (h13 : mI M 13 = 0) (h26 : R 26 = []) (hB : Bm M R x Bo) (hP : ∀ M', Rs M R (rdX xs Bo U) M' → P () M') : wm m D (f_X9_readScheme (some m) x) M P := by
  have hl := hI.2.1
  have F0 : ∀ v, Fw [3] [] M R (uA M 3 4 v) R := fun v => Fw.arr (by decide)
  have inl : ∀ c : Int32, rdX xs Bo U = .inl c → wm m D (gb (wI 8 13 (some m) c) fun _ => gp ()) M P := fun c e => by
    refine wm_b (wm_wI (wm_p (hP _ ⟨R, (Fw.int (k := 13)).mono (by decide) (by decide), hR.ex (Ex.n (S := [13]) (by decide)) (by decide) (by decide), fun q z => ?_, fun V z => ?_⟩)))
    · rw [e] at z
      cases z
      rw [mI_uN, if_pos rfl]
    · rw [e] at z
      cases z
  -- no scheme
  have k87 : schE xs = none → wm m D (f_X9_readScheme_87 (some m) x) M P := by
    intro hs
    unfold f_X9_readScheme_87
    rcases hB with ⟨rfl, rfl⟩ | ⟨b, B, hb, rfl, rfl, h4, h5, h6, s, hs5, hsB⟩
    · refine wm_f (by decide) (inl (-11) ?_)
      unfold rdX
      rw [hs]
    · refine wm_t (nI_pos' (by omega)) (wm_b (wm_rR (k := 3) (t := 1) (by decide) (wm_get (k := 3) (t := 1) (by decide) rfl (show b < 5 by omega) (wm_b (wm_sI (k := 3) (t := 1) (j := 4) (by decide) rfl (by decide) ?_)))))
      rw [gnar1, h4.2.1]
      have A1 := hA (uI B 0)
      have hB1 : PA (uA M 3 4 (uI B 0)) R b B := by
        refine ⟨h4.1, ?_, h4.2.2⟩
        rw [mA_uA, if_neg (fun z => by omega)]
        exact h4.2.1
      have E1 := (F0 (uI B 0)).1
      refine wm_n (wm_b (m_relative (p := 0) (hI.ex E1 (by decide) (by decide)) (Nat.zero_le _) (hR.ex E1 (by decide) (by decide)) A1 hs5 (by show uI B 0 = _; exact hsB) (Em_sc U _) h13 h26 hb hB1 h5 h6 rfl (fun M' r => wm_p (hP M' (Rs.pre (F0 (uI B 0)) (by decide) (by decide) ?_)))))
      unfold rdX
      rw [hs]
      exact r
  -- a scheme's word
  have k122 : ∀ c, schE xs = some c → c < xs.length → ∀ (k i f : Nat) (r : Option Nat), i + k = 5 → k < f → ((r = none ∧ ∀ w, w < i → isW xs c w = false) ∨ ∃ w, w < i ∧ r = some w ∧ isW xs c w = true) → wm m D (f_X9_readScheme_L122 f (some m) x (nI c) (oI r) (nI i)) M P := by
    intro c hs hc k
    induction k with
    | zero =>
      intro i f r hi hf hr
      obtain ⟨f, rfl⟩ : ∃ g, f = g + 1 := ⟨f - 1, by omega⟩
      have i5 : i = 5 := by omega
      subst i5
      rw [f_X9_readScheme_L122]
      unfold f_X9_readScheme_122
      refine wm_t (by decide) ?_
      rcases hr with ⟨rfl, hn⟩ | ⟨s, hs5, rfl, hw⟩
      · refine wm_f (show ¬ (0 : Int32) ≤ -1 by decide) (inl (-12) ?_)
        unfold rdX
        rw [hs]
        dsimp only
        rw [schU_n hn 5 0 rfl]
      · have hsu := schU_s hs5 hw 5 0 rfl (Nat.zero_le _)
        refine wm_t (show (0 : Int32) ≤ nI s from nI_pos' (by omega)) (wm_b (wm_rR (k := 3) (t := 1) (by decide) (wm_b (wm_sI (k := 3) (t := 1) (j := 4) (by decide) rfl (by decide) ?_))))
        rw [gnar1, show oI (some s) = nI s from rfl]
        have A1 := hA (nI s)
        have E1 := (F0 (nI s)).1
        have I1 := hI.ex E1 (by decide) (by decide)
        have R1 := hR.ex E1 (by decide) (by decide)
        have B1 := hB.pre (v := nI s)
        have er : rdX xs Bo U = rdY xs Bo U c s := rdX_s hs hsu
        have h2 : hasS xs (c + 1) (tstr 5) = true ↔ _ := has2 (xs := xs) (i := c + 1) (by omega) (by omega) 47 47
        -- the slashes
        have k230 : rdX xs Bo U = enA xs (scU (emU U) (nI s)) (c + 1) → wm m D (f_X9_readScheme_230 (some m) (nI c)) (uA M 3 4 (nI s)) P := by
          intro e
          unfold f_X9_readScheme_230
          rw [nI_1]
          refine wm_n (wm_b (m_slashes I1 (by omega) R1 A1 hs5 rfl (Em_sc U _) h13 h26 (fun M' r => wm_p (hP M' (Rs.pre (F0 (nI s)) (by decide) (by decide) ?_)))))
          rw [e]
          exact r
        have k198 : ∀ b2 : Bool, b2 = hasS xs (c + 1) (tstr 5) → wm m D (f_X9_readScheme_198 (some m) x (nI c) (nI s) (b2i b2)) (uA M 3 4 (nI s)) P := by
          intro b2 hb2
          unfold f_X9_readScheme_198
          rcases B1 with ⟨rfl, rfl⟩ | ⟨b, B, hb, rfl, rfl, h4, h5, h6, s', hs', hsB⟩
          · exact wm_t (by decide) (k230 er)
          · refine wm_f (nI_pos (by omega)) (wm_get (k := 3) (t := 1) (by decide) rfl (show b < 5 by omega) ?_)
            rw [h4.2.1]
            have er : rdX xs (some B) U = if uI B 0 = nI s ∧ hasS xs (c + 1) (tstr 5) = false then enR xs B (scU (emU U) (nI s)) (c + 1) else enA xs (scU (emU U) (nI s)) (c + 1) := er
            refine wm_if (fun d => ?_) (fun d => k230 (by rw [er, if_neg (fun z => d z.1)]))
            refine wm_bz (fun z => ?_) (fun z => k230 (by rw [er, if_neg (fun w => by rw [← hb2, z] at w; exact absurd w.2 (by decide))]))
            rw [if_pos ⟨d, by rw [← hb2]; exact z⟩] at er
            rw [nI_1]
            refine wm_n (wm_b (m_relative I1 (by omega) R1 A1 hs5 rfl (Em_sc U _) h13 h26 hb h4 h5 h6 d (fun M' r => wm_p (hP M' (Rs.pre (F0 (nI s)) (by decide) (by decide) ?_)))))
            rw [er]
            exact r
        have no : ¬ (hasS xs (c + 1) (tstr 5) = true) → wm m D (f_X9_readScheme_197 (some m) x (nI c) (nI s)) (uA M 3 4 (nI s)) P := fun h => by
          unfold f_X9_readScheme_197
          exact k198 false (by simpa using h)
        rw [nI_1, show nI c + 2 = nI (c + 1 + 1) from nI_add c 2]
        refine m_ba I1 (by omega) (wm_if (fun d => ?_) (fun d => no (fun z => d (h2.mp z).1)))
        refine m_ba I1 (by omega) (wm_if (fun e => ?_) (fun e => no (fun z => e (h2.mp z).2)))
        exact k198 true (h2.mpr ⟨d, e⟩).symm
    | succ k ih =>
      intro i f r hi hf hr
      obtain ⟨f, rfl⟩ : ∃ g, f = g + 1 := ⟨f - 1, by omega⟩
      rw [f_X9_readScheme_L122]
      unfold f_X9_readScheme_122
      refine wm_f (show ¬ nI 5 ≤ nI i from nI_ge (by omega) (by omega)) (wm_n (wm_b (m_isWord hI (by omega) (by omega) ?_)))
      rw [nI_1]
      refine wm_bz (fun z => ih (i + 1) f r (by omega) (by omega) ?_) (fun z => ih (i + 1) f (some i) (by omega) (by omega) (Or.inr ⟨i, by omega, rfl, z⟩))
      rcases hr with ⟨h1, h2⟩ | ⟨w, h1, h2, h3⟩
      · left
        refine ⟨h1, fun w hw => ?_⟩
        by_cases e : w = i
        · rw [e]; exact z
        · exact h2 w (by omega)
      · exact Or.inr ⟨w, by omega, h2, h3⟩
  have k73 : ∀ c, c = scS xs (xs.length - 1) 1 → pLet (xs.getD 0 (-1)) ≠ 0 → 0 < c → c ≤ xs.length → wm m D (f_X9_readScheme_73 (some m) x (nI c)) M P := by
    intro c hc hlet h0 hcl
    have es : schE xs = if xs.getD c (-1) = 58 then some c else none := by
      unfold schE
      rw [if_neg hlet, ← hc]
    unfold f_X9_readScheme_73
    refine wm_f (nI_ne0 h0 (by omega)) (m_ba hI (by omega) (wm_if (fun d => ?_) (fun d => k87 (by rw [es, if_neg d]))))
    have cl : c < xs.length := by
      rcases Nat.lt_or_ge c xs.length with z | z
      · exact z
      · rw [gd_out z] at d
        exact absurd d (by decide)
    exact k122 c (by rw [es, if_pos d]) cl 5 0 gF none (by omega) (by decide) (Or.inl ⟨rfl, fun w hw => absurd hw (Nat.not_lt_zero _)⟩)
  have L15 : pLet (xs.getD 0 (-1)) ≠ 0 → ∀ (k i f : Nat), i + k = xs.length → k < f → 0 < i → scS xs k i = scS xs (xs.length - 1) 1 → wm m D (f_X9_readScheme_L15 f (some m) x (nI i)) M P := by
    intro hlet k
    induction k with
    | zero =>
      intro i f hi hf h0 eq
      obtain ⟨f, rfl⟩ : ∃ g, f = g + 1 := ⟨f - 1, by omega⟩
      rw [f_X9_readScheme_L15]
      unfold f_X9_readScheme_15
      rw [scS] at eq
      have e1 := gd_out (xs := xs) (i := i) (by omega)
      refine m_ba hI (by omega) (wm_b (wm_q (fun _ _ => m_isLetter (Or.inl e1)) ?_))
      rw [e1]
      refine wm_t (by decide) (m_ba hI (by omega) (wm_b (wm_q (fun _ _ => m_isDigit) ?_)))
      rw [e1]
      refine wm_t (by decide) (m_ba hI (by omega) ?_)
      rw [e1]
      refine wm_f (by decide) (m_ba hI (by omega) ?_)
      rw [e1]
      refine wm_f (by decide) (m_ba hI (by omega) ?_)
      rw [e1]
      exact wm_f (by decide) (k73 i eq hlet h0 (by omega))
    | succ k ih =>
      intro i f hi hf h0 eq
      obtain ⟨f, rfl⟩ : ∃ g, f = g + 1 := ⟨f - 1, by omega⟩
      rw [f_X9_readScheme_L15]
      unfold f_X9_readScheme_15
      rw [scS] at eq
      rw [nI_1]
      have nx : pMay (xs.getD i (-1)) ≠ 0 → wm m D (f_X9_readScheme_L15 f (some m) x (nI (i + 1))) M P := fun h => by
        rw [if_neg h] at eq
        exact ih (i + 1) f (by omega) (by omega) (by omega) eq
      unfold pMay at nx eq
      refine m_ba hI (by omega) (wm_b (wm_q (fun _ _ => m_isLetter (hI.2.2.1.gm i)) ?_))
      refine wm_if (fun c1 => ?_) (fun c1 => nx (by rw [if_neg c1]; decide))
      rw [if_pos c1] at nx eq
      refine m_ba hI (by omega) (wm_b (wm_q (fun _ _ => m_isDigit) ?_))
      refine wm_if (fun c2 => ?_) (fun c2 => nx (by rw [if_neg c2]; decide))
      rw [if_pos c2] at nx eq
      refine m_ba hI (by omega) (wm_if (fun c3 => nx (by rw [if_pos c3]; decide)) (fun c3 => ?_))
      rw [if_neg c3] at nx eq
      refine m_ba hI (by omega) (wm_if (fun c4 => nx (by rw [if_pos c4]; decide)) (fun c4 => ?_))
      rw [if_neg c4] at nx eq
      refine m_ba hI (by omega) (wm_if (fun c5 => nx (by rw [if_pos c5]; decide)) (fun c5 => ?_))
      rw [if_neg c5] at eq
      exact k73 i eq hlet h0 (by omega)
  unfold f_X9_readScheme
  refine m_ba (i := 0) hI (by omega) (wm_b (wm_q (fun _ _ => m_isLetter (hI.2.2.1.gm 0)) ?_))
  refine wm_if (fun c => ?_) (fun c => ?_)
  · unfold f_X9_readScheme_73
    refine wm_t rfl (k87 ?_)
    unfold schE
    rw [if_pos c]
  · have h0 : 0 < xs.length := by
      rcases Nat.eq_zero_or_pos xs.length with z | z
      · rw [gd_out (by omega)] at c
        exact absurd (by decide) c
      · exact z
    exact L15 c (xs.length - 1) 1 gF (by omega) (by unfold gF; omega) (by omega) rfl
end MS
