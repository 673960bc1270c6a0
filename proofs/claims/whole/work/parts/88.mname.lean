/-! THE OTHER OBJECT: HOSTs that are no SIX: names -/
section MN
variable {m : Nat} {D : Nat → Nat} {M : MS} {ns xs : List Int32} {P : Int32 → MS → Prop}
/-- the answer of readFour, from the end e of the last part -/
theorem m_L143 {e a : Nat} {dg' : Bool} (hH : Hb M ns) (he : e ≤ ns.length) (ha : a ≤ e) (h4 : (dg' || numC ns a e) = true → wm m D (f_X9_readFour_L197 gF (some m) (nI e) 1 0) M P) (h0 : (dg' || numC ns a e) = false → P 0 M) : ∀ (k i f : Nat) (cd : Bool), k = e - i → i ≤ e + 2 → k < f → (cd && digsC ns true k i) = (hexC ns a e && digsC ns true (e - (a + 2)) (a + 2)) → (dg' = false → numC ns a e = (hexC ns a e && digsC ns true (e - (a + 2)) (a + 2))) → wm m D (f_X9_readFour_L143 f (some m) (nI e) (b2i dg') (b2i cd) (nI i)) M P := by
  have hl := hH.2.1
  intro k
  induction k with
  | zero =>
    intro i f cd hk hi hf hc hn
    obtain ⟨f, rfl⟩ : ∃ g, f = g + 1 := ⟨f - 1, by omega⟩
    rw [f_X9_readFour_L143]
    unfold f_X9_readFour_143
    rw [digsC, Bool.and_true] at hc
    refine wm_t (nI_le (by omega) (by omega)) ?_
    refine wm_bz (fun c => ?_) (fun c => h4 (by rw [c]; rfl))
    refine wm_bz (fun d => wm_p (h0 ?_)) (fun d => h4 ?_)
    · rw [c, hn c, ← hc, d]
      rfl
    · rw [c, hn c, ← hc, d]
      rfl
  | succ k ih =>
    intro i f cd hk hi hf hc hn
    obtain ⟨f, rfl⟩ : ∃ g, f = g + 1 := ⟨f - 1, by omega⟩
    rw [f_X9_readFour_L143]
    unfold f_X9_readFour_143
    rw [digsC] at hc
    refine wm_f (nI_ge (by omega) (by omega)) ?_
    rw [nI_1]
    refine wm_bz (fun c => ?_) (fun c => ?_)
    · rw [c, Bool.false_and] at hc
      exact ih (i + 1) f false (by omega) (by omega) (by omega) (by rw [Bool.false_and]; exact hc) hn
    · obtain ⟨n, hn', en⟩ := hH.nn (j := i) (by omega)
      rw [c, Bool.true_and] at hc
      refine wm_get (k := 14) (t := 0) (by decide) rfl (show i < 300 by omega) ?_
      rw [hH.2.2.2 i (by omega)]
      refine wm_b (wm_q (fun _ _ => m_hex (Or.inr ⟨n, by omega, en⟩)) ?_)
      unfold digC at hc
      rw [if_pos rfl] at hc
      rcases hx (ns.getD i 0) with ⟨e1, e2⟩ | ⟨d, hd, e1, e2⟩
      · rw [e1, decide_eq_false (by simp), Bool.false_and] at hc
        rw [e1]
        exact wm_t (by decide) (ih (i + 1) f false (by omega) (by omega) (by omega) (by rw [Bool.false_and]; exact hc) hn)
      · have hne : pHex (ns.getD i 0) ≠ -1 := by
          rw [e1]
          exact nI_m1 (by omega)
        rw [decide_eq_true hne, Bool.true_and] at hc
        rw [e1]
        exact wm_f (nI_pos (by omega)) (ih (i + 1) f true (by omega) (by omega) (by omega) (by rw [Bool.true_and]; exact hc) hn)
theorem digs_no {a e : Nat} (hl : ns.length ≤ 4096) (he : e ≤ ns.length) (h : hexC ns a e = true) (ha : a < 2 ^ 30) : digsC ns false (e - a) a = false := by
  obtain ⟨h1, h2, h3⟩ := (hexC_iff ha hl he).mp h
  obtain ⟨k, hk⟩ : ∃ k, e - a = k + 2 := ⟨e - a - 2, by omega⟩
  rw [hk, digsC, digsC, h3, h2]
  have : digC false 120 = false := by decide
  rw [this, Bool.false_and, Bool.and_false]
theorem m_L65 {e a : Nat} (hH : Hb M ns) (he : e ≤ ns.length) (ha : a ≤ e) (h4 : numC ns a e = true → wm m D (f_X9_readFour_L197 gF (some m) (nI e) 1 0) M P) (h0 : numC ns a e = false → P 0 M) : ∀ (k i f : Nat) (dg' : Bool), i + k = e → k < f → (dg' && digsC ns false k i) = (decide (a < e) && digsC ns false (e - a) a) → wm m D (f_X9_readFour_L65 f (some m) (nI e) (nI a) (b2i dg') (nI i)) M P := by
  have hl := hH.2.1
  have hxc := hexC_iff (ns := ns) (a := a) (b := e) (by omega) (by omega) he
  intro k
  induction k with
  | zero =>
    intro i f dg' hk hf hc
    obtain ⟨f, rfl⟩ : ∃ g, f = g + 1 := ⟨f - 1, by omega⟩
    rw [f_X9_readFour_L65]
    unfold f_X9_readFour_65
    rw [digsC, Bool.and_true] at hc
    refine wm_t (nI_le (by omega) (by omega)) ?_
    rw [pk_sub ha, show nI a + 2 = nI (a + 2) from nI_add a 2]
    -- all in all: digits or 0x
    have dn : dg' = true → numC ns a e = true := by
      intro z
      rw [z] at hc
      have hc := hc.symm
      rw [Bool.and_eq_true] at hc
      unfold numC
      by_cases y : hexC ns a e = true
      · rw [digs_no (by omega) he y (by omega)] at hc
        exact absurd hc.2 (by decide)
      · rw [if_neg y, hc.1, hc.2]
        rfl
    have dm : dg' = false → numC ns a e = (hexC ns a e && digsC ns true (e - (a + 2)) (a + 2)) := by
      intro z
      rw [z] at hc
      unfold numC
      by_cases y : hexC ns a e = true
      · rw [if_pos y, y, Bool.true_and]
      · rw [if_neg y, Bool.and_comm, ← hc]
        have : hexC ns a e = false := by simpa using y
        rw [this, Bool.false_and]
    have k4 : (dg' || numC ns a e) = true → wm m D (f_X9_readFour_L197 gF (some m) (nI e) 1 0) M P := fun z => h4 (by
      rcases Bool.or_eq_true_iff.mp z with y | y
      · exact dn y
      · exact y)
    have k0 : (dg' || numC ns a e) = false → P 0 M := fun z => h0 (Bool.or_eq_false_iff.mp z).2
    have fin : ∀ cd : Bool, cd = hexC ns a e → wm m D (f_X9_readFour_L143 gF (some m) (nI e) (b2i dg') (b2i cd) (nI (a + 2))) M P := fun cd hcd => m_L143 hH he ha k4 k0 (e - (a + 2)) (a + 2) gF cd rfl (by omega) (by unfold gF; omega) (by rw [hcd]) dm
    by_cases c : e - a < 2
    · refine wm_t (nI_lt (b := 2) c (by omega)) (fin false ?_)
      cases hh : hexC ns a e with
      | false => rfl
      | true =>
        have := (hxc.mp hh).1
        omega
    · refine wm_f (nI_nlt (b := 2) (by omega) (by omega)) (wm_get (k := 14) (t := 0) (by decide) rfl (show a < 300 by omega) ?_)
      rw [hH.2.2.2 a (by omega)]
      refine wm_if (fun d => ?_) (fun d => fin false ?_)
      · refine wm_get (k := 14) (t := 0) (by decide) (nI_1 a) (show a + 1 < 300 by omega) ?_
        rw [hH.2.2.2 (a + 1) (by omega)]
        refine wm_if (fun z => fin true (hxc.mpr ⟨by omega, d, z⟩).symm) (fun z => fin false ?_)
        cases hh : hexC ns a e with
        | false => rfl
        | true => exact absurd (hxc.mp hh).2.2 z
      · cases hh : hexC ns a e with
        | false => rfl
        | true => exact absurd (hxc.mp hh).2.1 d
  | succ k ih =>
    intro i f dg' hk hf hc
    obtain ⟨f, rfl⟩ : ∃ g, f = g + 1 := ⟨f - 1, by omega⟩
    rw [f_X9_readFour_L65]
    unfold f_X9_readFour_65
    rw [digsC] at hc
    refine wm_f (nI_ge (by omega) (by omega)) ?_
    rw [nI_1]
    refine wm_bz (fun c => ?_) (fun c => ?_)
    · rw [c, Bool.false_and] at hc
      exact ih (i + 1) f false (by omega) (by omega) (by rw [Bool.false_and]; exact hc)
    · rw [c, Bool.true_and] at hc
      refine wm_get (k := 14) (t := 0) (by decide) rfl (show i < 300 by omega) ?_
      rw [hH.2.2.2 i (by omega)]
      refine wm_b (wm_q (fun _ _ => m_isDigit) ?_)
      unfold digC at hc
      rw [if_neg (by decide)] at hc
      refine wm_if (fun d => ?_) (fun d => ?_)
      · rw [decide_eq_false (fun z => z d), Bool.false_and] at hc
        exact ih (i + 1) f false (by omega) (by omega) (by rw [Bool.false_and]; exact hc)
      · rw [decide_eq_true d, Bool.true_and] at hc
        exact ih (i + 1) f true (by omega) (by omega) (by rw [Bool.true_and]; exact hc)
theorem m_L28 {e : Nat} (hH : Hb M ns) (he : e ≤ ns.length) (h4 : numC ns (lps ns e) e = true → wm m D (f_X9_readFour_L197 gF (some m) (nI e) 1 0) M P) (h0 : numC ns (lps ns e) e = false → P 0 M) : ∀ (n f : Nat), n < f → n ≤ e → lps ns n = lps ns e → wm m D (f_X9_readFour_L28 f (some m) (nI e) (nI n)) M P := by
  have hl := hH.2.1
  have fin : ∀ n, n ≤ e → n = lps ns e → wm m D (f_X9_readFour_51 (some m) (nI e) (nI n)) M P := by
    intro n hn eq
    subst eq
    unfold f_X9_readFour_51
    by_cases c : e ≤ lps ns e
    · refine wm_t (nI_le c (by omega)) (m_L65 hH he hn h4 h0 (e - lps ns e) _ gF false (by omega) (by unfold gF; omega) ?_)
      rw [Bool.false_and, decide_eq_false (by omega), Bool.false_and]
    · refine wm_f (nI_ge (by omega) (by omega)) (m_L65 hH he hn h4 h0 (e - lps ns e) _ gF true (by omega) (by unfold gF; omega) ?_)
      rw [decide_eq_true (by omega)]
  intro n
  induction n with
  | zero =>
    intro f hf hn eq
    obtain ⟨f, rfl⟩ : ∃ g, f = g + 1 := ⟨f - 1, by omega⟩
    rw [f_X9_readFour_L28]
    unfold f_X9_readFour_28
    exact wm_t (by decide) (fin 0 (by omega) eq)
  | succ n ih =>
    intro f hf hn eq
    obtain ⟨f, rfl⟩ : ∃ g, f = g + 1 := ⟨f - 1, by omega⟩
    rw [f_X9_readFour_L28]
    unfold f_X9_readFour_28
    rw [lps] at eq
    refine wm_f (nI_nle (by omega) (by omega)) (wm_get (k := 14) (t := 0) (by decide) (nI_pred n) (show n < 300 by omega) ?_)
    rw [hH.2.2.2 n (by omega)]
    refine wm_if (fun c => ?_) (fun c => ?_)
    · rw [if_pos c] at eq
      exact fin (n + 1) hn eq
    · rw [if_neg c] at eq
      rw [pk_m1]
      exact ih f (by omega) (by omega) eq
/-- a name that is lower case and has nothing wrong -/
theorem m_readFour (hH : Hb M ns) (h0 : 0 < ns.length) (hn : numC ns (lps ns (lend ns)) (lend ns) = false → P 0 M) (h1 : numC ns (lps ns (lend ns)) (lend ns) = true → four ns (lend ns) 4 0 0 = none → P (-15) M) (h2 : ∀ v, numC ns (lps ns (lend ns)) (lend ns) = true → four ns (lend ns) 4 0 0 = some v → P 0 (uA (uN M 16 4) 17 0 (nI v))) : wm m D (f_X9_readFour (some m)) M P := by
  have hl := hH.2.1
  have main : ∀ e, e = lend ns → e ≤ ns.length → wm m D (f_X9_readFour_L28 gF (some m) (nI e) (nI e)) M P := by
    intro e ee he
    subst ee
    exact m_L28 hH he (fun z => m_readFour4 hH he (h1 z) (fun v => h2 v z)) hn _ gF (by unfold gF; omega) (Nat.le_refl _) rfl
  have hle : lend ns ≤ ns.length := by
    unfold lend
    split <;> omega
  unfold f_X9_readFour
  refine wm_rd ?_
  rw [hH.1]
  by_cases c : ns.length ≤ 1
  · refine wm_t (nI_le (b := 1) c (by omega)) ?_
    have l1 : ns.length = 1 := by omega
    by_cases d : ns.getD 0 0 = 46
    · -- the name .
      have le0 : lend ns = 0 := by
        unfold lend
        rw [l1, if_pos d]
      have nf : numC ns (lps ns (lend ns)) (lend ns) = false := by
        rw [le0]
        rfl
      refine m_L28 hH (Nat.le_refl _) (fun z => ?_) (fun _ => hn nf) _ gF (by unfold gF; omega) (Nat.le_refl _) rfl
      exfalso
      rw [l1] at z
      have : lps ns 1 = 1 := by
        rw [lps, if_pos d]
      rw [this] at z
      exact absurd z (by
        unfold numC hexC
        simp)
    · have : lend ns = ns.length := by
        unfold lend
        rw [l1, if_neg d]
      rw [← this]
      exact main _ rfl hle
  · refine wm_f (nI_ge (a := 1) (by omega) (by omega)) ?_
    obtain ⟨k, hk⟩ : ∃ k, ns.length = k + 1 := ⟨ns.length - 1, by omega⟩
    rw [hk, nI_pred, pk_m1, ← hk]
    refine wm_get (k := 14) (t := 0) (by decide) rfl (show k < 300 by omega) ?_
    rw [hH.2.2.2 k (by omega)]
    refine wm_if (fun d => ?_) (fun d => ?_)
    · have : lend ns = k := by
        unfold lend
        rw [show ns.length - 1 = k by omega, if_pos d]
      exact main k this.symm (by omega)
    · have : lend ns = ns.length := by
        unfold lend
        rw [show ns.length - 1 = k by omega, if_neg d]
      exact main _ this.symm (Nat.le_refl _)
theorem has4 {i : Nat} (hi : i < 2 ^ 30) (hl : ns.length ≤ 4096) (a b c d : Int32) : hasS ns i [a, b, c, d] = true ↔ ns.getD i (-1) = a ∧ ns.getD (i + 1) (-1) = b ∧ ns.getD (i + 2) (-1) = c ∧ ns.getD (i + 3) (-1) = d := by
  rw [hasS, hasS, hasS, hasS, hasS, bAt_g (by omega) hl, bAt_g (by omega) hl, bAt_g (by omega) hl, bAt_g (by omega) hl]
  simp
theorem forC_end (hl : ns.length ≤ 4096) : ∀ k i, i + k = ns.length → ns.length ≤ i + 3 → forC ns k i = false
  | 0, i, _, _ => rfl
  | k + 1, i, h, h3 => by
    rw [forC, forC_end hl k (i + 1) (by omega) (by omega), Bool.or_false]
    have : hasS ns i (tstr 11) = false := by
      cases z : hasS ns i (tstr 11) with
      | false => rfl
      | true =>
        have := ((has4 (ns := ns) (i := i) (by omega) hl 120 110 45 45).mp z).2.2.2
        rw [gd_out h3] at this
        exact absurd this (by decide)
    rw [this, Bool.and_false]
theorem m_L313 (hH : Hb M ns) (h0 : 0 < ns.length) (hf1 : forC ns ns.length 0 = true → P (-14) M) (hf0 : forC ns ns.length 0 = false → wm m D (f_X9_readFour (some m)) M P) : ∀ (k i f : Nat), i + k = ns.length → k < f → forC ns k i = forC ns ns.length 0 → wm m D (f_X9_readHost_L313 f (some m) (nI i)) M P := by
  have hl := hH.2.1
  intro k
  induction k with
  | zero =>
    intro i f hi hf eq
    obtain ⟨f, rfl⟩ : ∃ g, f = g + 1 := ⟨f - 1, by omega⟩
    rw [f_X9_readHost_L313]
    unfold f_X9_readHost_313
    refine wm_rd ?_
    rw [hH.1, show nI i + 3 = nI (i + 3) from nI_add i 3]
    refine wm_t (nI_le (by omega) (by omega)) (wm_n (wm_b (wm_mono (hf0 (by rw [← eq]; rfl)) (fun x M' h => wm_p h))))
  | succ k ih =>
    intro i f hi hf eq
    obtain ⟨f, rfl⟩ : ∃ g, f = g + 1 := ⟨f - 1, by omega⟩
    rw [f_X9_readHost_L313]
    unfold f_X9_readHost_313
    refine wm_rd ?_
    rw [hH.1, show nI i + 3 = nI (i + 3) from nI_add i 3]
    by_cases c : ns.length ≤ i + 3
    · refine wm_t (nI_le c (by omega)) (wm_n (wm_b (wm_mono (hf0 ?_) (fun x M' h => wm_p h))))
      rw [← eq]
      exact forC_end (by omega) (k + 1) i hi c
    · refine wm_f (nI_ge (by omega) (by omega)) ?_
      have h4 := has4 (ns := ns) (i := i) (by omega) (by omega) 120 110 45 45
      rw [← getD0 (by omega), ← getD0 (by omega), ← getD0 (by omega), ← getD0 (by omega)] at h4
      rw [forC] at eq
      have nx : ((decide (i = 0) || decide (ns.getD (i - 1) 0 = 46)) && hasS ns i (tstr 11)) = false → wm m D (f_X9_readHost_L313 f (some m) (nI (i + 1))) M P := fun z => by
        rw [z, Bool.false_or] at eq
        exact ih (i + 1) f (by omega) (by omega) eq
      have nh : hasS ns i (tstr 11) ≠ true → wm m D (f_X9_readHost_L313 f (some m) (nI (i + 1))) M P := fun z => nx (by
        have : hasS ns i (tstr 11) = false := by simpa using z
        rw [this, Bool.and_false])
      have k1 : (decide (i = 0) || decide (ns.getD (i - 1) 0 = 46)) = true → wm m D (f_X9_readHost_343 (f_X9_readHost_L313 f) (some m) (nI i)) M P := by
        intro hd
        unfold f_X9_readHost_343 f_X9_readHost_348
        rw [nI_1]
        refine wm_f (by decide) (wm_get (k := 14) (t := 0) (by decide) rfl (show i < 300 by omega) ?_)
        rw [hH.2.2.2 i (by omega)]
        refine wm_if (fun g1 => ?_) (fun g1 => nh (fun z => g1 (h4.mp z).1))
        refine wm_get (k := 14) (t := 0) (by decide) rfl (show i + 1 < 300 by omega) ?_
        rw [hH.2.2.2 (i + 1) (by omega)]
        refine wm_if (fun g2 => ?_) (fun g2 => nh (fun z => g2 (h4.mp z).2.1))
        refine wm_get (k := 14) (t := 0) (by decide) (nI_add i 2) (show i + 2 < 300 by omega) ?_
        rw [hH.2.2.2 (i + 2) (by omega)]
        refine wm_if (fun g3 => ?_) (fun g3 => nh (fun z => g3 (h4.mp z).2.2.1))
        refine wm_get (k := 14) (t := 0) (by decide) (nI_add i 3) (show i + 3 < 300 by omega) ?_
        rw [hH.2.2.2 (i + 3) (by omega)]
        refine wm_if (fun g4 => ?_) (fun g4 => nh (fun z => g4 (h4.mp z).2.2.2))
        refine wm_p (hf1 ?_)
        rw [← eq, hd, show hasS ns i (tstr 11) = true from h4.mpr ⟨g1, g2, g3, g4⟩]
        rfl
      by_cases z0 : i = 0
      · refine wm_t (by rw [z0]; rfl) (k1 (by rw [decide_eq_true z0]; rfl))
      · refine wm_f (nI_ne0 (by omega) (by omega)) ?_
        obtain ⟨j, rfl⟩ : ∃ j, i = j + 1 := ⟨i - 1, by omega⟩
        refine wm_get (k := 14) (t := 0) (by decide) (nI_pred j) (show j < 300 by omega) ?_
        rw [hH.2.2.2 j (by omega)]
        refine wm_if (fun g => k1 ?_) (fun g => ?_)
        · rw [show j + 1 - 1 = j by omega, decide_eq_true g, Bool.or_true]
        · unfold f_X9_readHost_348
          rw [nI_1]
          refine wm_t rfl (nx ?_)
          rw [show j + 1 - 1 = j by omega, decide_eq_false z0, decide_eq_false g]
          rfl
/-- what is wrong in a name -/
def mWro (b : Int32) : Int32 := if b ≤ 32 then 1 else if 127 ≤ b then 1 else if b = 35 then 1 else if b = 37 then 1 else if b = 47 then 1 else if b = 58 then 1 else if b = 60 then 1 else if b = 62 then 1 else if b = 63 then 1 else if b = 64 then 1 else if b = 91 then 1 else if b = 92 then 1 else if b = 93 then 1 else if b = 94 then 1 else if b = 124 then 1 else 0
theorem m_isWrong {b : Int32} {σ : gS} {Q : Int32 → gS → Prop} (hQ : Q (mWro b) σ) : wp (f_X9_isWrongByte b) σ Q := by
  unfold mWro at hQ
  unfold f_X9_isWrongByte
  repeat' (first | exact wp_z0 hQ | exact wp_z1 hQ | exact wp_p hQ | (refine wp_if (fun c => ?_) (fun c => ?_) <;> (first | rw [if_pos c] at hQ | rw [if_neg c] at hQ)))
theorem wro_t : ∀ n, n < 256 → (mWro (nI n) = 0 → wro (pLow (nI n)) = false ∧ ∃ k, k < 127 ∧ pLow (nI n) = nI k) ∧ (mWro (nI n) ≠ 0 → wro (pLow (nI n)) = true) := by decide +kernel
theorem low_t : ∀ n, n < 256 → ∃ k, k < 256 ∧ pLow (nI n) = nI k := by decide +kernel
theorem m_L248 {ds : List Int32} (hd : isB ds) (hl : ds.length ≤ 300) (hw : ∀ M', Ex [14] M M' → (ds.map pLow).any wro = true → P (-14) M') (hz : ds.length = 0 → ∀ {M'}, Ex [14] M M' → P (-14) M') (hk : ∀ M', Ex [14] M M' → Hb M' (ds.map pLow) → 0 < ds.length → (ds.map pLow).any wro = false → wm m D (f_X9_readHost_L313 gF (some m) 0) M' P) (h15 : mI M 15 = nI ds.length) : ∀ (k i f : Nat) (M1 : MS), i + k = ds.length → k < f → Ex [14] M M1 → (∀ j, j < i → mA M1 14 j = pLow (ds.getD j 0) ∧ wro (pLow (ds.getD j 0)) = false ∧ ∃ n, n < 127 ∧ pLow (ds.getD j 0) = nI n) → (∀ j, i ≤ j → j < ds.length → mA M1 14 j = sb (ds.getD j 0)) → wm m D (f_X9_readHost_L248 f (some m) (nI i)) M1 P := by
  have gm : ∀ j, j < ds.length → (ds.map pLow).getD j 0 = pLow (ds.getD j 0) := fun j hj => by
    rw [List.getD_eq_getElem?_getD, List.getD_eq_getElem?_getD, List.getElem?_map, List.getElem?_eq_getElem hj]
    rfl
  intro k
  induction k with
  | zero =>
    intro i f M1 hi hf E h1 h2
    obtain ⟨f, rfl⟩ : ∃ g, f = g + 1 := ⟨f - 1, by omega⟩
    rw [f_X9_readHost_L248]
    unfold f_X9_readHost_248
    refine wm_rd ?_
    rw [E.2 15 (by decide), h15]
    refine wm_t (nI_le (by omega) (by omega)) (wm_rd ?_)
    rw [E.2 15 (by decide), h15]
    have all : ∀ x, x ∈ ds.map pLow → wro x = false ∧ ∃ n, n < 127 ∧ x = nI n := fun x hx => by
      obtain ⟨j, hj, rfl⟩ := List.getElem_of_mem hx
      rw [List.length_map] at hj
      have := h1 j (by omega)
      rw [← gm j hj, List.getD_eq_getElem?_getD, List.getElem?_eq_getElem (by rw [List.length_map]; exact hj)] at this
      exact this.2
    by_cases c : ds.length = 0
    · exact wm_t (by rw [c]; rfl) (wm_p (hz c E))
    · refine wm_f (nI_ne0 (by omega) (by omega)) (hk M1 E ⟨?_, ?_, fun x hx => (all x hx).2, fun j hj => ?_⟩ (by omega) ?_)
      · rw [E.2 15 (by decide), h15, List.length_map]
      · rw [List.length_map]; exact hl
      · rw [List.length_map] at hj
        rw [gm j hj]
        exact (h1 j (by omega)).1
      · rw [List.any_eq_false]
        intro x hx
        rw [(all x hx).1]
        decide
  | succ k ih =>
    intro i f M1 hi hf E h1 h2
    obtain ⟨f, rfl⟩ : ∃ g, f = g + 1 := ⟨f - 1, by omega⟩
    rw [f_X9_readHost_L248]
    unfold f_X9_readHost_248
    obtain ⟨n, hn, en⟩ := hd.get (j := i) (by omega)
    refine wm_rd ?_
    rw [E.2 15 (by decide), h15]
    refine wm_f (nI_ge (by omega) (by omega)) (wm_get (k := 14) (t := 0) (by decide) rfl (show i < 300 by omega) ?_)
    rw [h2 i (by omega) (by omega), en, sb_u n hn]
    refine wm_b (wm_q (fun _ _ => m_isWrong) ?_)
    obtain ⟨w1, w2⟩ := wro_t n hn
    refine wm_if (fun c => ?_) (fun c => ?_)
    · obtain ⟨w3, q, hq, eq⟩ := w1 c
      refine wm_b (wm_rR (k := 14) (t := 0) (by decide) (wm_b (wm_q (fun _ _ => m_low) (wm_b (wm_sI (k := 14) (t := 0) (by decide) rfl (show i < 300 by omega) ?_)))))
      rw [show gnar 0 ((pLow (nI n)).toInt8.toInt32) = pLow (nI n) by rw [eq]; exact (gnar0s (nI q)).trans (sb_lo q (by omega)), nI_1]
      refine ih (i + 1) f _ (by omega) (by omega) (E.trans (Ex.a (by decide))) (fun j hj => ?_) (fun j hj1 hj2 => ?_)
      · rw [mA_uA]
        by_cases z : j = i
        · rw [if_pos ⟨rfl, z⟩, z, en]
          exact ⟨rfl, w3, q, hq, eq⟩
        · rw [if_neg (fun y => z y.2)]
          exact h1 j (by omega)
      · rw [mA_uA, if_neg (fun y => by have := y.2; omega)]
        exact h2 j (by omega) hj2
    · refine wm_p (hw M1 E ?_)
      rw [List.any_eq_true]
      refine ⟨pLow (nI n), ?_, w2 c⟩
      rw [← en, ← gm i (by omega), List.getD_eq_getElem?_getD, List.getElem?_eq_getElem (by rw [List.length_map]; omega)]
      exact List.getElem_mem _
end MN
