/-! THE OTHER OBJECT: HOSTs that are no SIX: numbers -/
/-- a name of small bytes -/
def Hb (M : MS) (ns : List Int32) : Prop := mI M 15 = nI ns.length ∧ ns.length ≤ 300 ∧ (∀ x, x ∈ ns → ∃ n, n < 127 ∧ x = nI n) ∧ ∀ j, j < ns.length → mA M 14 j = ns.getD j 0
theorem Hb.ex {S : List Nat} {M M' : MS} {ns : List Int32} (h : Hb M ns) (e : Ex S M M') (h0 : 14 ∉ S) (h1 : 15 ∉ S) : Hb M' ns := by
  unfold Hb
  rw [e.2 15 h1, e.1 14 h0]
  exact h
theorem Hb.nn {M : MS} {ns : List Int32} (h : Hb M ns) {j : Nat} (hj : j < ns.length) : ∃ n, n < 127 ∧ ns.getD j 0 = nI n := by
  rw [List.getD_eq_getElem?_getD, List.getElem?_eq_getElem hj]
  exact h.2.2.1 _ (List.getElem_mem hj)
def dots (ns : List Int32) : Nat → Nat → Nat
  | 0, _ => 0
  | k + 1, i => (if ns.getD i 0 = 46 then 1 else 0) + dots ns k (i + 1)
theorem dots_le (ns : List Int32) : ∀ k i, dots ns k i ≤ k
  | 0, i => Nat.le_refl _
  | k + 1, i => by
    have := dots_le ns k (i + 1)
    rw [dots]
    split <;> omega
/-- the next dot -/
theorem dots_end (ns : List Int32) : ∀ k i, (dots ns k i = 0 ∧ pEnd ns k i = i + k) ∨ (pEnd ns k i < i + k ∧ dots ns k i = 1 + dots ns (i + k - (pEnd ns k i + 1)) (pEnd ns k i + 1))
  | 0, i => Or.inl ⟨rfl, rfl⟩
  | k + 1, i => by
    rw [dots, pEnd]
    by_cases c : ns.getD i 0 = 46
    · rw [if_pos c, if_pos c]
      right
      refine ⟨by omega, ?_⟩
      rw [show i + (k + 1) - (i + 1) = k by omega]
    · rw [if_neg c, if_neg c]
      rcases dots_end ns k (i + 1) with ⟨h1, h2⟩ | ⟨h1, h2⟩
      · left
        exact ⟨by omega, by omega⟩
      · right
        refine ⟨by omega, ?_⟩
        rw [h2, show i + (k + 1) = i + 1 + k by omega]
        omega
theorem four_none (ns : List Int32) (e : Nat) : ∀ j a s, a ≤ e → j ≤ dots ns (e - a) a → four ns e j a s = none
  | 0, a, s, _, _ => rfl
  | j + 1, a, s, ha, h => by
    rw [four]
    have hp := pEnd_le ns (e - a) a
    rcases dots_end ns (e - a) a with ⟨h1, h2⟩ | ⟨h1, h2⟩
    · omega
    · cases hv : numP ns a (pEnd ns (e - a) a) with
      | none => rfl
      | some v =>
        dsimp only
        rw [if_neg (by omega)]
        split
        · refine four_none ns e j _ _ (by omega) ?_
          rw [show a + (e - a) = e by omega] at h2
          omega
        · rfl
theorem sh_c : ∀ p, 1 ≤ p → p ≤ 4 → (1 : Int64) <<< ((8 * (5 - nI p)).toInt64 &&& 63) = lN (2 ^ (8 * (5 - p))) := by
  intro p h1 h2
  rcases (show p = 1 ∨ p = 2 ∨ p = 3 ∨ p = 4 by omega) with rfl | rfl | rfl | rfl <;> decide
section MH
variable {m : Nat} {D : Nat → Nat} {M : MS} {ns : List Int32}
theorem m_numVL {P : Int64 → MS → Prop} {b base : Nat} (hH : Hb M ns) (hb : b ≤ ns.length) (hb2 : 2 ≤ base) (hb16 : base ≤ 16) : ∀ (k i v f : Nat), i + k = b → k < f → P (capV (2 ^ 40) (numV ns base k i v)) M → wm m D (f_X9_numberOf_L82 f (some m) (nI b) (nI base) (nI i) (lN (min v (2 ^ 40)))) M P := by
  have hl := hH.2.1
  intro k
  induction k with
  | zero =>
    intro i v f hi hf hP
    obtain ⟨f, rfl⟩ : ∃ g, f = g + 1 := ⟨f - 1, by omega⟩
    rw [f_X9_numberOf_L82]
    unfold f_X9_numberOf_82
    exact wm_t (nI_le (by omega) (by omega)) (wm_p hP)
  | succ k ih =>
    intro i v f hi hf hP
    obtain ⟨f, rfl⟩ : ∃ g, f = g + 1 := ⟨f - 1, by omega⟩
    rw [f_X9_numberOf_L82]
    unfold f_X9_numberOf_82 f_X9_numberOf_111
    rw [numV] at hP
    obtain ⟨n, hn, en⟩ := hH.nn (j := i) (by omega)
    refine wm_f (nI_ge (by omega) (by omega)) (wm_get (k := 14) (t := 0) (by decide) rfl (show i < 300 by omega) ?_)
    rw [hH.2.2.2 i (by omega)]
    refine wm_b (wm_q (fun _ _ => m_hex (Or.inr ⟨n, by omega, en⟩)) ?_)
    rcases hx (ns.getD i 0) with ⟨e1, e2⟩ | ⟨d, hd, e1, e2⟩
    · rw [e2] at hP
      rw [e1]
      exact wm_t (by decide) (wm_p hP)
    · rw [e2] at hP
      rw [e1]
      dsimp only at hP
      refine wm_f (nI_pos (by omega)) (wm_if (fun c => ?_) (fun c => ?_))
      · have c := (nI_ltI (by omega) (by omega)).mp c
        rw [if_pos c] at hP
        have hm : min v (2 ^ 40) * base ≤ 2 ^ 40 * 16 := Nat.mul_le_mul (Nat.min_le_right _ _) hb16
        have e3 : (if lN (min v (2 ^ 40)) * (nI base).toInt64 + (nI d).toInt64 < (1099511627776 : Int64) then lN (min v (2 ^ 40)) * (nI base).toInt64 + (nI d).toInt64 else (1099511627776 : Int64)) = lN (min (v * base + d) (2 ^ 40)) := by
          rw [nI_l (by omega), nI_l (by omega), lN_mul, lN_add, ← cap_step hb2, show (1099511627776 : Int64) = lN (2 ^ 40) from rfl]
          by_cases h : 2 ^ 40 < min v (2 ^ 40) * base + d
          · rw [if_pos h, if_neg (fun z => by have := (pk_lLT (by omega) (by omega)).mp z; omega)]
          · rw [if_neg h]
            by_cases h' : min v (2 ^ 40) * base + d < 2 ^ 40
            · rw [if_pos ((pk_lLT (by omega) (by omega)).mpr h')]
            · rw [if_neg (fun z => h' ((pk_lLT (by omega) (by omega)).mp z))]
              congr 1
              omega
        rw [e3, nI_1]
        exact ih (i + 1) _ f (by omega) (by omega) hP
      · have c : ¬ d < base := fun z => c (nI_lt z (by omega))
        rw [if_neg c] at hP
        exact wm_p hP
theorem hexC_iff {a b : Nat} (ha : a < 2 ^ 30) (hl : ns.length ≤ 4096) (hb : b ≤ ns.length) : hexC ns a b = true ↔ a + 2 ≤ b ∧ ns.getD a 0 = 48 ∧ ns.getD (a + 1) 0 = 120 := by
  unfold hexC
  rw [Bool.and_eq_true, decide_eq_true_iff]
  constructor
  · rintro ⟨h1, h2⟩
    have := (has2 (xs := ns) (i := a) ha hl 48 120).mp h2
    rw [getD0 (by omega), getD0 (by omega)]
    exact ⟨h1, this⟩
  · rintro ⟨h1, h2⟩
    rw [getD0 (by omega), getD0 (by omega)] at h2
    exact ⟨h1, (has2 (xs := ns) (i := a) ha hl 48 120).mpr h2⟩
theorem m_numberOf {P : Int64 → MS → Prop} {a b : Nat} (hH : Hb M ns) (hab : a ≤ b) (hb : b ≤ ns.length) (hP : P (capV (2 ^ 40) (numP ns a b)) M) : wm m D (f_X9_numberOf (some m) (nI a) (nI b)) M P := by
  have hl := hH.2.1
  have hx := hexC_iff (ns := ns) (a := a) (b := b) (by omega) (by omega) hb
  unfold numP at hP
  -- no 0x
  have no : ¬ (hexC ns a b = true) → wm m D (f_X9_numberOf_48 (some m) (nI a) (nI b) 10 (nI a)) M P := by
    intro hc
    unfold f_X9_numberOf_48 f_X9_numberOf_70 f_X9_numberOf_79
    by_cases c : a < b
    · rw [if_pos c, if_neg hc] at hP
      refine wm_f (nI_ge c (by omega)) (wm_get (k := 14) (t := 0) (by decide) rfl (show a < 300 by omega) ?_)
      rw [hH.2.2.2 a (by omega)]
      refine wm_if (fun d => ?_) (fun d => ?_)
      · rw [if_pos d] at hP
        exact m_numVL (base := 8) hH hb (by omega) (by omega) (b - a) a 0 gF (by omega) (by unfold gF; omega) hP
      · rw [if_neg d] at hP
        refine wm_f (fun z => ?_) (m_numVL (base := 10) hH hb (by omega) (by omega) (b - a) a 0 gF (by omega) (by unfold gF; omega) hP)
        have := (nI_eq (by omega) (by omega)).mp z
        omega
    · rw [if_neg c] at hP
      have : a = b := by omega
      subst this
      exact wm_t (nI_le (by omega) (by omega)) (wm_t rfl (wm_p hP))
  unfold f_X9_numberOf
  rw [pk_sub hab]
  by_cases c : b - a < 2
  · refine wm_t (nI_lt (b := 2) c (by omega)) (no (fun z => ?_))
    have := (hx.mp z).1
    omega
  · refine wm_f (nI_nlt (b := 2) (by omega) (by omega)) (wm_get (k := 14) (t := 0) (by decide) rfl (show a < 300 by omega) ?_)
    rw [hH.2.2.2 a (by omega)]
    refine wm_if (fun d => ?_) (fun d => no (fun z => d (hx.mp z).2.1))
    refine wm_get (k := 14) (t := 0) (by decide) (nI_1 a) (show a + 1 < 300 by omega) ?_
    rw [hH.2.2.2 (a + 1) (by omega)]
    refine wm_if (fun e => ?_) (fun e => no (fun z => e (hx.mp z).2.2))
    rw [if_pos (by omega), if_pos (hx.mpr ⟨by omega, d, e⟩)] at hP
    unfold f_X9_numberOf_79
    rw [show nI a + 2 = nI (a + 2) from nI_add a 2]
    exact m_numVL (base := 16) hH hb (by omega) (by omega) (b - (a + 2)) (a + 2) 0 gF (by omega) (by unfold gF; omega) hP
variable {P : Int32 → MS → Prop}
theorem m_fourR {e p : Nat} (hH : Hb M ns) (he : e ≤ ns.length) (hp : p ≤ 4) (h1 : ∀ n a s, four ns e (4 - n) a s = none → four ns e (4 - n) a s = four ns e 4 0 0 → P (-15) M) (h2 : ∀ v, four ns e 4 0 0 = some v → P 0 (uA (uN M 16 4) 17 0 (nI v))) : ∀ (k n a s f : Nat), n + k = p → k < f → (k = 0 → four ns e 4 0 0 = some s) → (0 < k → a ≤ e ∧ dots ns (e - a) a + 1 = k ∧ four ns e (4 - n) a s = four ns e 4 0 0) → wm m D (f_X9_readFour_L250 f (some m) (nI e) (nI p) (lN s) (nI a) (nI n)) M P := by
  have hl := hH.2.1
  intro k
  induction k with
  | zero =>
    intro n a s f hn hf hz _
    obtain ⟨f, rfl⟩ : ∃ g, f = g + 1 := ⟨f - 1, by omega⟩
    rw [f_X9_readFour_L250]
    unfold f_X9_readFour_250
    refine wm_t (nI_le (by omega) (by omega)) (wm_b (wm_wI (wm_b (wm_rR (k := 17) (t := 1) (by decide) (wm_b (wm_sI (k := 17) (t := 1) (j := 0) (by decide) rfl (by decide) (wm_p ?_)))))))
    rw [gnar1, lN_i]
    exact h2 s (hz rfl)
  | succ k ih =>
    intro n a s f hn hf _ hs
    obtain ⟨f, rfl⟩ : ∃ g, f = g + 1 := ⟨f - 1, by omega⟩
    obtain ⟨ha, hd, hs⟩ := hs (by omega)
    rw [f_X9_readFour_L250]
    unfold f_X9_readFour_250
    refine wm_f (nI_ge (by omega) (by omega)) ?_
    obtain ⟨p1, p2⟩ := pEnd_le ns (e - a) a
    have pe : a + (e - a) = e := by omega
    have de := dots_end ns (e - a) a
    rw [pe] at de
    have fo : four ns e (4 - n) a s = match numP ns a (pEnd ns (e - a) a) with
      | none => none
      | some v => if pEnd ns (e - a) a = e then (if v < 2 ^ (8 * (3 - n + 1)) then some (s + v) else none) else if v ≤ 255 then four ns e (3 - n) (pEnd ns (e - a) a + 1) (s + v * 2 ^ (8 * (3 - n))) else none := by
      rw [show 4 - n = (3 - n) + 1 by omega]
      rfl
    have go : wm m D (f_X9_readFour_285 (f_X9_readFour_L250 f) (some m) (nI e) (nI p) (lN s) (nI a) (nI n) (nI (pEnd ns (e - a) a))) M P := by
      generalize pEnd ns (e - a) a = t at *
      unfold f_X9_readFour_285
      refine wm_n (wm_b (m_numberOf hH p1 (by omega) ?_))
      cases hv : numP ns a t with
      | none =>
        rw [hv] at fo
        have bad : wm m D (gp (-15) : gM Int32) M P := wm_p (h1 n a s fo hs)
        refine wm_if (fun _ => ?_) (fun _ => ?_)
        · unfold f_X9_readFour_319
          exact wm_t (show lg_cmp (-1) 0 < 0 by decide) bad
        · unfold f_X9_readFour_319
          exact wm_t (show lg_cmp (-1) 0 < 0 by decide) bad
      | some v =>
        rw [hv] at fo
        dsimp only at fo
        rw [show capV (2 ^ 40) (some v) = lN (min v (2 ^ 40)) from rfl, nI_1]
        have hm : min v (2 ^ 40) ≤ 2 ^ 40 := Nat.min_le_right _ _
        have g0 : ¬ lg_cmp (lN (min v (2 ^ 40))) 0 < 0 := by
          have := lg_ge0 (v := min v (2 ^ 40)) (by omega)
          rw [Int32.not_lt]
          exact this
        by_cases c : p ≤ n + 1
        · -- the last part
          have k0 : k = 0 := by omega
          have te : t = e := by
            rcases de with ⟨-, z⟩ | ⟨-, z⟩
            · exact z
            · omega
          rw [if_pos te] at fo
          refine wm_t (nI_le c (by omega)) ?_
          rw [sh_c p (by omega) hp]
          have e8 : 8 * (5 - p) = 8 * (3 - n + 1) := by omega
          have hpw : 2 ^ (8 * (5 - p)) ≤ 2 ^ 32 := Nat.pow_le_pow_right (by omega) (by omega)
          unfold f_X9_readFour_319
          refine wm_f g0 (wm_if (fun d => ?_) (fun d => ?_))
          · have d := (lg_lt (by omega) (by omega)).mp d
            have d' : v < 2 ^ (8 * (5 - p)) := by omega
            rw [e8] at d'
            rw [if_pos d'] at fo
            refine wm_t (show nI p ≤ nI n + 1 by rw [nI_1]; exact nI_le c (by omega)) ?_
            unfold f_X9_readFour_365
            rw [e8] at hpw
            rw [Nat.min_eq_left (by omega), lN_add, nI_1, nI_1]
            exact ih (n + 1) (t + 1) (s + v) f (by omega) (by omega) (fun _ => by rw [← hs, fo]) (fun z => by omega)
          · have d : ¬ min v (2 ^ 40) < 2 ^ (8 * (5 - p)) := fun z => d ((lg_lt (by omega) (by omega)).mpr z)
            rw [if_neg (by rw [← e8]; omega)] at fo
            exact wm_p (h1 n a s fo hs)
        · have te : ¬ t = e := by
            rcases de with ⟨z, -⟩ | ⟨z, -⟩
            · omega
            · omega
          rw [if_neg te] at fo
          refine wm_f (nI_ge (by omega) (by omega)) ?_
          unfold f_X9_readFour_319
          refine wm_f g0 ?_
          rw [show (256 : Int64) = lN 256 from rfl]
          refine wm_if (fun d => ?_) (fun d => ?_)
          · have d := (lg_lt (by omega) (by omega)).mp d
            have d' : v ≤ 255 := by omega
            rw [if_pos d'] at fo
            refine wm_f (show ¬ nI p ≤ nI n + 1 by rw [nI_1]; exact nI_ge (by omega) (by omega)) ?_
            unfold f_X9_readFour_365
            have sb' := sh_b (3 - n) (by omega) v (by omega)
            rw [show 3 - (3 - n) = n by omega] at sb'
            rw [Nat.min_eq_left (by omega), sb', lN_add, nI_1, nI_1]
            refine ih (n + 1) (t + 1) _ f (by omega) (by omega) (fun z => by omega) (fun _ => ⟨by omega, ?_, ?_⟩)
            · rcases de with ⟨z, -⟩ | ⟨z, y⟩
              · omega
              · omega
            · rw [← hs, fo, show 4 - (n + 1) = 3 - n by omega]
          · have d : ¬ min v (2 ^ 40) < 256 := fun z => d ((lg_lt (by omega) (by omega)).mpr z)
            rw [if_neg (by omega)] at fo
            exact wm_p (h1 n a s fo hs)
    -- the end of the part
    have L : ∀ (j i f' : Nat), i + j = e → j < f' → pEnd ns j i = pEnd ns (e - a) a → wm m D (f_X9_readFour_L261 (f_X9_readFour_L250 f) f' (some m) (nI e) (nI p) (lN s) (nI a) (nI n) (nI i)) M P := by
      intro j
      induction j with
      | zero =>
        intro i f' hi hf' eq
        obtain ⟨f', rfl⟩ : ∃ g, f' = g + 1 := ⟨f' - 1, by omega⟩
        rw [f_X9_readFour_L261]
        unfold f_X9_readFour_261
        rw [pEnd] at eq
        refine wm_t (nI_le (by omega) (by omega)) ?_
        rw [eq]
        exact go
      | succ j ihj =>
        intro i f' hi hf' eq
        obtain ⟨f', rfl⟩ : ∃ g, f' = g + 1 := ⟨f' - 1, by omega⟩
        rw [f_X9_readFour_L261]
        unfold f_X9_readFour_261
        rw [pEnd] at eq
        refine wm_f (nI_ge (by omega) (by omega)) (wm_get (k := 14) (t := 0) (by decide) rfl (show i < 300 by omega) ?_)
        rw [hH.2.2.2 i (by omega)]
        refine wm_if (fun c => ?_) (fun c => ?_)
        · rw [if_pos c] at eq
          rw [eq]
          exact go
        · rw [if_neg c] at eq
          rw [nI_1]
          exact ihj (i + 1) f' (by omega) (by omega) eq
    exact L (e - a) a gF (by omega) (by unfold gF; omega) rfl
/-- the parts are counted, then read -/
theorem m_L197 {e : Nat} (hH : Hb M ns) (he : e ≤ ns.length) (h1 : four ns e 4 0 0 = none → P (-15) M) (h2 : ∀ v, four ns e 4 0 0 = some v → P 0 (uA (uN M 16 4) 17 0 (nI v))) : ∀ (k i c f : Nat), i + k = e → k < f → c + dots ns k i = dots ns e 0 → c ≤ i → wm m D (f_X9_readFour_L197 f (some m) (nI e) (nI (1 + c)) (nI i)) M P := by
  have hl := hH.2.1
  have hd := dots_le ns e 0
  intro k
  induction k with
  | zero =>
    intro i c f hi hf hc hci
    obtain ⟨f, rfl⟩ : ∃ g, f = g + 1 := ⟨f - 1, by omega⟩
    rw [f_X9_readFour_L197]
    unfold f_X9_readFour_197
    rw [dots] at hc
    refine wm_t (nI_le (by omega) (by omega)) ?_
    by_cases d : 1 + c ≤ 4
    · refine wm_t (nI_le (b := 4) d (by omega)) ?_
      refine m_fourR hH he d (fun n a s z y => h1 (by rw [← y]; exact z)) h2 (1 + c) 0 0 0 gF (by omega) (by unfold gF; omega) (fun z => by omega) (fun _ => ⟨by omega, ?_, rfl⟩)
      rw [Nat.sub_zero]
      omega
    · refine wm_f (nI_ge (a := 4) (by omega) (by omega)) (wm_p (h1 ?_))
      exact four_none ns e 4 0 0 (by omega) (by rw [Nat.sub_zero]; omega)
  | succ k ih =>
    intro i c f hi hf hc hci
    obtain ⟨f, rfl⟩ : ∃ g, f = g + 1 := ⟨f - 1, by omega⟩
    rw [f_X9_readFour_L197]
    unfold f_X9_readFour_197
    rw [dots] at hc
    refine wm_f (nI_ge (by omega) (by omega)) (wm_get (k := 14) (t := 0) (by decide) rfl (show i < 300 by omega) ?_)
    rw [hH.2.2.2 i (by omega), nI_1, nI_1]
    refine wm_if (fun d => ?_) (fun d => ?_)
    · rw [if_pos d] at hc
      rw [show 1 + c + 1 = 1 + (c + 1) by omega]
      exact ih (i + 1) (c + 1) f (by omega) (by omega) (by omega) (by omega)
    · rw [if_neg d] at hc
      exact ih (i + 1) c f (by omega) (by omega) (by omega) (by omega)
theorem m_readFour4 {e : Nat} (hH : Hb M ns) (he : e ≤ ns.length) (h1 : four ns e 4 0 0 = none → P (-15) M) (h2 : ∀ v, four ns e 4 0 0 = some v → P 0 (uA (uN M 16 4) 17 0 (nI v))) : wm m D (f_X9_readFour_L197 gF (some m) (nI e) 1 0) M P := m_L197 hH he h1 h2 e 0 0 gF (by omega) (by have := hH.2.1; unfold gF; omega) (by omega) (by omega)
end MH
