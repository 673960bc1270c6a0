/-! BOTH OBJECTS: is an address in a range -/
theorem bt_1 : ∀ i, i < 32 → bt 1 i = decide (i = 0) := by decide +kernel
theorem bit1 {y : Nat} (hy : y < 32) (s : Int32) : (s >>> (nI y &&& 31)) &&& 1 = if bt s y = true then 1 else 0 := by
  refine b_ext (fun i hi => ?_)
  rw [b_and, b_sshr y hy s hi, bt_1 i hi]
  by_cases c : i = 0
  · subst c
    rw [if_pos (by omega), Nat.add_zero]
    cases bt s y <;> decide
  · rw [decide_eq_false c, Bool.and_false]
    cases bt s y with
    | false => exact (b_0 i).symm
    | true =>
      rw [if_pos rfl, bt_1 i hi, decide_eq_false c]
theorem bit1_iff {y : Nat} (hy : y < 32) (s v : Int32) : (s >>> (nI y &&& 31)) &&& 1 = (v >>> (nI y &&& 31)) &&& 1 ↔ bt s y = bt v y := by
  rw [bit1 hy, bit1 hy]
  cases bt s y <;> cases bt v y <;> decide
theorem agr_d {a b : Int32} {d : Nat} (hd : d < 2 ^ 30) : agr a b (nI d) = true ↔ ∀ x, x < d → x < 32 → bt a (31 - x) = bt b (31 - x) := by
  unfold agr
  rcases Nat.eq_zero_or_pos d with z | z
  · subst z
    rw [if_neg (by decide)]
    exact ⟨fun _ x hx => absurd hx (Nat.not_lt_zero _), fun _ => rfl⟩
  · rw [if_pos (show (0 : Int32) < nI d from nI_lt (a := 0) z (by omega))]
    by_cases c : d < 32
    · rw [if_pos (show nI d < (32 : Int32) from nI_lt (b := 32) c (by omega)), decide_eq_true_eq, show (32 : Int32) = nI 32 from rfl, pk_sub (by omega)]
      constructor
      · intro h x hx _
        have := congrArg (fun q => bt q (d - 1 - x)) h
        rw [b_ushr (32 - d) (by omega), b_xor, b_0, show 32 - d + (d - 1 - x) = 31 - x by omega] at this
        cases h1 : bt a (31 - x) <;> cases h2 : bt b (31 - x) <;> rw [h1, h2] at this <;> first | rfl | cases this
      · intro h
        refine b_ext (fun i hi => ?_)
        rw [b_ushr (32 - d) (by omega), b_xor, b_0]
        rcases Nat.lt_or_ge i d with q | q
        · have := h (d - 1 - i) (by omega) (by omega)
          rw [show 31 - (d - 1 - i) = 32 - d + i by omega] at this
          rw [this, Bool.xor_self]
        · rw [b_big (by omega), b_big (by omega)]
          rfl
    · rw [if_neg (show ¬ nI d < (32 : Int32) from fun z => c ((nI_ltI (b := 32) (by omega) (by omega)).mp z)), decide_eq_true_eq]
      constructor
      · intro h x _ _
        rw [h]
      · intro h
        refine b_ext (fun i hi => ?_)
        have := h (31 - i) (by omega) (by omega)
        rw [show 31 - (31 - i) = i by omega] at this
        exact this
theorem agr_n {a b : Int32} {n j : Nat} (hn : n < 2 ^ 20) (hj : j < 2 ^ 20) (h : n ≤ j) : agr a b (nI n - nI j) = true := by
  unfold agr
  rw [if_neg]
  rw [Int32.lt_iff_toInt_lt, pk_sub_toInt (by omega) (by omega)]
  have : (0 : Int32).toInt = 0 := rfl
  omega
theorem agr_w {a b : Int32} {n i : Nat} (hn : n < 2 ^ 20) (hi : i < 4) : agr a b (nI n - 32 * nI i) = true ↔ ∀ x, 32 * i ≤ x → x < n → x < 32 * (i + 1) → bt a (31 - x % 32) = bt b (31 - x % 32) := by
  rw [show (32 : Int32) = nI 32 from rfl, pk_mul]
  rcases Nat.lt_or_ge (32 * i) n with c | c
  · rw [pk_sub (by omega), agr_d (by omega)]
    constructor
    · intro h x h1 h2 h3
      have := h (x - 32 * i) (by omega) (by omega)
      rw [show x - 32 * i = x % 32 by omega] at this
      exact this
    · intro h x h1 h2
      have := h (32 * i + x) (by omega) (by omega) (by omega)
      rw [show (32 * i + x) % 32 = x by omega] at this
      exact this
  · exact ⟨fun _ x h1 h2 _ => absurd h2 (by omega), fun _ => agr_n hn (by omega) c⟩
theorem inL_iff {w v : Nat → Int32} {n : Nat} (hn : n ≤ 128) : inL w v (nI n) 4 0 = true ↔ ∀ x, 0 ≤ x → x < n → bt (w (x / 32)) (31 - x % 32) = bt (v (x / 32)) (31 - x % 32) := by
  rw [inL, inL, inL, inL, inL, Bool.and_eq_true, Bool.and_eq_true, Bool.and_eq_true, Bool.and_eq_true, agr_w (by omega) (by omega), agr_w (by omega) (by omega), agr_w (by omega) (by omega), agr_w (by omega) (by omega)]
  constructor
  · rintro ⟨h0, h1, h2, h3, -⟩ x _ hx
    rcases (show x / 32 = 0 ∨ x / 32 = 1 ∨ x / 32 = 2 ∨ x / 32 = 3 by omega) with z | z | z | z
    · rw [z]; exact h0 x (by omega) hx (by omega)
    · rw [z]; exact h1 x (by omega) hx (by omega)
    · rw [z]; exact h2 x (by omega) hx (by omega)
    · rw [z]; exact h3 x (by omega) hx (by omega)
  · intro h
    refine ⟨fun x h1 h2 h3 => ?_, fun x h1 h2 h3 => ?_, fun x h1 h2 h3 => ?_, fun x h1 h2 h3 => ?_, rfl⟩
    · have := h x (by omega) h2
      rw [show x / 32 = 0 by omega] at this
      exact this
    · have := h x (by omega) h2
      rw [show x / 32 = 0 + 1 by omega] at this
      exact this
    · have := h x (by omega) h2
      rw [show x / 32 = 0 + 1 + 1 by omega] at this
      exact this
    · have := h x (by omega) h2
      rw [show x / 32 = 0 + 1 + 1 + 1 by omega] at this
      exact this
def sel (p b c d : Int32) (q : Nat) : Int32 := if q = 0 then p else if q = 1 then b else if q = 2 then c else d
/-- one range, as the other object asks it -/
theorem inR_iff {k a b c d k' : Int32} {r : Nat → Int32} {v : Nat → Int32} {n : Nat} (hk : k = 4 ∨ k = 6) (hv : v = w4 k' (r 0) (r 1) (r 2) (r 3)) (hn : k' = 4 ∧ n ≤ 32 ∨ k' = 6 ∧ n ≤ 128) : inR k (w4 k a b c d) k' v (nI n) = true ↔ k' = (if fis k (w4 k a b c d) then 4 else k) ∧ ∀ t, 0 ≤ t → t < n → bt (sel (if fis k (w4 k a b c d) then d else a) b c d (t / 32)) (31 - t % 32) = bt (r (t / 32)) (31 - t % 32) := by
  unfold inR
  by_cases f : fis k (w4 k a b c d) = true
  · rw [if_pos f, if_pos f, if_pos f, Bool.and_eq_true, decide_eq_true_eq, agr_d (by omega)]
    refine and_congr_right (fun e => ?_)
    subst e
    have hn : n ≤ 32 := hn.elim (fun z => z.2) (fun z => absurd z.1 (by decide))
    have k6 : k = 6 := by
      unfold fis at f
      exact (of_decide_eq_true f).1
    subst k6
    have e3 : w4 6 a b c d 3 = d := rfl
    have ev : v 0 = r 0 := by rw [hv]; rfl
    rw [e3, ev]
    constructor
    · intro h t _ ht
      rw [show t / 32 = 0 by omega, show t % 32 = t by omega]
      exact h t ht (by omega)
    · intro h t ht _
      have := h t (by omega) ht
      rw [show t / 32 = 0 by omega, show t % 32 = t by omega] at this
      exact this
  · rw [if_neg f, if_neg f, if_neg f, Bool.and_eq_true, decide_eq_true_eq]
    have f' : k = k' ↔ k' = k := eq_comm
    rw [f']
    refine and_congr_right (fun e => ?_)
    subst e
    rw [inL_iff (by omega)]
    have ew : ∀ t, t < n → w4 k' a b c d (t / 32) = sel a b c d (t / 32) ∧ v (t / 32) = r (t / 32) := by
      intro t ht
      rw [hv]
      rcases hn with ⟨z, y⟩ | ⟨z, y⟩
      · subst z
        rw [show t / 32 = 0 by omega]
        exact ⟨rfl, rfl⟩
      · subst z
        rcases (show t / 32 = 0 ∨ t / 32 = 1 ∨ t / 32 = 2 ∨ t / 32 = 3 by omega) with x | x | x | x <;> rw [x] <;> exact ⟨rfl, rfl⟩
    constructor
    · intro h t h0 ht
      rw [← (ew t ht).1, ← (ew t ht).2]
      exact h t h0 ht
    · intro h t h0 ht
      rw [(ew t ht).1, (ew t ht).2]
      exact h t h0 ht
section MN
variable {m : Nat} {D : Nat → Nat} {M : MS} {R : Nat → List Int32} {T : List Int32} {Pp : Nat → Option UV} {G : GV} {P : Int32 → MS → Prop}
theorem m_rng87 {rec : Option Nat → Int32 → Int32 → Int32 → Int32 → Int32 → Int32 → gM Int32} {e n : Nat} {b c d now p : Int32} (he : e < 12) (hn : n ≤ 128) (hm : mA M 33 e = nI n) : ∀ (k x f : Nat) (u : Bool), x + k = n → k < f → ((¬ (u = true ∧ ∀ t, x ≤ t → t < n → bt (sel p b c d (t / 32)) (31 - t % 32) = bt (mA M 32 (4 * e + t / 32)) (31 - t % 32))) → wm m D (rec (some m) b c d now p (nI (e + 1))) M P) → ((u = true ∧ ∀ t, x ≤ t → t < n → bt (sel p b c d (t / 32)) (31 - t % 32) = bt (mA M 32 (4 * e + t / 32)) (31 - t % 32)) → P 1 M) → wm m D (f_X9_isInRange_L87 rec f (some m) b c d now p (nI e) (b2i u) (nI x)) M P := by
  intro k
  induction k with
  | zero =>
    intro x f u hx hf h0 hP
    obtain ⟨f, rfl⟩ : ∃ g, f = g + 1 := ⟨f - 1, by omega⟩
    rw [f_X9_isInRange_L87]
    unfold f_X9_isInRange_87 f_X9_isInRange_198
    refine wm_get (k := 33) (t := 1) (by decide) rfl (show e < 12 by omega) ?_
    rw [hm]
    refine wm_t (nI_le (by omega) (by omega)) (wm_bz (fun z => ?_) (fun z => ?_))
    · rw [nI_1]
      exact h0 (fun y => by rw [z] at y; cases y.1)
    · exact wm_z1 (hP ⟨z, fall_z (by omega)⟩)
  | succ k ih =>
    intro x f u hx hf h0 hP
    obtain ⟨f, rfl⟩ : ∃ g, f = g + 1 := ⟨f - 1, by omega⟩
    rw [f_X9_isInRange_L87]
    unfold f_X9_isInRange_87
    refine wm_get (k := 33) (t := 1) (by decide) rfl (show e < 12 by omega) ?_
    rw [hm]
    refine wm_f (nI_ge (by omega) (by omega)) (wm_bz (fun z => ?_) (fun z => ?_))
    · subst z
      unfold f_X9_isInRange_198
      rw [nI_1]
      exact wm_t rfl (h0 (fun y => by cases y.1))
    · subst z
      refine wm_b (wm_q (fun _ _ => wp_nz (by decide)) ?_)
      have ed : nI x / 32 = nI (x / 32) := pk_div (d := 32) (by omega) (by omega) (by omega)
      have er : (31 - (nI x - nI (x / 32) * 32) : Int32) = nI (31 - x % 32) := by
        have : nI x - nI (x / 32) * 32 = nI (x % 32) := by
          rw [← ed]
          exact pk_rem (d := 32) (by omega) (by omega) (by omega)
        rw [this]
        exact pk_sub (a := 31) (by omega)
      rw [ed]
      have go : ∀ s, s = sel p b c d (x / 32) → wm m D (f_X9_isInRange_144 rec (f_X9_isInRange_L87 rec f) (some m) b c d now p (nI e) (nI x) (nI (x / 32)) s) M P := by
        intro s hs
        unfold f_X9_isInRange_144
        refine wm_b (wm_q (fun _ _ => wp_nz (by decide)) ?_)
        refine wm_get (k := 32) (t := 1) (j := 4 * e + x / 32) (by decide) (by rw [show (4 : Int32) = nI 4 from rfl, pk_mul, nI_add]) (show 4 * e + x / 32 < 48 by omega) ?_
        refine wm_b (wm_q (fun _ _ => wp_nz (by decide)) ?_)
        rw [ed, er, nI_1]
        have bi := bit1_iff (y := 31 - x % 32) (by omega) s (mA M 32 (4 * e + x / 32))
        rw [hs] at bi
        rw [hs]
        refine wm_if (fun g => ih (x + 1) f true (by omega) (by omega) (fun q => h0 (fun y => q ?_)) (fun q => hP ?_)) (fun g => ih (x + 1) f false (by omega) (by omega) (fun q => h0 (fun y => ?_)) (fun q => by cases q.1))
        · exact ⟨rfl, ((fall_s (x := x) (by omega)).mp y.2).2⟩
        · exact ⟨rfl, (fall_s (x := x) (by omega)).mpr ⟨bi.mp g, q.2⟩⟩
        · exact g (bi.mpr ((fall_s (x := x) (by omega)).mp y.2).1)
      have x4 : x / 32 < 4 := by omega
      generalize x / 32 = q at x4 go
      refine wm_if (fun g => go p ?_) (fun g => wm_if (fun g2 => go b ?_) (fun g2 => wm_if (fun g3 => go c ?_) (fun g3 => go d ?_)))
      · rw [show q = 0 from (nI_eq (b := 0) (by omega) (by omega)).mp g]
        rfl
      · rw [show q = 1 from (nI_eq (b := 1) (by omega) (by omega)).mp g2]
        rfl
      · rw [show q = 2 from (nI_eq (b := 2) (by omega) (by omega)).mp g3]
        rfl
      · have n0 : q ≠ 0 := fun z => g (by rw [z]; rfl)
        have n1 : q ≠ 1 := fun z => g2 (by rw [z]; rfl)
        have n2 : q ≠ 2 := fun z => g3 (by rw [z]; rfl)
        unfold sel
        rw [if_neg n0, if_neg n1, if_neg n2]
theorem m_isInRange {k a b c d : Int32} (hk : k = 4 ∨ k = 6) (hM : Mr M G) (hP : P (b2i (inS G k (w4 k a b c d) (NR G) 0)) M) : wm m D (f_X9_isInRange (some m) k a b c d) M P := by
  obtain ⟨r1, r2, r3⟩ := hM
  have L : ∀ (x e f : Nat), e + x = NR G → x < f → P (b2i (inS G k (w4 k a b c d) x e)) M → wm m D (f_X9_isInRange_L56 f (some m) b c d (if fis k (w4 k a b c d) then 4 else k) (if fis k (w4 k a b c d) then d else a) (nI e)) M P := by
    intro x
    induction x with
    | zero =>
      intro e f he hf hP
      obtain ⟨f, rfl⟩ : ∃ g, f = g + 1 := ⟨f - 1, by omega⟩
      rw [f_X9_isInRange_L56]
      unfold f_X9_isInRange_56
      refine wm_rd ?_
      rw [r1]
      exact wm_t (nI_le (by omega) (by omega)) (wm_z0 hP)
    | succ x ih =>
      intro e f he hf hP
      obtain ⟨f, rfl⟩ : ∃ g, f = g + 1 := ⟨f - 1, by omega⟩
      rw [f_X9_isInRange_L56]
      unfold f_X9_isInRange_56
      refine wm_rd ?_
      rw [r1]
      refine wm_f (nI_ge (by omega) (by omega)) ?_
      obtain ⟨u1, u2, u3, u4⟩ := r3 e (by omega)
      have u4' : ∃ n, (GR G e).2.2 = nI n ∧ ((GR G e).1 = 4 ∧ n ≤ 32 ∨ (GR G e).1 = 6 ∧ n ≤ 128) := by
        rcases u4 with ⟨z, n, hn, en⟩ | ⟨z, n, hn, en⟩
        · exact ⟨n, en, Or.inl ⟨z, hn⟩⟩
        · exact ⟨n, en, Or.inr ⟨z, hn⟩⟩
      obtain ⟨n, en, hn⟩ := u4'
      have key := inR_iff (a := a) (b := b) (c := c) (d := d) (r := fun j => mA M 32 (4 * e + j)) hk u3 hn
      refine wm_get (k := 31) (t := 1) (by decide) rfl (show e < 12 by omega) ?_
      rw [u1]
      rw [inS, en] at hP
      have go : ∀ u : Bool, (u = true ↔ (GR G e).1 = (if fis k (w4 k a b c d) then 4 else k)) → wm m D (f_X9_isInRange_L87 (f_X9_isInRange_L56 f) gF (some m) b c d (if fis k (w4 k a b c d) then 4 else k) (if fis k (w4 k a b c d) then d else a) (nI e) (b2i u) (nI 0)) M P := by
        intro u hu
        refine m_rng87 (by omega) (by omega) (u2.trans en) n 0 gF u (by omega) (by unfold gF; omega) (fun q => ?_) (fun q => ?_)
        · rw [hu] at q
          have q := fun y => q (key.mp y)
          refine ih (e + 1) f (by omega) (by omega) ?_
          rw [Bool.eq_false_iff.mpr q, Bool.false_or] at hP
          exact hP
        · rw [hu] at q
          rw [key.mpr q, Bool.true_or] at hP
          exact hP
      exact wm_if (fun z => go true ⟨fun _ => z, fun _ => rfl⟩) (fun z => go false ⟨fun y => (by cases y), fun y => absurd y z⟩)
  have L := L (NR G) 0 gF (by omega) (by unfold gF; omega) hP
  unfold f_X9_isInRange f_X9_isInRange_25 f_X9_isInRange_26 f_X9_isInRange_38
  have no : fis k (w4 k a b c d) = false → wm m D (f_X9_isInRange_L56 gF (some m) b c d k a 0) M P := fun z => by
    rw [z] at L
    exact L
  have n0 : ∀ A B : gM Int32, wm m D B M P → wm m D (if (0 : Int32) = 0 then B else A) M P := fun A B h => wm_t rfl h
  refine wm_if (fun g1 => ?_) (fun g1 => wm_t rfl (wm_t rfl (no ?_)))
  · subst g1
    refine wm_if (fun g2 => ?_) (fun g2 => wm_t rfl (wm_t rfl (no ?_)))
    · refine wm_if (fun g3 => ?_) (fun g3 => wm_t rfl (wm_t rfl (no ?_)))
      · refine wm_if (fun g4 => ?_) (fun g4 => wm_t rfl (wm_t rfl (no ?_)))
        · refine wm_f (by decide) (wm_f (by decide) ?_)
          have : fis 6 (w4 6 a b c d) = true := decide_eq_true ⟨rfl, g2, g3, g4⟩
          rw [this] at L
          exact L
        · exact decide_eq_false (fun z => g4 z.2.2.2)
      · exact decide_eq_false (fun z => g3 z.2.2.1)
    · exact decide_eq_false (fun z => g2 z.2.1)
  · exact decide_eq_false (fun z => g1 z.1)
end MN
