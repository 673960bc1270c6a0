/-! BOTH OBJECTS: is a HOST listed -/
theorem suf_iff {xs ys : List Int32} : xs <:+ ys ↔ xs.length ≤ ys.length ∧ ∀ t, 0 ≤ t → t < xs.length → xs.getD t 0 = ys.getD (ys.length - xs.length + t) 0 := by
  rw [List.suffix_iff_eq_drop]
  constructor
  · intro e
    have l := congrArg List.length e
    rw [List.length_drop] at l
    refine ⟨by omega, fun t _ ht => ?_⟩
    have := congrArg (fun q => q.getD t 0) e
    rw [List.getD_eq_getElem?_getD, List.getD_eq_getElem?_getD, List.getElem?_drop] at this
    rw [List.getD_eq_getElem?_getD, List.getD_eq_getElem?_getD]
    exact this
  · rintro ⟨l, h⟩
    refine lex_iff.mpr ⟨by rw [List.length_drop]; omega, fun t h0 ht => ?_⟩
    rw [h t h0 ht, List.getD_eq_getElem?_getD, List.getD_eq_getElem?_getD, List.getElem?_drop]
/-- what an entry asks -/
def lsC (k : Int32) (w : Nat → Int32) (ys : List Int32) (e : HE) : Prop := e.1 = k ∧ (∀ t, 0 ≤ t → t < 8 → numA e.1 e.2.1 t = numA k w t)
def lsN (xs nm : List Int32) (o : Int32) : Prop := xs.length = nm.length ∨ (o ≠ 0 ∧ nm.length < xs.length ∧ xs.getD (xs.length - nm.length - 1) 0 = 46)
def lsB (xs nm : List Int32) : Prop := ∀ t, 0 ≤ t → t < nm.length → nm.getD t 0 = xs.getD (xs.length - nm.length + t) 0
def nmO (k : Int32) (ys : List Int32) : List Int32 := if k = 0 then ys else []
theorem lsd_s {k : Int32} {w : Nat → Int32} {ys : List Int32} {e : HE} (hl : ys.length < 2 ^ 30) (ho : e.2.2.2 = 0 ∨ (e.2.2.2 = 1 ∧ e.1 = 0)) (hE : okE k w ys) (hE' : okE e.1 e.2.1 e.2.2.1) : (lsC k w ys e ∧ lsN (nmO k ys) (nmO e.1 e.2.2.1) e.2.2.2 ∧ lsB (nmO k ys) (nmO e.1 e.2.2.1)) ↔ (k = e.1 ∧ ys = e.2.2.1) ∨ (e.2.2.2 ≠ 0 ∧ bel k ys e.2.2.1 = true) := by
  obtain ⟨k', w', ys', o⟩ := e
  dsimp only at *
  unfold lsC lsN lsB
  dsimp only
  constructor
  · rintro ⟨⟨q1, q2⟩, q3, q4⟩
    subst q1
    rcases q3 with q3 | ⟨q3, q5, q6⟩
    · left
      refine ⟨rfl, (host_eq hE hE').mpr ⟨fun j hj => (q2 j (Nat.zero_le _) hj).symm, ?_⟩⟩
      show nmO k' ys = nmO k' ys'
      refine (lex_iff.mpr ⟨q3.symm, fun t h0 ht => ?_⟩).symm
      rw [q4 t h0 ht, show (nmO k' ys).length - (nmO k' ys').length + t = t by omega]
    · right
      refine ⟨q3, ?_⟩
      rcases ho with z | ⟨-, z⟩
      · exact absurd z q3
      · subst z
        have e1 : nmO 0 ys = ys := if_pos rfl
        have e2 : nmO 0 ys' = ys' := if_pos rfl
        rw [e1, e2] at q4 q5 q6
        unfold bel
        rw [Bool.and_eq_true, Bool.and_eq_true, decide_eq_true_eq, decide_eq_true_eq, decide_eq_true_eq]
        refine ⟨rfl, suf_iff.mpr ⟨by omega, q4⟩, ?_⟩
        obtain ⟨n, hn⟩ : ∃ n, ys.length - ys'.length = n + 1 := ⟨ys.length - ys'.length - 1, by omega⟩
        rw [pk_sub (by omega), hn, nI_pred]
        unfold bAt
        rw [if_neg (nI_pos (by omega)), if_neg (nI_ge (by omega) (by omega)), nI_clamp (by omega)]
        rw [show n = ys.length - ys'.length - 1 by omega]
        exact q6
  · rintro (⟨q1, q2⟩ | ⟨q1, q2⟩)
    · subst q1 q2
      obtain ⟨n1, n2⟩ := (host_eq hE hE').mp rfl
      refine ⟨⟨rfl, fun t _ ht => (n1 t ht).symm⟩, Or.inl rfl, fun t _ _ => ?_⟩
      rw [Nat.sub_self, Nat.zero_add]
    · rcases ho with z | ⟨-, z⟩
      · exact absurd z q1
      · subst z
        unfold bel at q2
        rw [Bool.and_eq_true, Bool.and_eq_true, decide_eq_true_eq, decide_eq_true_eq, decide_eq_true_eq] at q2
        obtain ⟨y1, y2, y3⟩ := q2
        subst y1
        obtain ⟨s1, s2⟩ := suf_iff.mp y2
        have e1 : nmO 0 ys = ys := if_pos rfl
        have e2 : nmO 0 ys' = ys' := if_pos rfl
        rw [e1, e2]
        have lt : ys'.length < ys.length := by
          rcases Nat.lt_or_ge ys'.length ys.length with z | z
          · exact z
          · exfalso
            have el : ys.length = ys'.length := by omega
            rw [el, pk_sub (by omega), Nat.sub_self] at y3
            revert y3
            unfold bAt
            rw [if_pos (show nI 0 - 1 < 0 by decide)]
            decide
        obtain ⟨n, hn⟩ : ∃ n, ys.length - ys'.length = n + 1 := ⟨ys.length - ys'.length - 1, by omega⟩
        rw [pk_sub (by omega), hn, nI_pred] at y3
        unfold bAt at y3
        rw [if_neg (nI_pos (by omega)), if_neg (nI_ge (by omega) (by omega)), nI_clamp (by omega)] at y3
        refine ⟨⟨rfl, fun t _ _ => ?_⟩, Or.inr ⟨q1, lt, ?_⟩, s2⟩
        · rw [show ∀ w, numA 0 w t = (if t = 0 then w 0 else 0) from fun w => if_neg (by decide), show ∀ w, numA 0 w t = (if t = 0 then w 0 else 0) from fun w => if_neg (by decide), hE.1.2.1 rfl, hE'.1.2.1 rfl]
        · rw [show ys.length - ys'.length - 1 = n by omega]
          exact y3
section ML
variable {m : Nat} {D : Nat → Nat} {M : MS} {R : Nat → List Int32} {T : List Int32} {Pp : Nat → Option UV} {G : GV} {P : Int32 → MS → Prop}
theorem m_lst161 {rec : Option Nat → Int32 → Int32 → Int32 → gM Int32} {i e : Nat} {nm : List Int32} (hi : i < 5) (he : e < 12) (hR : Rw M R) (hl : nm.length ≤ 300) (hb : isB nm) (hB : By (mA M 20) (300 * e) nm) : ∀ (k x f : Nat) (b : Bool), x + k = nm.length → k < f → (b = true → nm.length ≤ (R (6 * i + 2)).length) → ((¬ (b = true ∧ ∀ t, x ≤ t → t < nm.length → nm.getD t 0 = (R (6 * i + 2)).getD ((R (6 * i + 2)).length - nm.length + t) 0)) → wm m D (rec (some m) (nI i) (nI (R (6 * i + 2)).length) (nI (e + 1))) M P) → ((b = true ∧ ∀ t, x ≤ t → t < nm.length → nm.getD t 0 = (R (6 * i + 2)).getD ((R (6 * i + 2)).length - nm.length + t) 0) → P 1 M) → wm m D (f_X9_isListed_L161 rec f (some m) (nI i) (nI (R (6 * i + 2)).length) (nI e) (b2i b) (nI nm.length) (nI x)) M P := by
  obtain ⟨r1, r2, r3, r4⟩ := hR (6 * i + 2) (by omega)
  intro k
  induction k with
  | zero =>
    intro x f b hx hf hb' h0 hP
    obtain ⟨f, rfl⟩ : ∃ g, f = g + 1 := ⟨f - 1, by omega⟩
    rw [f_X9_isListed_L161]
    unfold f_X9_isListed_161 f_X9_isListed_221
    refine wm_t (nI_le (by omega) (by omega)) (wm_bz (fun z => ?_) (fun z => ?_))
    · rw [nI_1]
      exact h0 (fun y => by rw [z] at y; cases y.1)
    · exact wm_z1 (hP ⟨z, fall_z (by omega)⟩)
  | succ k ih =>
    intro x f b hx hf hb' h0 hP
    obtain ⟨f, rfl⟩ : ∃ g, f = g + 1 := ⟨f - 1, by omega⟩
    rw [f_X9_isListed_L161]
    unfold f_X9_isListed_161 f_X9_isListed_221 f_X9_row
    refine wm_f (nI_ge (by omega) (by omega)) (wm_bz (fun z => ?_) (fun z => ?_))
    · subst z
      rw [nI_1]
      exact wm_t rfl (h0 (fun y => by cases y.1))
    · subst z
      have hl' := hb' rfl
      refine wm_get (k := 20) (t := 0) (j := 300 * e + x) (by decide) (by rw [show (300 : Int32) = nI 300 from rfl, pk_mul, nI_add]) (show 300 * e + x < 3600 by omega) ?_
      refine wm_b (wm_rR (k := 9) (t := 0) (by decide) (wm_n (wm_b (wm_p (wm_b ?_)))))
      have e3 : (6 * nI i + 2 : Int32) = nI (6 * i + 2) := ix6 i 2
      rw [e3, show (2400 : Int32) = nI 2400 from rfl, pk_mul, nI_add, pk_sub (by omega)]
      refine wm_aI (k := 9) (t := 0) (by decide) (nI_add _ _) (show 2400 * (6 * i + 2) + (R (6 * i + 2)).length - nm.length + x < 72000 by omega) ?_
      rw [show 2400 * (6 * i + 2) + (R (6 * i + 2)).length - nm.length + x = 2400 * (6 * i + 2) + ((R (6 * i + 2)).length - nm.length + x) by omega, r4 _ (by omega), hB x (by omega), nI_1]
      have si := sb_iff hb r3 (a := x) (b := (R (6 * i + 2)).length - nm.length + x) (by omega) (by omega)
      refine wm_if (fun c => ih (x + 1) f true (by omega) (by omega) (fun _ => hl') (fun q => h0 (fun y => q ?_)) (fun q => hP ?_)) (fun c => ih (x + 1) f false (by omega) (by omega) (fun z => by cases z) (fun q => h0 (fun y => ?_)) (fun q => by cases q.1))
      · have := (fall_s (x := x) (by omega)).mp y.2
        exact ⟨rfl, this.2⟩
      · exact ⟨rfl, (fall_s (x := x) (by omega)).mpr ⟨si.mp c, q.2⟩⟩
      · have := (fall_s (x := x) (by omega)).mp y.2
        exact c (si.mpr this.1)
theorem m_lst42 {rec : Option Nat → Int32 → Int32 → Int32 → gM Int32} {i e : Nat} {A B : Nat → Int32} {nm : List Int32} {o : Int32} (hi : i < 5) (he : e < 12) (hR : Rw M R) (hA : ∀ k, k < 8 → mA M 23 (8 * e + k) = A k) (hB : ∀ k, k < 8 → mA M 6 (8 * i + k) = B k) (hm : mA M 21 e = nI nm.length) (hl : nm.length ≤ 300) (ho : mA M 24 e = o) (hbn : isB nm) (hBn : By (mA M 20) (300 * e) nm) : ∀ (k x f : Nat) (b : Bool), x + k = 8 → k < f → ((¬ ((b = true ∧ ∀ t, x ≤ t → t < 8 → A t = B t) ∧ lsN (R (6 * i + 2)) nm o ∧ lsB (R (6 * i + 2)) nm)) → wm m D (rec (some m) (nI i) (nI (R (6 * i + 2)).length) (nI (e + 1))) M P) → (((b = true ∧ ∀ t, x ≤ t → t < 8 → A t = B t) ∧ lsN (R (6 * i + 2)) nm o ∧ lsB (R (6 * i + 2)) nm) → P 1 M) → wm m D (f_X9_isListed_L42 rec f (some m) (nI i) (nI (R (6 * i + 2)).length) (nI e) (b2i b) (nI x)) M P := by
  obtain ⟨r1, r2, r3, r4⟩ := hR (6 * i + 2) (by omega)
  intro k
  induction k with
  | zero =>
    intro x f b hx hf h0 hP
    obtain ⟨f, rfl⟩ : ∃ g, f = g + 1 := ⟨f - 1, by omega⟩
    rw [f_X9_isListed_L42]
    unfold f_X9_isListed_42
    refine wm_t (show nI 8 ≤ nI x from nI_le (by omega) (by omega)) (wm_get (k := 21) (t := 1) (by decide) rfl (show e < 12 by omega) ?_)
    rw [hm]
    have z8 : ∀ t, x ≤ t → t < 8 → A t = B t := fall_z (by omega)
    have lo : ∀ c : Bool, (c = true → b = true ∧ lsN (R (6 * i + 2)) nm o) → (b = true → lsN (R (6 * i + 2)) nm o → c = true) → wm m D (f_X9_isListed_L161 rec gF (some m) (nI i) (nI (R (6 * i + 2)).length) (nI e) (b2i c) (nI nm.length) (nI 0)) M P := by
      intro c hc hc2
      refine m_lst161 hi he hR hl hbn hBn nm.length 0 gF c (by omega) (by unfold gF; omega) (fun z => ?_) (fun q => h0 (fun y => q ⟨hc2 y.1.1 y.2.1, y.2.2⟩)) (fun q => hP ⟨⟨(hc q.1).1, z8⟩, (hc q.1).2, q.2⟩)
      rcases (hc z).2 with y | y
      · omega
      · omega
    refine wm_bz (fun z => ?_) (fun z => ?_)
    · exact lo false (fun y => by cases y) (fun y => by rw [z] at y; cases y)
    · refine wm_if (fun c => ?_) (fun c => ?_)
      · exact lo true (fun _ => ⟨z, Or.inl ((nI_eq (by omega) (by omega)).mp c)⟩) (fun _ _ => rfl)
      · have c : ¬ (R (6 * i + 2)).length = nm.length := fun y => c (by rw [y])
        refine wm_get (k := 24) (t := 2) (by decide) rfl (show e < 12 by omega) ?_
        rw [ho]
        refine wm_if (fun d => ?_) (fun d => ?_)
        · exact lo false (fun y => by cases y) (fun _ y => (y.elim c (fun y => y.1 d)).elim)
        · refine wm_if (fun g => ?_) (fun g => ?_)
          · have g := (nI_leI (by omega) (by omega)).mp g
            exact lo false (fun y => by cases y) (fun _ y => (y.elim c (fun y => by omega)).elim)
          · have g : nm.length < (R (6 * i + 2)).length := by
              rcases Nat.lt_or_ge nm.length (R (6 * i + 2)).length with z | z
              · exact z
              · exact absurd (nI_le z (by omega)) g
            unfold f_X9_row
            refine wm_b (wm_rR (k := 9) (t := 0) (by decide) (wm_n (wm_b (wm_p (wm_b ?_)))))
            have e3 : (6 * nI i + 2 : Int32) = nI (6 * i + 2) := ix6 i 2
            obtain ⟨n, hn⟩ : ∃ n, (R (6 * i + 2)).length - nm.length = n + 1 := ⟨(R (6 * i + 2)).length - nm.length - 1, by omega⟩
            rw [e3, show (2400 : Int32) = nI 2400 from rfl, pk_mul, nI_add, pk_sub (by omega)]
            refine wm_aI (k := 9) (t := 0) (j := 2400 * (6 * i + 2) + n) (by decide) (by rw [show 2400 * (6 * i + 2) + (R (6 * i + 2)).length - nm.length = 2400 * (6 * i + 2) + n + 1 by omega, nI_pred]) (show 2400 * (6 * i + 2) + n < 72000 by omega) ?_
            obtain ⟨y, hy, ey⟩ := r3.get (j := n) (by omega)
            rw [r4 n (by omega), ey]
            refine wm_if (fun d' => ?_) (fun d' => ?_)
            · have d' := (sb_eq hy (c := 46) (by omega)).mp d'
              refine lo true (fun _ => ⟨z, Or.inr ⟨d, g, ?_⟩⟩) (fun _ _ => rfl)
              rw [show (R (6 * i + 2)).length - nm.length - 1 = n by omega, ey]
              exact d'
            · refine lo false (fun y => by cases y) (fun _ q => (q.elim c (fun q => d' ((sb_eq hy (c := 46) (by omega)).mpr ?_))).elim)
              have := q.2.2
              rw [show (R (6 * i + 2)).length - nm.length - 1 = n by omega, ey] at this
              exact this
  | succ k ih =>
    intro x f b hx hf h0 hP
    obtain ⟨f, rfl⟩ : ∃ g, f = g + 1 := ⟨f - 1, by omega⟩
    rw [f_X9_isListed_L42]
    unfold f_X9_isListed_42
    refine wm_f (show ¬ nI 8 ≤ nI x from nI_ge (by omega) (by omega)) ?_
    rw [nI_1]
    have nx : ∀ c : Bool, (b = true → c = decide (A x = B x)) → (b = false → c = false) → wm m D (f_X9_isListed_L42 rec f (some m) (nI i) (nI (R (6 * i + 2)).length) (nI e) (b2i c) (nI (x + 1))) M P := by
      intro c hc hc2
      have iff : (c = true ∧ ∀ t, x + 1 ≤ t → t < 8 → A t = B t) ↔ (b = true ∧ ∀ t, x ≤ t → t < 8 → A t = B t) := by
        rw [fall_s (x := x) (by omega)]
        cases b with
        | false => rw [hc2 rfl]; exact ⟨fun z => (by cases z.1), fun z => (by cases z.1)⟩
        | true =>
          rw [hc rfl]
          exact ⟨fun z => ⟨rfl, of_decide_eq_true z.1, z.2⟩, fun z => ⟨decide_eq_true z.2.1, z.2.2⟩⟩
      exact ih (x + 1) f c (by omega) (by omega) (fun q => h0 (fun y => q ⟨iff.mpr y.1, y.2⟩)) (fun q => hP ⟨iff.mp q.1, q.2⟩)
    refine wm_bz (fun z => ?_) (fun z => ?_)
    · exact nx false (fun y => by rw [z] at y; cases y) (fun _ => rfl)
    · refine wm_get (k := 23) (t := 1) (j := 8 * e + x) (by decide) (by rw [show (8 : Int32) = nI 8 from rfl, pk_mul, nI_add]) (show 8 * e + x < 96 by omega) ?_
      refine wm_get (k := 6) (t := 1) (j := 8 * i + x) (by decide) (by rw [show (8 : Int32) = nI 8 from rfl, pk_mul, nI_add]) (show 8 * i + x < 40 by omega) ?_
      rw [hA x (by omega), hB x (by omega)]
      refine wm_if (fun c => ?_) (fun c => ?_)
      · exact nx true (fun _ => (decide_eq_true c).symm) (fun y => by rw [z] at y; cases y)
      · exact nx false (fun _ => (decide_eq_false c).symm) (fun _ => rfl)
theorem m_isListed {i : Nat} {U : UV} (hi : i < 5) (hR : Rw M R) (hL : Ml M G) (hH : PH M R i U) (hE : okE (uK U) (uW U) (uR U 4)) (hl : (uR U 4).length < 2 ^ 30) (hP : P (b2i (lsd G (uK U) (uR U 4) (NH G) 0)) M) : wm m D (f_X9_isListed (some m) (nI i)) M P := by
  obtain ⟨l1, l2, l3⟩ := hL
  obtain ⟨p1, p2, p3⟩ := hH
  have p3 : R (6 * i + 2) = nmO (uK U) (uR U 4) := p3
  have L : ∀ (k e f : Nat), e + k = NH G → k < f → P (b2i (lsd G (uK U) (uR U 4) k e)) M → wm m D (f_X9_isListed_L9 f (some m) (nI i) (nI (R (6 * i + 2)).length) (nI e)) M P := by
    intro k
    induction k with
    | zero =>
      intro e f he hf hP
      obtain ⟨f, rfl⟩ : ∃ g, f = g + 1 := ⟨f - 1, by omega⟩
      rw [f_X9_isListed_L9]
      unfold f_X9_isListed_9
      refine wm_rd ?_
      rw [l1]
      exact wm_t (nI_le (by omega) (by omega)) (wm_z0 hP)
    | succ k ih =>
      intro e f he hf hP
      obtain ⟨f, rfl⟩ : ∃ g, f = g + 1 := ⟨f - 1, by omega⟩
      rw [f_X9_isListed_L9]
      unfold f_X9_isListed_9
      refine wm_rd ?_
      rw [l1]
      refine wm_f (nI_ge (by omega) (by omega)) ?_
      obtain ⟨a1, a2, a3, a4, a5, nm, a6, a7, a8, a9, a10⟩ := l3 e (by omega)
      have a6 : nm = nmO (GH G e).1 (GH G e).2.2.1 := a6
      refine wm_get (k := 22) (t := 1) (by decide) rfl (show e < 12 by omega) (wm_get (k := 5) (t := 1) (by decide) rfl (show i < 5 by omega) ?_)
      rw [a1, p1]
      rw [lsd] at hP
      have key := lsd_s (k := uK U) (w := uW U) (ys := uR U 4) (e := GH G e) hl a3 hE a5
      rw [← p3, ← a6] at key
      have go : ∀ b : Bool, (b = true ↔ (GH G e).1 = uK U) → wm m D (f_X9_isListed_L42 (f_X9_isListed_L9 f) gF (some m) (nI i) (nI (R (6 * i + 2)).length) (nI e) (b2i b) (nI 0)) M P := by
        intro b hb
        refine m_lst42 hi (by omega) hR a4 p2 a7 a8 a2 a9 a10 8 0 gF b (by omega) (by unfold gF; omega) (fun q => ?_) (fun q => ?_)
        · rw [hb] at q
          have q := fun y => q (key.mpr y)
          refine ih (e + 1) f (by omega) (by omega) ?_
          rw [decide_eq_false (fun z => q (Or.inl z)), Bool.false_or] at hP
          by_cases c : (GH G e).2.2.2 = 0
          · rw [decide_eq_true c] at hP
            exact hP
          · rw [decide_eq_false c] at hP
            by_cases d : bel (uK U) (uR U 4) (GH G e).2.2.1 = true
            · exact absurd (Or.inr ⟨c, d⟩) q
            · rw [Bool.not_eq_true] at d
              rw [d] at hP
              exact hP
        · rw [hb] at q
          rcases key.mp q with y | y
          · rw [decide_eq_true y] at hP
            exact hP
          · rw [decide_eq_false y.1, y.2] at hP
            by_cases c : uK U = (GH G e).1 ∧ uR U 4 = (GH G e).2.2.1
            · rw [decide_eq_true c] at hP
              exact hP
            · rw [decide_eq_false c] at hP
              exact hP
      refine wm_if (fun c => go true ⟨fun _ => c, fun _ => rfl⟩) (fun c => go false ⟨fun z => (by cases z), fun z => absurd z c⟩)
  unfold f_X9_isListed
  refine m_sz (p := 2) hi (by omega) hR ?_
  exact L (NH G) 0 gF (by omega) (by unfold gF; omega) hP
end ML
