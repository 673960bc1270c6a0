/-! THE OTHER OBJECT: segments, PORT -/
section MB
variable {m : Nat} {D : Nat → Nat} {M : MS} {xs : List Int32} {R : Nat → List Int32} {U : UV}
theorem m_isOver {i : Nat} {P : Int32 → MS → Prop} (hI : In M xs) (hi : i < 2 ^ 31) (hP : P (if xs.length ≤ i then 1 else pDiv (xs.getD i (-1))) M) : wm m D (f_X9_isOver (some m) (nI i)) M P := by
  unfold f_X9_isOver
  refine m_ba hI hi ?_
  rcases Nat.lt_or_ge i xs.length with z | z
  · rw [if_neg (by omega)] at hP
    obtain ⟨n, hn, e⟩ := hI.2.2.1.nn (j := i) z
    refine wm_f (by rw [e]; exact nI_pos (by omega)) (wm_b (wm_q (fun _ _ => m_isSlash) ?_))
    unfold pDiv at hP
    unfold pSla
    by_cases c1 : xs.getD i (-1) = 47
    · rw [if_pos c1] at hP ⊢
      exact wm_f (by decide) (wm_z1 hP)
    rw [if_neg c1] at hP ⊢
    by_cases c2 : xs.getD i (-1) = 92
    · rw [if_pos c2] at hP ⊢
      exact wm_f (by decide) (wm_z1 hP)
    rw [if_neg c2] at hP ⊢
    refine wm_t rfl ?_
    refine wm_if (fun c => ?_) (fun c => ?_)
    · rw [if_pos c] at hP
      exact wm_z1 hP
    rw [if_neg c] at hP
    refine wm_if (fun c => ?_) (fun c => ?_)
    · rw [if_pos c] at hP
      exact wm_z1 hP
    rw [if_neg c] at hP
    exact wm_z0 hP
  · rw [if_pos z] at hP
    rw [gd_out z]
    exact wm_t (by decide) (wm_z1 hP)
theorem low101 : ∀ n, n < 256 → (pLow (nI n) = 101 ↔ nI n = 101 ∨ nI n = 69) := by decide +kernel
theorem has3 {i : Nat} (hi : i < 2 ^ 30) (hl : xs.length ≤ 4096) (a b c : Int32) : hasS xs i [a, b, c] = true ↔ xs.getD i (-1) = a ∧ xs.getD (i + 1) (-1) = b ∧ xs.getD (i + 2) (-1) = c := by
  rw [hasS, hasS, hasS, hasS, bAt_g (by omega) hl, bAt_g (by omega) hl, bAt_g (by omega) hl]
  simp
theorem has2 {i : Nat} (hi : i < 2 ^ 30) (hl : xs.length ≤ 4096) (a b : Int32) : hasS xs i [a, b] = true ↔ xs.getD i (-1) = a ∧ xs.getD (i + 1) (-1) = b := by
  rw [hasS, hasS, hasS, bAt_g (by omega) hl, bAt_g (by omega) hl]
  simp
theorem m_ptL {b : Nat} {P : Int32 → MS → Prop} (hI : In M xs) (hb : b ≤ xs.length) : ∀ (f n i : Nat), b - i < f → n ≤ i → i ≤ b + 3 → P (nI (ptS xs b f n i)) M → wm m D (f_X9_points_L5 f (some m) (nI b) (nI n) (nI i)) M P := by
  have hl := hI.2.1
  intro f
  induction f with
  | zero => intro n i h; omega
  | succ f ih =>
    intro n i hf hn hi hP
    rw [f_X9_points_L5]
    unfold f_X9_points_5
    rw [ptS] at hP
    by_cases c : b ≤ i
    · rw [if_pos c] at hP
      refine wm_t (nI_le c (by omega)) ?_
      by_cases d : n ≤ 2
      · rw [if_pos d] at hP
        exact wm_t (nI_le (b := 2) d (by omega)) (wm_p hP)
      · rw [if_neg d] at hP
        exact wm_f (nI_ge (a := 2) (by omega) (by omega)) (wm_p hP)
    · rw [if_neg c] at hP
      refine wm_f (nI_ge (by omega) (by omega)) (m_ba hI (by omega) ?_)
      refine wm_if (fun d => ?_) (fun d => ?_)
      · rw [if_pos d] at hP
        rw [nI_1, nI_1]
        exact ih (n + 1) (i + 1) (by omega) (by omega) (by omega) hP
      · rw [if_neg d] at hP
        have e2 : nI i + 2 = nI (i + 2) := nI_add i 2
        have e3 : nI i + 3 = nI (i + 3) := nI_add i 3
        rw [e2]
        by_cases e : b < i + 3
        · rw [if_pos e] at hP
          exact wm_t (nI_le (by omega) (by omega)) (wm_p hP)
        · rw [if_neg e] at hP
          have h13 : hasS xs i (tstr 13) = true ↔ _ := has3 (xs := xs) (i := i) (by omega) (by omega) 37 50 101
          have h14 : hasS xs i (tstr 14) = true ↔ _ := has3 (xs := xs) (i := i) (by omega) (by omega) 37 50 69
          refine wm_f (nI_ge (by omega) (by omega)) (m_ba hI (by omega) ?_)
          refine wm_if (fun g1 => ?_) (fun g1 => ?_)
          · rw [nI_1]
            refine m_ba hI (by omega) ?_
            refine wm_if (fun g2 => ?_) (fun g2 => ?_)
            · refine m_ba hI (by omega) (wm_b (wm_q (fun _ _ => m_low) ?_))
              obtain ⟨k, hk, ek⟩ := hI.2.2.1.nn (j := i + 2) (by omega)
              have l1 := low101 k hk
              rw [← ek] at l1
              refine wm_if (fun g3 => ?_) (fun g3 => ?_)
              · rw [if_pos (by
                  rcases l1.mp g3 with z | z
                  · exact Or.inl (h13.mpr ⟨g1, g2, z⟩)
                  · exact Or.inr (h14.mpr ⟨g1, g2, z⟩))] at hP
                rw [nI_1, e3]
                exact ih (n + 1) (i + 3) (by omega) (by omega) (by omega) hP
              · rw [if_neg (fun z => g3 (l1.mpr (z.imp (fun z => (h13.mp z).2.2) (fun z => (h14.mp z).2.2))))] at hP
                exact wm_p hP
            · rw [if_neg (fun z => g2 (z.elim (fun z => (h13.mp z).2.1) (fun z => (h14.mp z).2.1)))] at hP
              exact wm_p hP
          · rw [if_neg (fun z => g1 (z.elim (fun z => (h13.mp z).1) (fun z => (h14.mp z).1)))] at hP
            exact wm_p hP
theorem m_points {a b : Nat} {P : Int32 → MS → Prop} (hI : In M xs) (hab : a ≤ b) (hb : b ≤ xs.length) (hP : P (nI (ptS xs b gF 0 a)) M) : wm m D (f_X9_points (some m) (nI a) (nI b)) M P := by
  have hl := hI.2.1
  unfold f_X9_points
  exact m_ptL hI hb gF 0 a (by unfold gF; omega) (by omega) (by omega) hP
/-- a changed count of segments is not looked at -/
theorem PA.i7 {i : Nat} {v : Int32} (h : PA M R i U) : PA M R i (vI U 7 v) := h
variable {P : Unit → MS → Prop}
/-- where a segment's bytes go -/
theorem m_L91 {rec21 : Option Nat → Int32 → Int32 → gM Unit} {e : Nat} {x3 : Int32} (he : e ≤ xs.length) : ∀ (k i f : Nat) (M : MS) (R : Nat → List Int32) (U : UV), i + k = e → k < f → In M xs → Rw M R → PA M R 4 U → (uR U 6).length + 3 * k ≤ 2400 → (∀ M' R', Fw [9, 10] [27] M R M' R' → Rw M' R' → PA M' R' 4 (vR U 6 (uR U 6 ++ escs xs 15 k i)) → wm m D (f_X9_readPath_121 rec21 (some m) x3 (nI e)) M' P) → wm m D (f_X9_readPath_L91 rec21 f (some m) x3 (nI e) 0 (nI i)) M P := by
  intro k
  induction k with
  | zero =>
    intro i f M R U hi hf hI hR hA hl hP
    obtain ⟨f, rfl⟩ : ∃ g, f = g + 1 := ⟨f - 1, by omega⟩
    have := hI.2.1
    rw [f_X9_readPath_L91]
    unfold f_X9_readPath_91
    refine wm_t (nI_le (by omega) (by omega)) (hP M R Fw.rf hR ?_)
    rw [escs, List.append_nil]
    obtain ⟨⟨a1, a2, a3, a4, a5⟩, a6⟩ := hA
    exact ⟨⟨a1, a2, a3, a4, a5⟩, a6⟩
  | succ k ih =>
    intro i f M R U hi hf hI hR hA hl hP
    obtain ⟨f, rfl⟩ : ∃ g, f = g + 1 := ⟨f - 1, by omega⟩
    have := hI.2.1
    obtain ⟨n, hn, en⟩ := hI.2.2.1.nn (j := i) (by omega)
    have e6 : R 27 = uR U 6 := hA.1.2.2.1
    rw [f_X9_readPath_L91]
    unfold f_X9_readPath_91
    refine wm_f (nI_ge (by omega) (by omega)) (wm_t rfl (m_ba hI (by omega) ?_))
    rw [en, nI_1]
    refine wm_n (wm_b (m_addEsc (p := 3) (s := 2) hR (by omega) (by show (R 27).length + 3 ≤ 2400; rw [e6]; omega) hn (by omega) (fun M1 E1 W1 => ?_)))
    have hel := (esc_len (nI n) (stO 2)).1
    have A1 := hA.row (ys := R 27 ++ esc (nI n) (stO 2)) E1 (k := 6) (q := 27) (Or.inr (Or.inr (Or.inl ⟨rfl, rfl⟩)))
    rw [e6] at A1
    refine ih (i + 1) f M1 _ _ (by omega) (by omega) (hI.ex E1 (by decide) (by decide)) W1 (by rw [← e6] at A1; exact A1) (by rw [uR_R, if_pos rfl, List.length_append]; rw [← e6] at hl; omega) (fun M2 R2 F2 W2 A2 => hP M2 R2 ((Fw.row E1).trans F2) W2 ?_)
    rw [uR_R, if_pos rfl, List.append_assoc, vR_vR] at A2
    rw [escs, en, ← e6]
    exact A2
theorem m_seg {rec21 : Option Nat → Int32 → Int32 → gM Unit} {a e : Nat} {mo : Bool} (hI : In M xs) (hR : Rw M R) (hA : PA M R 4 U) (hs : sgO U) (hae : a ≤ e) (he : e ≤ xs.length) (hl : (uR U 6).length + 1 + 3 * (e - a) ≤ 2400) (hP : ∀ M' R', Fw [9, 10] [27] M R M' R' → Rw M' R' → PA M' R' 4 (tkS xs a e mo U) → wm m D (f_X9_readPath_121 rec21 (some m) (b2i mo) (nI e)) M' P) : wm m D (if nI (ptS xs e gF 0 a) = 2 then (gb (nn 8 (some m)) fun _ => gb (f_X9_dropSegment (some m)) fun _ => f_X9_readPath_72 rec21 (some m) (nI a) (b2i mo) (nI e) (nI (ptS xs e gF 0 a))) else (f_X9_readPath_72 rec21 (some m) (nI a) (b2i mo) (nI e) (nI (ptS xs e gF 0 a)))) M P := by
  have hlx := hI.2.1
  have hp2 := ptS_le xs e gF 0 a
  generalize en : ptS xs e gF 0 a = n at *
  -- behind the dropped segment
  have k72 : ∀ M1 R1, Fw [9, 10] [27] M R M1 R1 → Rw M1 R1 → PA M1 R1 4 (tk1 n U) → wm m D (f_X9_readPath_72 rec21 (some m) (nI a) (b2i mo) (nI e) (nI n)) M1 P := by
    intro M1 R1 F1 W1 A1
    have I1 := hI.ex F1.1 (by decide) (by decide)
    have ok1 := tk1_ok (n := n) hs (by omega)
    have e6 : R1 27 = uR (tk1 n U) 6 := A1.1.2.2.1
    -- behind the /
    have k91 : ∀ M2 R2, Fw [9, 10] [27] M R M2 R2 → Rw M2 R2 → PA M2 R2 4 (tk2 n mo U) → wm m D (f_X9_readPath_L91 rec21 gF (some m) (b2i mo) (nI e) (nI n) (nI a)) M2 P := by
      intro M2 R2 F2 W2 A2
      have I2 := hI.ex F2.1 (by decide) (by decide)
      have ok2 := tk2_ok (n := n) (mo := mo) hs (by omega)
      by_cases c : n = 0
      · subst c
        refine m_L91 he (e - a) a gF M2 R2 _ (by omega) (by unfold gF; omega) I2 W2 A2 (by omega) (fun M3 R3 F3 W3 A3 => hP M3 R3 (F2.trans F3) W3 ?_)
        unfold tkS
        rw [en, if_pos rfl]
        exact A3
      · have fin : wm m D (f_X9_readPath_121 rec21 (some m) (b2i mo) (nI e)) M2 P := by
          refine hP M2 R2 F2 W2 ?_
          unfold tkS
          rw [en, if_neg c]
          exact A2
        show wm m D (f_X9_readPath_L91 rec21 (9999 + 1) (some m) (b2i mo) (nI e) (nI n) (nI a)) M2 P
        rw [f_X9_readPath_L91]
        unfold f_X9_readPath_91
        refine wm_if (fun _ => fin) (fun _ => ?_)
        exact wm_f (nI_ne0 (by omega) (by omega)) fin
    have k81 : (n = 0 ∨ mo = false) → wm m D (f_X9_readPath_81 rec21 (some m) (nI a) (b2i mo) (nI e) (nI n)) M1 P := by
      intro hc
      unfold f_X9_readPath_81
      refine wm_n (wm_b (m_add (p := 3) (n := 47) W1 (by omega) (by show (R1 27).length < 2400; rw [e6]; omega) (by omega) (fun M2 E2 W2 => ?_)))
      have A2 := A1.row (ys := R1 27 ++ [nI 47]) E2 (k := 6) (q := 27) (Or.inr (Or.inr (Or.inl ⟨rfl, rfl⟩)))
      refine k91 M2 _ (F1.trans (Fw.row E2)) W2 ?_
      unfold tk2
      rw [if_pos hc]
      rw [e6] at A2 ⊢
      exact A2.i7
    unfold f_X9_readPath_72
    refine wm_if (fun c => k81 (Or.inl ((nI_eq (a := n) (b := 0) (by omega) (by omega)).mp c))) (fun c => ?_)
    refine wm_bz (fun d => k81 (Or.inr d)) (fun d => k91 M1 R1 F1 W1 ?_)
    unfold tk2
    rw [if_neg (fun z => z.elim (fun z => c (by rw [z]; rfl)) (fun z => by rw [d] at z; cases z))]
    exact A1
  refine wm_if (fun c => ?_) (fun c => ?_)
  · have c := (nI_eq (a := n) (b := 2) (by omega) (by omega)).mp c
    refine wm_n (wm_b (m_drop hR hA hs (fun M1 R1 F1 W1 A1 => k72 M1 R1 F1 W1 ?_)))
    unfold tk1
    rw [if_pos c]
    exact A1
  · have c : ¬ n = 2 := fun z => c (by rw [z]; rfl)
    refine k72 M R Fw.rf hR ?_
    unfold tk1
    rw [if_neg c]
    exact hA
theorem m_sgL : ∀ (f a : Nat) (M : MS) (R : Nat → List Int32) (U : UV), xs.length + 1 - a < f → a ≤ xs.length → In M xs → Rw M R → PA M R 4 U → sgO U → (uR U 6).length + 3 * (xs.length - a) + 1 ≤ 2400 → (uR U 8).length + 3 * xs.length ≤ 2400 → (uR U 10).length + 3 * xs.length ≤ 2400 → (∀ M' R', Fw [7, 8, 9, 10] [27, 28, 29] M R M' R' → Rw M' R' → PA M' R' 4 (enF xs (sgL xs f a U).1 (sgL xs f a U).2) → P () M') → wm m D (f_X9_readPath_L21 f (some m) (nI a) 1) M P := by
  intro f
  induction f with
  | zero => intro a M R U h; omega
  | succ f ih =>
    intro a M R U hf ha hI hR hA hs hl6 hl8 hl10 hP
    have hlx := hI.2.1
    obtain ⟨d1, d2⟩ := dvS_le xs (xs.length - a) a
    have dno := fun j h1 h2 => pDiv_47 (dvS_no xs (xs.length - a) a j h1 h2)
    rw [sgL] at hP
    have h58 : wm m D (gb (nn 8 (some m)) fun _ => gb (f_X9_byteAt (some m) (nI (dvS xs (xs.length - a) a))) fun v2 => gb (f_X9_isSlash v2) fun v3 => gb (nn 8 (some m)) fun _ => gb (f_X9_points (some m) (nI a) (nI (dvS xs (xs.length - a) a))) fun v4 => if v4 = 2 then (gb (nn 8 (some m)) fun _ => gb (f_X9_dropSegment (some m)) fun _ => f_X9_readPath_72 (f_X9_readPath_L21 f) (some m) (nI a) v3 (nI (dvS xs (xs.length - a) a)) v4) else (f_X9_readPath_72 (f_X9_readPath_L21 f) (some m) (nI a) v3 (nI (dvS xs (xs.length - a) a)) v4)) M P := by
      generalize dvS xs (xs.length - a) a = t at *
      refine m_ba hI (by omega) (wm_b (wm_q (fun _ _ => m_isSlash) ?_))
      refine wm_n (wm_b (m_points hI d1 (by omega) ?_))
      rcases pSla_01 (xs.getD t (-1)) with c | c
      · rw [if_pos c] at hP
        rw [c]
        refine m_seg (mo := false) hI hR hA hs d1 (by omega) (by omega) (fun M1 R1 F1 W1 A1 => ?_)
        obtain ⟨g, rfl⟩ : ∃ g, f = g + 1 := ⟨f - 1, by omega⟩
        unfold f_X9_readPath_121
        refine wm_t rfl ?_
        rw [f_X9_readPath_L21]
        unfold f_X9_readPath_21
        have fx := tkS_fx xs a t false U
        refine wm_t rfl (wm_n (wm_b (m_readTail (by omega) (hI.ex F1.1 (by decide) (by decide)) W1 A1 (by rw [fx.1 8 (by decide)]; exact hl8) (by rw [fx.1 10 (by decide)]; exact hl10) (fun M2 R2 F2 W2 A2 => wm_p (hP M2 R2 ?_ W2 A2)))))
        exact (F1.mono (by decide) (by decide)).trans (F2.mono (by decide) (by decide))
      · rw [if_neg (by rw [c]; decide)] at hP
        have tl : t < xs.length := by
          rcases Nat.lt_or_ge t xs.length with z | z
          · exact z
          · rw [gd_out z] at c
            exact absurd c (by decide)
        rw [c]
        obtain ⟨o1, o2⟩ := tkS_ok (mo := true) hs (by omega) dno
        have fx := tkS_fx xs a t true U
        refine m_seg (mo := true) hI hR hA hs d1 (by omega) (by omega) (fun M1 R1 F1 W1 A1 => ?_)
        unfold f_X9_readPath_121
        refine wm_f (by decide) ?_
        rw [nI_1]
        refine ih (t + 1) M1 R1 _ (by omega) (by omega) (hI.ex F1.1 (by decide) (by decide)) W1 A1 o1 (by omega) (by rw [fx.1 8 (by decide)]; exact hl8) (by rw [fx.1 10 (by decide)]; exact hl10) (fun M2 R2 F2 W2 A2 => hP M2 R2 ?_ W2 A2)
        exact (F1.mono (by decide) (by decide)).trans F2
    have h28 : ∀ (k i f' : Nat), i + k = xs.length → k < f' → dvS xs k i = dvS xs (xs.length - a) a → wm m D (f_X9_readPath_L28 (f_X9_readPath_L21 f) f' (some m) (nI a) (nI i)) M P := by
      intro k
      induction k with
      | zero =>
        intro i f' hi hf' e
        obtain ⟨f', rfl⟩ : ∃ g, f' = g + 1 := ⟨f' - 1, by omega⟩
        rw [f_X9_readPath_L28]
        unfold f_X9_readPath_28
        rw [dvS] at e
        refine wm_n (wm_b (m_isOver hI (by omega) ?_))
        rw [if_pos (show xs.length ≤ i by omega)]
        refine wm_f (by decide) ?_
        rw [e]
        exact h58
      | succ k ihk =>
        intro i f' hi hf' e
        obtain ⟨f', rfl⟩ : ∃ g, f' = g + 1 := ⟨f' - 1, by omega⟩
        rw [f_X9_readPath_L28]
        unfold f_X9_readPath_28
        rw [dvS] at e
        refine wm_n (wm_b (m_isOver hI (by omega) ?_))
        rw [if_neg (show ¬ xs.length ≤ i by omega)]
        refine wm_if (fun c => ?_) (fun c => ?_)
        · rw [if_pos c] at e
          rw [nI_1]
          exact ihk (i + 1) f' (by omega) (by omega) e
        · rw [if_neg c] at e
          rw [e]
          exact h58
    rw [f_X9_readPath_L21]
    unfold f_X9_readPath_21
    exact wm_f (by decide) (h28 (xs.length - a) a gF (by omega) (by unfold gF; omega) rfl)
theorem m_readPath {p : Nat} (hp : p ≤ xs.length) (hI : In M xs) (hR : Rw M R) (hA : PA M R 4 U) (hs : sgO U) (h6 : (uR U 6).length + 3 * xs.length + 1 ≤ 2400) (h8 : (uR U 8).length + 3 * xs.length ≤ 2400) (h10 : (uR U 10).length + 3 * xs.length ≤ 2400) (hP : ∀ M' R', Fw [7, 8, 9, 10] [27, 28, 29] M R M' R' → Rw M' R' → PA M' R' 4 (enP xs U p) → P () M') : wm m D (f_X9_readPath (some m) (nI p)) M P := by
  have hlx := hI.2.1
  unfold f_X9_readPath
  refine m_ba hI (by omega) (wm_b (wm_q (fun _ _ => m_isSlash) ?_))
  unfold enP enS at hP
  refine wm_if (fun c => ?_) (fun c => ?_)
  · rw [if_pos c] at hP
    exact m_sgL gF p M R U (by unfold gF; omega) hp hI hR hA hs (by omega) h8 h10 hP
  · rw [if_neg c] at hP
    have tl : p < xs.length := by
      rcases Nat.lt_or_ge p xs.length with z | z
      · exact z
      · rw [gd_out z] at c
        exact absurd (by decide) c
    rw [nI_1]
    exact m_sgL gF (p + 1) M R U (by unfold gF; omega) (by omega) hI hR hA hs (by omega) h8 h10 hP
/-- from place p on, with no / to pass over: as the class reads the segments of a relative text -/
theorem m_readPath0 {p : Nat} (hp : p ≤ xs.length) (hn : pSla (xs.getD p (-1)) = 0) (hI : In M xs) (hR : Rw M R) (hA : PA M R 4 U) (hs : sgO U) (h6 : (uR U 6).length + 3 * xs.length + 1 ≤ 2400) (h8 : (uR U 8).length + 3 * xs.length ≤ 2400) (h10 : (uR U 10).length + 3 * xs.length ≤ 2400) (hP : ∀ M' R', Fw [7, 8, 9, 10] [27, 28, 29] M R M' R' → Rw M' R' → PA M' R' 4 (enS xs U p) → P () M') : wm m D (f_X9_readPath (some m) (nI p)) M P := m_readPath hp hI hR hA hs h6 h8 h10 (fun M' R' F W A => hP M' R' F W (by unfold enP at A; rw [if_pos hn] at A; exact A))
end MB
