/-! THE OTHER OBJECT: behind the slashes -/
theorem enF_h {xs : List Int32} {U : UV} {p : Nat} : uK (enF xs U p) = uK U ∧ uW (enF xs U p) = uW U ∧ uR (enF xs U p) 4 = uR U 4 := by
  have f := quU_fx (xs := xs) (U := U) (p := p)
  unfold enF frU
  split
  · exact ⟨f.2.2.1, f.2.2.2, f.1 4 (by decide)⟩
  · exact ⟨f.2.2.1, f.2.2.2, f.1 4 (by decide)⟩
theorem enS_h {xs : List Int32} {U : UV} {p : Nat} : uK (enS xs U p) = uK U ∧ uW (enS xs U p) = uW U ∧ uR (enS xs U p) 4 = uR U 4 := by
  unfold enS
  obtain ⟨h1, h2, h3⟩ := enF_h (xs := xs) (U := (sgL xs gF p U).1) (p := (sgL xs gF p U).2)
  have f := sgL_fx xs gF p U
  rw [h1, h2, h3]
  exact ⟨f.2.2.1, f.2.2.2, f.1 4 (by decide)⟩
theorem enP_h {xs : List Int32} {U : UV} {p : Nat} : uK (enP xs U p) = uK U ∧ uW (enP xs U p) = uW U ∧ uR (enP xs U p) 4 = uR U 4 := enS_h
/-- the fields and the rows that reading changes -/
abbrev FS : List Nat := [3, 4, 5, 6, 7, 8, 9, 10, 13, 14, 15, 16, 17]
abbrev FQ : List Nat := [24, 25, 26, 27, 28, 29]
def Rs (M : MS) (R : Nat → List Int32) (res : Int32 ⊕ UV) (M' : MS) : Prop := ∃ R', Fw FS FQ M R M' R' ∧ Rw M' R' ∧ (∀ c, res = .inl c → mI M' 13 = c) ∧ ∀ V, res = .inr V → mI M' 13 = 0 ∧ PA M' R' 4 V ∧ PH M' R' 4 V
theorem Fw.arr6 {M : MS} {R : Nat → List Int32} {j : Nat} {v : Int32} : Fw [6] [] M R (uA M 6 (32 + j) v) R := by
  refine ⟨Ex.a (by decide), fun _ _ => rfl, fun k' j' hj hk => ?_, fun j' hj => ?_⟩
  · rw [mA_uA, if_neg (fun z => by omega)]
  · rw [mA_uA, if_neg (fun z => by omega)]
theorem Fw.hst {M M1 : MS} {R : Nat → List Int32} (e : Ex [14, 15, 16, 17] M M1) : Fw [14, 15, 16, 17] [] M R M1 R := by
  refine ⟨e, fun _ _ => rfl, fun k j _ hk => ?_, fun j _ => congrFun (e.1 6 (by decide)) j⟩
  refine congrFun (e.1 k (fun z => ?_)) j
  simp only [List.mem_cons, List.not_mem_nil, or_false] at hk z
  omega
section MU
variable {m : Nat} {D : Nat → Nat} {M : MS} {xs : List Int32} {R : Nat → List Int32} {U : UV} {P : Unit → MS → Prop}
theorem PA.fw {S Q : List Nat} {M1 : MS} {R1 : Nat → List Int32} (h : PA M R 4 U) (f : Fw S Q M R M1 R1) (h3 : 3 ∉ S) (h4 : 4 ∉ S) (h7 : 7 ∉ S) (h8 : 8 ∉ S) (q1 : 24 ∉ Q) (q2 : 25 ∉ Q) (q3 : 27 ∉ Q) (q4 : 28 ∉ Q) (q5 : 29 ∉ Q) : PA M1 R1 4 U := by
  unfold PA
  rw [f.1.1 3 h3, f.1.1 4 h4, f.1.1 7 h7, f.1.1 8 h8, show R1 (6 * 4) = R 24 from f.2.1 24 q1, show R1 (6 * 4 + 1) = R 25 from f.2.1 25 q2, show R1 (6 * 4 + 3) = R 27 from f.2.1 27 q3, show R1 (6 * 4 + 4) = R 28 from f.2.1 28 q4, show R1 (6 * 4 + 5) = R 29 from f.2.1 29 q5]
  exact h
/-- the HOST's name goes into its row -/
theorem m_L303 {e g : Nat} {ns : List Int32} (hk : mI M 16 = 0) (hP : ∀ M' R', Fw [9, 10] [26] M R M' R' → Rw M' R' → R' 26 = R 26 ++ ns → wm m D (f_X9_readSlashes_337 (some m) (nI e) (nI g)) M' P) : ∀ (k i f : Nat) (M1 : MS) (R1 : Nat → List Int32), i + k = ns.length → k < f → Fw [9, 10] [26] M R M1 R1 → Rw M1 R1 → Hb M1 ns → R1 26 = R 26 ++ ns.take i → (R 26).length + ns.length ≤ 2400 → wm m D (f_X9_readSlashes_L303 f (some m) (nI e) (nI g) (nI i)) M1 P := by
  intro k
  induction k with
  | zero =>
    intro i f M1 R1 hi hf F W H e1 hl
    obtain ⟨f, rfl⟩ : ∃ g, f = g + 1 := ⟨f - 1, by omega⟩
    have hl2 := H.2.1
    rw [f_X9_readSlashes_L303]
    unfold f_X9_readSlashes_303
    refine wm_rd ?_
    rw [H.1]
    refine wm_t (nI_le (by omega) (by omega)) (hP M1 R1 F W ?_)
    rw [e1, show i = ns.length by omega, List.take_length]
  | succ k ih =>
    intro i f M1 R1 hi hf F W H e1 hl
    obtain ⟨f, rfl⟩ : ∃ g, f = g + 1 := ⟨f - 1, by omega⟩
    have hl2 := H.2.1
    rw [f_X9_readSlashes_L303]
    unfold f_X9_readSlashes_303
    obtain ⟨n, hn, en⟩ := H.nn (j := i) (by omega)
    refine wm_rd ?_
    rw [H.1]
    refine wm_f (nI_ge (by omega) (by omega)) (wm_rd ?_)
    rw [F.1.2 16 (by decide), hk]
    refine wm_t rfl (wm_get (k := 14) (t := 0) (by decide) rfl (show i < 300 by omega) ?_)
    rw [H.2.2.2 i (by omega), en]
    refine wm_n (wm_b (m_add (p := 2) W (by omega) (by show (R1 26).length < 2400; rw [e1, List.length_append, List.length_take]; omega) (by omega) (fun M2 E2 W2 => ?_)))
    rw [nI_1]
    refine ih (i + 1) f M2 _ (by omega) (by omega) (F.trans (Fw.row E2)) W2 (H.ex E2 (by decide) (by decide)) ?_ hl
    rw [show uQ R1 (24 + 2) (R1 (24 + 2) ++ [nI n]) 26 = R1 26 ++ [nI n] from uQ_eq _ _ _, e1, take_s (by omega), en, List.append_assoc]
theorem m_225 {p c g e s : Nat} (hI : In M xs) (hR : Rw M R) (hA : PA M R 4 U) (hs : s < 5) (hU : uI U 0 = nI s) (hsg : sgO U) (h13 : mI M 13 = 0) (h26 : R 26 = []) (hcg : c ≤ g) (hge : g ≤ e) (he : e ≤ xs.length) (h6 : uR U 6 = []) (h8 : uR U 8 = []) (h10 : uR U 10 = []) (hP : ∀ M', Rs M R (if g = c then .inl (-13) else match rdH xs c g with
    | .inl c => .inl c
    | .inr h => match prt xs (e - (g + 1)) (g + 1) none with
      | none => .inl (-17)
      | some acc => .inr (enP xs (ptU (vH U h.1 h.2.1 h.2.2) acc) e)) M' → P () M') : wm m D (f_X9_readSlashes_225 (some m) (nI c) (nI e) (nI g)) M P := by
  have hl := hI.2.1
  unfold f_X9_readSlashes_225
  by_cases gc : g = c
  · rw [if_pos gc] at hP
    refine wm_t (by rw [gc]) (wm_b (wm_wI (wm_p (hP _ ⟨R, (Fw.int (k := 13)).mono (by decide) (by decide), hR.ex (Ex.n (S := [13]) (by decide)) (by decide) (by decide), fun c z => ?_, fun V z => by cases z⟩))))
    cases z
    rw [mI_uN, if_pos rfl]
  · rw [if_neg gc] at hP
    refine wm_f (fun z => gc ((nI_eq (by omega) (by omega)).mp z)) (wm_n (wm_b (m_readHost hI hcg (by omega) (fun q M1 hr E1 => ?_) (fun k w ys M1 hr E1 H1 => ?_))))
    · rw [hr] at hP
      have F1 := Fw.hst (R := R) E1
      refine wm_b (wm_wI (wm_rd ?_))
      rw [mI_uN, if_pos rfl]
      refine wm_f (rdH_neg hr).2 (wm_p (hP _ ⟨R, (F1.mono (by decide) (by decide)).trans ((Fw.int (k := 13)).mono (by decide) (by decide)), (hR.ex E1 (by decide) (by decide)).ex (Ex.n (S := [13]) (by decide)) (by decide) (by decide), fun c z => ?_, fun V z => by cases z⟩))
      cases z
      rw [mI_uN, if_pos rfl]
    · rw [hr] at hP
      dsimp only at hP
      refine wm_b (wm_wI (wm_rd ?_))
      rw [mI_uN, if_pos rfl]
      refine wm_t rfl ?_
      have F2 : Fw [4, 5, 6, 7, 8, 9, 10, 13, 14, 15, 16, 17] FQ M R (uN M1 13 0) R := ((Fw.hst (R := R) E1).mono (by decide) (by decide)).trans ((Fw.int (k := 13)).mono (by decide) (by decide))
      have A2 : PA (uN M1 13 0) R 4 U := (hA.ex E1 (by decide) (by decide) (by decide) (by decide)).ex (Ex.n (S := [13]) (k := 13) (by decide)) (by decide) (by decide) (by decide) (by decide)
      have R2 : Rw (uN M1 13 0) R := (hR.ex E1 (by decide) (by decide)).ex (Ex.n (S := [13]) (k := 13) (by decide)) (by decide) (by decide)
      obtain ⟨g1, g2, g3, n0, hn0, g4⟩ := H1
      have k16 : mI (uN M1 13 0) 16 = k := by rw [mI_uN, if_neg (by decide)]; exact g1
      have z17 : ∀ j, j < 8 → mA (uN M1 13 0) 17 j = numA k w j := g2
      have hb2 : k = 0 → Hb (uN M1 13 0) ys := fun z => (g3 z).ex (Ex.n (S := [13]) (k := 13) (by decide)) (by decide) (by decide)
      have k15 : mI (uN M1 13 0) 15 = nI n0 := by rw [mI_uN, if_neg (by decide)]; exact g4
      have k13 : mI (uN M1 13 0) 13 = 0 := by rw [mI_uN, if_pos rfl]
      generalize uN M1 13 0 = M2 at *
      refine wm_b (wm_rR (k := 5) (t := 1) (by decide) (wm_rd (wm_b (wm_sI (k := 5) (t := 1) (j := 4) (by decide) rfl (by decide) ?_))))
      rw [gnar1, k16]
      have F3 : Fw [5] [] M2 R (uA M2 5 4 k) R := Fw.arr (by decide)
      -- the port, the path
      have k337 : ∀ M4 R4, Fw [5, 6, 9, 10] [26] M2 R M4 R4 → Rw M4 R4 → mA M4 5 4 = k → (∀ j, j < 8 → mA M4 6 (32 + j) = numA k w j) → R4 26 = (if k = 0 then ys else []) → wm m D (f_X9_readSlashes_337 (some m) (nI e) (nI g)) M4 P := by
        intro M4 R4 F4 W4 q5 q6 q26
        have I4 := (hI.ex F2.1 (by decide) (by decide)).ex F4.1 (by decide) (by decide)
        have A4 : PA M4 R4 4 U := A2.fw F4 (by decide) (by decide) (by decide) (by decide) (by decide) (by decide) (by decide) (by decide) (by decide)
        have A4' : PA M4 R4 4 (vH U k w ys) := A4
        have k13' : mI M4 13 = 0 := by rw [F4.1.2 13 (by decide)]; exact k13
        have F24 : Fw [4, 5, 6, 7, 8, 9, 10, 13, 14, 15, 16, 17] FQ M R M4 R4 := F2.trans (F4.mono (by decide) (by decide))
        unfold f_X9_readSlashes_337
        rw [nI_1]
        refine wm_n (wm_b (m_readPort (U := vH U k w ys) I4 he A4' hs hU (by omega) (fun hp => ?_) (fun acc v hp A5 => ?_)))
        · rw [hp] at hP
          refine wm_rd ?_
          rw [mI_uN, if_pos rfl]
          refine wm_f (by decide) (wm_p (hP _ ⟨R4, (F24.mono (by decide) (by decide)).trans ((Fw.int (k := 13)).mono (by decide) (by decide)), W4.ex (Ex.n (S := [13]) (by decide)) (by decide) (by decide), fun c z => ?_, fun V z => by cases z⟩))
          cases z
          rw [mI_uN, if_pos rfl]
        · rw [hp] at hP
          dsimp only at hP
          refine wm_rd ?_
          have E5 : Ex [4] M4 (uA M4 4 4 v) := Ex.a (by decide)
          rw [E5.2 13 (by decide), k13']
          have H4 : PH M4 R4 4 (vH U k w ys) := ⟨q5, q6, q26⟩
          have F5 : Fw [4] [] M4 R4 (uA M4 4 4 v) R4 := Fw.arr (by decide)
          refine wm_t rfl (wm_n (wm_b (m_readPath he (I4.ex E5 (by decide) (by decide)) (W4.ex E5 (by decide) (by decide)) A5 hsg (by show (uR U 6).length + _ + _ ≤ _; rw [h6, List.length_nil]; omega) (by show (uR U 8).length + _ ≤ _; rw [h8, List.length_nil]; omega) (by show (uR U 10).length + _ ≤ _; rw [h10, List.length_nil]; omega) (fun M6 R6 F6 W6 A6 => wm_p (hP M6 ⟨R6, ?_, W6, fun c z => (by cases z), fun V z => ?_⟩)))))
          · exact (F24.mono (by decide) (by decide)).trans ((F5.mono (by decide) (by decide)).trans (F6.mono (by decide) (by decide)))
          · cases z
            refine ⟨?_, A6, ?_⟩
            · rw [F6.1.2 13 (by decide), E5.2 13 (by decide)]
              exact k13'
            · obtain ⟨w1, w2, w3⟩ := enP_h (xs := xs) (U := ptU (vH U k w ys) acc) (p := e)
              exact (H4.fw F5 (by decide) (by decide) (by decide) rfl rfl rfl).fw F6 (by decide) (by decide) (by decide) (V := enP xs (ptU (vH U k w ys) acc) e) w1 w2 w3
      -- the name
      have k303 : ∀ M4, Fw [5, 6] [] M2 R M4 R → mA M4 5 4 = k → (∀ j, j < 8 → mA M4 6 (32 + j) = numA k w j) → wm m D (f_X9_readSlashes_L303 gF (some m) (nI e) (nI g) 0) M4 P := by
        intro M4 F4 q5 q6
        have W4 := R2.ex F4.1 (by decide) (by decide)
        have k16' : mI M4 16 = k := by rw [F4.1.2 16 (by decide)]; exact k16
        have k15' : mI M4 15 = nI n0 := by rw [F4.1.2 15 (by decide)]; exact k15
        by_cases kz : k = 0
        · have H4 : Hb M4 ys := (hb2 kz).ex F4.1 (by decide) (by decide)
          have hyl := H4.2.1
          refine m_L303 (M := M4) (R := R) (ns := ys) (by rw [k16', kz]) (fun M5 R5 F5 W5 e5 => ?_) ys.length 0 gF M4 R (by omega) (by unfold gF; omega) Fw.rf W4 H4 (by rw [List.take_zero, List.append_nil]) (by rw [h26, List.length_nil]; omega)
          refine k337 M5 R5 ((F4.mono (by decide) (by decide)).trans (F5.mono (by decide) (by decide))) W5 ?_ (fun j hj => ?_) ?_
          · rw [F5.1.1 5 (by decide)]; exact q5
          · rw [F5.1.1 6 (by decide)]; exact q6 j hj
          · rw [e5, h26, List.nil_append, if_pos kz]
        · have go := k337 M4 R (F4.mono (by decide) (by decide)) W4 q5 q6 (by rw [h26, if_neg kz])
          show wm m D (f_X9_readSlashes_L303 (9999 + 1) (some m) (nI e) (nI g) 0) M4 P
          rw [f_X9_readSlashes_L303]
          unfold f_X9_readSlashes_303
          refine wm_rd (wm_if (fun _ => go) (fun _ => wm_rd ?_))
          rw [k16']
          exact wm_f kz go
      have L270 : ∀ (j i f : Nat) (M4 : MS), i + j = 8 → j < f → Fw [5, 6] [] M2 R M4 R → mA M4 5 4 = k → (∀ x, x < i → mA M4 6 (32 + x) = numA k w x) → wm m D (f_X9_readSlashes_L270 f (some m) (nI e) (nI g) (nI i)) M4 P := by
        intro j
        induction j with
        | zero =>
          intro i f M4 hi hf F4 q5 q6
          obtain ⟨f, rfl⟩ : ∃ g, f = g + 1 := ⟨f - 1, by omega⟩
          rw [f_X9_readSlashes_L270]
          unfold f_X9_readSlashes_270
          exact wm_t (show nI 8 ≤ nI i from nI_le (by omega) (by omega)) (k303 M4 F4 q5 (fun x hx => q6 x (by omega)))
        | succ j ih =>
          intro i f M4 hi hf F4 q5 q6
          obtain ⟨f, rfl⟩ : ∃ g, f = g + 1 := ⟨f - 1, by omega⟩
          rw [f_X9_readSlashes_L270]
          unfold f_X9_readSlashes_270
          refine wm_f (show ¬ nI 8 ≤ nI i from nI_ge (by omega) (by omega)) ?_
          refine wm_b (wm_rR (k := 6) (t := 1) (by decide) (wm_get (k := 17) (t := 1) (by decide) rfl (show i < 8 by omega) (wm_b (wm_sI (k := 6) (t := 1) (by decide) (nI_add 32 i) (show 32 + i < 40 by omega) ?_))))
          rw [gnar1, nI_1, F4.1.1 17 (by decide), z17 i (by omega)]
          refine ih (i + 1) f _ (by omega) (by omega) (F4.trans (Fw.arr6.mono (by decide) (by decide))) ?_ (fun x hx => ?_)
          · rw [mA_uA, if_neg (fun z => absurd z.1 (by decide))]
            exact q5
          · rw [mA_uA]
            by_cases c : x = i
            · rw [if_pos ⟨rfl, by rw [c]⟩, c]
            · rw [if_neg (fun z => by have := z.2; omega)]
              exact q6 x (by omega)
      exact L270 8 0 gF _ (by omega) (by decide) (F3.mono (by decide) (by decide)) (by rw [mA_uA, if_pos ⟨rfl, rfl⟩]) (fun x hx => absurd hx (Nat.not_lt_zero _))
/-- the end of the HOST -/
theorem m_L163 {c e : Nat} (hI : In M xs) (hce : c ≤ e) (he : e ≤ xs.length) (hP : wm m D (f_X9_readSlashes_225 (some m) (nI c) (nI e) (nI (heS xs (e - c) c false))) M P) : ∀ (k i f : Nat) (op : Bool), i + k = e → k < f → heS xs k i op = heS xs (e - c) c false → wm m D (f_X9_readSlashes_L163 f (some m) (nI c) (nI e) (b2i op) (nI i)) M P := by
  have hl := hI.2.1
  intro k
  induction k with
  | zero =>
    intro i f op hi hf eq
    obtain ⟨f, rfl⟩ : ∃ g, f = g + 1 := ⟨f - 1, by omega⟩
    rw [f_X9_readSlashes_L163]
    unfold f_X9_readSlashes_163
    rw [heS] at eq
    refine wm_t (nI_le (by omega) (by omega)) ?_
    rw [eq]
    exact hP
  | succ k ih =>
    intro i f op hi hf eq
    obtain ⟨f, rfl⟩ : ∃ g, f = g + 1 := ⟨f - 1, by omega⟩
    rw [f_X9_readSlashes_L163]
    unfold f_X9_readSlashes_163
    rw [heS] at eq
    refine wm_f (nI_ge (by omega) (by omega)) (m_ba hI (by omega) ?_)
    have on : ¬ (xs.getD i (-1) = 58 ∧ op = false) → wm m D (f_X9_readSlashes_185 (f_X9_readSlashes_L163 f) (some m) (nI c) (nI e) (b2i op) (nI i)) M P := by
      intro hn
      rw [if_neg hn] at eq
      unfold f_X9_readSlashes_185
      rw [nI_1]
      refine m_ba hI (by omega) ?_
      refine wm_if (fun d => ?_) (fun d => ?_)
      · rw [decide_eq_true d, Bool.true_or] at eq
        exact ih (i + 1) f true (by omega) (by omega) eq
      · rw [decide_eq_false d, Bool.false_or] at eq
        refine wm_bz (fun z => ?_) (fun z => m_ba hI (by omega) ?_)
        · rw [z, Bool.false_and] at eq
          exact ih (i + 1) f false (by omega) (by omega) eq
        · rw [z, Bool.true_and] at eq
          refine wm_if (fun y => ?_) (fun y => ?_)
          · rw [decide_eq_false (fun w => w y)] at eq
            exact ih (i + 1) f false (by omega) (by omega) eq
          · rw [decide_eq_true y] at eq
            exact ih (i + 1) f true (by omega) (by omega) eq
    refine wm_if (fun d => ?_) (fun d => on (fun z => d z.1))
    refine wm_bz (fun z => ?_) (fun z => on (fun w => by rw [z] at w; exact absurd w.2 (by decide)))
    rw [if_pos ⟨d, z⟩] at eq
    rw [eq]
    exact hP
/-- USER and PASSWORD -/
theorem m_L84 {s e : Nat} (hse : s < e) (he : e ≤ xs.length) : ∀ (k i f : Nat) (ip : Bool) (M : MS) (R : Nat → List Int32) (U : UV), i + k = s → k < f → In M xs → Rw M R → PA M R 4 U → (uR U 2).length + 3 * k ≤ 2400 → (uR U 3).length + 3 * k ≤ 2400 → (∀ M' R', Fw [9, 10] [24, 25] M R M' R' → Rw M' R' → PA M' R' 4 (usL xs k i ip U) → wm m D (if (nI s + 1) = nI e then (gb (wI 8 13 (some m) (-13)) fun _ => gp ()) else (f_X9_readSlashes_L163 gF (some m) (nI s + 1) (nI e) 0 (nI s + 1))) M' P) → wm m D (f_X9_readSlashes_L84 f (some m) (nI e) (nI s) (b2i ip) (nI i)) M P := by
  intro k
  induction k with
  | zero =>
    intro i f ip M R U hi hf hI hR hA h2 h3 hP
    obtain ⟨f, rfl⟩ : ∃ g, f = g + 1 := ⟨f - 1, by omega⟩
    have hl := hI.2.1
    rw [f_X9_readSlashes_L84]
    unfold f_X9_readSlashes_84
    exact wm_t (nI_le (by omega) (by omega)) (hP M R Fw.rf hR hA)
  | succ k ih =>
    intro i f ip M R U hi hf hI hR hA h2 h3 hP
    obtain ⟨f, rfl⟩ : ∃ g, f = g + 1 := ⟨f - 1, by omega⟩
    have hl := hI.2.1
    obtain ⟨n, hn, en⟩ := hI.2.2.1.nn (j := i) (by omega)
    have e2 : R 24 = uR U 2 := hA.1.1
    have e3 : R 25 = uR U 3 := hA.1.2.1
    have hel := (esc_len (nI n) (stO 3)).1
    rw [f_X9_readSlashes_L84]
    unfold f_X9_readSlashes_84
    rw [usL] at hP
    refine wm_f (nI_ge (by omega) (by omega)) (m_ba hI (by omega) ?_)
    have on : ¬ (xs.getD i (-1) = 58 ∧ ip = false) → wm m D (f_X9_readSlashes_113 (f_X9_readSlashes_L84 f) (some m) (nI e) (nI s) (b2i ip) (nI i)) M P := by
      intro hc
      rw [if_neg hc] at hP
      unfold f_X9_readSlashes_113 f_X9_readSlashes_124
      refine wm_bz (fun z => ?_) (fun z => ?_)
      · rw [if_pos z, en] at hP
        refine m_ba hI (by omega) (wm_n (wm_b ?_))
        rw [en, nI_1]
        refine m_addEsc (p := 0) (s := 3) hR (by omega) (by show (R 24).length + 3 ≤ 2400; rw [e2]; omega) hn (by omega) (fun M1 E1 W1 => ?_)
        have A1 := hA.row (ys := R 24 ++ esc (nI n) (stO 3)) E1 (k := 2) (q := 24) (Or.inl ⟨rfl, rfl⟩)
        have A1' : PA M1 (uQ R 24 (R 24 ++ esc (nI n) (stO 3))) 4 (vR U 2 (uR U 2 ++ esc (nI n) 6)) := by rw [← e2]; exact A1
        refine ih (i + 1) f ip M1 _ _ (by omega) (by omega) (hI.ex E1 (by decide) (by decide)) W1 A1' (by rw [uR_R, if_pos rfl, List.length_append]; show _ + (esc (nI n) (stO 3)).length + _ ≤ _; omega) (by rw [uR_R, if_neg (by decide)]; omega) (fun M2 R2 F2 W2 A2 => hP M2 R2 (((Fw.row E1).mono (by decide) (by decide)).trans F2) W2 A2)
      · rw [if_neg (by rw [z]; decide), en] at hP
        refine m_ba hI (by omega) (wm_n (wm_b ?_))
        rw [en, nI_1]
        refine m_addEsc (p := 1) (s := 3) hR (by omega) (by show (R 25).length + 3 ≤ 2400; rw [e3]; omega) hn (by omega) (fun M1 E1 W1 => ?_)
        have A1 := hA.row (ys := R 25 ++ esc (nI n) (stO 3)) E1 (k := 3) (q := 25) (Or.inr (Or.inl ⟨rfl, rfl⟩))
        have A1' : PA M1 (uQ R 25 (R 25 ++ esc (nI n) (stO 3))) 4 (vR U 3 (uR U 3 ++ esc (nI n) 6)) := by rw [← e3]; exact A1
        refine ih (i + 1) f ip M1 _ _ (by omega) (by omega) (hI.ex E1 (by decide) (by decide)) W1 A1' (by rw [uR_R, if_neg (by decide)]; omega) (by rw [uR_R, if_pos rfl, List.length_append]; show _ + (esc (nI n) (stO 3)).length + _ ≤ _; omega) (fun M2 R2 F2 W2 A2 => hP M2 R2 (((Fw.row E1).mono (by decide) (by decide)).trans F2) W2 A2)
    refine wm_if (fun d => ?_) (fun d => on (fun z => d z.1))
    refine wm_bz (fun z => ?_) (fun z => on (fun w => by rw [z] at w; exact absurd w.2 (by decide)))
    rw [if_pos ⟨d, z⟩] at hP
    rw [nI_1]
    exact ih (i + 1) f true M R U (by omega) (by omega) hI hR hA (by omega) (by omega) hP
theorem Rs.pre {S Q : List Nat} {M1 : MS} {R1 : Nat → List Int32} {res : Int32 ⊕ UV} {M' : MS} (F : Fw S Q M R M1 R1) (hs : ∀ k, k ∈ S → k ∈ FS) (hq : ∀ k, k ∈ Q → k ∈ FQ) (h : Rs M1 R1 res M') : Rs M R res M' := by
  obtain ⟨R', F', a, b, c⟩ := h
  exact ⟨R', (F.mono hs hq).trans F', a, b, c⟩
theorem m_slashes {p s : Nat} (hI : In M xs) (hp : p ≤ xs.length) (hR : Rw M R) (hA : PA M R 4 U) (hs : s < 5) (hU : uI U 0 = nI s) (hE : Em U) (h13 : mI M 13 = 0) (h26 : R 26 = []) (hP : ∀ M', Rs M R (enA xs U p) M' → P () M') : wm m D (f_X9_readSlashes (some m) (nI p)) M P := by
  have hl := hI.2.1
  obtain ⟨q2, q3, q6, q7, q8, q10⟩ := hE
  have f0 := slS_le xs (xs.length - p) p
  have f1 := dvS_le xs (xs.length - auF xs p) (auF xs p)
  have fa : auF xs p ≤ xs.length := by unfold auF; omega
  have fe : auF xs p ≤ auE xs p ∧ auE xs p ≤ xs.length := by
    unfold auE
    omega
  -- from the HOST on
  have host : ∀ c M1 R1 U1, auU xs p U = (U1, c) → c ≤ auE xs p → Fw [9, 10] [24, 25] M R M1 R1 → Rw M1 R1 → PA M1 R1 4 U1 → wm m D (f_X9_readSlashes_L163 gF (some m) (nI c) (nI (auE xs p)) 0 (nI c)) M1 P := by
    intro c M1 R1 U1 ec hc F1 W1 A1
    have I1 := hI.ex F1.1 (by decide) (by decide)
    have fx := auU_fx xs p U
    rw [ec] at fx
    dsimp only at fx
    have hh := heS_le xs (auE xs p - c) c false
    have eA : enA xs U p = if heS xs (auE xs p - c) c false = c then .inl (-13) else match rdH xs c (heS xs (auE xs p - c) c false) with
        | .inl c => .inl c
        | .inr h => match prt xs (auE xs p - (heS xs (auE xs p - c) c false + 1)) (heS xs (auE xs p - c) c false + 1) none with
          | none => .inl (-17)
          | some acc => .inr (enP xs (ptU (vH U1 h.1 h.2.1 h.2.2) acc) (auE xs p)) := by
      unfold enA
      rw [ec]
      dsimp only
      split
      · rfl
      · cases rdH xs c (heS xs (auE xs p - c) c false) with
        | inl q => rfl
        | inr h =>
          dsimp only
          cases prt xs (auE xs p - (heS xs (auE xs p - c) c false + 1)) (heS xs (auE xs p - c) c false + 1) none <;> rfl
    refine m_L163 I1 hc fe.2 ?_ (auE xs p - c) c gF false (by omega) (by unfold gF; omega) rfl
    refine m_225 (p := p) I1 W1 A1 hs (by rw [fx.2.1]; exact hU) ⟨?_, ?_⟩ (by rw [F1.1.2 13 (by decide)]; exact h13) (by rw [F1.2.1 26 (by decide)]; exact h26) hh.1 (by omega) fe.2 (by rw [fx.1 6 (by decide) (by decide)]; exact q6) (by rw [fx.1 8 (by decide) (by decide)]; exact q8) (by rw [fx.1 10 (by decide) (by decide)]; exact q10) (fun M2 r => hP M2 (Rs.pre F1 (by decide) (by decide) ?_))
    · rw [fx.1 6 (by decide) (by decide), q6, fx.2.1, q7]
      rfl
    · left
      rw [fx.1 6 (by decide) (by decide), q6]
    · rw [eA]
      exact r
  -- the last sign
  have L41 : ∀ (k i f : Nat), i + k = auE xs p → k < f → auF xs p ≤ i → wm m D (f_X9_readSlashes_L41 f (some m) (nI (auF xs p)) (nI (auE xs p)) (oI (atS xs (auF xs p) i)) (nI i)) M P := by
    intro k
    induction k with
    | zero =>
      intro i f hi hf hai
      obtain ⟨f, rfl⟩ : ∃ g, f = g + 1 := ⟨f - 1, by omega⟩
      have ie : i = auE xs p := by omega
      rw [f_X9_readSlashes_L41]
      unfold f_X9_readSlashes_41
      refine wm_t (nI_le (by omega) (by omega)) ?_
      rw [ie]
      cases ha : atS xs (auF xs p) (auE xs p) with
      | none =>
        refine wm_t (show (-1 : Int32) < 0 by decide) ?_
        exact host (auF xs p) M R U (by unfold auU; rw [ha]) fe.1 Fw.rf hR hA
      | some s' =>
        obtain ⟨s1, s2⟩ := atS_le xs (auF xs p) _ s' ha
        refine wm_f (show ¬ nI s' < 0 from nI_pos (by omega)) ?_
        refine m_L84 (s := s') s2 fe.2 (s' - auF xs p) (auF xs p) gF false M R U (by omega) (by unfold gF; omega) hI hR hA (by rw [q2, List.length_nil]; omega) (by rw [q3, List.length_nil]; omega) (fun M1 R1 F1 W1 A1 => ?_)
        have eu : auU xs p U = (usL xs (s' - auF xs p) (auF xs p) false U, s' + 1) := by unfold auU; rw [ha]
        rw [nI_1]
        by_cases c : s' + 1 = auE xs p
        · have eA : enA xs U p = .inl (-13) := by
            unfold enA
            rw [eu]
            dsimp only
            rw [if_pos (by rw [c, Nat.sub_self]; rfl)]
          refine wm_t (by rw [c]) (wm_b (wm_wI (wm_p (hP _ (Rs.pre F1 (by decide) (by decide) ⟨R1, (Fw.int (k := 13)).mono (by decide) (by decide), W1.ex (Ex.n (S := [13]) (by decide)) (by decide) (by decide), fun q z => ?_, fun V z => ?_⟩)))))
          · rw [eA] at z
            cases z
            rw [mI_uN, if_pos rfl]
          · rw [eA] at z
            cases z
        · exact wm_f (fun z => c ((nI_eq (by omega) (by omega)).mp z)) (host (s' + 1) M1 R1 _ eu (by omega) F1 W1 A1)
    | succ k ih =>
      intro i f hi hf hai
      obtain ⟨f, rfl⟩ : ∃ g, f = g + 1 := ⟨f - 1, by omega⟩
      rw [f_X9_readSlashes_L41]
      unfold f_X9_readSlashes_41
      refine wm_f (nI_ge (by omega) (by omega)) (m_ba hI (by omega) ?_)
      have := ih (i + 1) f (by omega) (by omega) (by omega)
      rw [atS, if_neg (by omega)] at this
      rw [nI_1]
      refine wm_if (fun c => ?_) (fun c => ?_)
      · rw [if_pos c] at this
        exact this
      · rw [if_neg c] at this
        exact this
  have at0 : ∀ n, n ≤ auF xs p → atS xs (auF xs p) n = none := by
    intro n
    cases n with
    | zero => exact fun _ => rfl
    | succ n =>
      intro h
      rw [atS, if_pos (by omega)]
  -- where it ends
  have L21 : ∀ (k i f : Nat), i + k = xs.length → k < f → dvS xs k i = auE xs p → wm m D (f_X9_readSlashes_L21 f (some m) (nI (auF xs p)) (nI i)) M P := by
    have go : wm m D (f_X9_readSlashes_L41 gF (some m) (nI (auF xs p)) (nI (auE xs p)) (-1) (nI (auF xs p))) M P := by
      have := L41 (auE xs p - auF xs p) (auF xs p) gF (by omega) (by unfold gF; omega) (Nat.le_refl _)
      rw [at0 _ (Nat.le_refl _)] at this
      exact this
    intro k
    induction k with
    | zero =>
      intro i f hi hf eq
      obtain ⟨f, rfl⟩ : ∃ g, f = g + 1 := ⟨f - 1, by omega⟩
      rw [f_X9_readSlashes_L21]
      unfold f_X9_readSlashes_21
      rw [dvS] at eq
      refine wm_n (wm_b (m_isOver hI (by omega) ?_))
      rw [if_pos (show xs.length ≤ i by omega)]
      refine wm_f (by decide) ?_
      rw [eq]
      exact go
    | succ k ih =>
      intro i f hi hf eq
      obtain ⟨f, rfl⟩ : ∃ g, f = g + 1 := ⟨f - 1, by omega⟩
      rw [f_X9_readSlashes_L21]
      unfold f_X9_readSlashes_21
      rw [dvS] at eq
      refine wm_n (wm_b (m_isOver hI (by omega) ?_))
      rw [if_neg (show ¬ xs.length ≤ i by omega)]
      refine wm_if (fun c => ?_) (fun c => ?_)
      · rw [if_pos c] at eq
        rw [nI_1]
        exact ih (i + 1) f (by omega) (by omega) eq
      · rw [if_neg c] at eq
        rw [eq]
        exact go
  have L2 : ∀ (k i f : Nat), i + k = xs.length → k < f → slS xs k i = auF xs p → wm m D (f_X9_readSlashes_L2 f (some m) (nI i)) M P := by
    have go : wm m D (f_X9_readSlashes_L21 gF (some m) (nI (auF xs p)) (nI (auF xs p))) M P := L21 (xs.length - auF xs p) (auF xs p) gF (by omega) (by unfold gF; omega) rfl
    intro k
    induction k with
    | zero =>
      intro i f hi hf eq
      obtain ⟨f, rfl⟩ : ∃ g, f = g + 1 := ⟨f - 1, by omega⟩
      rw [f_X9_readSlashes_L2]
      unfold f_X9_readSlashes_2
      rw [slS] at eq
      refine m_ba hI (by omega) (wm_b (wm_q (fun _ _ => m_isSlash) ?_))
      rw [gd_out (by omega)]
      refine wm_t (by decide) ?_
      rw [eq]
      exact go
    | succ k ih =>
      intro i f hi hf eq
      obtain ⟨f, rfl⟩ : ∃ g, f = g + 1 := ⟨f - 1, by omega⟩
      rw [f_X9_readSlashes_L2]
      unfold f_X9_readSlashes_2
      rw [slS] at eq
      refine m_ba hI (by omega) (wm_b (wm_q (fun _ _ => m_isSlash) ?_))
      refine wm_if (fun c => ?_) (fun c => ?_)
      · rw [if_pos c] at eq
        rw [eq]
        exact go
      · rw [if_neg c] at eq
        rw [nI_1]
        exact ih (i + 1) f (by omega) (by omega) eq
  unfold f_X9_readSlashes
  exact L2 (xs.length - p) p gF (by omega) (by unfold gF; omega) rfl
end MU
