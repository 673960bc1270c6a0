/-! THE OTHER OBJECT: told, type, clear, range, write -/
theorem sb_low {x y : Int32} (h : x &&& 255 = y &&& 255) : sb x = sb y := by
  have key : ∀ z : Int32, z.toInt8 = (z &&& 255).toInt8 := fun z => by
    apply Int8.toBitVec_inj.mp
    rw [Int32.toBitVec_toInt8, Int32.toBitVec_toInt8, Int32.toBitVec_and]
    apply BitVec.eq_of_getLsbD_eq
    intro i hi
    rw [BitVec.getLsbD_signExtend, BitVec.getLsbD_signExtend, if_pos (show i < 32 by omega), if_pos (show i < 32 by omega), BitVec.getLsbD_and]
    have := b_255 i
    unfold bt at this
    rw [this, decide_eq_true (show i < 8 from hi)]
    simp
  unfold sb
  rw [key x, key y, h]
theorem byt_sb {v : Int64} {j : Nat} (hj : j < 8) : sb ((v >>> ((8 * nI j).toInt64 &&& 63)).toInt32) = sb (byt v j) ∧ ∃ n, n < 256 ∧ byt v j = nI n := by
  have e8 : (8 * nI j : Int32) = nI (8 * j) := pk_mul 8 j
  refine ⟨sb_low ?_, ?_⟩
  · unfold byt
    rw [e8]
    apply b_ext
    intro i hi
    rw [b_and, b_and, b_and, b_255]
    by_cases h8 : i < 8
    · rw [decide_eq_true h8, Bool.and_true, Bool.and_true, Bool.and_true]
      unfold bt
      rw [Int64.toBitVec_toInt32, Int64.toBitVec_toInt32, BitVec.getLsbD_signExtend, BitVec.getLsbD_signExtend, if_pos (show i < 64 by omega), if_pos (show i < 64 by omega), Int64.toBitVec_shiftRight, wb_c (8 * j) (by omega), wb_tb, wb_sm (8 * j) (by omega), BitVec.sshiftRight_eq', BitVec.getLsbD_sshiftRight, wb_cu (8 * j) (by omega)]
      have et : (BitVec.ofNat 64 (8 * j)).toNat = 8 * j := by rw [BitVec.toNat_ofNat, Nat.mod_eq_of_lt (by omega)]
      rw [et]
      have eu : (v.toUInt64 >>> UInt64.ofNat (8 * j)).toInt64.toBitVec.getLsbD i = v.toBitVec.getLsbD (8 * j + i) := by
        show (v.toUInt64 >>> UInt64.ofNat (8 * j)).toBitVec.getLsbD i = _
        rw [UInt64.toBitVec_shiftRight, BitVec.ushiftRight_eq', BitVec.getLsbD_ushiftRight]
        have : ((UInt64.ofNat (8 * j)).toBitVec % 64).toNat = 8 * j := by
          rw [BitVec.toNat_umod]
          show ((UInt64.ofNat (8 * j)).toNat) % 64 = _
          rw [u_tn (by omega), Nat.mod_eq_of_lt (by omega)]
        rw [this]
        rfl
      rw [eu, if_pos (show 8 * j + i < 64 by omega), decide_eq_false (show ¬ 64 ≤ i by omega), Bool.not_false, Bool.true_and]
    · simp [h8]
  · unfold byt
    obtain ⟨n, hn, e⟩ := pk_andE ((v.toUInt64 >>> ((8 * nI j).toInt64.toUInt64 &&& Int64.toUInt64 63)).toInt64.toInt32) (m := 255) 8 (by decide)
    exact ⟨n, hn, e⟩
section MK
variable {β : Type} {m : Nat} {D : Nat → Nat} {M : MS} {R : Nat → List Int32} {T : List Int32} {Pp : Nat → Option UV} {G : GV} {P : Int32 → MS → Prop}
theorem m_typeL {v : Int64} {n : Nat} (hn : n ≤ 8) : ∀ (k j f : Nat) (M : MS) (T : List Int32), j + k = n → k < f → Tx M T → T.length + k ≤ 300 → (∀ M', Ex [0, 1] M M' → Tx M' (T ++ bts v k j) → P (nI (T.length + k)) M') → wm m D (f_X9_type_L31 f (some m) v (nI n) (nI j)) M P := by
  intro k
  induction k with
  | zero =>
    intro j f M T hj hf hT hl hP
    obtain ⟨f, rfl⟩ : ∃ g, f = g + 1 := ⟨f - 1, by omega⟩
    rw [f_X9_type_L31]
    unfold f_X9_type_31
    refine wm_t (nI_le (by omega) (by omega)) (wm_rd (wm_p ?_))
    rw [hT.1]
    exact hP M Ex.rf (by rw [bts, List.append_nil]; exact hT)
  | succ k ih =>
    intro j f M T hj hf hT hl hP
    obtain ⟨f, rfl⟩ : ∃ g, f = g + 1 := ⟨f - 1, by omega⟩
    rw [f_X9_type_L31]
    unfold f_X9_type_31
    obtain ⟨s1, b, hb, eb⟩ := byt_sb (v := v) (j := j) (by omega)
    refine wm_f (nI_ge (by omega) (by omega)) (wm_b (wm_rR (k := 0) (t := 0) (by decide) (wm_rd ?_)))
    rw [hT.1]
    refine wm_b (wm_sI (k := 0) (t := 0) (by decide) rfl (show T.length < 300 by omega) (wm_rd ?_))
    rw [mI_uA, hT.1, nI_1]
    refine wm_b (wm_wI ?_)
    rw [show gnar 0 (((v >>> ((8 * nI j).toInt64 &&& 63)).toInt32).toInt8.toInt32) = sb (nI b) from (gnar0s _).trans (by rw [s1, eb]), nI_1]
    refine ih (j + 1) f _ (T ++ [nI b]) (by omega) (by omega) (hT.snoc (by omega) hb) (by rw [List.length_append, List.length_singleton]; omega) (fun M' E W => ?_)
    rw [List.length_append, List.length_singleton, show T.length + 1 + k = T.length + (k + 1) by omega]
    refine hP M' (((Ex.a (by decide)).trans (Ex.n (by decide))).trans E) ?_
    rw [bts, eb]
    rw [List.append_assoc] at W
    exact W
theorem m_type {v : Int64} {a : Int32} (hT : Tx M T) (h0 : (a < 1 ∨ ¬ a ≤ 8) → P (-2) M) (h1 : ∀ n, a = nI n → 1 ≤ n → n ≤ 8 → 300 < T.length + n → P (-3) M) (h2 : ∀ n M', a = nI n → 1 ≤ n → n ≤ 8 → T.length + n ≤ 300 → Ex [0, 1] M M' → Tx M' (T ++ bts v n 0) → P (nI (T.length + n)) M') : wm m D (f_X9_type (some m) v a) M P := by
  have hl := hT.2.1
  unfold f_X9_type
  refine wm_b (wm_q (fun _ _ => m_isIn) ?_)
  refine wm_bz (fun c => wm_p (h0 ?_)) (fun c => ?_)
  · have c := of_decide_eq_false c
    by_cases d : a < 1
    · exact Or.inl d
    · right
      intro z
      exact c ⟨d, by rw [Int32.not_lt]; exact z⟩
  · have c := of_decide_eq_true c
    obtain ⟨n, hn, rfl⟩ : ∃ n : Nat, n < 9 ∧ a = nI n := by
      rcases pk_ix a (n := 9) (by omega) with z | z | z
      · exact absurd (Int32.lt_trans z (by decide)) c.1
      · exact absurd (Int32.lt_of_lt_of_le (b := nI 9) (by decide) z) c.2
      · exact z
    have n1 : 1 ≤ n := by
      rcases Nat.eq_zero_or_pos n with z | z
      · subst z; exact absurd (show nI 0 < 1 by decide) c.1
      · exact z
    refine wm_rd ?_
    rw [hT.1, nI_add]
    by_cases d : T.length + n ≤ 300
    · exact wm_t (nI_le (b := 300) d (by omega)) (m_typeL (by omega) n 0 gF M T (by omega) (by unfold gF; omega) hT d (fun M' E W => h2 n M' rfl n1 (by omega) d E W))
    · exact wm_f (nI_ge (a := 300) (by omega) (by omega)) (wm_p (h1 n rfl n1 (by omega) (by omega)))
theorem cn_take {xs : List Int32} {j : Nat} (h : j < xs.length) : cn (xs.take (j + 1)) = cn (xs.take j) + if xs.getD j 0 = 47 then 1 else 0 := by
  rw [take_s h, cn_app, cn_1]
theorem m_told {i w : Int32} (h : Mo M R T Pp G) (hP : P (tdA Pp i w) M) : wm m D (f_X9_told (some m) i w) M P := by
  unfold f_X9_told
  unfold tdA at hP
  refine m_has h.2.2.1 (fun e => ?_) (fun j U hj ei e hA hH ok ov => ?_)
  · rw [e] at hP
    exact wm_t rfl (wm_p hP)
  · rw [e] at hP
    simp only [Option.elim] at hP
    subst ei
    obtain ⟨⟨a1, a2, a3, a4, a5⟩, a6, a7, a8, a9⟩ := id hA
    obtain ⟨okh, ⟨s, hs, es, e1⟩, o9, o11, op⟩ := id ok
    obtain ⟨p1, p2⟩ := okP_lt op
    refine wm_f (by decide) (wm_b (wm_q (fun _ _ => m_isIn) ?_))
    refine wm_bz (fun c => wm_p ?_) (fun c => ?_)
    · have c := of_decide_eq_false c
      have ne : ∀ n : Nat, n ≤ 3 → w ≠ nI n := fun n hn z => c ⟨by rw [z]; exact nI_pos (by omega), by rw [z]; exact nI_nlt (a := 3) hn (by omega)⟩
      rw [if_neg (show ¬ w = 0 from ne 0 (by omega)), if_neg (show ¬ w = 1 from ne 1 (by omega)), if_neg (show ¬ w = 2 from ne 2 (by omega)), if_neg (show ¬ w = 3 from ne 3 (by omega))] at hP
      exact hP
    · have c := of_decide_eq_true c
      obtain ⟨q, hq, rfl⟩ : ∃ q, q < 4 ∧ w = nI q := by
        rcases pk_ix w (n := 4) (by omega) with z | z | z
        · exact absurd z c.1
        · exact absurd (Int32.lt_of_lt_of_le (b := nI 4) (by decide) z) c.2
        · exact z
      rcases (show q = 0 ∨ q = 1 ∨ q = 2 ∨ q = 3 by omega) with rfl | rfl | rfl | rfl
      · refine wm_t rfl (wm_get (k := 4) (t := 1) (by decide) rfl (show j < 5 by omega) (wm_p ?_))
        rw [a7]
        exact hP
      · rw [if_neg (by decide), if_pos (show nI 1 = 1 from rfl)] at hP
        unfold pcU at hP
        refine wm_f (by decide) (wm_t rfl (wm_get (k := 4) (t := 1) (by decide) rfl (show j < 5 by omega) ?_))
        rw [a7]
        refine wm_if (fun d => wm_get (k := 4) (t := 1) (by decide) rfl (show j < 5 by omega) (wm_p ?_)) (fun d => wm_get (k := 3) (t := 1) (by decide) rfl (show j < 5 by omega) (wm_b (wm_q (fun _ _ => m_portOf) (wm_p ?_))))
        · rw [a7]
          rw [if_neg (fun z => by rw [z] at d; exact absurd d (by decide))] at hP
          exact hP
        · rw [a6, es, port_t s hs]
          rw [if_pos (p1.mp (by rw [← Int32.not_le]; exact d)), es] at hP
          exact hP
      · rw [if_neg (by decide), if_neg (by decide), if_pos (show nI 2 = 2 from rfl)] at hP
        refine wm_f (by decide) (wm_f (by decide) (wm_t rfl (wm_get (k := 5) (t := 1) (by decide) rfl (show j < 5 by omega) (wm_p ?_))))
        rw [hH.1]
        exact hP
      · rw [if_neg (by decide), if_neg (by decide), if_neg (by decide), if_pos (show nI 3 = 3 from rfl)] at hP
        refine wm_f (by decide) (wm_f (by decide) (wm_f (by decide) ?_))
        rw [ov.1.2.2.2.1.1, ← a3] at hP
        have hR := h.2.1
        obtain ⟨r1, r2, r3, r4⟩ := hR (6 * j + 3) (by omega)
        have L : ∀ (k x f : Nat), x + k = (R (6 * j + 3)).length → k < f → wm m D (f_X9_told_L81 f (some m) (nI j) (nI (cn ((R (6 * j + 3)).take x))) (nI x)) M P := by
          intro k
          induction k with
          | zero =>
            intro x f hx hf
            obtain ⟨f, rfl⟩ : ∃ g, f = g + 1 := ⟨f - 1, by omega⟩
            rw [f_X9_told_L81]
            unfold f_X9_told_81
            refine m_sz (p := 3) (by omega) (by omega) hR (wm_t (nI_le (by omega) (by omega)) (wm_p ?_))
            rw [show x = (R (6 * j + 3)).length by omega, List.take_length]
            exact hP
          | succ k ih =>
            intro x f hx hf
            obtain ⟨f, rfl⟩ : ∃ g, f = g + 1 := ⟨f - 1, by omega⟩
            rw [f_X9_told_L81]
            unfold f_X9_told_81 f_X9_row
            refine m_sz (p := 3) (by omega) (by omega) hR (wm_f (nI_ge (by omega) (by omega)) (wm_b (wm_rR (k := 9) (t := 0) (by decide) (wm_n (wm_b (wm_p ?_))))))
            have e3 : (6 * nI j + 3 : Int32) = nI (6 * j + 3) := ix6 j 3
            rw [e3, show (2400 : Int32) = nI 2400 from rfl, pk_mul]
            refine wm_b (wm_aI (k := 9) (t := 0) (by decide) (nI_add _ _) (show 2400 * (6 * j + 3) + x < 72000 by omega) ?_)
            obtain ⟨y, hy, ey⟩ := r3.get (j := x) (by omega)
            have ih' := ih (x + 1) f (by omega) (by omega)
            rw [cn_take (by omega), ey] at ih'
            rw [r4 x (by omega), ey, nI_1, nI_1]
            refine wm_if (fun d => ?_) (fun d => ?_)
            · have d := (sb_eq hy (c := 47) (by omega)).mp d
              rw [if_pos (show nI y = 47 from d)] at ih'
              exact ih'
            · rw [if_neg (show ¬ nI y = 47 from fun z => d ((sb_eq hy (c := 47) (by omega)).mpr z)), Nat.add_zero] at ih'
              exact ih'
        have := L (R (6 * j + 3)).length 0 gF (by omega) (by unfold gF; omega)
        rw [List.take_zero] at this
        exact this
theorem m_clear (h : Mo M R T Pp G) (hP : ∀ M', Mo M' R T Pp (GH G, 0, GA G, 0, GR G, 0) → P (nI (NH G + NA G + NR G)) M') : wm m D (f_X9_clear (some m)) M P := by
  obtain ⟨h1, h2, h3, h4, h5, h6⟩ := h
  unfold f_X9_clear
  refine wm_rd (wm_rd (wm_rd (wm_b (wm_wI (wm_b (wm_wI (wm_b (wm_wI (wm_p ?_)))))))))
  rw [h4.1, h5.1, h6.1, nI_add, nI_add]
  have E : Ex [25, 30, 34] M (uN (uN (uN M 25 0) 30 0) 34 0) := ((Ex.n (by decide)).trans (Ex.n (by decide))).trans (Ex.n (by decide))
  refine hP _ ⟨h1.ex E (by decide) (by decide), h2.ex E (by decide) (by decide), h3.ex E (by decide) (by decide) (by decide) (by decide) (by decide) (by decide) (by decide), ⟨rfl, Nat.zero_le _, fun i hi => absurd hi (Nat.not_lt_zero _)⟩, ⟨rfl, Nat.zero_le _, fun i hi => absurd hi (Nat.not_lt_zero _)⟩, ⟨rfl, Nat.zero_le _, fun i hi => absurd hi (Nat.not_lt_zero _)⟩⟩
theorem m_range {a p q r s n : Int32} (h : Mo M R T Pp G) (h0 : ¬ rgO a n → P (-2) M) (h1 : rgO a n → NR G = 12 → P (-3) M) (hP : ∀ M', rgO a n → NR G < 12 → Mo M' R T Pp (adR G (a, w4 a p q r s, n)) → P (nI (NR G + 1)) M') : wm m D (f_X9_range (some m) a p q r s n) M P := by
  obtain ⟨g1, g2, g3, g4, g5, ⟨g6, g7, g8⟩⟩ := h
  have go : ∀ mx : Int32, (a = 4 ∨ a = 6) → mx = (if a = 4 then 32 else 128 : Int32) → wm m D (f_X9_range_27 (some m) a p q r s n n 0 mx) M P := by
    intro mx ha hmx
    unfold f_X9_range_27
    refine wm_b (wm_q (fun _ _ => m_isIn) ?_)
    refine wm_bz (fun c => wm_p (h0 (fun z => ?_))) (fun c => ?_)
    · have c := of_decide_eq_false c
      exact c ⟨z.2.1, by rw [Int32.not_lt, hmx]; exact z.2.2⟩
    · have c := of_decide_eq_true c
      have ok : rgO a n := ⟨ha, c.1, by rw [← hmx, ← Int32.not_lt]; exact c.2⟩
      refine wm_rd ?_
      rw [g6]
      by_cases d : NR G = 12
      · exact wm_t (by rw [d]; rfl) (wm_p (h1 ok d))
      · refine wm_f (fun z => d ((nI_eq (b := 12) (by omega) (by omega)).mp z)) ?_
        have e4 : (4 * nI (NR G) : Int32) = nI (4 * NR G) := pk_mul 4 (NR G)
        have e41 : (4 * nI (NR G) + 1 : Int32) = nI (4 * NR G + 1) := by rw [e4]; exact nI_add _ 1
        have e42 : (4 * nI (NR G) + 2 : Int32) = nI (4 * NR G + 2) := by rw [e4]; exact nI_add _ 2
        have e43 : (4 * nI (NR G) + 3 : Int32) = nI (4 * NR G + 3) := by rw [e4]; exact nI_add _ 3
        refine wm_b (wm_rR (k := 31) (t := 1) (by decide) (wm_rd ?_))
        rw [g6]
        refine wm_b (wm_sI (k := 31) (t := 1) (by decide) rfl (show NR G < 12 by omega) (wm_b (wm_rR (k := 33) (t := 1) (by decide) (wm_rd ?_))))
        rw [mI_uA, g6]
        refine wm_b (wm_sI (k := 33) (t := 1) (by decide) rfl (show NR G < 12 by omega) (wm_b (wm_rR (k := 32) (t := 1) (by decide) (wm_rd ?_))))
        rw [mI_uA, mI_uA, g6]
        refine wm_b (wm_sI (k := 32) (t := 1) (by decide) e4 (show 4 * NR G < 48 by omega) (wm_b (wm_rR (k := 32) (t := 1) (by decide) (wm_rd ?_))))
        simp only [mI_uA]
        rw [g6]
        refine wm_b (wm_sI (k := 32) (t := 1) (by decide) e41 (show 4 * NR G + 1 < 48 by omega) (wm_b (wm_rR (k := 32) (t := 1) (by decide) (wm_rd ?_))))
        simp only [mI_uA]
        rw [g6]
        refine wm_b (wm_sI (k := 32) (t := 1) (by decide) e42 (show 4 * NR G + 2 < 48 by omega) (wm_b (wm_rR (k := 32) (t := 1) (by decide) (wm_rd ?_))))
        simp only [mI_uA]
        rw [g6]
        refine wm_b (wm_sI (k := 32) (t := 1) (by decide) e43 (show 4 * NR G + 3 < 48 by omega) (wm_rd ?_))
        simp only [mI_uA]
        rw [g6, nI_1]
        refine wm_b (wm_wI (wm_rd (wm_p ?_)))
        rw [mI_uN, if_pos rfl]
        simp only [gnar1]
        have E : Ex [31, 32, 33, 34] M (uN (uA (uA (uA (uA (uA (uA M 31 (NR G) a) 33 (NR G) n) 32 (4 * NR G) p) 32 (4 * NR G + 1) q) 32 (4 * NR G + 2) r) 32 (4 * NR G + 3) s) 34 (nI (NR G + 1))) := ((((((Ex.a (by decide)).trans (Ex.a (by decide))).trans (Ex.a (by decide))).trans (Ex.a (by decide))).trans (Ex.a (by decide))).trans (Ex.a (by decide))).trans (Ex.n (by decide))
        refine hP _ ok (by omega) ⟨g1.ex E (by decide) (by decide), g2.ex E (by decide) (by decide), g3.ex E (by decide) (by decide) (by decide) (by decide) (by decide) (by decide) (by decide), g4.ex E (by decide) (by decide) (by decide) (by decide) (by decide) (by decide), g5.ex E (by decide) (by decide) (by decide) (by decide) (by decide), ?_, ?_, fun i hi => ?_⟩
        · rw [mI_uN, if_pos rfl]
          rfl
        · show NR G + 1 ≤ 12
          omega
        · have hi : i < NR G + 1 := hi
          show _ = (if i = NR G then _ else _ : RE).1 ∧ _ = (if i = NR G then _ else _ : RE).2.2 ∧ (if i = NR G then _ else _ : RE).2.1 = w4 (if i = NR G then _ else _ : RE).1 _ _ _ _ ∧ ((if i = NR G then _ else _ : RE).1 = 4 ∧ (∃ n, n ≤ 32 ∧ (if i = NR G then _ else _ : RE).2.2 = nI n) ∨ (if i = NR G then _ else _ : RE).1 = 6 ∧ ∃ n, n ≤ 128 ∧ (if i = NR G then _ else _ : RE).2.2 = nI n)
          by_cases z : i = NR G
          · subst z
            simp only [if_true]
            refine ⟨by simp [mA_uN, mA_uA], by simp [mA_uN, mA_uA], ?_, ?_⟩
            · simp [mA_uN, mA_uA]
            · have cn' : ∃ y, n = nI y ∧ y < 2 ^ 31 := by
                obtain ⟨y, hy, e⟩ := nI_of c.1
                exact ⟨y, e, hy⟩
              obtain ⟨y, rfl, hy⟩ := cn'
              rcases ha with rfl | rfl
              · left
                refine ⟨rfl, y, ?_, rfl⟩
                have := ok.2.2
                rw [if_pos rfl] at this
                exact (nI_leI (b := 32) hy (by omega)).mp this
              · right
                refine ⟨rfl, y, ?_, rfl⟩
                have := ok.2.2
                rw [if_neg (by decide)] at this
                exact (nI_leI (b := 128) hy (by omega)).mp this
          · simp only [z, if_false]
            obtain ⟨u1, u2, u3, u4⟩ := g8 i (by omega)
            refine ⟨?_, ?_, ?_, u4⟩
            · rw [← u1]
              simp [mA_uN, mA_uA, z]
            · rw [← u2]
              simp [mA_uN, mA_uA, z]
            · have n0 : ∀ x y, x < 4 → y < 4 → ¬ 4 * i + x = 4 * NR G + y := fun x y hx hy => by omega
              simp only [mA_uN, mA_uA]
              rw [u3]
              have m0 : ¬ (4 * i = 4 * NR G) := by omega
              simp [m0, n0 0 1, n0 0 2, n0 0 3, n0 1 0, n0 1 1, n0 1 2, n0 1 3, n0 2 0, n0 2 1, n0 2 2, n0 2 3, n0 3 0, n0 3 1, n0 3 2, n0 3 3]
              have := n0 0 1; have := n0 0 2; have := n0 0 3; have := n0 1 0; have := n0 1 2; have := n0 1 3; have := n0 2 0; have := n0 2 1; have := n0 2 3; have := n0 3 0; have := n0 3 1; have := n0 3 2
              simp_all
  unfold f_X9_range f_X9_range_11
  refine wm_if (fun c => ?_) (fun c => ?_)
  · exact wm_t c (go 32 (Or.inl c) (by rw [if_pos c]))
  · refine wm_if (fun d => ?_) (fun d => wm_p (h0 (fun z => z.1.elim c d)))
    exact wm_f c (go 128 (Or.inr d) (by rw [if_neg c]))
end MK
