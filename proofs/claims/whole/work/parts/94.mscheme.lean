/-! THE OTHER OBJECT: relative texts, schemes -/
/-- the base of a call, here and there -/
def Bm (M : MS) (R : Nat → List Int32) (x : Int32) (Bo : Option UV) : Prop := (x = -1 ∧ Bo = none) ∨ ∃ b B, b < 4 ∧ x = nI b ∧ Bo = some B ∧ PA M R b B ∧ PH M R b B ∧ okB B ∧ ∃ s, s < 5 ∧ uI B 0 = nI s
theorem Ch.fw {M M1 : MS} {R R1 : Nat → List Int32} {b : Nat} (h : Ch M R b 4 M1 R1) : Fw [3, 4, 5, 6, 9, 10] [24, 25, 26] M R M1 R1 := by
  obtain ⟨h1, h2, h3, h4, h5⟩ := h
  refine ⟨h1, fun q hq => ?_, fun k j hj hk => ?_, fun j hj => h4 j (by omega)⟩
  · simp only [List.mem_cons, List.not_mem_nil, or_false, not_or] at hq
    rw [h5, uQ_ne _ _ hq.2.2, uQ_ne _ _ hq.2.1, uQ_ne _ _ hq.1]
  · by_cases c : k = 3 ∨ k = 4 ∨ k = 5
    · rw [h2 k c j, if_neg (by omega)]
    · refine congrFun (h1.1 k (fun z => ?_)) j
      simp only [List.mem_cons, List.not_mem_nil, or_false] at hk z
      omega
theorem Ch.pa {M M1 : MS} {R R1 : Nat → List Int32} {b : Nat} {U B : UV} (hb : b < 4) (h : Ch M R b 4 M1 R1) (hA : PA M R 4 U) (hB : PA M R b B) (hHB : PH M R b B) (hs : uI B 0 = uI U 0) : PA M1 R1 4 (tkA U B) ∧ PH M1 R1 4 (tkA U B) := by
  obtain ⟨h1, h2, h3, h4, h5⟩ := h
  obtain ⟨⟨a1, a2, a3, a4, a5⟩, a6, a7, a8, a9⟩ := hA
  obtain ⟨⟨b1, b2, b3, b4, b5⟩, b6, b7, b8, b9⟩ := hB
  obtain ⟨c1, c2, c3⟩ := hHB
  subst h5
  refine ⟨⟨⟨?_, ?_, ?_, ?_, ?_⟩, ?_, ?_, ?_, ?_⟩, ?_, fun k hk => ?_, ?_⟩
  · rw [uQ_ne _ _ (by omega), uQ_ne _ _ (by omega), uQ_eq]
    exact b1
  · rw [uQ_ne _ _ (by omega), uQ_eq]
    exact b2
  · rw [uQ_ne _ _ (by omega), uQ_ne _ _ (by omega), uQ_ne _ _ (by omega)]
    exact a3
  · rw [uQ_ne _ _ (by omega), uQ_ne _ _ (by omega), uQ_ne _ _ (by omega)]
    exact a4
  · rw [uQ_ne _ _ (by omega), uQ_ne _ _ (by omega), uQ_ne _ _ (by omega)]
    exact a5
  · rw [h2 3 (Or.inl rfl) 4, if_pos rfl, b6]
    exact hs
  · rw [h2 4 (Or.inr (Or.inl rfl)) 4, if_pos rfl]
    exact b7
  · rw [h1.1 7 (by decide)]
    exact a8
  · rw [h1.1 8 (by decide)]
    exact a9
  · rw [h2 5 (Or.inr (Or.inr rfl)) 4, if_pos rfl]
    exact c1
  · rw [h3 k hk]
    exact c2 k hk
  · rw [uQ_eq]
    exact c3
theorem auF_1 {xs : List Int32} {p : Nat} (h : pSla (xs.getD p (-1)) ≠ 0) (hp : p < xs.length) : auF xs p = auF xs (p + 1) := by
  unfold auF
  obtain ⟨j, hj⟩ : ∃ j, xs.length - p = j + 1 := ⟨xs.length - p - 1, by omega⟩
  rw [hj, slS, if_neg h, show xs.length - (p + 1) = j by omega]
theorem enA_1 {xs : List Int32} {U : UV} {p : Nat} (h : pSla (xs.getD p (-1)) ≠ 0) (hp : p < xs.length) : enA xs U p = enA xs U (p + 1) := by
  have e := auF_1 h hp
  have e2 : auE xs p = auE xs (p + 1) := by unfold auE; rw [e]
  have e3 : auU xs p U = auU xs (p + 1) U := by unfold auU; rw [e, e2]
  unfold enA
  rw [e2, e3]
section MR
variable {m : Nat} {D : Nat → Nat} {M : MS} {xs : List Int32} {R : Nat → List Int32} {U : UV} {P : Unit → MS → Prop}
theorem m_relative {p b s : Nat} {B : UV} (hI : In M xs) (hp : p ≤ xs.length) (hR : Rw M R) (hA : PA M R 4 U) (hs : s < 5) (hU : uI U 0 = nI s) (hE : Em U) (h13 : mI M 13 = 0) (h26 : R 26 = []) (hb : b < 4) (hB : PA M R b B) (hHB : PH M R b B) (ok : okB B) (hsB : uI B 0 = uI U 0) (hP : ∀ M', Rs M R (enR xs B U p) M' → P () M') : wm m D (f_X9_readRelative (some m) (nI p) (nI b)) M P := by
  have hl := hI.2.1
  obtain ⟨q2, q3, q6, q7, q8, q10⟩ := id hE
  obtain ⟨okA', ok9, oks, ok6, ok8⟩ := ok
  have sl : pSla (xs.getD p (-1)) ≠ 0 → p < xs.length := fun h => by
    rcases Nat.lt_or_ge p xs.length with z | z
    · exact z
    · rw [gd_out z] at h
      exact absurd (by decide) h
  -- with the base's authority
  have rel : ¬ (pSla (xs.getD p (-1)) ≠ 0 ∧ pSla (xs.getD (p + 1) (-1)) ≠ 0) → wm m D (f_X9_readRelative_34 (some m) (nI p) (nI b) (xs.getD p (-1))) M P := by
    intro hn
    unfold enR at hP
    rw [if_neg hn] at hP
    unfold f_X9_readRelative_34
    refine wm_n (wm_b (m_copyHost (c := 4) (by omega) (by omega) (by omega) hR (fun M1 R1 C1 W1 => ?_)))
    have F1 := C1.fw
    obtain ⟨A1, H1⟩ := C1.pa hb hA hB hHB hsB
    have I1 := hI.ex F1.1 (by decide) (by decide)
    have k13 : mI M1 13 = 0 := by rw [F1.1.2 13 (by decide)]; exact h13
    refine wm_b (wm_q (fun _ _ => m_isSlash) ?_)
    -- how it ends
    have fin : ∀ S Q V M2 R2, Fw S Q M1 R1 M2 R2 → (∀ k, k ∈ S → k ∈ [7, 8, 9, 10]) → (∀ k, k ∈ Q → k ∈ [27, 28, 29]) → Rw M2 R2 → PA M2 R2 4 V → uK V = uK (tkA U B) → uW V = uW (tkA U B) → uR V 4 = uR (tkA U B) 4 → Rs M R (.inr V) M2 := by
      intro S Q V M2 R2 F2 hS hQ W2 A2 v1 v2 v3
      have F2' : Fw [7, 8, 9, 10] [27, 28, 29] M1 R1 M2 R2 := F2.mono hS hQ
      refine ⟨R2, (F1.mono (by decide) (by decide)).trans (F2'.mono (by decide) (by decide)), W2, fun c z => (by cases z), fun V' z => ?_⟩
      cases z
      exact ⟨by rw [F2'.1.2 13 (by decide)]; exact k13, A2, H1.fw F2' (by decide) (by decide) (by decide) v1 v2 v3⟩
    refine wm_if (fun c => ?_) (fun c => ?_)
    · rw [if_neg (fun z => z c)] at hP
      refine wm_n (wm_b (m_copyPart (p := 3) (c := 4) (by omega) (by omega) (by omega) (by omega) W1 (fun M2 E2 W2 => ?_)))
      have eB : R1 (6 * b + 3) = uR B 6 := by
        rw [F1.2.1 (6 * b + 3) (by simp; omega)]
        exact hB.1.2.2.1
      have A2 := (A1.row (ys := R1 (6 * b + 3)) E2 (k := 6) (q := 27) (Or.inr (Or.inr (Or.inl ⟨rfl, rfl⟩)))).i7 (v := uI B 7)
      rw [eB] at A2
      have A2' : PA M2 (uQ R1 27 (uR B 6)) 4 (tkP (tkA U B) B) := A2
      have W2' : Rw M2 (uQ R1 27 (uR B 6)) := by rw [← eB]; exact W2
      have F2 : Fw [9, 10] [27] M1 R1 M2 (uQ R1 27 (uR B 6)) := Fw.row E2
      have I2 := I1.ex E2 (by decide) (by decide)
      -- a tail
      have t101 : ∀ M3 R3 V, Fw [7, 9, 10] [27, 28] M1 R1 M3 R3 → Rw M3 R3 → PA M3 R3 4 V → In M3 xs → (uR V 8).length ≤ 1000 → uR V 10 = [] → uK V = uK (tkA U B) → uW V = uW (tkA U B) → uR V 4 = uR (tkA U B) 4 → (∀ M', Rs M R (.inr (enF xs V p)) M' → P () M') → wm m D (f_X9_readRelative_101 (some m) (nI p)) M3 P := by
        intro M3 R3 V F3 W3 A3 I3 l8 l10 v1 v2 v3 hP'
        unfold f_X9_readRelative_101
        refine wm_n (wm_b (m_readTail hp I3 W3 A3 (by omega) (by rw [l10, List.length_nil]; omega) (fun M4 R4 F4 W4 A4 => wm_p (hP' M4 ?_))))
        obtain ⟨w1, w2, w3⟩ := enF_h (xs := xs) (U := V) (p := p)
        exact fin [7, 8, 9, 10] [27, 28, 29] _ M4 R4 ((F3.mono (by decide) (by decide)).trans (F4.mono (by decide) (by decide))) (fun k h => h) (fun k h => h) W4 A4 (w1.trans v1) (w2.trans v2) (w3.trans v3)
      have l10 : uR (tkP (tkA U B) B) 10 = [] := q10
      have l8 : uR (tkP (tkA U B) B) 8 = [] := q8
      have k76 : (xs.getD p (-1) = 63 ∨ xs.getD p (-1) = 35 ∨ xs.getD p (-1) = -1) → wm m D (f_X9_readRelative_76 (some m) (nI p) (nI b) (xs.getD p (-1))) M2 P := by
        intro h
        unfold f_X9_readRelative_76
        refine wm_if (fun d => ?_) (fun d => ?_)
        · rw [if_pos d] at hP
          exact t101 M2 _ _ (F2.mono (by decide) (by decide)) W2' A2' I2 (by rw [l8]; exact Nat.zero_le _) l10 rfl rfl rfl hP
        · rw [if_neg d, if_pos (h.resolve_left d)] at hP
          refine wm_n (wm_b (m_copyPart (p := 4) (c := 4) (by omega) (by omega) (by omega) (by omega) W2' (fun M3 E3 W3 => ?_)))
          have eB8 : uQ R1 27 (uR B 6) (6 * b + 4) = uR B 8 := by
            rw [uQ_ne _ _ (by omega), F1.2.1 (6 * b + 4) (by simp; omega)]
            exact hB.1.2.2.2.1
          have A3 := A2'.row (ys := uQ R1 27 (uR B 6) (6 * b + 4)) E3 (k := 8) (q := 28) (Or.inr (Or.inr (Or.inr (Or.inl ⟨rfl, rfl⟩))))
          have W3' : Rw M3 (uQ (uQ R1 27 (uR B 6)) 28 (uQ R1 27 (uR B 6) (6 * b + 4))) := W3
          rw [eB8] at A3 W3'
          have F3 : Fw [9, 10] [28] M2 (uQ R1 27 (uR B 6)) M3 (uQ (uQ R1 27 (uR B 6)) 28 (uR B 8)) := Fw.row E3
          refine wm_b (wm_rR (k := 7) (t := 2) (by decide) (wm_get (k := 7) (t := 2) (by decide) rfl (show b < 5 by omega) (wm_b (wm_sI (k := 7) (t := 2) (j := 4) (by decide) rfl (by decide) ?_))))
          have e7 : mA M3 7 b = uI B 9 := by
            rw [E3.1 7 (by decide), E2.1 7 (by decide), F1.1.1 7 (by decide)]
            exact hB.2.2.2.1
          rw [e7, show gnar 2 (uI B 9) = uI B 9 by rcases ok9 with z | z <;> rw [z] <;> rfl]
          have F4 : Fw [7] [] M3 (uQ (uQ R1 27 (uR B 6)) 28 (uR B 8)) (uA M3 7 4 (uI B 9)) (uQ (uQ R1 27 (uR B 6)) 28 (uR B 8)) := Fw.arr (by decide)
          have A4 : PA (uA M3 7 4 (uI B 9)) (uQ (uQ R1 27 (uR B 6)) 28 (uR B 8)) 4 (tkQ (tkP (tkA U B) B) B) := A3.int (Or.inr (Or.inr (Or.inl ⟨rfl, rfl⟩)))
          refine t101 _ _ _ (((F2.mono (by decide) (by decide)).trans (F3.mono (by decide) (by decide))).trans (F4.mono (by decide) (by decide))) (W3'.ex F4.1 (by decide) (by decide)) A4 ((I2.ex E3 (by decide) (by decide)).ex F4.1 (by decide) (by decide)) ok8 l10 rfl rfl rfl hP
      refine wm_if (fun d => k76 (Or.inl d)) (fun d => wm_if (fun e => k76 (Or.inr (Or.inl e))) (fun e => ?_))
      rcases hI.2.2.1.gm p with z | ⟨n, hn', z⟩
      · exact wm_f (by rw [z]; decide) (k76 (Or.inr (Or.inr z)))
      · have nm : xs.getD p (-1) ≠ -1 := by
          rw [z]
          exact nI_m1 (by omega)
        rw [if_neg d, if_neg (fun w => w.elim e nm)] at hP
        refine wm_t (by rw [z]; exact nI_pos' (by omega)) ?_
        have sg : sgO (tkP (tkA U B) B) := oks
        have fxd := drS_fx (tkP (tkA U B) B)
        have dok := drS_ok sg (show (uR B 6).length ≤ 4096 by omega)
        refine wm_n (wm_b (m_drop W2' A2' sg (fun M3 R3 F3 W3 A3 => ?_)))
        refine wm_n (wm_b (m_readPath0 hp c (I2.ex F3.1 (by decide) (by decide)) W3 A3 dok.1 (by have := dok.2.1; have : (uR (drS (tkP (tkA U B) B)) 6).length ≤ 1000 := Nat.le_trans this ok6; omega) (by rw [fxd.1 8 (by decide), l8, List.length_nil]; omega) (by rw [fxd.1 10 (by decide), l10, List.length_nil]; omega) (fun M4 R4 F4 W4 A4 => wm_p (hP M4 ?_))))
        obtain ⟨w1, w2, w3⟩ := enS_h (xs := xs) (U := drS (tkP (tkA U B) B)) (p := p)
        exact fin [7, 8, 9, 10] [27, 28, 29] _ M4 R4 (((F2.mono (by decide) (by decide)).trans (F3.mono (by decide) (by decide))).trans F4) (fun k h => h) (fun k h => h) W4 A4 (w1.trans fxd.2.2.1) (w2.trans fxd.2.2.2) (w3.trans (fxd.1 4 (by decide)))
    · rw [if_pos c] at hP
      refine wm_n (wm_b (m_readPath hp I1 W1 A1 ?_ (by show (uR U 6).length + _ + _ ≤ _; rw [q6, List.length_nil]; omega) (by show (uR U 8).length + _ ≤ _; rw [q8, List.length_nil]; omega) (by show (uR U 10).length + _ ≤ _; rw [q10, List.length_nil]; omega) (fun M4 R4 F4 W4 A4 => wm_p (hP M4 ?_))))
      · refine ⟨?_, Or.inl q6⟩
        show uI U 7 = nI (cn (uR U 6))
        rw [q6, q7]
        rfl
      · obtain ⟨w1, w2, w3⟩ := enP_h (xs := xs) (U := tkA U B) (p := p)
        exact fin _ _ _ M4 R4 F4 (fun k h => h) (fun k h => h) W4 A4 w1 w2 w3
  unfold f_X9_readRelative
  refine m_ba hI (by omega) (wm_b (wm_q (fun _ _ => m_isSlash) ?_))
  refine wm_if (fun c => rel (fun z => z.1 c)) (fun c => ?_)
  rw [nI_1]
  refine m_ba hI (by omega) (wm_b (wm_q (fun _ _ => m_isSlash) ?_))
  refine wm_if (fun d => rel (fun z => z.2 d)) (fun d => ?_)
  have hpl := sl c
  refine wm_n (wm_b (m_slashes hI (by omega) hR hA hs hU hE h13 h26 (fun M' r => wm_p (hP M' ?_))))
  unfold enR
  rw [if_pos ⟨c, d⟩, enA_1 c hpl]
  exact r
/-- a word of a scheme -/
theorem m_isWL {w c : Nat} {P : Int32 → MS → Prop} (hI : In M xs) (hw : w < 5) (hc : c ≤ xs.length) (hc2 : (tstr w).length = c) : ∀ (k i f : Nat), i + k = c → k < f → P (b2i (decide (((xs.take c).map pLow).drop i = (tstr w).drop i))) M → wm m D (f_X9_isWord_L17 f (some m) (nI c) (nI w) 1 (nI i)) M P := by
  have hl := hI.2.1
  intro k
  induction k with
  | zero =>
    intro i f hi hf hP
    obtain ⟨f, rfl⟩ : ∃ g, f = g + 1 := ⟨f - 1, by omega⟩
    rw [f_X9_isWord_L17]
    unfold f_X9_isWord_17
    rw [decide_eq_true (by rw [List.drop_eq_nil_of_le (by simp; omega), List.drop_eq_nil_of_le (by omega)])] at hP
    exact wm_t (nI_le (by omega) (by omega)) (wm_z1 hP)
  | succ k ih =>
    intro i f hi hf hP
    obtain ⟨f, rfl⟩ : ∃ g, f = g + 1 := ⟨f - 1, by omega⟩
    rw [f_X9_isWord_L17]
    unfold f_X9_isWord_17
    refine wm_f (nI_ge (by omega) (by omega)) (wm_f (by decide) (m_ba hI (by omega) (wm_b (wm_q (fun _ _ => m_low) (wm_b (wm_q (fun _ _ => m_schemeByte hw (by omega)) ?_))))))
    have l1 : i < ((xs.take c).map pLow).length := by simp; omega
    have d1 : ((xs.take c).map pLow).drop i = pLow (xs.getD i (-1)) :: ((xs.take c).map pLow).drop (i + 1) := by
      rw [List.drop_eq_getElem_cons l1, List.getElem_map, List.getElem_take, ← getD0 (show i < xs.length by omega), List.getD_eq_getElem?_getD, List.getElem?_eq_getElem (show i < xs.length by omega)]
      rfl
    have d2 : (tstr w).drop i = (tstr w).getD i 0 :: (tstr w).drop (i + 1) := by
      rw [List.drop_eq_getElem_cons (show i < (tstr w).length by omega), List.getD_eq_getElem?_getD, List.getElem?_eq_getElem (show i < (tstr w).length by omega)]
      rfl
    rw [d1, d2] at hP
    rw [nI_1]
    refine wm_if (fun e => ?_) (fun e => ?_)
    · refine ih (i + 1) f (by omega) (by omega) ?_
      rw [e] at hP
      have : (((tstr w).getD i 0 :: ((xs.take c).map pLow).drop (i + 1)) = (tstr w).getD i 0 :: (tstr w).drop (i + 1)) ↔ ((xs.take c).map pLow).drop (i + 1) = (tstr w).drop (i + 1) := by simp
      rw [decide_eq_decide.mpr this] at hP
      exact hP
    · rw [decide_eq_false (fun z => e (List.cons.inj z).1)] at hP
      obtain ⟨f, rfl⟩ : ∃ g, f = g + 1 := ⟨f - 1, by omega⟩
      rw [f_X9_isWord_L17]
      unfold f_X9_isWord_17
      exact wm_if (fun _ => wm_z0 hP) (fun _ => wm_t rfl (wm_z0 hP))
theorem m_isWord {w c : Nat} {P : Int32 → MS → Prop} (hI : In M xs) (hw : w < 5) (hc : c ≤ xs.length) (hP : P (b2i (isW xs c w)) M) : wm m D (f_X9_isWord (some m) (nI c) (nI w)) M P := by
  have hl := hI.2.1
  have tl : (tstr w).length < 1000 := (tstr_ok w (by omega)).2.1
  unfold f_X9_isWord
  unfold isW at hP
  refine wm_b (wm_q (fun _ _ => m_schemeSize hw) ?_)
  refine wm_if (fun d => ?_) (fun d => ?_)
  · have d := (nI_eq (by omega) (by omega)).mp d
    refine m_isWL hI hw hc d c 0 gF (by omega) (by unfold gF; omega) ?_
    rw [List.drop_zero, List.drop_zero]
    exact hP
  · rw [decide_eq_false (fun z => d (by rw [← z]; simp; congr 1; omega))] at hP
    show wm m D (f_X9_isWord_L17 (9999 + 1) (some m) (nI c) (nI w) 0 0) M P
    rw [f_X9_isWord_L17]
    unfold f_X9_isWord_17
    exact wm_if (fun _ => wm_z0 hP) (fun _ => wm_t rfl (wm_z0 hP))
end MR
theorem tstr_inj : ∀ a, a < 5 → ∀ b, b < 5 → tstr a = tstr b → a = b := by decide
theorem isW_u {xs : List Int32} {c a b : Nat} (ha : a < 5) (hb : b < 5) (h1 : isW xs c a = true) (h2 : isW xs c b = true) : a = b := tstr_inj a ha b hb ((of_decide_eq_true h1).symm.trans (of_decide_eq_true h2))
theorem schU_s {xs : List Int32} {c s : Nat} (hs : s < 5) (h : isW xs c s = true) : ∀ m i, i + m = 5 → i ≤ s → schU xs c m i = some s
  | 0, i, h1, h2 => by omega
  | m + 1, i, h1, h2 => by
    rw [schU]
    by_cases d : isW xs c i = true
    · rw [if_pos d, isW_u (by omega) hs d h]
    · rw [if_neg d]
      refine schU_s hs h m (i + 1) (by omega) ?_
      rcases Nat.lt_or_ge i s with z | z
      · exact z
      · have : i = s := by omega
        rw [this] at d
        exact absurd h d
theorem schU_n {xs : List Int32} {c : Nat} (h : ∀ w, w < 5 → isW xs c w = false) : ∀ m i, i + m = 5 → schU xs c m i = none
  | 0, i, h1 => rfl
  | m + 1, i, h1 => by
    rw [schU, if_neg (by rw [h i (by omega)]; decide)]
    exact schU_n h m (i + 1) (by omega)
def rdX (xs : List Int32) (Bo : Option UV) (U : UV) : Int32 ⊕ UV :=
  match schE xs with
  | none => (match Bo with
    | none => .inl (-11)
    | some B => enR xs B (scU (emU U) (uI B 0)) 0)
  | some c => match schU xs c 5 0 with
    | none => .inl (-12)
    | some s => (match Bo with
      | none => enA xs (scU (emU U) (nI s)) (c + 1)
      | some B => if uI B 0 = nI s ∧ hasS xs (c + 1) (tstr 5) = false then enR xs B (scU (emU U) (nI s)) (c + 1) else enA xs (scU (emU U) (nI s)) (c + 1))
theorem rdU_X (ts : List Int32) (Bo : Option UV) (U : UV) : rdU ts Bo U = rdX (tdy ts) Bo U := by
  unfold rdU rdX
  cases schE (tdy ts) with
  | none => cases Bo <;> rfl
  | some c =>
    dsimp only
    cases schU (tdy ts) c 5 0 with
    | none => rfl
    | some s => cases Bo <;> rfl
