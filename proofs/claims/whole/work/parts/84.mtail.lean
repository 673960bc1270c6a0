/-! THE OTHER OBJECT: records in their places; QUERY, FRAGMENT, segments -/
/-- the parts of the record in place i, but for its HOST; its HOST -/
def PA (M : MS) (R : Nat → List Int32) (i : Nat) (U : UV) : Prop := (R (6 * i) = uR U 2 ∧ R (6 * i + 1) = uR U 3 ∧ R (6 * i + 3) = uR U 6 ∧ R (6 * i + 4) = uR U 8 ∧ R (6 * i + 5) = uR U 10) ∧ mA M 3 i = uI U 0 ∧ mA M 4 i = uI U 5 ∧ mA M 7 i = uI U 9 ∧ mA M 8 i = uI U 11
def PH (M : MS) (R : Nat → List Int32) (i : Nat) (U : UV) : Prop := mA M 5 i = uK U ∧ (∀ k, k < 8 → mA M 6 (8 * i + k) = numA (uK U) (uW U) k) ∧ R (6 * i + 2) = if uK U = 0 then uR U 4 else []
/-- these fields, and these rows; of places only the last -/
def Fw (S Q : List Nat) (M : MS) (R : Nat → List Int32) (M' : MS) (R' : Nat → List Int32) : Prop := Ex S M M' ∧ (∀ q, q ∉ Q → R' q = R q) ∧ (∀ k j, j < 4 → k ∈ [3, 4, 5, 7, 8] → mA M' k j = mA M k j) ∧ ∀ j, j < 32 → mA M' 6 j = mA M 6 j
section FW
variable {S Q S' Q' : List Nat} {M M1 M2 : MS} {R R1 R2 : Nat → List Int32} {U V : UV} {i : Nat}
theorem Fw.rf : Fw S Q M R M R := ⟨Ex.rf, fun _ _ => rfl, fun _ _ _ _ => rfl, fun _ _ => rfl⟩
theorem Fw.trans (h : Fw S Q M R M1 R1) (h2 : Fw S Q M1 R1 M2 R2) : Fw S Q M R M2 R2 := ⟨h.1.trans h2.1, fun q hq => (h2.2.1 q hq).trans (h.2.1 q hq), fun k j hj hk => (h2.2.2.1 k j hj hk).trans (h.2.2.1 k j hj hk), fun j hj => (h2.2.2.2 j hj).trans (h.2.2.2 j hj)⟩
theorem Fw.mono (h : Fw S Q M R M1 R1) (hs : ∀ k, k ∈ S → k ∈ S') (hq : ∀ k, k ∈ Q → k ∈ Q') : Fw S' Q' M R M1 R1 := ⟨h.1.mono hs, fun q z => h.2.1 q (fun y => z (hq q y)), h.2.2⟩
/-- a row of the last place -/
theorem Fw.row {q : Nat} {ys : List Int32} (e : Ex [9, 10] M M1) : Fw [9, 10] [q] M R M1 (uQ R q ys) := by
  refine ⟨e, fun k hk => uQ_ne _ _ (fun z => hk (by rw [z]; exact List.mem_singleton.mpr rfl)), fun k j _ hk => ?_, fun j _ => congrFun (e.1 6 (by decide)) j⟩
  refine congrFun (e.1 k (fun z => ?_)) j
  simp only [List.mem_cons, List.not_mem_nil, or_false] at hk z
  omega
theorem Fw.arr {k : Nat} {v : Int32} (hk : k ≠ 6) : Fw [k] [] M R (uA M k 4 v) R := by
  refine ⟨Ex.a (List.mem_singleton.mpr rfl), fun _ _ => rfl, fun k' j hj _ => ?_, fun j hj => ?_⟩
  · rw [mA_uA, if_neg (fun z => by omega)]
  · rw [mA_uA, if_neg (fun z => hk z.1.symm)]
theorem Fw.int {k : Nat} {v : Int32} : Fw [k] [] M R (uN M k v) R := ⟨Ex.n (List.mem_singleton.mpr rfl), fun _ _ => rfl, fun _ _ _ _ => rfl, fun _ _ => rfl⟩
theorem PA.row (h : PA M R 4 U) (e : Ex [9, 10] M M1) {k q : Nat} {ys : List Int32} (hk : (k = 2 ∧ q = 24) ∨ (k = 3 ∧ q = 25) ∨ (k = 6 ∧ q = 27) ∨ (k = 8 ∧ q = 28) ∨ (k = 10 ∧ q = 29)) : PA M1 (uQ R q ys) 4 (vR U k ys) := by
  obtain ⟨⟨a1, a2, a3, a4, a5⟩, a6⟩ := h
  refine ⟨?_, ?_⟩
  · rcases hk with ⟨rfl, rfl⟩ | ⟨rfl, rfl⟩ | ⟨rfl, rfl⟩ | ⟨rfl, rfl⟩ | ⟨rfl, rfl⟩
    · exact ⟨uQ_eq _ _ _, a2, a3, a4, a5⟩
    · exact ⟨a1, uQ_eq _ _ _, a3, a4, a5⟩
    · exact ⟨a1, a2, uQ_eq _ _ _, a4, a5⟩
    · exact ⟨a1, a2, a3, uQ_eq _ _ _, a5⟩
    · exact ⟨a1, a2, a3, a4, uQ_eq _ _ _⟩
  · rw [e.1 3 (by decide), e.1 4 (by decide), e.1 7 (by decide), e.1 8 (by decide)]
    exact a6
theorem PA.int (h : PA M R 4 U) {k q : Nat} {v : Int32} (hk : (k = 0 ∧ q = 3) ∨ (k = 5 ∧ q = 4) ∨ (k = 9 ∧ q = 7) ∨ (k = 11 ∧ q = 8)) : PA (uA M q 4 v) R 4 (vI U k v) := by
  obtain ⟨a1, a2, a3, a4, a5⟩ := h
  refine ⟨a1, ?_⟩
  rcases hk with ⟨rfl, rfl⟩ | ⟨rfl, rfl⟩ | ⟨rfl, rfl⟩ | ⟨rfl, rfl⟩
  · exact ⟨rfl, a3, a4, a5⟩
  · exact ⟨a2, rfl, a4, a5⟩
  · exact ⟨a2, a3, rfl, a5⟩
  · exact ⟨a2, a3, a4, rfl⟩
theorem PA.ex (h : PA M R i U) (e : Ex S M M1) (h3 : 3 ∉ S) (h4 : 4 ∉ S) (h7 : 7 ∉ S) (h8 : 8 ∉ S) : PA M1 R i U := by
  refine ⟨h.1, ?_⟩
  rw [e.1 3 h3, e.1 4 h4, e.1 7 h7, e.1 8 h8]
  exact h.2
/-- the HOST stays -/
theorem PH.fw (h : PH M R 4 U) (f : Fw S Q M R M1 R1) (h5 : 5 ∉ S) (h6 : 6 ∉ S) (hq : 26 ∉ Q) (e1 : uK V = uK U) (e2 : uW V = uW U) (e3 : uR V 4 = uR U 4) : PH M1 R1 4 V := by
  unfold PH
  rw [f.1.1 5 h5, f.1.1 6 h6, f.2.1 26 hq, e1, e2, e3]
  exact h
end FW
section MA
variable {m : Nat} {D : Nat → Nat} {M : MS} {xs : List Int32} {R : Nat → List Int32} {U : UV} {P : Unit → MS → Prop}
theorem isB.nn {xs : List Int32} (h : isB xs) {j : Nat} (hj : j < xs.length) : ∃ n, n < 256 ∧ xs.getD j (-1) = nI n := by
  rw [← getD0 hj]
  exact h.get hj
theorem isB.out {xs : List Int32} {j : Nat} (h : xs.length ≤ j) : xs.getD j (-1) = -1 := gd_out h
theorem m_L77 : ∀ (k i f : Nat) (M : MS) (R : Nat → List Int32), i + k = xs.length → k < f → In M xs → Rw M R → (R 29).length + 3 * k ≤ 2400 → (∀ M', Ex [9, 10] M M' → Rw M' (uQ R 29 (R 29 ++ escs xs 17 k i)) → P () M') → wm m D (f_X9_readTail_L77 f (some m) (nI i)) M P := by
  intro k
  induction k with
  | zero =>
    intro i f M R hi hf hI hR hl hP
    obtain ⟨f, rfl⟩ : ∃ g, f = g + 1 := ⟨f - 1, by omega⟩
    have := hI.2.1
    rw [f_X9_readTail_L77]
    unfold f_X9_readTail_77
    refine m_ba hI (by omega) ?_
    rw [gd_out (by omega)]
    refine wm_t (by decide) (wm_p (hP M Ex.rf ?_))
    rw [escs, List.append_nil, uQ_id rfl]
    exact hR
  | succ k ih =>
    intro i f M R hi hf hI hR hl hP
    obtain ⟨f, rfl⟩ : ∃ g, f = g + 1 := ⟨f - 1, by omega⟩
    have := hI.2.1
    obtain ⟨n, hn, e⟩ := hI.2.2.1.nn (j := i) (by omega)
    rw [f_X9_readTail_L77]
    unfold f_X9_readTail_77
    refine m_ba hI (by omega) ?_
    refine wm_f (by rw [e]; exact nI_pos (by omega)) (m_ba hI (by omega) ?_)
    rw [e, nI_1]
    refine wm_n (wm_b (m_addEsc (p := 5) (s := 0) hR (by omega) (by show (R 29).length + 3 ≤ 2400; omega) hn (by omega) (fun M1 E1 W1 => ?_)))
    have hel := (esc_len (nI n) (stO 0)).1
    refine ih (i + 1) f M1 _ (by omega) (by omega) (hI.ex E1 (by decide) (by decide)) W1 (by rw [uQ_eq, List.length_append]; show (R 29).length + _ + _ ≤ _; omega) (fun M2 E2 W2 => hP M2 (E1.trans E2) ?_)
    rw [uQ_eq, uQ_uQ, List.append_assoc] at W2
    rw [escs, e]
    exact W2
theorem m_L22 : ∀ (k i f : Nat) (M : MS) (R : Nat → List Int32), i + k = xs.length → k < f → In M xs → Rw M R → (R 28).length + 3 * k ≤ 2400 → (∀ M', Ex [9, 10] M M' → Rw M' (uQ R 28 (R 28 ++ escs xs 16 (hsS xs k i - i) i)) → wm m D (f_X9_readTail_57 (some m) (nI (hsS xs k i))) M' P) → wm m D (f_X9_readTail_L22 f (some m) (nI i)) M P := by
  intro k
  induction k with
  | zero =>
    intro i f M R hi hf hI hR hl hP
    obtain ⟨f, rfl⟩ : ∃ g, f = g + 1 := ⟨f - 1, by omega⟩
    have := hI.2.1
    rw [f_X9_readTail_L22]
    unfold f_X9_readTail_22
    refine m_ba hI (by omega) ?_
    rw [gd_out (by omega)]
    rw [hsS] at hP
    refine wm_t (by decide) (hP M Ex.rf ?_)
    rw [Nat.sub_self, escs, List.append_nil, uQ_id rfl]
    exact hR
  | succ k ih =>
    intro i f M R hi hf hI hR hl hP
    obtain ⟨f, rfl⟩ : ∃ g, f = g + 1 := ⟨f - 1, by omega⟩
    have := hI.2.1
    obtain ⟨n, hn, e⟩ := hI.2.2.1.nn (j := i) (by omega)
    rw [f_X9_readTail_L22]
    unfold f_X9_readTail_22
    refine m_ba hI (by omega) ?_
    refine wm_f (by rw [e]; exact nI_pos (by omega)) (m_ba hI (by omega) ?_)
    rw [hsS] at hP
    refine wm_if (fun c => ?_) (fun c => ?_)
    · rw [if_pos c] at hP
      refine hP M Ex.rf ?_
      rw [Nat.sub_self, escs, List.append_nil, uQ_id rfl]
      exact hR
    · rw [if_neg c] at hP
      refine m_ba hI (by omega) ?_
      rw [e, nI_1]
      refine wm_n (wm_b (m_addEsc (p := 4) (s := 1) hR (by omega) (by show (R 28).length + 3 ≤ 2400; omega) hn (by omega) (fun M1 E1 W1 => ?_)))
      have hel := (esc_len (nI n) (stO 1)).1
      refine ih (i + 1) f M1 _ (by omega) (by omega) (hI.ex E1 (by decide) (by decide)) W1 (by rw [uQ_eq, List.length_append]; show (R 28).length + _ + _ ≤ _; omega) (fun M2 E2 W2 => hP M2 (E1.trans E2) ?_)
      rw [uQ_eq, uQ_uQ, List.append_assoc] at W2
      have hh := (hsS_le xs k (i + 1)).1
      rw [show hsS xs k (i + 1) - i = (hsS xs k (i + 1) - (i + 1)) + 1 by omega, escs, e]
      exact W2
/-- the FRAGMENT -/
theorem m_tail57 {p : Nat} (hp : p ≤ xs.length) (hI : In M xs) (hR : Rw M R) (hA : PA M R 4 U) (hl : (uR U 10).length + 3 * xs.length ≤ 2400) (hP : ∀ M' R', Fw [8, 9, 10] [29] M R M' R' → Rw M' R' → PA M' R' 4 (frU xs p U) → P () M') : wm m D (f_X9_readTail_57 (some m) (nI p)) M P := by
  have := hI.2.1
  unfold f_X9_readTail_57
  refine m_ba hI (by omega) ?_
  unfold frU at hP
  refine wm_if (fun c => ?_) (fun c => ?_)
  · rw [if_pos c] at hP
    have hlt : p < xs.length := by
      rcases Nat.lt_or_ge p xs.length with z | z
      · exact z
      · rw [gd_out z] at c
        exact absurd c (by decide)
    refine wm_b (wm_rR (k := 8) (t := 2) (by decide) (wm_b (wm_sI (k := 8) (t := 2) (j := 4) (by decide) rfl (by decide) ?_)))
    rw [show gnar 2 1 = 1 from rfl, nI_1]
    have F1 : Fw [8] [] M R (uA M 8 4 1) R := Fw.arr (by decide)
    have A1 : PA (uA M 8 4 1) R 4 (vI U 11 1) := hA.int (Or.inr (Or.inr (Or.inr ⟨rfl, rfl⟩)))
    have e5 : R 29 = uR U 10 := hA.1.2.2.2.2
    refine m_L77 (xs.length - (p + 1)) (p + 1) gF _ R (by omega) (by unfold gF; omega) (hI.ex F1.1 (by decide) (by decide)) (hR.ex F1.1 (by decide) (by decide)) (by rw [e5]; omega) (fun M2 E2 W2 => hP M2 _ ?_ W2 ?_)
    · exact (F1.mono (by decide) (by decide)).trans ((Fw.row E2).mono (by decide) (by decide))
    · rw [e5]
      exact A1.row E2 (Or.inr (Or.inr (Or.inr (Or.inr ⟨rfl, rfl⟩))))
  · rw [if_neg c] at hP
    exact wm_p (hP M R Fw.rf hR hA)
theorem m_readTail {p : Nat} (hp : p ≤ xs.length) (hI : In M xs) (hR : Rw M R) (hA : PA M R 4 U) (h8 : (uR U 8).length + 3 * xs.length ≤ 2400) (h10 : (uR U 10).length + 3 * xs.length ≤ 2400) (hP : ∀ M' R', Fw [7, 8, 9, 10] [28, 29] M R M' R' → Rw M' R' → PA M' R' 4 (enF xs U p) → P () M') : wm m D (f_X9_readTail (some m) (nI p)) M P := by
  have := hI.2.1
  unfold f_X9_readTail
  refine m_ba hI (by omega) ?_
  unfold enF quU at hP
  refine wm_if (fun c => ?_) (fun c => ?_)
  · rw [if_pos c] at hP
    have hlt : p < xs.length := by
      rcases Nat.lt_or_ge p xs.length with z | z
      · exact z
      · rw [gd_out z] at c
        exact absurd c (by decide)
    refine wm_b (wm_rR (k := 7) (t := 2) (by decide) (wm_b (wm_sI (k := 7) (t := 2) (j := 4) (by decide) rfl (by decide) ?_)))
    rw [show gnar 2 1 = 1 from rfl, nI_1]
    have F1 : Fw [7] [] M R (uA M 7 4 1) R := Fw.arr (by decide)
    have A1 : PA (uA M 7 4 1) R 4 (vI U 9 1) := hA.int (Or.inr (Or.inr (Or.inl ⟨rfl, rfl⟩)))
    have I1 := hI.ex F1.1 (by decide) (by decide)
    have e5 : R 28 = uR U 8 := hA.1.2.2.2.1
    refine m_L22 (xs.length - (p + 1)) (p + 1) gF _ R (by omega) (by unfold gF; omega) I1 (hR.ex F1.1 (by decide) (by decide)) (by rw [e5]; omega) (fun M2 E2 W2 => ?_)
    have A2 := A1.row (ys := R 28 ++ escs xs 16 (hsS xs (xs.length - (p + 1)) (p + 1) - (p + 1)) (p + 1)) E2 (k := 8) (q := 28) (Or.inr (Or.inr (Or.inr (Or.inl ⟨rfl, rfl⟩))))
    have hh := hsS_le xs (xs.length - (p + 1)) (p + 1)
    refine m_tail57 (by omega) (I1.ex E2 (by decide) (by decide)) W2 A2 (by show (uR U 10).length + _ ≤ _; exact h10) (fun M3 R3 F3 W3 A3 => hP M3 R3 ?_ W3 (by rw [e5] at A3; exact A3))
    exact ((F1.mono (by decide) (by decide)).trans ((Fw.row E2).mono (by decide) (by decide))).trans (F3.mono (by decide) (by decide))
  · rw [if_neg c] at hP
    exact m_tail57 hp hI hR hA h10 (fun M' R' F W A => hP M' R' (F.mono (by decide) (by decide)) W A)
/-- one byte of the last place's row -/
theorem m_dropL {n0 : Nat} (hR : Rw M R) (hn : (R 27).length = n0) (hP : ∀ M', Ex [9, 10] M M' → Rw M' (uQ R 27 ((R 27).take (drI (R 27) (n0 - 1)))) → P () M') (h0 : n0 = 0 ∨ (R 27).getD 0 0 = 47) : ∀ (n f : Nat), n < f → n ≤ n0 → drI (R 27) (n - 1) = drI (R 27) (n0 - 1) → (0 < n0 → 0 < n) → wm m D (f_X9_dropSegment_L10 f (some m) 27 (nI n)) M P := by
  obtain ⟨a1, a2, a3, a4⟩ := hR 27 (by omega)
  have fin : ∀ n v, n ≤ n0 → v = nI n → n = drI (R 27) (n0 - 1) → wm m D (gb (rR 8 10 (some m)) fun v1 => gb (sI 1 v1 27 v) fun _ => gp ()) M P := by
    intro n v hn1 hv e
    refine wm_b (wm_rR (k := 10) (t := 1) (by decide) (wm_b (wm_sI (k := 10) (t := 1) (j := 27) (by decide) rfl (by decide) (wm_p (hP _ (Ex.a (by decide)) ?_)))))
    rw [gnar1, hv]
    refine hR.put (by omega) (by rw [List.length_take]; omega) (a3.take _) ?_ ?_ (fun k hk => ?_) (fun k j _ _ _ => ?_)
    · rw [mA_uA, if_pos ⟨rfl, rfl⟩, List.length_take, ← e]
      congr 1
      omega
    · exact (a4.take _).keep (fun j _ => by rw [mA_uA, if_neg (fun z => absurd z.1 (by decide))])
    · rw [mA_uA, if_neg (fun z => hk z.2)]
    · rw [mA_uA, if_neg (fun z => absurd z.1 (by decide))]
  intro n
  induction n with
  | zero =>
    intro f hf hn1 e hpos
    obtain ⟨f, rfl⟩ : ∃ g, f = g + 1 := ⟨f - 1, by omega⟩
    rw [f_X9_dropSegment_L10]
    unfold f_X9_dropSegment_10 f_X9_dropSegment_40
    refine wm_t (by decide) ?_
    have z : n0 = 0 := by omega
    exact fin 0 _ (by omega) (by decide) (by rw [z]; rfl)
  | succ n ih =>
    intro f hf hn1 e hpos
    obtain ⟨f, rfl⟩ : ∃ g, f = g + 1 := ⟨f - 1, by omega⟩
    rw [f_X9_dropSegment_L10]
    unfold f_X9_dropSegment_10 f_X9_dropSegment_40 f_X9_row
    refine wm_f (nI_nle (by omega) (by omega)) ?_
    refine wm_b (wm_rR (k := 9) (t := 0) (by decide) ?_)
    refine wm_n (wm_b (wm_p ?_))
    have ei : (2400 * ((6 * 4) + 3) : Int32) + nI (n + 1) - 1 = nI (64800 + n) := by
      rw [show (2400 * ((6 * 4) + 3) : Int32) = nI 64800 from rfl, nI_add, ← Nat.add_assoc, nI_pred]
    refine wm_b (wm_aI (k := 9) (t := 0) (by decide) ei (show 64800 + n < 72000 by omega) ?_)
    rw [show mA M 9 (64800 + n) = sb ((R 27).getD n 0) from a4 n (by omega)]
    obtain ⟨b, hb, eb⟩ := a3.get (j := n) (by omega)
    have i47 : sb ((R 27).getD n 0) = 47 ↔ (R 27).getD n 0 = 47 := by
      rw [eb]
      refine ⟨fun z => ?_, fun z => by rw [z]; decide⟩
      have := sb_i hb (b := 47) (by omega) (z.trans (by decide))
      rw [this]
      rfl
    have last : (R 27).getD n 0 = 47 → drI (R 27) n = n := fun z => by
      cases n with
      | zero => rfl
      | succ n => rw [drI, if_pos z]
    refine wm_if (fun c => ?_) (fun c => ?_)
    · have c := i47.mp c
      refine fin n _ (by omega) ?_ (by rw [← e]; exact (last c).symm)
      rw [nI_pred]
      by_cases z : n = 0
      · rw [z]; rfl
      · rw [if_pos (show (0 : Int32) < nI n from nI_lt (a := 0) (b := n) (by omega) (by omega))]
    · have c : ¬ (R 27).getD n 0 = 47 := fun z => c (i47.mpr z)
      rw [pk_m1]
      have np : 0 < n := by
        rcases Nat.eq_zero_or_pos n with z | z
        · subst z
          rcases h0 with y | y
          · omega
          · exact absurd y c
        · exact z
      obtain ⟨k, rfl⟩ : ∃ k, n = k + 1 := ⟨n - 1, by omega⟩
      refine ih f (by omega) (by omega) ?_ (fun _ => np)
      rw [← e]
      show drI (R 27) k = drI (R 27) (k + 1)
      rw [drI, if_neg c]
theorem drS_row {U : UV} (h : sgO U) (hl : (uR U 6).length < 2 ^ 31) : uR (drS U) 6 = (uR U 6).take (drI (uR U 6) ((uR U 6).length - 1)) := by
  unfold drS
  by_cases c : uI U 7 = 0
  · rw [if_pos c]
    rw [h.1] at c
    have hc := cn_le (uR U 6)
    have c := (nI_eq (a := cn (uR U 6)) (b := 0) (by omega) (by omega)).mp c
    rcases h.2 with z | z
    · rw [z]; rfl
    · have : 0 < (uR U 6).length := by
        rcases Nat.eq_zero_or_pos (uR U 6).length with y | y
        · rw [List.eq_nil_of_length_eq_zero y] at z
          exact absurd z (by decide)
        · exact y
      have := drI_cn z ((uR U 6).length - 1) (by omega)
      rw [show (uR U 6).length - 1 + 1 = (uR U 6).length by omega, List.take_length] at this
      omega
  · rw [if_neg c]
    show uR (vI (vR U 6 _) 7 _) 6 = _
    rw [uR_I, uR_R, if_pos rfl]
theorem m_drop (hR : Rw M R) (hA : PA M R 4 U) (hs : sgO U) (hP : ∀ M' R', Fw [9, 10] [27] M R M' R' → Rw M' R' → PA M' R' 4 (drS U) → P () M') : wm m D (f_X9_dropSegment (some m)) M P := by
  obtain ⟨a1, a2, a3, a4⟩ := hR 27 (by omega)
  have e6 : R 27 = uR U 6 := hA.1.2.2.1
  unfold f_X9_dropSegment
  refine wm_get (k := 10) (t := 1) (j := 27) (by decide) rfl (by decide) ?_
  rw [a1]
  refine m_dropL hR rfl (fun M' E W => hP M' _ (Fw.row E) W ?_) ?_ (R 27).length gF (by unfold gF; omega) (Nat.le_refl _) rfl id
  · have A := hA.row (ys := (R 27).take (drI (R 27) ((R 27).length - 1))) E (k := 6) (q := 27) (Or.inr (Or.inr (Or.inl ⟨rfl, rfl⟩)))
    obtain ⟨⟨b1, b2, b3, b4, b5⟩, b6, b7, b8, b9⟩ := A
    obtain ⟨f1, f2, f3, f4⟩ := drS_fx (U := U)
    refine ⟨⟨?_, ?_, ?_, ?_, ?_⟩, ?_, ?_, ?_, ?_⟩
    · rw [f1 2 (by decide)]; exact b1
    · rw [f1 3 (by decide)]; exact b2
    · rw [drS_row hs (by rw [← e6]; omega), ← e6]; exact b3
    · rw [f1 8 (by decide)]; exact b4
    · rw [f1 10 (by decide)]; exact b5
    · rw [f2 0 (by decide)]; exact b6
    · rw [f2 5 (by decide)]; exact b7
    · rw [f2 9 (by decide)]; exact b8
    · rw [f2 11 (by decide)]; exact b9
  · rcases hs.2 with z | z
    · left
      rw [e6, z]
      rfl
    · right
      rw [e6]
      exact z
end MA
