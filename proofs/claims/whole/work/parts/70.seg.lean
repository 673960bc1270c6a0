/-! URLREADER: segments, query, fragment -/
def escs (xs : List Int32) (t : Nat) : Nat → Nat → List Int32
  | 0, _ => []
  | m + 1, i => esc (xs.getD i (-1)) t ++ escs xs t m (i + 1)
theorem escs_len (xs : List Int32) (t : Nat) : ∀ m i, (escs xs t m i).length ≤ 3 * m
  | 0, i => Nat.le_refl _
  | m + 1, i => by
    have h1 := escs_len xs t m (i + 1)
    have h2 := esc_len (xs.getD i (-1)) t
    rw [escs, List.length_append]
    omega
/-- how many / there are -/
def cn (xs : List Int32) : Nat := xs.count 47
theorem cn_app (xs ys : List Int32) : cn (xs ++ ys) = cn xs + cn ys := List.count_append
theorem cn_1 (x : Int32) : cn [x] = if x = 47 then 1 else 0 := by
  unfold cn
  rw [List.count_singleton]
  by_cases h : x = 47
  · rw [if_pos h, if_pos (by rw [h]; rfl)]
  · rw [if_neg h, if_neg (fun z => h (by simpa using z))]
/-- a record's SEGMENTS are counted right -/
def sgO (U : UV) : Prop := uI U 7 = nI (cn (uR U 6)) ∧ (uR U 6 = [] ∨ (uR U 6).getD 0 0 = 47)
theorem take_s {xs : List Int32} {n : Nat} (h : n < xs.length) : xs.take (n + 1) = xs.take n ++ [xs.getD n 0] := by
  rw [List.take_add_one, List.getElem?_eq_getElem h, List.getD_eq_getElem?_getD, List.getElem?_eq_getElem h]
  rfl
theorem drI_cn {xs : List Int32} (h0 : xs.getD 0 0 = 47) : ∀ n, n < xs.length → cn (xs.take (drI xs n)) + 1 = cn (xs.take (n + 1))
  | 0, h => by
    rw [take_s h, h0, drI, List.take_zero, List.nil_append]
    decide
  | n + 1, h => by
    rw [take_s h, cn_app, cn_1, drI]
    by_cases c : xs.getD (n + 1) 0 = 47
    · rw [if_pos c, if_pos c]
    · rw [if_neg c, if_neg c, drI_cn h0 n (by omega)]
      omega
theorem cn_le (xs : List Int32) : cn xs ≤ xs.length := List.count_le_length
theorem drS_ok {U : UV} (h : sgO U) (hl : (uR U 6).length ≤ 4096) : sgO (drS U) ∧ (uR (drS U) 6).length ≤ (uR U 6).length ∧ (uI U 7 ≠ 0 → 0 < (uR U 6).length) := by
  unfold drS
  have hc := cn_le (uR U 6)
  by_cases c : uI U 7 = 0
  · rw [if_pos c]
    exact ⟨h, Nat.le_refl _, fun z => absurd c z⟩
  · rw [if_neg c]
    obtain ⟨h1, h2⟩ := h
    have hne : uR U 6 ≠ [] := fun z => c (by rw [h1, z]; rfl)
    have h2 := h2.resolve_left hne
    have hp : 0 < (uR U 6).length := List.length_pos_iff.mpr hne
    have hk := drI_cn h2 ((uR U 6).length - 1) (by omega)
    have hd := drI_le (uR U 6) ((uR U 6).length - 1)
    rw [show (uR U 6).length - 1 + 1 = (uR U 6).length by omega, List.take_length] at hk
    refine ⟨⟨?_, ?_⟩, ?_, fun _ => hp⟩
    · rw [uI_I, if_pos rfl, uR_I, uR_R, if_pos rfl, h1, show (1 : Int32) = nI 1 from rfl, pk_sub (by omega)]
      congr 1
      omega
    · rw [uR_I, uR_R, if_pos rfl]
      rcases Nat.eq_zero_or_pos (drI (uR U 6) ((uR U 6).length - 1)) with z | z
      · left
        rw [z, List.take_zero]
      · right
        rw [List.getD_eq_getElem?_getD, List.getElem?_take, if_pos z, ← List.getD_eq_getElem?_getD]
        exact h2
    · rw [uR_I, uR_R, if_pos rfl, List.length_take]
      omega
theorem hd_app {xs ys : List Int32} (h : xs.getD 0 0 = 47) (hne : xs ≠ []) : (xs ++ ys).getD 0 0 = 47 := by
  cases xs with
  | nil => exact absurd rfl hne
  | cons a as => exact h
theorem bgS_ok {U : UV} (h : sgO U) : sgO (bgS U) ∧ uR (bgS U) 6 = uR U 6 ++ [47] := by
  obtain ⟨h1, h2⟩ := h
  have e : uR (bgS U) 6 = uR U 6 ++ [47] := by rw [bgS, uR_I, uR_R, if_pos rfl]
  refine ⟨⟨?_, Or.inr ?_⟩, e⟩
  · rw [e, cn_app, bgS, uI_I, if_pos rfl, h1, nI_1]
    rfl
  · rw [e]
    rcases h2 with z | z
    · rw [z]; rfl
    · by_cases c : uR U 6 = []
      · rw [c]; rfl
      · exact hd_app z c
theorem hex_47 : ∀ i, i < 16 → ¬ (tstr 7).getD i 0 = 47 := by decide
theorem cn_esc {b : Int32} {t : Nat} (hb : b ≠ 47) : cn (esc b t) = 0 := by
  unfold esc
  split
  · rw [cn_1, if_neg hb]
  · obtain ⟨i1, hi1, e1⟩ := pk_andE (((b.toUInt32 >>> ((4 : Int32).toUInt32 &&& Int32.toUInt32 31)).toInt32)) (m := 15) 4 (by decide)
    obtain ⟨i2, hi2, e2⟩ := pk_andE b (m := 15) 4 (by decide)
    rw [e1, e2, nI_clamp (by omega), nI_clamp (by omega)]
    have a1 := hex_47 i1 (by omega)
    have a2 := hex_47 i2 (by omega)
    generalize (tstr 7).getD i1 0 = x at *
    generalize (tstr 7).getD i2 0 = z at *
    rw [show ([37, x, z] : List Int32) = [37] ++ [x] ++ [z] from rfl, cn_app, cn_app, cn_1, cn_1, cn_1, if_neg a1, if_neg a2]
    decide
theorem cn_escs {xs : List Int32} {t : Nat} : ∀ m i, (∀ j, i ≤ j → j < i + m → xs.getD j (-1) ≠ 47) → cn (escs xs t m i) = 0
  | 0, i, h => rfl
  | m + 1, i, h => by rw [escs, cn_app, cn_esc (h i (by omega) (by omega)), cn_escs m (i + 1) (fun j h1 h2 => h j (by omega) (by omega))]
theorem dvS_no (xs : List Int32) : ∀ m i j, i ≤ j → j < dvS xs m i → pDiv (xs.getD j (-1)) = 0
  | 0, i, j, h1, h2 => by rw [dvS] at h2; omega
  | m + 1, i, j, h1, h2 => by
    rw [dvS] at h2
    by_cases c : pDiv (xs.getD i (-1)) = 0
    · rw [if_pos c] at h2
      rcases Nat.eq_or_lt_of_le h1 with z | z
      · rw [← z]; exact c
      · exact dvS_no xs m (i + 1) j z h2
    · rw [if_neg c] at h2
      omega
theorem pDiv_47 {b : Int32} (h : pDiv b = 0) : b ≠ 47 := fun z => by rw [z] at h; exact absurd h (by decide)
theorem pSla_01 (b : Int32) : pSla b = 0 ∨ pSla b = 1 := by
  unfold pSla
  repeat' (first | exact Or.inl rfl | exact Or.inr rfl | split)
/-- what . and .. do, then the next segment's / -/
def tk1 (n : Nat) (U : UV) : UV := if n = 2 then drS U else U
def tk2 (n : Nat) (mo : Bool) (U : UV) : UV := if n = 0 ∨ mo = false then bgS (tk1 n U) else tk1 n U
def tkS (xs : List Int32) (a b : Nat) (mo : Bool) (U : UV) : UV := if ptS xs b gF 0 a = 0 then vR (tk2 0 mo U) 6 (uR (tk2 0 mo U) 6 ++ escs xs 15 (b - a) a) else tk2 (ptS xs b gF 0 a) mo U
theorem tk1_ok {U : UV} {n : Nat} (h : sgO U) (hl : (uR U 6).length ≤ 4096) : sgO (tk1 n U) ∧ (uR (tk1 n U) 6).length ≤ (uR U 6).length := by
  unfold tk1
  split
  · exact ⟨(drS_ok h hl).1, (drS_ok h hl).2.1⟩
  · exact ⟨h, Nat.le_refl _⟩
theorem tk2_ok {U : UV} {n : Nat} {mo : Bool} (h : sgO U) (hl : (uR U 6).length ≤ 4096) : sgO (tk2 n mo U) ∧ (uR (tk2 n mo U) 6).length ≤ (uR U 6).length + 1 := by
  obtain ⟨h1, h2⟩ := tk1_ok (n := n) h hl
  unfold tk2
  split
  · refine ⟨(bgS_ok h1).1, ?_⟩
    rw [(bgS_ok h1).2, List.length_append]
    simp only [List.length_cons, List.length_nil]
    omega
  · exact ⟨h1, by omega⟩
theorem sg_app {U : UV} {ys : List Int32} (h : sgO U) (hne : uR U 6 ≠ []) (hc : cn ys = 0) : sgO (vR U 6 (uR U 6 ++ ys)) := by
  obtain ⟨h1, h2⟩ := h
  refine ⟨?_, Or.inr ?_⟩
  · rw [uI_R, uR_R, if_pos rfl, cn_app, hc, h1, Nat.add_zero]
  · rw [uR_R, if_pos rfl]
    exact hd_app (h2.resolve_left hne) hne
theorem tkS_ok {xs : List Int32} {U : UV} {a b : Nat} {mo : Bool} (h : sgO U) (hl : (uR U 6).length ≤ 4096) (hb : ∀ j, a ≤ j → j < b → xs.getD j (-1) ≠ 47) : sgO (tkS xs a b mo U) ∧ (uR (tkS xs a b mo U) 6).length ≤ (uR U 6).length + 1 + 3 * (b - a) := by
  unfold tkS
  split
  · obtain ⟨h1, h2⟩ := tk2_ok (n := 0) (mo := mo) h hl
    have h3 := escs_len xs 15 (b - a) a
    refine ⟨sg_app h1 ?_ (cn_escs _ _ (fun j h1 h2 => hb j h1 (by omega))), ?_⟩
    · rw [tk2, if_pos (Or.inl rfl), (bgS_ok (tk1_ok (n := 0) h hl).1).2]
      simp
    · rw [uR_R, if_pos rfl, List.length_append]
      omega
  · obtain ⟨h1, h2⟩ := tk2_ok (n := ptS xs b gF 0 a) (mo := mo) h hl
    exact ⟨h1, by omega⟩
theorem ptS_le (xs : List Int32) (b : Nat) : ∀ f n i, ptS xs b f n i ≤ 2
  | 0, n, i => by rw [ptS]; omega
  | f + 1, n, i => by
    have h1 := ptS_le xs b f (n + 1) (i + 1)
    have h3 := ptS_le xs b f (n + 1) (i + 3)
    rw [ptS]
    split
    · split <;> omega
    · split
      · exact h1
      · split
        · omega
        · split
          · exact h3
          · omega
section SG
variable {σ0 : gS} {y q u p : Nat} {xs : List Int32} {Q : Unit → gS → Prop}
theorem sp_tk36 {e : Nat} (A : Ac σ0 y q u) (he : e ≤ xs.length) : ∀ (m i f : Nat) (U : UV) (σ : gS), i + m = e → m < f → Ld σ0 σ y q u xs U p → (uR U 6).length + 3 * m ≤ 4096 → (∀ σ', Ld σ0 σ' y q u xs (vR U 6 (uR U 6 ++ escs xs 15 m i)) p → Q () σ') → wp (f_X7_takeSegment_L36 f (some y) (nI e) (some u) (nI 0) (nI i)) σ Q := by
  intro m
  induction m with
  | zero =>
    intro i f U σ hi hf L hl6 hQ
    have hl := L.2.2.1.2.2.2
    obtain ⟨f, rfl⟩ : ∃ g, f = g + 1 := ⟨f - 1, by omega⟩
    rw [f_X7_takeSegment_L36]
    unfold f_X7_takeSegment_36
    rw [escs, List.append_nil, vR_id] at hQ
    exact wp_t (nI_le (by omega) (by omega)) (wp_p (hQ σ L))
  | succ m ih =>
    intro i f U σ hi hf L hl6 hQ
    have hl := L.2.2.1.2.2.2
    obtain ⟨f, rfl⟩ : ∃ g, f = g + 1 := ⟨f - 1, by omega⟩
    rw [f_X7_takeSegment_L36]
    unfold f_X7_takeSegment_36
    have hE := esc_len (xs.getD i (-1)) 15
    refine wp_f (nI_ge (by omega) (by omega)) (wp_t rfl (L.2.2.2.1.rd L.2.2.1.1 (by decide) (L.2.2.1.b (by omega) (ld_esc A L (by decide) (by omega) (by omega) (fun σ1 L1 => ?_)))))
    rw [nI_1]
    refine ih (i + 1) f _ σ1 (by omega) (by omega) L1 (by rw [uR_R, if_pos rfl, List.length_append]; omega) (fun σ' L' => hQ σ' ?_)
    rw [vR_vR, uR_R, if_pos rfl, List.append_assoc] at L'
    exact L'
theorem sp_takeSegment {σ : gS} {a b : Nat} {mo : Bool} {U : UV} (A : Ac σ0 y q u) (hab : a ≤ b) (hb : b ≤ xs.length) (L : Ld σ0 σ y q u xs U p) (hs : sgO U) (hl6 : (uR U 6).length + 1 + 3 * (b - a) ≤ 4096) (hQ : ∀ σ', Ld σ0 σ' y q u xs (tkS xs a b mo U) p → Q () σ') : wp (f_X7_takeSegment (some y) (nI a) (nI b) (b2i mo) (some u)) σ Q := by
  have hl := L.2.2.1.2.2.2
  unfold f_X7_takeSegment
  refine wp_b (wp_nn L.2.2.1.2.1 (wp_b ?_))
  unfold f_X7_pointsIn
  refine sp_ptS L.2.2.1 hb gF 0 a (by show _ < 10000; omega) (by omega) hab ?_
  have hn := ptS_le xs b gF 0 a
  unfold tkS at hQ
  generalize ptS xs b gF 0 a = n at *
  have h19 : ∀ σ1, Ld σ0 σ1 y q u xs (tk1 n U) p → wp (f_X7_takeSegment_19 (some y) (nI a) (nI b) (b2i mo) (some u) (nI n)) σ1 Q := by
    intro σ1 L1
    obtain ⟨o1, o2⟩ := tk1_ok (n := n) hs (by omega)
    obtain ⟨o3, o4⟩ := tk2_ok (n := n) (mo := mo) hs (by omega)
    have tail : ∀ σ2, Ld σ0 σ2 y q u xs (tk2 n mo U) p → wp (f_X7_takeSegment_L36 gF (some y) (nI b) (some u) (nI n) (nI a)) σ2 Q := by
      intro σ2 L2
      by_cases c : n = 0
      · subst c
        rw [if_pos rfl] at hQ
        exact sp_tk36 A hb (b - a) a gF _ σ2 (by omega) (by show _ < 10000; omega) L2 (by omega) hQ
      · rw [if_neg c] at hQ
        rw [show gF = 9999 + 1 from rfl, f_X7_takeSegment_L36]
        unfold f_X7_takeSegment_36
        exact wp_if (fun _ => wp_p (hQ σ2 L2)) (fun _ => wp_f (nI_ne0 (by omega) (by omega)) (wp_p (hQ σ2 L2)))
    have h28 : (n = 0 ∨ mo = false) → wp (f_X7_takeSegment_28 (some y) (nI a) (nI b) (some u) (nI n)) σ1 Q := by
      intro c
      unfold f_X7_takeSegment_28
      have A1 := L1.ac A
      refine wp_b (wp_nn L1.2.2.2.1.1 (wp_b (sp_beginSegment L1.2.2.1.1 L1.2.2.2.1 (by omega) A1.2.2.2.2 (fun σ2 T => tail σ2 ?_))))
      rw [tk2, if_pos c]
      exact L1.url A T
    unfold f_X7_takeSegment_19
    refine wp_if (fun c => h28 (Or.inl ((nI_eq (b := 0) (by omega) (by omega)).mp c))) (fun c => ?_)
    have c : ¬ n = 0 := fun z => c (by rw [z]; rfl)
    cases mo with
    | false => exact wp_t rfl (h28 (Or.inr rfl))
    | true =>
      refine wp_f (by decide) (tail σ1 ?_)
      rw [tk2, if_neg (fun z => z.elim c (by decide))]
      exact L1
  refine wp_if (fun c => ?_) (fun c => ?_)
  · have c := (nI_eq (b := 2) (by omega) (by omega)).mp c
    refine wp_b (wp_nn L.2.2.2.1.1 (wp_b (sp_dropSegment L.2.2.1.1 L.2.2.2.1 (by omega) (drS_ok hs (by omega)).2.2 (fun σ1 T => h19 σ1 ?_))))
    rw [tk1, if_pos c]
    exact L.url A T
  · have c : ¬ n = 2 := fun z => c (by rw [z]; rfl)
    refine h19 σ ?_
    rw [tk1, if_neg c]
    exact L
/-- segments from place a on; where they end -/
def sgL (xs : List Int32) : Nat → Nat → UV → UV × Nat
  | 0, a, U => (U, a)
  | f + 1, a, U => if pSla (xs.getD (dvS xs (xs.length - a) a) (-1)) = 0 then (tkS xs a (dvS xs (xs.length - a) a) false U, dvS xs (xs.length - a) a) else sgL xs f (dvS xs (xs.length - a) a + 1) (tkS xs a (dvS xs (xs.length - a) a) true U)
theorem gd_out {xs : List Int32} {i : Nat} (h : xs.length ≤ i) : xs.getD i (-1) = -1 := by
  rw [List.getD_eq_getElem?_getD, List.getElem?_eq_none h]
  rfl
theorem sp_sgL (A : Ac σ0 y q u) : ∀ (f a p : Nat) (U : UV) (σ : gS), xs.length + 1 - a < f → a ≤ xs.length → Ld σ0 σ y q u xs U p → sgO U → (uR U 6).length + 3 * (xs.length - a) + 1 ≤ 4096 → (∀ σ', Ld σ0 σ' y q u xs (sgL xs f a U).1 (sgL xs f a U).2 → Q () σ') → wp (f_X7_readSegments_L7 f (some y) (some u) (nI a) 1) σ Q := by
  intro f
  induction f with
  | zero => intro a p U σ h; omega
  | succ f ih =>
    intro a p U σ hf ha L hs hl6 hQ
    have hl := L.2.2.1.2.2.2
    obtain ⟨d1, d2⟩ := dvS_le xs (xs.length - a) a
    have dno := fun j h1 h2 => pDiv_47 (dvS_no xs (xs.length - a) a j h1 h2)
    rw [sgL] at hQ
    -- behind the scan
    have h58 : wp (f_X7_readSegments_58 (f_X7_readSegments_L7 f) (some y) (some u) (nI a) (nI (dvS xs (xs.length - a) a))) σ Q := by
      generalize dvS xs (xs.length - a) a = t at *
      unfold f_X7_readSegments_58
      refine L.2.2.1.b (by omega) (wp_b (sp_isSlash (wp_b (wp_nn L.2.2.1.2.1 (wp_b ?_)))))
      rcases pSla_01 (xs.getD t (-1)) with c | c
      · rw [if_pos c] at hQ
        rw [c]
        refine sp_takeSegment (mo := false) A d1 (by omega) L hs (by omega) (fun σ1 L1 => ld_wp A L1 (fun σ2 L2 => ?_))
        obtain ⟨g, rfl⟩ : ∃ g, f = g + 1 := ⟨f - 1, by omega⟩
        rw [f_X7_readSegments_L7]
        unfold f_X7_readSegments_7
        exact wp_t rfl (wp_p (hQ σ2 L2))
      · rw [if_neg (by rw [c]; decide)] at hQ
        have tl : t < xs.length := by
          rcases Nat.lt_or_ge t xs.length with z | z
          · exact z
          · rw [gd_out z] at c
            exact absurd c (by decide)
        rw [c]
        obtain ⟨o1, o2⟩ := tkS_ok (mo := true) hs (by omega) dno
        refine sp_takeSegment (mo := true) A d1 (by omega) L hs (by omega) (fun σ1 L1 => ld_wp A L1 (fun σ2 L2 => ?_))
        rw [nI_1]
        exact ih (t + 1) t _ σ2 (by omega) (by omega) L2 o1 (by omega) hQ
    have h25 : ∀ (m i f' : Nat), i + m = xs.length → m < f' → dvS xs m i = dvS xs (xs.length - a) a → wp (f_X7_readSegments_L25 (f_X7_readSegments_L7 f) f' (some y) (some u) (nI a) (nI i)) σ Q := by
      intro m
      induction m with
      | zero =>
        intro i f' hi hf' e
        obtain ⟨f', rfl⟩ : ∃ g, f' = g + 1 := ⟨f' - 1, by omega⟩
        rw [f_X7_readSegments_L25]
        unfold f_X7_readSegments_25
        rw [dvS] at e
        refine L.2.2.1.l (wp_t (nI_le (by omega) (by omega)) ?_)
        rw [e]
        exact h58
      | succ m ihm =>
        intro i f' hi hf' e
        obtain ⟨f', rfl⟩ : ∃ g, f' = g + 1 := ⟨f' - 1, by omega⟩
        rw [f_X7_readSegments_L25]
        unfold f_X7_readSegments_25
        rw [dvS] at e
        refine L.2.2.1.l (wp_f (nI_ge (by omega) (by omega)) (L.2.2.1.b (by omega) (wp_b (sp_isDivider (wp_if (fun c => ?_) (fun c => ?_))))))
        · rw [if_pos c] at e
          rw [nI_1]
          exact ihm (i + 1) f' (by omega) (by omega) e
        · rw [if_neg c] at e
          rw [e]
          exact h58
    rw [f_X7_readSegments_L7]
    unfold f_X7_readSegments_7
    exact wp_f (by decide) (L.2.2.1.l (wp_f (nI_nlt (by omega) (by omega)) (h25 (xs.length - a) a gF (by omega) (by show _ < 10000; omega) rfl)))
theorem sp_readSegments {σ : gS} {U : UV} (A : Ac σ0 y q u) (hp : p ≤ xs.length) (L : Ld σ0 σ y q u xs U p) (hs : sgO U) (hl6 : (uR U 6).length + 3 * (xs.length - p) + 1 ≤ 4096) (hQ : ∀ σ', Ld σ0 σ' y q u xs (sgL xs gF p U).1 (sgL xs gF p U).2 → Q () σ') : wp (f_X7_readSegments (some y) (some u)) σ Q := by
  have hl := L.2.2.1.2.2.2
  unfold f_X7_readSegments
  exact ld_rh L (sp_sgL A gF p p U σ (by show _ < 10000; omega) hp L hs hl6 hQ)
def hsS (xs : List Int32) : Nat → Nat → Nat
  | 0, i => i
  | m + 1, i => if xs.getD i (-1) = 35 then i else hsS xs m (i + 1)
theorem hsS_le (xs : List Int32) : ∀ m i, i ≤ hsS xs m i ∧ hsS xs m i ≤ i + m
  | 0, i => by simp [hsS]
  | m + 1, i => by
    have := hsS_le xs m (i + 1)
    rw [hsS]
    split <;> omega
/-- the record with its QUERY, where that ends -/
def quU (xs : List Int32) (p : Nat) (U : UV) : UV × Nat := if xs.getD p (-1) = 63 then (vR (vI U 9 1) 8 (uR U 8 ++ escs xs 16 (hsS xs (xs.length - (p + 1)) (p + 1) - (p + 1)) (p + 1)), hsS xs (xs.length - (p + 1)) (p + 1)) else (U, p)
def frU (xs : List Int32) (p : Nat) (U : UV) : UV := if xs.getD p (-1) = 35 then vR (vI U 11 1) 10 (uR U 10 ++ escs xs 17 (xs.length - (p + 1)) (p + 1)) else U
theorem sp_quL (A : Ac σ0 y q u) : ∀ (m i f : Nat) (U : UV) (σ : gS), i + m = xs.length → m < f → Ld σ0 σ y q u xs U i → (uR U 8).length + 3 * m ≤ 4096 → (∀ σ', Ld σ0 σ' y q u xs (vR U 8 (uR U 8 ++ escs xs 16 (hsS xs m i - i) i)) (hsS xs m i) → Q () σ') → wp (f_X7_readQuery_L32 f (some y) (some u)) σ Q := by
  intro m
  induction m with
  | zero =>
    intro i f U σ hi hf L hl8 hQ
    have hl := L.2.2.1.2.2.2
    obtain ⟨f, rfl⟩ : ∃ g, f = g + 1 := ⟨f - 1, by omega⟩
    rw [f_X7_readQuery_L32]
    unfold f_X7_readQuery_32
    rw [hsS, Nat.sub_self, escs, List.append_nil, vR_id] at hQ
    exact ld_rh L (L.2.2.1.l (wp_t (nI_le (by omega) (by omega)) (wp_p (hQ σ L))))
  | succ m ih =>
    intro i f U σ hi hf L hl8 hQ
    have hl := L.2.2.1.2.2.2
    obtain ⟨f, rfl⟩ : ∃ g, f = g + 1 := ⟨f - 1, by omega⟩
    rw [f_X7_readQuery_L32]
    unfold f_X7_readQuery_32
    rw [hsS] at hQ
    have hE := esc_len (xs.getD i (-1)) 16
    refine ld_rh L (L.2.2.1.l (wp_f (nI_ge (by omega) (by omega)) (L.2.2.1.bh L.2.2.2.2 (by omega) (wp_if (fun c => ?_) (fun c => ?_)))))
    · rw [if_pos c, Nat.sub_self, escs, List.append_nil, vR_id] at hQ
      exact wp_p (hQ σ L)
    · rw [if_neg c] at hQ
      refine L.2.2.2.1.rd L.2.2.1.1 (by decide) (L.2.2.1.bh L.2.2.2.2 (by omega) (ld_esc A L (by decide) (by omega) (by omega) (fun σ1 L1 => ld_rh L1 ?_)))
      rw [nI_1]
      refine ld_wp A L1 (fun σ2 L2 => ?_)
      have h1 := (hsS_le xs m (i + 1)).1
      refine ih (i + 1) f _ σ2 (by omega) (by omega) L2 (by rw [uR_R, if_pos rfl, List.length_append]; omega) (fun σ' L' => hQ σ' ?_)
      rw [vR_vR, uR_R, if_pos rfl, List.append_assoc] at L'
      rw [show hsS xs m (i + 1) - i = (hsS xs m (i + 1) - (i + 1)) + 1 by omega, escs]
      exact L'
theorem sp_readQuery {σ : gS} {U : UV} (A : Ac σ0 y q u) (hp : p ≤ xs.length) (L : Ld σ0 σ y q u xs U p) (hl8 : (uR U 8).length + 3 * xs.length ≤ 4096) (hQ : ∀ σ', Ld σ0 σ' y q u xs (quU xs p U).1 (quU xs p U).2 → Q () σ') : wp (f_X7_readQuery (some y) (some u)) σ Q := by
  have hl := L.2.2.1.2.2.2
  unfold f_X7_readQuery
  unfold quU at hQ
  refine L.2.2.1.bh L.2.2.2.2 (by omega) (wp_if (fun c => ?_) (fun c => ?_))
  · rw [if_pos c] at hQ
    have hlt : p < xs.length := by
      rcases Nat.lt_or_ge p xs.length with z | z
      · exact z
      · rw [gd_out z] at c
        exact absurd c (by decide)
    refine ur_wZ L.2.2.1.1 L.2.2.2.1.1 (UrTo.rf L.2.2.1.1 L.2.2.2.1) (Or.inr rfl) (fun σ1 T => ?_)
    have L1 := L.url A T
    refine ld_rh L1 ?_
    rw [nI_1]
    refine ld_wp A L1 (fun σ2 L2 => ?_)
    exact sp_quL A (xs.length - (p + 1)) (p + 1) gF _ σ2 (by omega) (by show _ < 10000; omega) L2 (by rw [uR_I]; omega) hQ
  · rw [if_neg c] at hQ
    exact wp_p (hQ σ L)
theorem sp_frL (A : Ac σ0 y q u) : ∀ (m i f : Nat) (U : UV) (σ : gS), i + m = xs.length → m < f → Ld σ0 σ y q u xs U p → (uR U 10).length + 3 * m ≤ 4096 → (∀ σ', Ld σ0 σ' y q u xs (vR U 10 (uR U 10 ++ escs xs 17 m i)) p → Q () σ') → wp (f_X7_readFragment_L29 f (some y) (some u) (nI i)) σ Q := by
  intro m
  induction m with
  | zero =>
    intro i f U σ hi hf L hl8 hQ
    have hl := L.2.2.1.2.2.2
    obtain ⟨f, rfl⟩ : ∃ g, f = g + 1 := ⟨f - 1, by omega⟩
    rw [f_X7_readFragment_L29]
    unfold f_X7_readFragment_29
    rw [escs, List.append_nil, vR_id] at hQ
    exact L.2.2.1.l (wp_t (nI_le (by omega) (by omega)) (wp_p (hQ σ L)))
  | succ m ih =>
    intro i f U σ hi hf L hl8 hQ
    have hl := L.2.2.1.2.2.2
    obtain ⟨f, rfl⟩ : ∃ g, f = g + 1 := ⟨f - 1, by omega⟩
    rw [f_X7_readFragment_L29]
    unfold f_X7_readFragment_29
    have hE := esc_len (xs.getD i (-1)) 17
    refine L.2.2.1.l (wp_f (nI_ge (by omega) (by omega)) (L.2.2.2.1.rd L.2.2.1.1 (by decide) (L.2.2.1.b (by omega) (ld_esc A L (by decide) (by omega) (by omega) (fun σ1 L1 => ?_)))))
    rw [nI_1]
    refine ih (i + 1) f _ σ1 (by omega) (by omega) L1 (by rw [uR_R, if_pos rfl, List.length_append]; omega) (fun σ' L' => hQ σ' ?_)
    rw [vR_vR, uR_R, if_pos rfl, List.append_assoc] at L'
    exact L'
theorem sp_readFragment {σ : gS} {U : UV} (A : Ac σ0 y q u) (hp : p ≤ xs.length) (L : Ld σ0 σ y q u xs U p) (hl8 : (uR U 10).length + 3 * xs.length ≤ 4096) (hQ : ∀ σ', Ld σ0 σ' y q u xs (frU xs p U) p → Q () σ') : wp (f_X7_readFragment (some y) (some u)) σ Q := by
  have hl := L.2.2.1.2.2.2
  unfold f_X7_readFragment
  unfold frU at hQ
  refine L.2.2.1.bh L.2.2.2.2 (by omega) (wp_if (fun c => ?_) (fun c => ?_))
  · rw [if_pos c] at hQ
    have hlt : p < xs.length := by
      rcases Nat.lt_or_ge p xs.length with z | z
      · exact z
      · rw [gd_out z] at c
        exact absurd c (by decide)
    refine ur_wZ L.2.2.1.1 L.2.2.2.1.1 (UrTo.rf L.2.2.1.1 L.2.2.2.1) (Or.inr rfl) (fun σ1 T => ?_)
    have L1 := L.url A T
    refine ld_rh L1 ?_
    rw [nI_1]
    exact sp_frL A (xs.length - (p + 1)) (p + 1) gF _ σ1 (by omega) (by show _ < 10000; omega) L1 (by rw [uR_I]; omega) hQ
  · rw [if_neg c] at hQ
    exact wp_p (hQ σ L)
end SG
