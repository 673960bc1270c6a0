/-! WRITTEN HOSTs tell their numbers -/
theorem split46 {xs xs' ys ys' : List Int32} (h1 : (46 : Int32) ∉ xs) (h2 : (46 : Int32) ∉ xs') (h : xs ++ 46 :: ys = xs' ++ 46 :: ys') : xs = xs' ∧ ys = ys' := by
  induction xs generalizing xs' with
  | nil =>
    cases xs' with
    | nil => exact ⟨rfl, (List.cons.inj h).2⟩
    | cons a xs' =>
      exfalso
      have := (List.cons.inj h).1
      exact h2 (by rw [this]; exact List.mem_cons_self)
  | cons a xs ih =>
    cases xs' with
    | nil =>
      exfalso
      have := (List.cons.inj h).1
      exact h1 (by rw [← this]; exact List.mem_cons_self)
    | cons a' xs' =>
      obtain ⟨e1, e2⟩ := List.cons.inj h
      obtain ⟨i1, i2⟩ := ih (fun z => h1 (List.mem_cons_of_mem _ z)) (fun z => h2 (List.mem_cons_of_mem _ z)) e2
      exact ⟨by rw [e1, i1], i2⟩
theorem dec_t : ∀ n, n < 256 → (46 : Int32) ∉ decL 4 n ∧ (decL 4 n).foldl (fun a x => 10 * a + (x - 48).toNatClampNeg) 0 = n := by decide +kernel
theorem byt4_lt (v : Int32) (j : Nat) : byt4 v j < 256 := by
  unfold byt4
  omega
theorem dec_inj {a b : Nat} (ha : a < 256) (hb : b < 256) (h : decL 4 a = decL 4 b) : a = b := by
  rw [← (dec_t a ha).2, ← (dec_t b hb).2, h]
theorem four_inj {v v' : Int32} (h : fourL 3 v = fourL 3 v') : v = v' := by
  have n46 : ∀ v j, (46 : Int32) ∉ decL 4 (byt4 v j) := fun v j => (dec_t _ (byt4_lt v j)).1
  rw [fourL, fourL, fourL, fourL, fourL, fourL, fourL, fourL] at h
  simp only [List.append_assoc] at h
  obtain ⟨h3, h⟩ := split46 (n46 v 3) (n46 v' 3) h
  obtain ⟨h2, h⟩ := split46 (n46 v 2) (n46 v' 2) h
  obtain ⟨h1, h0⟩ := split46 (n46 v 1) (n46 v' 1) h
  have e3 := dec_inj (byt4_lt v 3) (byt4_lt v' 3) h3
  have e2 := dec_inj (byt4_lt v 2) (byt4_lt v' 2) h2
  have e1 := dec_inj (byt4_lt v 1) (byt4_lt v' 1) h1
  have e0 := dec_inj (byt4_lt v 0) (byt4_lt v' 0) h0
  unfold byt4 at e3 e2 e1 e0
  apply Int32.toBitVec_inj.mp
  apply BitVec.eq_of_toNat_eq
  have l1 := v.toBitVec.isLt
  have l2 := v'.toBitVec.isLt
  simp at e3 e2 e1 e0
  omega
/-- reading the numbers of SIX back: the number so far, those before, where the gap is -/
def stp (s : Option Nat × List Nat × Option Nat) (x : Int32) : Option Nat × List Nat × Option Nat := if x = 91 then s else if x = 93 then (none, s.2.1 ++ s.1.toList, s.2.2) else if x = 58 then (if s.1 = none then (none, s.2.1, some s.2.1.length) else (none, s.2.1 ++ s.1.toList, s.2.2)) else (some (16 * s.1.getD 0 + (hxN x).getD 0), s.2)
theorem hxd_b : ∀ d, d < 16 → (tstr 9).getD d 0 ≠ 91 ∧ (tstr 9).getD d 0 ≠ 93 ∧ (tstr 9).getD d 0 ≠ 58 ∧ hxN ((tstr 9).getD d 0) = some d := by decide +kernel
theorem stp_d {s : Option Nat × List Nat × Option Nat} {d : Nat} (hd : d < 16) : stp s ((tstr 9).getD d 0) = (some (16 * s.1.getD 0 + d), s.2) := by
  obtain ⟨h1, h2, h3, h4⟩ := hxd_b d hd
  unfold stp
  rw [if_neg h1, if_neg h2, if_neg h3, h4]
  rfl
theorem stp_hex {n : Nat} (hn : n < 65536) : ∀ (k : Nat) (s : Option Nat × List Nat × Option Nat), s.1.getD 0 = n / 2 ^ (4 * (k + 1)) → (hexL k n).foldl stp s = (some n, s.2)
  | 0, s, h => by
    rw [hexL, List.foldl_cons, List.foldl_nil, stp_d (by omega), h]
    congr 2
    have : n / 2 ^ (4 * (0 + 1)) = n / 16 := rfl
    omega
  | k + 1, s, h => by
    have dd : n / 2 ^ (4 * (k + 1 + 1)) = n / 2 ^ (4 * (k + 1)) / 16 := by
      rw [Nat.div_div_eq_div_mul, show 4 * (k + 1 + 1) = 4 * (k + 1) + 4 by omega, Nat.pow_add]
    rw [hexL]
    by_cases c : n / 2 ^ (4 * (k + 1)) = 0
    · rw [if_pos c, List.nil_append]
      refine stp_hex hn k s ?_
      rw [h, dd, c]
    · rw [if_neg c, List.foldl_append, List.foldl_cons, List.foldl_nil, stp_d (by omega)]
      rw [stp_hex hn k _ (by
        show 16 * s.1.getD 0 + n / 2 ^ (4 * (k + 1)) % 16 = _
        rw [h, dd]
        omega)]
def nL (w : Nat → Int32) (i j : Nat) : List Nat := (List.range (j - i)).map (fun t => num6 w (i + t))
theorem nL_s {w : Nat → Int32} {i j : Nat} (h : i ≤ j) : nL w i (j + 1) = nL w i j ++ [num6 w j] := by
  unfold nL
  rw [show j + 1 - i = (j - i) + 1 by omega, List.range_succ, List.map_append, List.map_singleton, show i + (j - i) = j by omega]
theorem nL_0 {w : Nat → Int32} {i : Nat} : nL w i i = [] := by
  unfold nL
  rw [Nat.sub_self]
  rfl
theorem nL_len (w : Nat → Int32) (i j : Nat) : (nL w i j).length = j - i := by
  unfold nL
  rw [List.length_map, List.length_range]
theorem nL_get {w : Nat → Int32} {i j t : Nat} (h : t < j - i) : (nL w i j).getD t 0 = num6 w (i + t) := by
  unfold nL
  rw [List.getD_eq_getElem?_getD, List.getElem?_map, List.getElem?_range h]
  rfl
/-- before number k -/
def stK (w : Nat → Int32) (g b k : Nat) : Option Nat × List Nat × Option Nat := if k = 0 then (none, [], none) else if k ≤ g then (some (num6 w (k - 1)), nL w 0 (k - 1), none) else if k ≤ b then (none, nL w 0 g, some g) else (some (num6 w (k - 1)), nL w 0 g ++ nL w b (k - 1), some g)
theorem stp58s {v : Nat} {p : List Nat} {g : Option Nat} : stp (some v, p, g) 58 = (none, p ++ [v], g) := rfl
theorem stp58n {p : List Nat} {g : Option Nat} : stp (none, p, g) 58 = (none, p, some p.length) := rfl
theorem stp_all {w : Nat → Int32} {g b : Nat} (hgb : (g = 8 ∧ b = 8) ∨ (g < b ∧ b ≤ 8)) : ∀ (m k : Nat), k + m = 8 → (sixL w g b m k).foldl stp (stK w g b k) = (none, (if g = 8 then nL w 0 8 else nL w 0 g ++ nL w b 8), if g = 8 then none else some g)
  | 0, k, h => by
    have k8 : k = 8 := by omega
    subst k8
    rw [sixL, List.foldl_cons, List.foldl_nil]
    unfold stK
    rw [if_neg (by omega)]
    by_cases c : g = 8
    · rw [if_pos (by omega), if_pos c, if_pos c, nL_s (j := 7) (by omega)]
      rfl
    · rw [if_neg (by omega), if_neg c, if_neg c]
      by_cases d : 8 ≤ b
      · rw [if_pos d, show b = 8 by omega, nL_0]
        show (none, nL w 0 g ++ [], some g) = _
        rfl
      · rw [if_neg d, nL_s (i := b) (j := 7) (by omega)]
        show (none, nL w 0 g ++ nL w b 7 ++ [num6 w 7], some g) = _
        rw [List.append_assoc]
  | m + 1, k, h => by
    have ih := stp_all (w := w) hgb m (k + 1) (by omega)
    rw [← ih, sixL, List.foldl_append, List.foldl_append]
    congr 1
    have hn := num6_lt w k
    have hex : ∀ p g', (hexL 3 (num6 w k)).foldl stp (none, p, g') = (some (num6 w k), p, g') := fun p g' => stp_hex hn 3 (none, p, g') (by
      show 0 = _
      exact (Nat.div_eq_of_lt (by omega)).symm)
    by_cases kg : k = g
    · -- the gap
      have g8 : g < b ∧ b ≤ 8 := hgb.resolve_left (fun z => by omega)
      rw [if_pos kg, if_pos ⟨by omega, by omega⟩, List.foldl_nil]
      have es : stK w g b (k + 1) = (none, nL w 0 g, some g) := by
        unfold stK
        rw [if_neg (by omega), if_neg (by omega), if_pos (by omega)]
      rw [es]
      show stp (stp (stK w g b k) 58) 58 = _
      unfold stK
      by_cases k0 : k = 0
      · rw [if_pos k0, ← kg, k0, nL_0]
        rfl
      · rw [if_neg k0, if_pos (by omega), stp58s, stp58n]
        have e2 : nL w 0 (k - 1) ++ [num6 w (k - 1)] = nL w 0 g := by
          rw [← nL_s (by omega), show k - 1 + 1 = g by omega]
        rw [e2, nL_len, Nat.sub_zero]
    · rw [if_neg kg, List.foldl_nil]
      by_cases inn : g ≤ k ∧ k < b
      · rw [if_pos inn, List.foldl_nil]
        unfold stK
        rw [if_neg (by omega), if_neg (by omega), if_pos (by omega), if_neg (by omega), if_neg (by omega), if_pos (by omega)]
      · rw [if_neg inn, List.foldl_append]
        by_cases lt : k < g
        · have es : stK w g b (k + 1) = (some (num6 w k), nL w 0 k, none) := by
            unfold stK
            rw [if_neg (by omega), if_pos (by omega)]
            rfl
          rw [es]
          by_cases k0 : k = 0
          · rw [if_neg (by omega), List.foldl_nil]
            unfold stK
            rw [if_pos k0, hex, k0, nL_0]
          · rw [if_pos ⟨by omega, by omega⟩, List.foldl_cons, List.foldl_nil]
            unfold stK
            rw [if_neg k0, if_pos (by omega), stp58s, ← nL_s (by omega), show k - 1 + 1 = k by omega, hex]
        · have g8 : g < b ∧ b ≤ 8 := hgb.resolve_left (fun z => by omega)
          have es : stK w g b (k + 1) = (some (num6 w k), nL w 0 g ++ nL w b k, some g) := by
            unfold stK
            rw [if_neg (by omega), if_neg (by omega), if_neg (by omega)]
            rfl
          rw [es]
          by_cases kb : k = b
          · rw [if_neg (by omega), List.foldl_nil]
            unfold stK
            rw [if_neg (by omega), if_neg (by omega), if_pos (by omega), hex, kb, nL_0, List.append_nil]
          · rw [if_pos ⟨by omega, kb⟩, List.foldl_cons, List.foldl_nil]
            unfold stK
            rw [if_neg (by omega), if_neg (by omega), if_neg (by omega), stp58s, List.append_assoc, ← nL_s (by omega), show k - 1 + 1 = k by omega, hex]
theorem zfr_all {z : Nat → Bool} : ∀ m k i, k ≤ i → i < k + zfr z m k → z i = true
  | 0, k, i, h1, h2 => by
    rw [zfr] at h2
    omega
  | m + 1, k, i, h1, h2 => by
    rw [zfr] at h2
    by_cases c : z k = true
    · rw [if_pos c] at h2
      by_cases d : i = k
      · rw [d]; exact c
      · exact zfr_all m (k + 1) i (by omega) (by omega)
    · rw [if_neg c] at h2
      omega
theorem six_inj {w w' : Nat → Int32} (h : sixS w = sixS w') : ∀ i, i < 8 → num6 w i = num6 w' i := by
  have key : ∀ w : Nat → Int32, ∃ g b, ((g = 8 ∧ b = 8) ∨ (g < b ∧ b ≤ 8)) ∧ (∀ i, g ≤ i → i < b → num6 w i = 0) ∧ (sixS w).foldl stp (none, [], none) = (none, (if g = 8 then nL w 0 8 else nL w 0 g ++ nL w b 8), if g = 8 then none else some g) := by
    intro w
    have ge := gap_eq (fun j => decide (num6 w j = 0))
    have eB : gapB w = flg (fun j => decide (num6 w j = 0)) 8 0 8 1 0 := rfl
    have eE : gapE w = gapB w + zfr (fun j => decide (num6 w j = 0)) (8 - gapB w) (gapB w) := rfl
    rw [← eB] at ge
    have zl := zfr_le (fun j => decide (num6 w j = 0)) (8 - gapB w) (gapB w)
    have hgb : (gapB w = 8 ∧ gapE w = 8) ∨ (gapB w < gapE w ∧ gapE w ≤ 8) := by
      rcases ge with ⟨y1, y2⟩ | ⟨y1, y2, y3, y4⟩
      · left
        refine ⟨y2, ?_⟩
        rw [eE, y2]
        rfl
      · right
        omega
    refine ⟨gapB w, gapE w, hgb, fun i h1 h2 => ?_, ?_⟩
    · have := zfr_all (z := fun j => decide (num6 w j = 0)) (8 - gapB w) (gapB w) i h1 (by rw [← eE]; exact h2)
      exact of_decide_eq_true this
    · show (([91] : List Int32) ++ sixL w (gapB w) (gapE w) 8 0).foldl stp (none, [], none) = _
      rw [List.foldl_append]
      exact stp_all hgb 8 0 rfl
  obtain ⟨g, b, k1, k2, k3⟩ := key w
  obtain ⟨g', b', j1, j2, j3⟩ := key w'
  rw [h, j3] at k3
  have e1 := congrArg (fun s => s.2.1) k3
  have e2 := congrArg (fun s => s.2.2) k3
  dsimp only at e1 e2
  have gg : g = g' := by
    by_cases c : g = 8
    · by_cases d : g' = 8
      · omega
      · rw [if_pos c, if_neg d] at e2
        cases e2
    · by_cases d : g' = 8
      · rw [if_neg c, if_pos d] at e2
        cases e2
      · rw [if_neg c, if_neg d] at e2
        exact (Option.some.inj e2).symm
  subst gg
  intro i hi
  by_cases c : g = 8
  · rw [if_pos c, if_pos c] at e1
    have := congrArg (fun l => l.getD i 0) e1
    rw [nL_get (by omega), nL_get (by omega), Nat.zero_add] at this
    exact this.symm
  · rw [if_neg c, if_neg c] at e1
    have bl := congrArg List.length e1
    rw [List.length_append, List.length_append, nL_len, nL_len, nL_len, nL_len] at bl
    have bb : b = b' := by
      rcases k1 with z | z
      · omega
      · rcases j1 with y | y
        · omega
        · omega
    subst bb
    have hb : g < b ∧ b ≤ 8 := k1.resolve_left (fun z => c z.1)
    obtain ⟨a1, a2⟩ := List.append_inj e1 (by rw [nL_len, nL_len])
    by_cases d : i < g
    · have := congrArg (fun l => l.getD i 0) a1
      rw [nL_get (by omega), nL_get (by omega), Nat.zero_add] at this
      exact this.symm
    · by_cases e : i < b
      · rw [k2 i (by omega) e, j2 i (by omega) e]
      · have := congrArg (fun l => l.getD (i - b) 0) a2
        rw [nL_get (by omega), nL_get (by omega), show b + (i - b) = i by omega] at this
        exact this.symm
/-- two HOSTs: as written, or by their numbers -/
theorem host_eq {k : Int32} {w w' : Nat → Int32} {ys ys' : List Int32} (h : okE k w ys) (h' : okE k w' ys') : ys = ys' ↔ (∀ j, j < 8 → numA k w j = numA k w' j) ∧ (if k = 0 then ys else []) = (if k = 0 then ys' else []) := by
  obtain ⟨⟨ka, kb, kc⟩, k4, k6⟩ := h
  obtain ⟨⟨ka', kb', kc'⟩, k4', k6'⟩ := h'
  rcases ka with z | z | z
  · subst z
    rw [if_pos rfl, if_pos rfl]
    refine ⟨fun e => ⟨fun j _ => ?_, e⟩, fun e => e.2⟩
    rw [show ∀ w, numA 0 w j = (if j = 0 then w 0 else 0) from fun w => if_neg (by decide), show ∀ w, numA 0 w j = (if j = 0 then w 0 else 0) from fun w => if_neg (by decide), kb rfl, kb' rfl]
  · subst z
    rw [if_neg (by decide), if_neg (by decide), k4 rfl, k4' rfl]
    refine ⟨fun e => ⟨fun j _ => ?_, rfl⟩, fun e => ?_⟩
    · have a : ∀ w, numA 4 w j = (if j = 0 then w 0 else 0) := fun w => if_neg (by decide)
      rw [a, a, four_inj e]
    · have := e.1 0 (by omega)
      have a : ∀ w, numA 4 w 0 = w 0 := fun w => rfl
      rw [a, a] at this
      rw [this]
  · subst z
    rw [if_neg (by decide), if_neg (by decide), k6 rfl, k6' rfl]
    refine ⟨fun e => ⟨fun j hj => ?_, rfl⟩, fun e => ?_⟩
    · unfold numA
      rw [if_pos rfl, if_pos rfl, six_inj e j hj]
    · have e6 : ∀ j, j < 8 → num6 w j = num6 w' j := fun j hj => by
        have := e.1 j hj
        unfold numA at this
        rw [if_pos rfl, if_pos rfl] at this
        have l1 := num6_lt w j
        have l2 := num6_lt w' j
        exact (nI_eq (by omega) (by omega)).mp this
      have eg : gapB w = gapB w' := flg_congr (fun i hi => by show decide _ = decide _; rw [e6 i hi]) 8 0 8 1 0 rfl
      have eE : gapE w = gapE w' := by
        unfold gapE
        rw [eg]
        congr 1
        have := flg_le (fun i => decide (num6 w' i = 0)) 8 0 8 1 0 rfl (by omega)
        exact zfr_congr (fun i hi => by show decide _ = decide _; rw [e6 i hi]) _ _ (by show gapB w' + (8 - gapB w') = 8; unfold gapB; omega)
      unfold sixS
      rw [eg, eE]
      congr 1
      have L : ∀ m k, k + m = 8 → sixL w (gapB w') (gapE w') m k = sixL w' (gapB w') (gapE w') m k := by
        intro m
        induction m with
        | zero => exact fun k _ => rfl
        | succ m ih =>
          intro k hk
          rw [sixL, sixL, e6 k (by omega), ih (k + 1) (by omega)]
      exact L 8 0 rfl
