/-! THE OTHER OBJECT: SIX -/
/-- the next piece up to the next : or the end b -/
def pcB (xs : List Int32) (b k : Nat) (ps : List Nat) : Option (List Nat) := if ptA xs (b - k) k = true then (if clE xs (b - k) k = b then ptP xs k b ps else none) else pcP xs k (clE xs (b - k) k) ps
theorem clE_58 (xs : List Int32) : ∀ m i, clE xs m i < i + m → xs.getD (clE xs m i) 0 = 58
  | 0, i, h => by
    rw [clE] at h
    omega
  | m + 1, i, h => by
    rw [clE] at h ⊢
    by_cases c : xs.getD i 0 = 58
    · rw [if_pos c] at h ⊢
      exact c
    · rw [if_neg c] at h ⊢
      exact clE_58 xs m (i + 1) (by omega)
theorem clE_no (xs : List Int32) : ∀ m i j, i ≤ j → j < clE xs m i → xs.getD j 0 ≠ 58
  | 0, i, j, h1, h2 => by
    rw [clE] at h2
    omega
  | m + 1, i, j, h1, h2 => by
    rw [clE] at h2
    by_cases c : xs.getD i 0 = 58
    · rw [if_pos c] at h2
      omega
    · rw [if_neg c] at h2
      by_cases d : j = i
      · rw [d]; exact c
      · exact clE_no xs m (i + 1) j (by omega) h2
/-- the end of a part before the gap, looked for up to g or up to b -/
theorem clE_g {xs : List Int32} {g b : Nat} (hg : g ≤ b) (h : g = b ∨ xs.getD g 0 = 58) : ∀ m i, i + m = g → clE xs m i = clE xs (b - i) i ∧ ptA xs m i = ptA xs (b - i) i
  | 0, i, e => by
    rcases h with z | z
    · rw [show b - i = 0 by omega]
      exact ⟨rfl, rfl⟩
    · have : i = g := by omega
      subst this
      by_cases c : i = b
      · rw [show b - i = 0 by omega]
        exact ⟨rfl, rfl⟩
      · obtain ⟨j, hj⟩ : ∃ j, b - i = j + 1 := ⟨b - i - 1, by omega⟩
        rw [hj]
        refine ⟨?_, ?_⟩
        · show i = if xs.getD i 0 = 58 then i else clE xs j (i + 1)
          rw [if_pos z]
        · show false = if xs.getD i 0 = 58 then false else _
          rw [if_pos z]
  | m + 1, i, e => by
    obtain ⟨h1, h2⟩ := clE_g hg h m (i + 1) (by omega)
    obtain ⟨j, hj⟩ : ∃ j, b - i = j + 1 := ⟨b - i - 1, by omega⟩
    rw [hj, clE, clE, ptA, ptA, h1, h2, show b - (i + 1) = j by omega]
    exact ⟨rfl, rfl⟩
theorem pc1_B {xs : List Int32} {e b k : Nat} {fr : Bool} {ps : List Nat} (hk : k ≤ e) (he : e ≤ b) (h : e = b ∨ xs.getD e 0 = 58) (hf : fr = true → e = b) (hf2 : e = b → fr = true) : pc1 xs e fr k ps = pcB xs b k ps := by
  obtain ⟨h1, h2⟩ := clE_g he h (e - k) k (by omega)
  have hc := clE_le xs (e - k) k
  unfold pc1 pcB
  rw [← h1, ← h2]
  by_cases c : ptA xs (e - k) k = true
  · rw [if_pos c, if_pos c]
    by_cases d : clE xs (e - k) k = b
    · have : e = b := by omega
      rw [if_pos d, if_pos ⟨hf2 this, by omega⟩, d]
    · rw [if_neg d, if_neg]
      rintro ⟨z1, z2⟩
      have := hf z1
      omega
  · rw [if_neg c, if_neg c]
/-- with points in it a piece is four numbers or nothing -/
theorem pts_no {xs : List Int32} : ∀ (c m i B : Nat) (val : Option Nat) (pts : Nat), c < m → (∀ j, j < c → xs.getD (i + j) 0 ≠ 46) → xs.getD (i + c) 0 ≠ 46 → pDig (xs.getD (i + c) 0) = 0 → ptsC xs m i B val pts = none
  | 0, m, i, B, val, pts, h, _, h2, h3 => by
    obtain ⟨m, rfl⟩ : ∃ k, m = k + 1 := ⟨m - 1, by omega⟩
    rw [Nat.add_zero] at h2 h3
    rw [ptsC, if_neg h2, if_pos h3]
  | c + 1, m, i, B, val, pts, h, h1, h2, h3 => by
    obtain ⟨m, rfl⟩ : ∃ k, m = k + 1 := ⟨m - 1, by omega⟩
    have n0 := h1 0 (by omega)
    rw [Nat.add_zero] at n0
    have R := fun B' val' pts' => pts_no c m (i + 1) B' val' pts' (by omega) (fun j hj => by rw [show i + 1 + j = i + (j + 1) by omega]; exact h1 (j + 1) (by omega)) (by rw [show i + 1 + c = i + (c + 1) by omega]; exact h2) (by rw [show i + 1 + c = i + (c + 1) by omega]; exact h3)
    rw [ptsC, if_neg n0]
    split
    · rfl
    · split
      · exact R _ _ _
      · split
        · rfl
        · split
          · exact R _ _ _
          · rfl
theorem pts_big {xs : List Int32} : ∀ (c m i B v pts : Nat), c ≤ m → 1 ≤ v → 255 < v * 10 ^ c → (∀ j, j < c → xs.getD (i + j) 0 ≠ 46) → 0 < c → v ≤ 255 → ptsC xs m i B (some v) pts = none
  | 0, m, i, B, v, pts, _, _, _, _, hc, _ => absurd hc (Nat.lt_irrefl _)
  | c + 1, m, i, B, v, pts, h, hv, hb, h1, _, h255 => by
    obtain ⟨m, rfl⟩ : ∃ k, m = k + 1 := ⟨m - 1, by omega⟩
    have n0 := h1 0 (by omega)
    rw [Nat.add_zero] at n0
    rw [ptsC, if_neg n0]
    by_cases p : pDig (xs.getD i 0) = 0
    · rw [if_pos p]
    · rw [if_neg p, if_neg (show ¬ some v = none by simp), if_neg (show ¬ some v = some 0 by simp; omega)]
      split
      · rename_i d
        rw [show (some v).getD 0 = v from rfl] at d ⊢
        rcases Nat.eq_zero_or_pos c with z | z
        · subst z
          rw [Nat.zero_add, Nat.pow_one] at hb
          omega
        · refine pts_big c m (i + 1) B _ pts (by omega) (by omega) ?_ (fun j hj => by rw [show i + 1 + j = i + (j + 1) by omega]; exact h1 (j + 1) (by omega)) z d
          have e1 : v * 10 ^ (c + 1) = 10 * v * 10 ^ c := by rw [Nat.pow_succ, Nat.mul_comm (10 ^ c) 10, ← Nat.mul_assoc, Nat.mul_comm v 10]
          have e2 : 10 * v * 10 ^ c ≤ (10 * v + dg (xs.getD i 0)) * 10 ^ c := Nat.mul_le_mul (by omega) (Nat.le_refl _)
          omega
      · rfl
theorem pts_4 {xs : List Int32} {m i B pts : Nat} (hm : 4 ≤ m) (h1 : ∀ j, j < 4 → xs.getD (i + j) 0 ≠ 46) : ptsC xs m i B none pts = none := by
  obtain ⟨m, rfl⟩ : ∃ k, m = k + 1 := ⟨m - 1, by omega⟩
  have n0 := h1 0 (by omega)
  rw [Nat.add_zero] at n0
  rw [ptsC, if_neg n0, if_pos rfl]
  split
  · rfl
  · rename_i c
    obtain ⟨d1, -, -⟩ := dg_of c
    rcases Nat.eq_zero_or_pos (dg (xs.getD i 0)) with z | z
    · rw [z]
      obtain ⟨m, rfl⟩ : ∃ k, m = k + 1 := ⟨m - 1, by omega⟩
      rw [ptsC, if_neg (h1 1 (by omega))]
      split
      · rfl
      · rw [if_neg (show ¬ some 0 = none by simp), if_pos rfl]
    · refine pts_big 3 m (i + 1) B _ pts (by omega) z (by omega) (fun j hj => ?_) (by omega) (by omega)
      rw [show i + 1 + j = i + (j + 1) by omega]
      exact h1 (j + 1) (by omega)
theorem ptA_iff (xs : List Int32) : ∀ m i, ptA xs m i = true ↔ ∃ j, i ≤ j ∧ j < clE xs m i ∧ xs.getD j 0 = 46
  | 0, i => by
    rw [ptA, clE]
    constructor
    · intro h; cases h
    · rintro ⟨j, h1, h2, -⟩; omega
  | m + 1, i => by
    rw [ptA, clE]
    by_cases c : xs.getD i 0 = 58
    · rw [if_pos c, if_pos c]
      constructor
      · intro h; cases h
      · rintro ⟨j, h1, h2, -⟩; omega
    · rw [if_neg c, if_neg c, Bool.or_eq_true, ptA_iff xs m (i + 1)]
      have := clE_le xs m (i + 1)
      constructor
      · rintro (h | ⟨j, h1, h2, h3⟩)
        · exact ⟨i, Nat.le_refl _, by omega, of_decide_eq_true h⟩
        · exact ⟨j, by omega, h2, h3⟩
      · rintro ⟨j, h1, h2, h3⟩
        by_cases d : j = i
        · left
          rw [← d]
          exact decide_eq_true h3
        · right
          exact ⟨j, by omega, h2, h3⟩
/-- digits, then something that is none -/
theorem numV_bad {xs : List Int32} : ∀ (c m i v : Nat), c < m → hxN (xs.getD (i + c) 0) = none → numV xs 16 m i v = none
  | 0, m, i, v, h, h2 => by
    obtain ⟨m, rfl⟩ : ∃ k, m = k + 1 := ⟨m - 1, by omega⟩
    rw [Nat.add_zero] at h2
    rw [numV, h2]
  | c + 1, m, i, v, h, h2 => by
    obtain ⟨m, rfl⟩ : ∃ k, m = k + 1 := ⟨m - 1, by omega⟩
    rw [numV]
    split
    · rfl
    · split
      · exact numV_bad c m (i + 1) _ (by omega) (by rw [show i + 1 + c = i + (c + 1) by omega]; exact h2)
      · rfl
/-- the numbers that are read -/
def Nb (M : MS) (ps : List Nat) : Prop := ∀ j, j < ps.length → mA M 17 j = nI (ps.getD j 0)
theorem Nb.snoc {M : MS} {ps : List Nat} {v : Nat} (h : Nb M ps) : Nb (uA M 17 ps.length (nI v)) (ps ++ [v]) := by
  intro j hj
  rw [List.length_append, List.length_singleton] at hj
  rw [mA_uA]
  by_cases c : j = ps.length
  · rw [if_pos ⟨rfl, c⟩, c, List.getD_eq_getElem?_getD, List.getElem?_append_right (Nat.le_refl _)]
    simp
  · rw [if_neg (fun z => c z.2), h j (by omega), List.getD_eq_getElem?_getD, List.getD_eq_getElem?_getD, List.getElem?_append_left (by omega)]
section MX
variable {m : Nat} {D : Nat → Nat} {M : MS} {xs : List Int32} {P : Int32 → MS → Prop}
theorem In.sbq {j c : Nat} (hI : In M xs) (hj : j < xs.length) (hc : c < 128) : mA M 11 j = nI c ↔ xs.getD j 0 = nI c := by
  obtain ⟨y, hy, ey⟩ := hI.2.2.1.get (j := j) hj
  rw [hI.raw hj, ey]
  exact sb_eq hy hc
theorem In.u {j : Nat} (hI : In M xs) (hj : j < xs.length) : mA M 11 j &&& 255 = xs.getD j 0 := by
  have := hI.2.2.2.get hI.2.2.1 hj
  rw [Nat.zero_add] at this
  exact this
/-- one piece: what is behind it goes on where rec57 says -/
theorem m_piece {rec57 : Option Nat → Int32 → Int32 → Int32 → Int32 → gM Int32} {b k : Nat} {gp' : Int32} {ps : List Nat} (hI : In M xs) (hb : b ≤ xs.length) (hk : k < b) (hN : Nb M ps) (hps : ps.length < 8) (h0 : pcB xs b k ps = none → ∀ M', Ex [17] M M' → P (-16) M')
    (hd : ∀ ps' M', pcB xs b k ps = some ps' → clE xs (b - k) k = b → Ex [17] M M' → Nb M' ps' → wm m D (rec57 (some m) (nI b) (nI ps'.length) gp' (nI b)) M' P)
    (hn : ∀ ps' M', pcB xs b k ps = some ps' → clE xs (b - k) k < b → Ex [17] M M' → Nb M' ps' → wm m D (if (nI (clE xs (b - k) k) + 1) = nI b then (gp (-16)) else (gb (rR 8 11 (some m)) fun v4 => gb (aI 0 v4 (nI (clE xs (b - k) k) + 1)) fun v5 => if v5 = 58 then (if gp' < 0 then (rec57 (some m) (nI b) (nI ps'.length) (nI ps'.length) ((nI (clE xs (b - k) k) + 1) + 1)) else (gp (-16))) else (rec57 (some m) (nI b) (nI ps'.length) gp' (nI (clE xs (b - k) k) + 1)))) M' P) : wm m D (f_X9_readSix_L82 rec57 gF (some m) (nI b) (nI ps.length) gp' (nI k) 0 0 (nI k)) M P := by
  have hl := hI.2.1
  obtain ⟨t1, t2⟩ := clE_le xs (b - k) k
  have tno := clE_no xs (b - k) k
  have t58 := clE_58 xs (b - k) k
  have hp1 : ∀ _ : Unit, ptA xs (b - k) k = true → ∃ j, k ≤ j ∧ j < clE xs (b - k) k ∧ xs.getD j 0 = 46 := fun _ => (ptA_iff xs (b - k) k).mp
  have hp2 : ∀ j, k ≤ j → j < clE xs (b - k) k → xs.getD j 0 = 46 → ptA xs (b - k) k = true := fun j h1 h2 h3 => (ptA_iff xs (b - k) k).mpr ⟨j, h1, h2, h3⟩
  generalize et : clE xs (b - k) k = t at *
  have tb : t ≤ b := by omega
  have t58' : t < b → xs.getD t 0 = 58 := fun h => t58 (by omega)
  clear t58
  have hB : pcB xs b k ps = if ptA xs (b - k) k = true then (if t = b then ptP xs k b ps else none) else pcP xs k t ps := by
    unfold pcB
    rw [et]
  -- behind the digits: c of them, their number v; not one more digit, or four, or the end
  have fin : ∀ c v, c ≤ 4 → k + c ≤ b → (∀ j, j < c → hxN (xs.getD (k + j) 0) ≠ none) → numV xs 16 c k 0 = some v → (c = 4 ∨ k + c = b ∨ hxN (xs.getD (k + c) 0) = none) → wm m D (f_X9_readSix_142 rec57 (some m) (nI b) (nI ps.length) gp' (nI (k + c)) (nI v) (nI c) (nI k)) M P := by
    intro c v hc4 hcb hdig hv hend
    have dig46 : ∀ j, j < c → xs.getD (k + j) 0 ≠ 46 ∧ xs.getD (k + j) 0 ≠ 58 := fun j hj => by
      refine ⟨fun z => hdig j hj ?_, fun z => hdig j hj ?_⟩
      · rw [z]; decide
      · rw [z]; decide
    have kct : k + c ≤ t := by
      rcases Nat.lt_or_ge t (k + c) with z | z
      · exfalso
        have e58 := t58' (by omega)
        have := (dig46 (t - k) (by omega)).2
        rw [show k + (t - k) = t by omega] at this
        exact this e58
      · exact z
    -- a number of digits, no point behind it
    have k194 : (k + c = b ∨ xs.getD (k + c) 0 ≠ 46) → wm m D (f_X9_readSix_194 rec57 (some m) (nI b) (nI ps.length) gp' (nI (k + c)) (nI v) (nI c)) M P := by
      intro hnp
      -- if a point comes later it is wrong anyhow
      have hpt : ptA xs (b - k) k = true → pcB xs b k ps = none := by
        intro hp
        obtain ⟨j, j1, j2, j3⟩ := hp1 () hp
        have kcb : k + c < b := by
          rcases Nat.lt_or_ge (k + c) b with z | z
          · exact z
          · exfalso
            exact (dig46 (j - k) (by omega)).1 (by rw [show k + (j - k) = j by omega]; exact j3)
        have n46 : xs.getD (k + c) 0 ≠ 46 := hnp.resolve_left (by omega)
        rw [hB, if_pos hp]
        by_cases e : t = b
        · rw [if_pos e]
          unfold ptP
          have : ptsC xs (b - k) k 0 none 0 = none := by
            rcases hend with z | z | z
            · subst z
              exact pts_4 (by omega) (fun j hj => (dig46 j hj).1)
            · omega
            · refine pts_no c (b - k) k 0 none 0 (by omega) (fun j hj => (dig46 j hj).1) n46 ?_
              by_cases w : pDig (xs.getD (k + c) 0) = 0
              · exact w
              · exfalso
                obtain ⟨d1, d2, d3⟩ := dg_of w
                have : ∀ d, d < 10 → hxN (nI (48 + d)) ≠ none := by decide
                exact this _ d1 (by rw [← d3]; exact z)
          rw [this]
          rfl
        · rw [if_neg e]
      unfold f_X9_readSix_194
      by_cases c0 : c = 0
      · subst c0
        refine wm_t rfl (wm_p (h0 ?_ M Ex.rf))
        by_cases hp : ptA xs (b - k) k = true
        · exact hpt hp
        · rw [hB, if_neg hp]
          unfold pcP
          by_cases e : 1 ≤ t - k ∧ t - k ≤ 4
          · rw [if_pos e]
            rw [Nat.add_zero] at hend
            have hx0 : hxN (xs.getD k 0) = none := by
              rcases hend with z | z | z
              · omega
              · omega
              · exact z
            rw [numV_bad 0 (t - k) k 0 (by omega) (by rw [Nat.add_zero]; exact hx0)]
            rfl
          · rw [if_neg e]
      · refine wm_f (nI_ne0 (by omega) (by omega)) ?_
        refine wm_b (wm_rR (k := 17) (t := 1) (by decide) (wm_b (wm_sI (k := 17) (t := 1) (by decide) rfl (show ps.length < 8 from hps) ?_)))
        rw [gnar1]
        have E1 : Ex [17] M (uA M 17 ps.length (nI v)) := Ex.a (by decide)
        have I1 := hI.ex E1 (by decide) (by decide)
        have N1 := hN.snoc (v := v)
        have len1 : (ps ++ [v]).length = ps.length + 1 := by rw [List.length_append, List.length_singleton]
        -- the piece is right where it ends here
        have good : k + c = t → ptA xs (b - k) k ≠ true → pcB xs b k ps = some (ps ++ [v]) := fun e hp => by
          rw [hB, if_neg hp]
          unfold pcP
          rw [if_pos ⟨by omega, by omega⟩, show t - k = c by omega, hv, ad1, if_pos hps]
        have bad : ¬ k + c = t → pcB xs b k ps = none := fun e => by
          by_cases hp : ptA xs (b - k) k = true
          · exact hpt hp
          · rw [hB, if_neg hp]
            unfold pcP
            by_cases w : 1 ≤ t - k ∧ t - k ≤ 4
            · rw [if_pos w]
              rw [numV_bad c (t - k) k 0 (by omega) (by
                rcases hend with z | z | z
                · omega
                · omega
                · exact z)]
              rfl
            · rw [if_neg w]
        have nopt : k + c = t → ptA xs (b - k) k ≠ true := fun e hp => by
          obtain ⟨j, j1, j2, j3⟩ := hp1 () hp
          exact (dig46 (j - k) (by omega)).1 (by rw [show k + (j - k) = j by omega]; exact j3)
        rw [nI_1]
        by_cases e : k + c = t
        · have G := good e (nopt e)
          by_cases tb' : t = b
          · refine wm_t (nI_le (by omega) (by omega)) ?_
            have := hd (ps ++ [v]) _ G tb' E1 N1
            rw [len1] at this
            rw [e, tb']
            exact this
          · have hs := hn (ps ++ [v]) _ G (by omega) E1 N1
            rw [len1] at hs
            refine wm_f (nI_ge (by omega) (by omega)) (wm_get (k := 11) (t := 0) (by decide) rfl (show k + c < 300 by omega) ?_)
            refine wm_t ((I1.sbq (c := 58) (by omega) (by omega)).mpr (by rw [e]; exact t58' (by omega))) ?_
            rw [e]
            exact hs
        · have Bn := bad e
          refine wm_f (nI_ge (by omega) (by omega)) (wm_get (k := 11) (t := 0) (by decide) rfl (show k + c < 300 by omega) ?_)
          refine wm_f (fun z => ?_) (wm_p (h0 Bn _ E1))
          exact tno (k + c) (by omega) (by omega) ((I1.sbq (c := 58) (by omega) (by omega)).mp z)
    unfold f_X9_readSix_142
    by_cases kcb : k + c = b
    · exact wm_t (nI_le (by omega) (by omega)) (k194 (Or.inl kcb))
    · refine wm_f (nI_ge (by omega) (by omega)) (wm_get (k := 11) (t := 0) (by decide) rfl (show k + c < 300 by omega) ?_)
      refine wm_if (fun z => ?_) (fun z => k194 (Or.inr (fun w => z ((hI.sbq (c := 46) (by omega) (by omega)).mpr w))))
      have z46 := (hI.sbq (c := 46) (by omega) (by omega)).mp z
      have kct' : k + c < t := by
        rcases Nat.lt_or_ge (k + c) t with w | w
        · exact w
        · exfalso
          have : k + c = t := by omega
          rw [this] at z46
          rw [t58' (by omega)] at z46
          exact absurd z46 (by decide)
      have hp : ptA xs (b - k) k = true := hp2 (k + c) (by omega) kct' z46
      have hBp : pcB xs b k ps = if t = b then ptP xs k b ps else none := by rw [hB, if_pos hp]
      by_cases c0 : c = 0
      · refine wm_t (by rw [c0]; rfl) (wm_p (h0 ?_ M Ex.rf))
        rw [hBp]
        by_cases e : t = b
        · rw [if_pos e]
          unfold ptP
          have : ptsC xs (b - k) k 0 none 0 = none := by
            obtain ⟨j, hj⟩ : ∃ j, b - k = j + 1 := ⟨b - k - 1, by omega⟩
            subst c0
            rw [hj, ptsC, if_pos (show xs.getD k 0 = 46 from z46), if_pos rfl]
          rw [this]
          rfl
        · rw [if_neg e]
      · refine wm_f (nI_ne0 (by omega) (by omega)) ?_
        by_cases c6 : 6 < ps.length
        · refine wm_t (nI_lt (a := 6) c6 (by omega)) (wm_p (h0 ?_ M Ex.rf))
          rw [hBp]
          split
          · unfold ptP
            cases ptsC xs (b - k) k 0 none 0 with
            | none => rfl
            | some w => rw [ad2, if_neg (by omega)]
          · rfl
        · refine wm_f (nI_nlt (b := ps.length) (a := 6) (by omega) (by omega)) ?_
          refine wm_n (wm_b (m_readNumbers hI (by omega) hb (by omega) (fun z => ?_) (fun w z => ?_)))
          · refine wm_f (by decide) (wm_p (h0 ?_ M Ex.rf))
            rw [hBp]
            split
            · unfold ptP
              rw [z]
              rfl
            · rfl
          · -- no : may stand behind
            have e : t = b := by
              rcases Nat.lt_or_ge t b with y | y
              · exfalso
                have : ptsC xs (b - k) k 0 none 0 = none := by
                  have key : ∀ (c m i B : Nat) (val : Option Nat) (pts : Nat), c < m → xs.getD (i + c) 0 = 58 → ptsC xs m i B val pts = none := by
                    intro c
                    induction c with
                    | zero =>
                      intro m i B val pts h h2
                      obtain ⟨m, rfl⟩ : ∃ k, m = k + 1 := ⟨m - 1, by omega⟩
                      rw [Nat.add_zero] at h2
                      rw [ptsC, h2, if_neg (by decide), if_pos (by decide)]
                    | succ c ih =>
                      intro m i B val pts h h2
                      obtain ⟨m, rfl⟩ : ∃ k, m = k + 1 := ⟨m - 1, by omega⟩
                      have R := fun B' val' pts' => ih m (i + 1) B' val' pts' (by omega) (by rw [show i + 1 + c = i + (c + 1) by omega]; exact h2)
                      rw [ptsC]
                      split
                      · split
                        · rfl
                        · split
                          · exact R _ _ _
                          · rfl
                      · split
                        · rfl
                        · split
                          · exact R _ _ _
                          · split
                            · rfl
                            · split
                              · exact R _ _ _
                              · rfl
                  exact key (t - k) (b - k) k 0 none 0 (by omega) (by rw [show k + (t - k) = t by omega]; exact t58' (by omega))
                rw [this] at z
                cases z
              · omega
            have G : pcB xs b k ps = some (ps ++ [w / 65536, w % 65536]) := by
              rw [hBp, if_pos e]
              unfold ptP
              rw [z, ad2, if_pos (by omega)]
            have E1 : Ex [17] M (uA (uA M 17 ps.length (nI (w / 65536))) 17 (ps.length + 1) (nI (w % 65536))) := (Ex.a (by decide)).trans (Ex.a (by decide))
            have N1 := (hN.snoc (v := w / 65536)).snoc (v := w % 65536)
            rw [List.length_append, List.length_singleton, List.append_assoc] at N1
            have := hd _ _ G e E1 N1
            rw [List.length_append] at this
            refine wm_t rfl ?_
            rw [show nI ps.length + 2 = nI (ps.length + 2) from nI_add ps.length 2]
            exact this
  -- the digits
  have L : ∀ (j c v f : Nat), c + j = 4 → j < f → k + c ≤ b → (∀ i, i < c → hxN (xs.getD (k + i) 0) ≠ none) → numV xs 16 c k 0 = some v → v < 16 ^ c → wm m D (f_X9_readSix_L82 rec57 f (some m) (nI b) (nI ps.length) gp' (nI (k + c)) (nI v) (nI c) (nI k)) M P := by
    have snoc : ∀ (c i v w d : Nat), numV xs 16 c i v = some w → hxN (xs.getD (i + c) 0) = some d → d < 16 → numV xs 16 (c + 1) i v = some (w * 16 + d) := by
      intro c
      induction c with
      | zero =>
        intro i v w d h1 h2 hd
        rw [numV] at h1
        cases h1
        rw [Nat.add_zero] at h2
        rw [numV, h2]
        dsimp only
        rw [if_pos hd, numV]
      | succ c ih =>
        intro i v w d h1 h2 hd
        rw [numV] at h1 ⊢
        cases hx : hxN (xs.getD i 0) with
        | none => rw [hx] at h1; cases h1
        | some e =>
          rw [hx] at h1
          dsimp only at h1 ⊢
          by_cases he : e < 16
          · rw [if_pos he] at h1 ⊢
            exact ih (i + 1) _ w d h1 (by rw [show i + 1 + c = i + (c + 1) by omega]; exact h2) hd
          · rw [if_neg he] at h1
            cases h1
    intro j
    induction j with
    | zero =>
      intro c v f hc hf hcb hdig hv hvl
      obtain ⟨f, rfl⟩ : ∃ g, f = g + 1 := ⟨f - 1, by omega⟩
      rw [f_X9_readSix_L82]
      unfold f_X9_readSix_82
      have := fin c v (by omega) hcb hdig hv (Or.inl (by omega))
      refine wm_if (fun _ => this) (fun _ => ?_)
      exact wm_t (nI_le (a := 4) (by omega) (by omega)) this
    | succ j ih =>
      intro c v f hc hf hcb hdig hv hvl
      obtain ⟨f, rfl⟩ : ∃ g, f = g + 1 := ⟨f - 1, by omega⟩
      rw [f_X9_readSix_L82]
      unfold f_X9_readSix_82
      by_cases e : k + c = b
      · exact wm_t (nI_le (by omega) (by omega)) (fin c v (by omega) hcb hdig hv (Or.inr (Or.inl e)))
      · refine wm_f (nI_ge (by omega) (by omega)) (wm_f (show ¬ nI 4 ≤ nI c from nI_ge (by omega) (by omega)) ?_)
        refine wm_get (k := 11) (t := 0) (by decide) rfl (show k + c < 300 by omega) ?_
        obtain ⟨y, hy, ey⟩ := hI.2.2.1.get (j := k + c) (by omega)
        rw [hI.u (by omega)]
        refine wm_b (wm_q (fun _ _ => m_hex (Or.inr ⟨y, hy, ey⟩)) ?_)
        rcases hx (xs.getD (k + c) 0) with ⟨e1, e2⟩ | ⟨d, hd', e1, e2⟩
        · rw [e1]
          exact wm_t (by decide) (fin c v (by omega) hcb hdig hv (Or.inr (Or.inr e2)))
        · rw [e1]
          refine wm_f (nI_pos (by omega)) (wm_get (k := 11) (t := 0) (by decide) rfl (show k + c < 300 by omega) ?_)
          rw [hI.u (by omega)]
          refine wm_b (wm_q (fun _ _ => m_hex (Or.inr ⟨y, hy, ey⟩)) ?_)
          have e3 : (16 * nI v + nI d : Int32) = nI (v * 16 + d) := by
            rw [show (16 : Int32) = nI 16 from rfl, pk_mul, nI_add, Nat.mul_comm]
          rw [e1, e3, nI_1, nI_1]
          refine ih (c + 1) _ f (by omega) (by omega) (by omega) (fun i hi => ?_) (snoc c k 0 v d hv e2 hd') (by rw [Nat.pow_succ]; omega)
          by_cases w : i = c
          · rw [w, e2]; simp
          · exact hdig i (by omega)
  exact L 4 0 0 gF (by omega) (by decide) (by omega) (fun i hi => absurd hi (Nat.not_lt_zero _)) rfl (by decide)
end MX
