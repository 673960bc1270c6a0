/-! THE OTHER OBJECT: the four numbers that may end SIX -/
theorem dig_sb : ∀ n, n < 256 → pDig (sb (nI n)) = pDig (nI n) := by decide +kernel
theorem sb_eq {n c : Nat} (hn : n < 256) (hc : c < 128) : sb (nI n) = nI c ↔ nI n = nI c := by
  refine ⟨fun z => ?_, fun z => by rw [z]; exact sb_lo c hc⟩
  have := sb_i hn (b := c) (by omega) (z.trans (sb_lo c hc).symm)
  rw [this]
/-- where n numbers are read, at place k -/
def c9 (xs : List Int32) (b n k B : Nat) : Option Nat := if n = 4 then (if k = b then some B else none) else if n = 0 then ptsC xs (b - k) k B none 0 else if k < b ∧ xs.getD k 0 = 46 then ptsC xs (b - (k + 1)) (k + 1) B none n else none
theorem pts_c9 {xs : List Int32} {b n k B v : Nat} (hn : n ≤ 3) (hk : k ≤ b) (h : k = b ∨ pDig (xs.getD k 0) = 0) : ptsC xs (b - k) k B (some v) n = c9 xs b (n + 1) k (B * 256 + v) := by
  unfold c9
  by_cases e : k = b
  · subst e
    rw [Nat.sub_self, ptsC, if_neg (by simp), if_neg (show ¬ (k < k ∧ _) from fun z => absurd z.1 (Nat.lt_irrefl _))]
    by_cases c : n = 3
    · rw [if_pos c, if_pos (by omega), if_pos rfl]
      rfl
    · rw [if_neg c, if_neg (by omega), if_neg (by omega)]
  · have hd : pDig (xs.getD k 0) = 0 := h.resolve_left e
    obtain ⟨j, hj⟩ : ∃ j, b - k = j + 1 := ⟨b - k - 1, by omega⟩
    rw [hj, ptsC, if_neg (show ¬ some v = none by simp)]
    by_cases c : xs.getD k 0 = 46
    · rw [if_pos c]
      by_cases d : n + 1 ≤ 3
      · rw [if_pos d, if_neg (by omega), if_neg (by omega), if_pos ⟨by omega, c⟩, show b - (k + 1) = j by omega]
        rfl
      · rw [if_neg d, if_pos (by omega), if_neg e]
    · rw [if_neg c, if_pos hd]
      by_cases d : n + 1 = 4
      · rw [if_pos d, if_neg e]
      · rw [if_neg d, if_neg (by omega), if_neg (fun z => c z.2)]
section MP
variable {m : Nat} {D : Nat → Nat} {M : MS} {xs : List Int32} {P : Int32 → MS → Prop}
/-- a byte of the text, as it is stored -/
theorem In.raw {j : Nat} (h : In M xs) (hj : j < xs.length) : mA M 11 j = sb (xs.getD j 0) := by
  have := h.2.2.2 j hj
  rw [Nat.zero_add] at this
  exact this
theorem m_doom {rec9 : Option Nat → Int32 → Int32 → Int32 → Int64 → Int32 → gM Int32} {b q fst : Nat} {x5 : Int64} {x7 : Int32} (hI : In M xs) (hb : b ≤ xs.length) (h0 : P (-16) M) : ∀ (j k v f : Nat), k + j = b → j < f → fst < k → v ≤ 1000 → (255 < v ∨ (xs.getD fst 0 = 48 ∧ fst + 2 ≤ k)) → wm m D (f_X9_readNumbers_L51 rec9 f (some m) (nI b) (nI q) (nI k) x5 x7 (nI fst) (nI v)) M P := by
  have hl := hI.2.1
  have fin : ∀ k v, fst < k → k ≤ b → v ≤ 1000 → (255 < v ∨ (xs.getD fst 0 = 48 ∧ fst + 2 ≤ k)) → wm m D (f_X9_readNumbers_100 rec9 (some m) (nI b) (nI q) (nI k) x5 x7 (nI fst) (nI v)) M P := by
    intro k v h1 h2 h3 h4
    unfold f_X9_readNumbers_100
    refine wm_f (fun z => ?_) ?_
    · have := (nI_eq (by omega) (by omega)).mp z
      omega
    refine wm_if (fun _ => wm_p h0) (fun c => ?_)
    have c : ¬ 255 < v := fun z => c (nI_lt (a := 255) z (by omega))
    obtain ⟨d1, d2⟩ := h4.resolve_left c
    refine wm_get (k := 11) (t := 0) (by decide) rfl (show fst < 300 by omega) ?_
    rw [hI.raw (by omega), d1]
    refine wm_t (by decide) ?_
    rw [pk_sub (by omega)]
    exact wm_f (nI_ge (a := 1) (by omega) (by omega)) (wm_p h0)
  intro j
  induction j with
  | zero =>
    intro k v f hk hf h1 h2 h3
    obtain ⟨f, rfl⟩ : ∃ g, f = g + 1 := ⟨f - 1, by omega⟩
    rw [f_X9_readNumbers_L51]
    unfold f_X9_readNumbers_51
    exact wm_t (nI_le (by omega) (by omega)) (fin k v h1 (by omega) h2 h3)
  | succ j ih =>
    intro k v f hk hf h1 h2 h3
    obtain ⟨f, rfl⟩ : ∃ g, f = g + 1 := ⟨f - 1, by omega⟩
    rw [f_X9_readNumbers_L51]
    unfold f_X9_readNumbers_51
    obtain ⟨n, hn, en⟩ := hI.2.2.1.get (j := k) (by omega)
    refine wm_f (nI_ge (by omega) (by omega)) (wm_get (k := 11) (t := 0) (by decide) rfl (show k < 300 by omega) ?_)
    rw [hI.raw (by omega), en]
    refine wm_b (wm_q (fun _ _ => m_isDigit) ?_)
    rw [dig_sb n hn]
    refine wm_if (fun _ => fin k v h1 (by omega) h2 h3) (fun c => ?_)
    obtain ⟨n1, n2, -⟩ := dig_t n hn c
    refine wm_get (k := 11) (t := 0) (by decide) rfl (show k < 300 by omega) ?_
    rw [hI.raw (by omega), en, sb_lo n (by omega)]
    have e1 : (10 * nI v + nI n - 48 : Int32) = nI (10 * v + n - 48) := by
      rw [show (10 : Int32) = nI 10 from rfl, show (48 : Int32) = nI 48 from rfl, pk_mul, nI_add, pk_sub (by omega)]
    have e2 : (if nI (10 * v + n - 48) < (1000 : Int32) then nI (10 * v + n - 48) else 1000) = nI (min (10 * v + n - 48) 1000) := by
      rcases Nat.lt_or_ge (10 * v + n - 48) 1000 with z | z
      · rw [if_pos (show nI (10 * v + n - 48) < (1000 : Int32) from nI_lt (b := 1000) z (by omega)), Nat.min_eq_left (by omega)]
      · rw [if_neg (show ¬ nI (10 * v + n - 48) < (1000 : Int32) from nI_nlt (b := 1000) z (by omega)), Nat.min_eq_right (by omega)]
        rfl
    rw [e1, e2, nI_1]
    exact ih (k + 1) _ f (by omega) (by omega) (by omega) (by omega) (h3.imp (fun z => by omega) (fun z => ⟨z.1, by omega⟩))
theorem l_or {B v : Nat} (hB : B < 2 ^ 32) (hv : v ≤ 255) : (lN B <<< ((8 : Int32).toInt64 &&& 63)) ||| (nI v).toInt64 = lN (B * 256 + v) := by
  rw [show ((8 : Int32).toInt64 &&& 63) = ((nI 8).toInt64 &&& 63) from rfl, wb_shl B (k := 8) (by omega), nI_l (by omega)]
  exact g_or (k := 8) (p := 256) (by decide) (by omega) (by omega)
theorem m_nums {b q : Nat} (hI : In M xs) (hb : b ≤ xs.length) (hq : q + 2 ≤ 8) : ∀ (f n k B : Nat), n ≤ 4 → 4 - n < f → k ≤ b → B < 256 ^ n → (c9 xs b n k B = none → P (-16) M) → (∀ w, c9 xs b n k B = some w → P 0 (uA (uA M 17 q (nI (w / 65536))) 17 (q + 1) (nI (w % 65536)))) → wm m D (f_X9_readNumbers_L9 f (some m) (nI b) (nI q) (nI k) (lN B) (nI n)) M P := by
  have hl := hI.2.1
  intro f
  induction f with
  | zero => intro n k B h1 h2; omega
  | succ f ih =>
    intro n k B h1 h2 hk hB h0 hs
    rw [f_X9_readNumbers_L9]
    unfold f_X9_readNumbers_9
    by_cases c4 : n = 4
    · subst c4
      unfold c9 at h0 hs
      rw [if_pos rfl] at h0 hs
      have hB : B < 4294967296 := hB
      refine wm_t (by decide) ?_
      by_cases c : k = b
      · rw [if_pos c] at hs
        refine wm_t (nI_le (by omega) (by omega)) ?_
        refine wm_b (wm_rR (k := 17) (t := 1) (by decide) (wm_b (wm_sI (k := 17) (t := 1) (by decide) rfl (show q < 8 by omega) ?_)))
        refine wm_b (wm_rR (k := 17) (t := 1) (by decide) (wm_b (wm_sI (k := 17) (t := 1) (by decide) (nI_1 q) (show q + 1 < 8 by omega) (wm_p ?_))))
        rw [gnar1, gnar1, pf_shr (d := 16) (by decide) (by omega), lN_i, show (65535 : Int64) = lN (65536 - 1) from rfl, g_mask (s := 16) (by decide) (by omega) (by omega), lN_i]
        exact hs B rfl
      · rw [if_neg c] at h0
        exact wm_f (nI_ge (by omega) (by omega)) (wm_p (h0 rfl))
    · have hn3 : n ≤ 3 := by omega
      refine wm_f (show ¬ nI 4 ≤ nI n from nI_ge (by omega) (by omega)) ?_
      -- in a number
      have N : ∀ (j i v g fst : Nat), i + j = b → j < g → fst < i → v ≤ 255 → (xs.getD fst 0 = 48 → v = 0 ∧ i = fst + 1) → (v = 0 → xs.getD fst 0 = 48 ∧ i = fst + 1) → ptsC xs j i B (some v) n = c9 xs b n k B → wm m D (f_X9_readNumbers_L51 (f_X9_readNumbers_L9 f) g (some m) (nI b) (nI q) (nI i) (lN B) (nI n) (nI fst) (nI v)) M P := by
        have hB32 : B < 2 ^ 32 := Nat.lt_of_lt_of_le hB (Nat.pow_le_pow_right (n := 256) (by omega) (show n ≤ 4 by omega))
        have fin : ∀ i v fst, i ≤ b → fst < i → v ≤ 255 → (xs.getD fst 0 = 48 → i = fst + 1) → c9 xs b (n + 1) i (B * 256 + v) = c9 xs b n k B → wm m D (f_X9_readNumbers_100 (f_X9_readNumbers_L9 f) (some m) (nI b) (nI q) (nI i) (lN B) (nI n) (nI fst) (nI v)) M P := by
          intro i v fst hi hfi hv hz heq
          unfold f_X9_readNumbers_100
          refine wm_f (fun z => ?_) (wm_f (nI_nlt (b := v) (a := 255) hv (by omega)) ?_)
          · have := (nI_eq (by omega) (by omega)).mp z
            omega
          have go : wm m D (f_X9_readNumbers_139 (f_X9_readNumbers_L9 f) (some m) (nI b) (nI q) (nI i) (lN B) (nI n) (nI v)) M P := by
            unfold f_X9_readNumbers_139
            rw [l_or hB32 hv, nI_1]
            refine ih (n + 1) i (B * 256 + v) (by omega) (by omega) hi ?_ (fun z => h0 (by rw [← heq]; exact z)) (fun w z => hs w (by rw [← heq]; exact z))
            rw [Nat.pow_succ]
            omega
          refine wm_get (k := 11) (t := 0) (by decide) rfl (show fst < 300 by omega) ?_
          rw [hI.raw (by omega)]
          obtain ⟨y, hy, ey⟩ := hI.2.2.1.get (j := fst) (by omega)
          refine wm_if (fun c => ?_) (fun _ => go)
          rw [ey] at c
          have c := (sb_eq hy (c := 48) (by omega)).mp c
          have := hz (by rw [ey]; exact c)
          rw [pk_sub (by omega)]
          exact wm_t (nI_le (b := 1) (by omega) (by omega)) go
        intro j
        induction j with
        | zero =>
          intro i v g fst hi hg hfi hv hz hz2 heq
          obtain ⟨g, rfl⟩ : ∃ g', g = g' + 1 := ⟨g - 1, by omega⟩
          rw [f_X9_readNumbers_L51]
          unfold f_X9_readNumbers_51
          refine wm_t (nI_le (by omega) (by omega)) (fin i v fst (by omega) hfi hv (fun z => (hz z).2) ?_)
          rw [← heq, ← pts_c9 (v := v) hn3 (by omega) (Or.inl (by omega)), show b - i = 0 by omega]
        | succ j ihj =>
          intro i v g fst hi hg hfi hv hz hz2 heq
          obtain ⟨g, rfl⟩ : ∃ g', g = g' + 1 := ⟨g - 1, by omega⟩
          rw [f_X9_readNumbers_L51]
          unfold f_X9_readNumbers_51
          obtain ⟨y, hy, ey⟩ := hI.2.2.1.get (j := i) (by omega)
          refine wm_f (nI_ge (by omega) (by omega)) (wm_get (k := 11) (t := 0) (by decide) rfl (show i < 300 by omega) ?_)
          rw [hI.raw (by omega), ey]
          refine wm_b (wm_q (fun _ _ => m_isDigit) ?_)
          rw [dig_sb y hy]
          refine wm_if (fun c => ?_) (fun c => ?_)
          · refine fin i v fst (by omega) hfi hv (fun z => (hz z).2) ?_
            rw [← heq, ← pts_c9 (v := v) hn3 (by omega) (Or.inr (by rw [ey]; exact c)), show b - i = j + 1 by omega]
          · obtain ⟨n1, n2, n3⟩ := dig_t y hy c
            rw [ptsC, ey, if_neg (fun z => by have := (nI_eq (b := 46) (by omega) (by omega)).mp z; omega), if_neg c, if_neg (by simp), n3] at heq
            refine wm_get (k := 11) (t := 0) (by decide) rfl (show i < 300 by omega) ?_
            rw [hI.raw (by omega), ey, sb_lo y (by omega)]
            have e1 : (10 * nI v + nI y - 48 : Int32) = nI (10 * v + y - 48) := by
              rw [show (10 : Int32) = nI 10 from rfl, show (48 : Int32) = nI 48 from rfl, pk_mul, nI_add, pk_sub (by omega)]
            have e2 : (if nI (10 * v + y - 48) < (1000 : Int32) then nI (10 * v + y - 48) else 1000) = nI (min (10 * v + y - 48) 1000) := by
              rcases Nat.lt_or_ge (10 * v + y - 48) 1000 with z | z
              · rw [if_pos (show nI (10 * v + y - 48) < (1000 : Int32) from nI_lt (b := 1000) z (by omega)), Nat.min_eq_left (by omega)]
              · rw [if_neg (show ¬ nI (10 * v + y - 48) < (1000 : Int32) from nI_nlt (b := 1000) z (by omega)), Nat.min_eq_right (by omega)]
                rfl
            rw [e1, e2, nI_1]
            by_cases z0 : v = 0
            · rw [if_pos (by rw [z0])] at heq
              exact m_doom hI hb (h0 heq.symm) j (i + 1) _ g (by omega) (by omega) (by omega) (by omega) (Or.inr ⟨(hz2 z0).1, by have := (hz2 z0).2; omega⟩)
            · rw [if_neg (by simp [z0])] at heq
              rw [show (some v).getD 0 = v from rfl] at heq
              by_cases d : 10 * v + (y - 48) ≤ 255
              · rw [if_pos d] at heq
                rw [Nat.min_eq_left (by omega), show 10 * v + y - 48 = 10 * v + (y - 48) by omega]
                exact ihj (i + 1) _ g fst (by omega) (by omega) (by omega) d (fun z => absurd (hz z).1 z0) (fun z => by omega) heq
              · rw [if_neg d] at heq
                exact m_doom hI hb (h0 heq.symm) j (i + 1) _ g (by omega) (by omega) (by omega) (by omega) (Or.inl (by omega))
      -- where a number begins
      have S : ∀ i, i ≤ b → ptsC xs (b - i) i B none n = c9 xs b n k B → wm m D (f_X9_readNumbers_L51 (f_X9_readNumbers_L9 f) gF (some m) (nI b) (nI q) (nI i) (lN B) (nI n) (nI i) 0) M P := by
        intro i hi heq
        show wm m D (f_X9_readNumbers_L51 (f_X9_readNumbers_L9 f) (9999 + 1) (some m) (nI b) (nI q) (nI i) (lN B) (nI n) (nI i) 0) M P
        rw [f_X9_readNumbers_L51]
        unfold f_X9_readNumbers_51
        have bad : c9 xs b n k B = none → wm m D (f_X9_readNumbers_100 (f_X9_readNumbers_L9 f) (some m) (nI b) (nI q) (nI i) (lN B) (nI n) (nI i) 0) M P := fun z => by
          unfold f_X9_readNumbers_100
          exact wm_t rfl (wm_p (h0 z))
        rcases Nat.lt_or_ge i b with z | z
        · obtain ⟨y, hy, ey⟩ := hI.2.2.1.get (j := i) (by omega)
          obtain ⟨j, hj⟩ : ∃ j, b - i = j + 1 := ⟨b - i - 1, by omega⟩
          rw [hj, ptsC, if_pos rfl, if_pos rfl, ey] at heq
          refine wm_f (nI_ge z (by omega)) (wm_get (k := 11) (t := 0) (by decide) rfl (show i < 300 by omega) ?_)
          rw [hI.raw (by omega), ey]
          refine wm_b (wm_q (fun _ _ => m_isDigit) ?_)
          rw [dig_sb y hy]
          refine wm_if (fun c => bad ?_) (fun c => ?_)
          · rw [← heq]
            by_cases d : nI y = 46
            · rw [if_pos d]
            · rw [if_neg d, if_pos c]
          · obtain ⟨n1, n2, n3⟩ := dig_t y hy c
            rw [if_neg (fun z => by have := (nI_eq (b := 46) (by omega) (by omega)).mp z; omega), if_neg c, n3] at heq
            refine wm_get (k := 11) (t := 0) (by decide) rfl (show i < 300 by omega) ?_
            rw [hI.raw (by omega), ey, sb_lo y (by omega)]
            have e1 : (10 * 0 + nI y - 48 : Int32) = nI (y - 48) := by
              rw [show (10 * 0 : Int32) = nI 0 from rfl, show (48 : Int32) = nI 48 from rfl, nI_add, Nat.zero_add, pk_sub (by omega)]
            rw [e1, if_pos (show nI (y - 48) < (1000 : Int32) from nI_lt (b := 1000) (by omega) (by omega)), nI_1]
            refine N j (i + 1) (y - 48) 9999 i (by omega) (by omega) (by omega) (by omega) (fun w => ?_) (fun w => ?_) heq
            · rw [ey] at w
              have := (nI_eq (b := 48) (by omega) (by omega)).mp w
              omega
            · have : y = 48 := by omega
              rw [ey, this]
              exact ⟨rfl, rfl⟩
        · have : i = b := by omega
          subst this
          rw [Nat.sub_self, ptsC, if_pos rfl] at heq
          exact wm_t (nI_le (by omega) (by omega)) (bad heq.symm)
      by_cases c0 : n = 0
      · subst c0
        refine wm_t (by decide) (S k hk ?_)
        unfold c9
        rw [if_neg (by omega), if_pos rfl]
      · refine wm_f (nI_nle (by omega) (by omega)) ?_
        have h9 : c9 xs b n k B = if k < b ∧ xs.getD k 0 = 46 then ptsC xs (b - (k + 1)) (k + 1) B none n else none := by
          unfold c9
          rw [if_neg c4, if_neg c0]
        rcases Nat.lt_or_ge k b with z | z
        · refine wm_f (nI_ge z (by omega)) (wm_get (k := 11) (t := 0) (by decide) rfl (show k < 300 by omega) ?_)
          rw [hI.raw (by omega)]
          obtain ⟨y, hy, ey⟩ := hI.2.2.1.get (j := k) (by omega)
          have i46 : sb (xs.getD k 0) = 46 ↔ xs.getD k 0 = 46 := by
            rw [ey]
            exact sb_eq hy (c := 46) (by omega)
          refine wm_if (fun c => ?_) (fun c => wm_p (h0 ?_))
          · rw [nI_1]
            refine S (k + 1) (by omega) ?_
            rw [h9, if_pos ⟨z, i46.mp c⟩]
          · rw [h9, if_neg (fun w => c (i46.mpr w.2))]
        · refine wm_t (nI_le z (by omega)) (wm_p (h0 ?_))
          rw [h9, if_neg (fun w => by omega)]
theorem m_readNumbers {p b q : Nat} (hI : In M xs) (hp : p ≤ b) (hb : b ≤ xs.length) (hq : q + 2 ≤ 8) (h0 : ptsC xs (b - p) p 0 none 0 = none → P (-16) M) (hs : ∀ w, ptsC xs (b - p) p 0 none 0 = some w → P 0 (uA (uA M 17 q (nI (w / 65536))) 17 (q + 1) (nI (w % 65536)))) : wm m D (f_X9_readNumbers (some m) (nI p) (nI b) (nI q)) M P := by
  unfold f_X9_readNumbers
  have e : c9 xs b 0 p 0 = ptsC xs (b - p) p 0 none 0 := by
    unfold c9
    rw [if_neg (by omega), if_pos rfl]
  exact m_nums hI hb hq gF 0 p 0 (by omega) (by decide) hp (by decide) (fun z => h0 (by rw [← e]; exact z)) (fun w z => hs w (by rw [← e]; exact z))
end MP
