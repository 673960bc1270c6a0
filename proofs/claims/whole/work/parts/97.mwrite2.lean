/-! THE OTHER OBJECT: writeHost -/
/-- its search of the gap -/
def mgS (z : Nat → Bool) : Nat → Nat → Option Nat → Nat → Option Nat × Nat
  | 0, _, best, most => (best, most)
  | m + 1, k, best, most => if zfr z (m + 1) k ≤ most then mgS z m (k + 1) best most else mgS z m (k + 1) (some k) (zfr z (m + 1) k)
theorem zfr_congr {z z' : Nat → Bool} (h : ∀ i, i < 8 → z i = z' i) : ∀ m k, k + m = 8 → zfr z m k = zfr z' m k
  | 0, k, _ => rfl
  | m + 1, k, e => by rw [zfr, zfr, h k (by omega), zfr_congr h m (k + 1) (by omega)]
theorem flg_congr {z z' : Nat → Bool} (h : ∀ i, i < 8 → z i = z' i) : ∀ m k best lo zs, k + m = 8 → flg z m k best lo zs = flg z' m k best lo zs
  | 0, k, _, _, _, _ => rfl
  | m + 1, k, best, lo, zs, e => by rw [flg, flg, h k (by omega), flg_congr h m (k + 1) _ _ _ (by omega), flg_congr h m (k + 1) _ _ _ (by omega)]
theorem mgS_congr {z z' : Nat → Bool} (h : ∀ i, i < 8 → z i = z' i) : ∀ m k best most, k + m = 8 → mgS z m k best most = mgS z' m k best most
  | 0, k, _, _, _ => rfl
  | m + 1, k, best, most, e => by rw [mgS, mgS, zfr_congr h (m + 1) k e, mgS_congr h m (k + 1) _ _ (by omega), mgS_congr h m (k + 1) _ _ (by omega)]
theorem gap_tab : ∀ n, n < 256 → ((mgS (Nat.testBit n) 8 0 none 1).1 = none ∧ flg (Nat.testBit n) 8 0 8 1 0 = 8) ∨ ((mgS (Nat.testBit n) 8 0 none 1).1 = some (flg (Nat.testBit n) 8 0 8 1 0) ∧ flg (Nat.testBit n) 8 0 8 1 0 < 8 ∧ (mgS (Nat.testBit n) 8 0 none 1).2 = zfr (Nat.testBit n) (8 - flg (Nat.testBit n) 8 0 8 1 0) (flg (Nat.testBit n) 8 0 8 1 0) ∧ 2 ≤ (mgS (Nat.testBit n) 8 0 none 1).2) := by decide +kernel
theorem bits_ex (z : Nat → Bool) : ∃ n, n < 256 ∧ ∀ i, i < 8 → z i = Nat.testBit n i := by
  have key : ∀ k, k ≤ 8 → ∃ n, n < 2 ^ k ∧ ∀ i, i < k → z i = Nat.testBit n i := by
    intro k
    induction k with
    | zero => exact fun _ => ⟨0, by decide, fun i hi => absurd hi (Nat.not_lt_zero _)⟩
    | succ k ih =>
      intro hk
      obtain ⟨n, h1, h2⟩ := ih (by omega)
      cases hz : z k with
      | false =>
        refine ⟨n, by rw [Nat.pow_succ]; omega, fun i hi => ?_⟩
        by_cases c : i = k
        · rw [c, hz, Nat.testBit_lt_two_pow h1]
        · exact h2 i (by omega)
      | true =>
        refine ⟨2 ^ k + n, by rw [Nat.pow_succ]; omega, fun i hi => ?_⟩
        by_cases c : i = k
        · rw [c, hz, Nat.testBit_two_pow_add_eq, Nat.testBit_lt_two_pow h1]
          rfl
        · rw [Nat.testBit_two_pow_add_gt (by omega)]
          exact h2 i (by omega)
  exact key 8 (by omega)
theorem gap_eq (z : Nat → Bool) : ((mgS z 8 0 none 1).1 = none ∧ flg z 8 0 8 1 0 = 8) ∨ ((mgS z 8 0 none 1).1 = some (flg z 8 0 8 1 0) ∧ flg z 8 0 8 1 0 < 8 ∧ (mgS z 8 0 none 1).2 = zfr z (8 - flg z 8 0 8 1 0) (flg z 8 0 8 1 0) ∧ 2 ≤ (mgS z 8 0 none 1).2) := by
  obtain ⟨n, hn, h⟩ := bits_ex z
  have T := gap_tab n hn
  rw [← mgS_congr h 8 0 none 1 (by omega), ← flg_congr h 8 0 8 1 0 (by omega)] at T
  have fl := flg_le z 8 0 8 1 0 (by omega) (by omega)
  rw [← zfr_congr h _ _ (by omega)] at T
  exact T
theorem six_skip {w : Nat → Int32} {g b : Nat} : ∀ (d m k : Nat), g < k → k + d = b → d ≤ m → sixL w g b m k = sixL w g b (m - d) b
  | 0, m, k, h1, h2, h3 => by rw [show k = b by omega, Nat.sub_zero]
  | d + 1, m, k, h1, h2, h3 => by
    obtain ⟨m, rfl⟩ : ∃ j, m = j + 1 := ⟨m - 1, by omega⟩
    rw [sixL, if_neg (by omega), if_pos ⟨by omega, by omega⟩, List.nil_append, List.nil_append, six_skip d m (k + 1) (by omega) (by omega) (by omega), show m + 1 - (d + 1) = m - d by omega]
theorem six_gap {w : Nat → Int32} {g b m : Nat} (hg : g + m = 8) (hb : g < b) (hb8 : b ≤ 8) : sixL w g b m g = tstr 8 ++ sixL w g b (8 - b) b := by
  obtain ⟨m, rfl⟩ : ∃ j, m = j + 1 := ⟨m - 1, by omega⟩
  rw [sixL, if_pos rfl, if_pos ⟨Nat.le_refl _, hb⟩, List.nil_append, six_skip (b - (g + 1)) m (g + 1) (by omega) (by omega) (by omega), show m - (b - (g + 1)) = 8 - b by omega]
/-- a HOST that its kind and words write -/
def okH (U : UV) : Prop := (uK U = 0 ∨ uK U = 4 ∨ uK U = 6) ∧ (uK U = 4 → uR U 4 = fourL 3 (uW U 0)) ∧ (uK U = 6 → uR U 4 = sixS (uW U)) ∧ (uK U = 0 → (uR U 4).length ≤ 300)
theorem By.cp {f : Nat → Int32} {o j : Nat} {xs : List Int32} (h : By f o xs) (hx : isB xs) (hj : j < xs.length) : ∃ n, n < 256 ∧ xs.getD j 0 = nI n ∧ f (o + j) = sb (nI n) ∧ sb (f (o + j)) = sb (nI n) := by
  obtain ⟨n, hn, e⟩ := hx.get hj
  have := h j hj
  rw [e] at this
  exact ⟨n, hn, e, this, by rw [this, sb_sb]⟩
section MV
variable {m : Nat} {D : Nat → Nat} {M : MS} {R : Nat → List Int32} {U : UV} {ys : List Int32} {P : Unit → MS → Prop}
theorem m_writeName {i : Nat} (hi : i < 5) (hR : Rw M R) : ∀ (k j f : Nat) (M1 : MS), j + k = (R (6 * i + 2)).length → k < f → Ex [18, 19] M M1 → Wt M1 ((R (6 * i + 2)).take j) → (R (6 * i + 2)).length ≤ 400 → (∀ M', Ex [18, 19] M M' → Wt M' (R (6 * i + 2)) → P () M') → wm m D (f_X9_writeHost_L16 f (some m) (nI i) (nI j)) M1 P := by
  obtain ⟨a1, a2, a3, a4⟩ := hR (6 * i + 2) (by omega)
  have eb : (6 * nI i + 2 : Int32) = nI (6 * i + 2) := by rw [show (6 : Int32) = nI 6 from rfl, show (2 : Int32) = nI 2 from rfl, pk_mul, nI_add]
  intro k
  induction k with
  | zero =>
    intro j f M1 hj hf E W h4 hP
    obtain ⟨f, rfl⟩ : ∃ g, f = g + 1 := ⟨f - 1, by omega⟩
    rw [f_X9_writeHost_L16]
    unfold f_X9_writeHost_16 f_X9_sizeOf
    refine wm_n (wm_b (wm_get (k := 10) (t := 1) (by decide) eb (show 6 * i + 2 < 30 by omega) (wm_p ?_)))
    rw [E.1 10 (by decide), a1]
    refine wm_t (nI_le (by omega) (by omega)) (wm_p (hP M1 E ?_))
    rw [show j = (R (6 * i + 2)).length by omega, List.take_length] at W
    exact W
  | succ k ih =>
    intro j f M1 hj hf E W h4 hP
    obtain ⟨f, rfl⟩ : ∃ g, f = g + 1 := ⟨f - 1, by omega⟩
    rw [f_X9_writeHost_L16]
    unfold f_X9_writeHost_16 f_X9_sizeOf f_X9_row
    refine wm_n (wm_b (wm_get (k := 10) (t := 1) (by decide) eb (show 6 * i + 2 < 30 by omega) (wm_p ?_)))
    rw [E.1 10 (by decide), a1]
    obtain ⟨n, hn, en, e1, e2⟩ := a4.cp a3 (j := j) (by omega)
    refine wm_f (nI_ge (by omega) (by omega)) (wm_b (wm_rR (k := 9) (t := 0) (by decide) (wm_n (wm_b (wm_p ?_)))))
    rw [eb, show (2400 : Int32) = nI 2400 from rfl, pk_mul]
    refine wm_b (wm_aI (k := 9) (t := 0) (by decide) (nI_add _ _) (show 2400 * (6 * i + 2) + j < 72000 by omega) ?_)
    rw [E.1 9 (by decide)]
    refine wm_n (wm_b (m_put W (by rw [List.length_take]; omega) hn e2 (fun M2 E2 W2 => ?_)))
    rw [nI_1]
    refine ih (j + 1) f M2 (by omega) (by omega) (E.trans E2) ?_ h4 hP
    rw [take_s (by omega), en]
    exact W2
theorem m_writeFour {i : Nat} {v : Int32} (hi : i < 5) (hv : mA M 6 (8 * i) = v) : ∀ (k j f : Nat) (M1 : MS) (ys : List Int32), j + k = 4 → k < f → 0 < k → Ex [18, 19] M M1 → Wt M1 ys → ys.length + 6 * k ≤ 400 → (∀ M', Ex [18, 19] M M' → Wt M' (ys ++ (if j = 0 then fourL (k - 1) v else [46] ++ fourL (k - 1) v)) → P () M') → wm m D (f_X9_writeHost_L64 f (some m) (nI i) (nI j)) M1 P := by
  intro k
  induction k with
  | zero => intro j f M1 ys _ _ h; omega
  | succ k ih =>
    intro j f M1 ys hj hf _ E W hl hP
    obtain ⟨f, rfl⟩ : ∃ g, f = g + 1 := ⟨f - 1, by omega⟩
    rw [f_X9_writeHost_L64]
    unfold f_X9_writeHost_64
    refine wm_f (show ¬ nI 4 ≤ nI j from nI_ge (by omega) (by omega)) ?_
    have eb : (8 * nI i : Int32) = nI (8 * i) := pk_mul 8 i
    have ev : (v >>> ((24 - (8 * nI j)) &&& 31)) &&& 255 = nI (byt4 v k) := by
      obtain ⟨jl, kj⟩ : j < 4 ∧ k = 3 - j := by omega
      unfold byt4
      rw [pk_and _ 8 (by decide)]
      congr 1
      have es : (24 - (8 * nI j) : Int32) = nI (8 * k) := by
        rw [show (8 : Int32) = nI 8 from rfl, show (24 : Int32) = nI 24 from rfl, pk_mul, pk_sub (by omega)]
        congr 1
        omega
      rw [es]
      have hb : ∀ t, t < 8 → bt (v >>> (nI (8 * k) &&& 31)) t = bt v (8 * k + t) := fun t ht => by
        rw [b_sshr (8 * k) (by omega) v (by omega), if_pos (by omega)]
      apply Nat.eq_of_testBit_eq
      intro t
      rw [show (256 : Nat) = 2 ^ 8 from rfl, Nat.testBit_mod_two_pow, Nat.testBit_mod_two_pow, Nat.testBit_div_two_pow]
      by_cases ht : t < 8
      · have := hb t ht
        unfold bt at this
        rw [BitVec.testBit_toNat, BitVec.testBit_toNat, this, Nat.add_comm]
      · simp [ht]
    -- one number
    have k79 : ∀ M2 zs, Ex [18, 19] M M2 → Wt M2 zs → zs.length + 6 * k + 5 ≤ 400 → (∀ M', Ex [18, 19] M M' → Wt M' (zs ++ fourL k v) → P () M') → wm m D (f_X9_writeHost_79 (f_X9_writeHost_L64 f) (some m) (nI i) (nI j)) M2 P := by
      intro M2 zs E2 W2 hl2 hP2
      unfold f_X9_writeHost_79
      rw [eb]
      refine wm_get (k := 6) (t := 1) (by decide) rfl (show 8 * i < 40 by omega) ?_
      rw [E2.1 6 (by decide), hv, ev, nI_1]
      have hb : byt4 v k < 65536 := by
        unfold byt4
        omega
      have dl := decL_len 4 (byt4 v k)
      refine wm_n (wm_b (m_putDec hb W2 (by omega) (fun M3 E3 W3 => ?_)))
      rcases Nat.eq_zero_or_pos k with z | z
      · subst z
        obtain ⟨f, rfl⟩ : ∃ g, f = g + 1 := ⟨f - 1, by omega⟩
        rw [f_X9_writeHost_L64]
        unfold f_X9_writeHost_64
        exact wm_t (show nI 4 ≤ nI (j + 1) from nI_le (by omega) (by omega)) (wm_p (hP2 M3 (E2.trans E3) W3))
      · refine ih (j + 1) f M3 _ (by omega) (by omega) z (E2.trans E3) W3 (by rw [List.length_append]; omega) (fun M4 E4 W4 => hP2 M4 E4 ?_)
        obtain ⟨k', rfl⟩ : ∃ k', k = k' + 1 := ⟨k - 1, by omega⟩
        rw [if_neg (by omega), show k' + 1 - 1 = k' by omega] at W4
        rw [fourL]
        simp only [List.append_assoc] at W4 ⊢
        exact W4
    rw [show k + 1 - 1 = k by omega] at hP
    by_cases j0 : j = 0
    · rw [if_pos j0] at hP
      exact wm_t (by rw [j0]; decide) (k79 M1 ys E W (by omega) hP)
    · rw [if_neg j0] at hP
      refine wm_f (nI_nle (by omega) (by omega)) (m_pt (n := 46) W (by omega) (by omega) (fun M2 E2 W2 => ?_))
      refine k79 M2 _ (E.trans E2) W2 (by rw [List.length_append, List.length_singleton]; omega) (fun M3 E3 W3 => hP M3 E3 ?_)
      rw [List.append_assoc] at W3
      exact W3
theorem m_writeSix {i : Nat} {w : Nat → Int32} (hi : i < 5) (hv : ∀ k, k < 8 → mA M 6 (8 * i + k) = nI (num6 w k)) (W : Wt M []) (hP : ∀ M', Ex [18, 19] M M' → Wt M' (sixS w) → P () M') : wm m D (f_X9_writeSix (some m) (nI i)) M P := by
  have ge := gap_eq (fun j => decide (num6 w j = 0))
  have eB : gapB w = flg (fun j => decide (num6 w j = 0)) 8 0 8 1 0 := rfl
  have eE : gapE w = gapB w + zfr (fun j => decide (num6 w j = 0)) (8 - gapB w) (gapB w) := rfl
  rw [← eB] at ge
  have gE8 : gapE w ≤ 8 := by
    have h1 := flg_le (fun j => decide (num6 w j = 0)) 8 0 8 1 0 (by omega) (by omega)
    rw [← eB] at h1
    have h2 := zfr_le (fun j => decide (num6 w j = 0)) (8 - gapB w) (gapB w)
    omega
  have hS : sixS w = [91] ++ sixL w (gapB w) (gapE w) 8 0 := rfl
  rw [hS] at hP
  generalize gapB w = g at *
  generalize gapE w = b at *
  have eidx : ∀ k, (8 * nI i + nI k : Int32) = nI (8 * i + k) := fun k => by rw [show (8 : Int32) = nI 8 from rfl, pk_mul, nI_add]
  -- writing, from number k on
  have L81 : ∀ (bst : Option Nat) (most : Nat), ((bst = none ∧ g = 8 ∧ b = 8) ∨ (bst = some g ∧ g < 8 ∧ b = g + most ∧ 0 < most)) → ∀ (d k f : Nat) (cl : Bool) (M1 : MS) (ys : List Int32), d = 8 - k → k ≤ 8 → d < f → Ex [18, 19] M M1 → Wt M1 ys → ys.length + 7 * d + 2 ≤ 400 → (k < 8 → (cl = true ↔ 0 < k ∧ k ≠ b)) → (k ≤ g ∨ b ≤ k) → (∀ M', Ex [18, 19] M M' → Wt M' (ys ++ sixL w g b d k) → P () M') → wm m D (f_X9_writeSix_L81 f (some m) (nI i) (oI bst) (nI most) (nI k) (b2i cl)) M1 P := by
    intro bst most hbst d
    induction d using Nat.strongRecOn with
    | _ d ih =>
      intro k f cl M1 ys hd hk8 hf E W1 hl hcl hkg hP1
      obtain ⟨f, rfl⟩ : ∃ g, f = g + 1 := ⟨f - 1, by omega⟩
      rw [f_X9_writeSix_L81]
      unfold f_X9_writeSix_81
      by_cases k8 : k = 8
      · have d0 : d = 0 := by omega
        subst d0
        refine wm_t (by rw [k8]; decide) (m_pt (n := 93) W1 (by omega) (by omega) (fun M2 E2 W2 => wm_p (hP1 M2 (E.trans E2) W2)))
      · refine wm_f (show ¬ nI 8 ≤ nI k from nI_ge (by omega) (by omega)) ?_
        by_cases kg : k = g
        · -- the gap
          rcases hbst with ⟨-, z, -⟩ | ⟨rfl, g8, bg, m0⟩
          · omega
          · subst kg
            refine wm_t rfl (m_pt (n := 58) W1 (by omega) (by omega) (fun M2 E2 W2 => m_pt (n := 58) W2 (by rw [List.length_append, List.length_singleton]; omega) (by omega) (fun M3 E3 W3 => ?_)))
            rw [nI_add, ← bg]
            refine ih (8 - b) (by omega) b f false M3 _ rfl gE8 (by omega) ((E.trans E2).trans E3) W3 (by simp only [List.length_append, List.length_singleton]; omega) (fun _ => ⟨fun z => (by cases z), fun z => absurd rfl z.2⟩) (Or.inr (Nat.le_refl _)) (fun M4 E4 W4 => hP1 M4 E4 ?_)
            rw [six_gap (by omega) (by omega) gE8]
            simp only [List.append_assoc] at W4 ⊢
            exact W4
        · have kne : ¬ nI k = oI bst := by
            rcases hbst with ⟨rfl, -, -⟩ | ⟨rfl, g8, -, -⟩
            · exact nI_m1 (by omega)
            · exact fun z => kg ((nI_eq (by omega) (by omega)).mp z)
          refine wm_f kne ?_
          obtain ⟨d', rfl⟩ : ∃ d', d = d' + 1 := ⟨d - 1, by omega⟩
          have out : ¬ (g ≤ k ∧ k < b) := by
            rcases hkg with z | z
            · omega
            · omega
          rw [sixL, if_neg kg, if_neg out, List.nil_append] at hP1
          have hn6 := num6_lt w k
          have hxl := hexL_len 3 (num6 w k)
          have k129 : ∀ M2 zs, Ex [18, 19] M M2 → Wt M2 zs → zs.length + 7 * d' + 6 ≤ 400 → (∀ M', Ex [18, 19] M M' → Wt M' (zs ++ (hexL 3 (num6 w k) ++ sixL w g b d' (k + 1))) → P () M') → wm m D (f_X9_writeSix_129 (f_X9_writeSix_L81 f) (some m) (nI i) (oI bst) (nI most) (nI k)) M2 P := by
            intro M2 zs E2 W2 hl2 hP2
            unfold f_X9_writeSix_129
            refine wm_get (k := 6) (t := 1) (by decide) (eidx k) (show 8 * i + k < 40 by omega) ?_
            rw [E2.1 6 (by decide), hv k (by omega), nI_1]
            refine wm_n (wm_b (m_putHex hn6 W2 (by omega) (fun M3 E3 W3 => ?_)))
            refine ih d' (by omega) (k + 1) f true M3 _ (by omega) (by omega) (by omega) (E2.trans E3) W3 (by rw [List.length_append]; omega) (fun k1 => ⟨fun _ => ⟨by omega, ?_⟩, fun _ => rfl⟩) ?_ (fun M4 E4 W4 => hP2 M4 E4 (by rw [List.append_assoc] at W4; exact W4))
            · rcases hbst with ⟨-, y1, y2⟩ | ⟨-, y1, y2, y3⟩
              · omega
              · rcases hkg with z | z <;> omega
            · rcases hkg with z | z <;> omega
          refine wm_bz (fun z => ?_) (fun z => ?_)
          · have : ¬ (0 < k ∧ k ≠ b) := fun y => by
              have := (hcl (by omega)).mpr y
              rw [z] at this
              cases this
            rw [if_neg this, List.nil_append] at hP1
            exact k129 M1 ys E W1 (by omega) (by simpa only [List.append_assoc] using hP1)
          · rw [if_pos ((hcl (by omega)).mp z)] at hP1
            refine m_pt (n := 58) W1 (by omega) (by omega) (fun M2 E2 W2 => ?_)
            refine k129 M2 _ (E.trans E2) W2 (by rw [List.length_append, List.length_singleton]; omega) (fun M3 E3 W3 => hP1 M3 E3 ?_)
            simp only [List.append_assoc] at W3 ⊢
            exact W3
  -- the search
  have hz : ∀ k, k < 8 → (mA M 6 (8 * i + k) = 0 ↔ decide (num6 w k = 0) = true) := fun k hk => by
    rw [hv k hk, decide_eq_true_iff]
    have := num6_lt w k
    exact nI_eq (b := 0) (by omega) (by omega)
  have L7 : ∀ (d k f : Nat) (bst : Option Nat) (most : Nat), k + d = 8 → d < f → most ≤ 8 → (∀ q, bst = some q → q < 8) → mgS (fun j => decide (num6 w j = 0)) d k bst most = mgS (fun j => decide (num6 w j = 0)) 8 0 none 1 → wm m D (f_X9_writeSix_L7 f (some m) (nI i) (oI bst) (nI most) (nI k)) M P := by
    intro d
    induction d with
    | zero =>
      intro k f bst most hk hf hm8 hq eq
      obtain ⟨f, rfl⟩ : ∃ g, f = g + 1 := ⟨f - 1, by omega⟩
      rw [f_X9_writeSix_L7]
      unfold f_X9_writeSix_7
      rw [mgS] at eq
      refine wm_t (show nI 8 ≤ nI k from nI_le (by omega) (by omega)) (m_pt (n := 91) W (by decide) (by omega) (fun M1 E1 W1 => ?_))
      rw [← eq] at ge
      dsimp only at ge
      refine L81 bst most ?_ 8 0 gF false M1 _ rfl (by omega) (by decide) E1 W1 (by decide) (fun _ => ⟨fun z => (by cases z), fun z => absurd z.1 (by omega)⟩) (Or.inl (Nat.zero_le _)) (fun M2 E2 W2 => hP M2 E2 W2)
      rcases ge with ⟨y1, y2⟩ | ⟨y1, y2, y3, y4⟩
      · left
        refine ⟨y1, y2, ?_⟩
        rw [eE, y2]
        rfl
      · right
        exact ⟨y1, y2, by rw [eE, y3], by omega⟩
    | succ d ih =>
      intro k f bst most hk hf hm8 hq eq
      obtain ⟨f, rfl⟩ : ∃ g, f = g + 1 := ⟨f - 1, by omega⟩
      rw [f_X9_writeSix_L7]
      unfold f_X9_writeSix_7
      rw [mgS] at eq
      refine wm_f (show ¬ nI 8 ≤ nI k from nI_ge (by omega) (by omega)) ?_
      have zl := zfr_le (fun j => decide (num6 w j = 0)) (d + 1) k
      have k51 : wm m D (f_X9_writeSix_51 (f_X9_writeSix_L7 f) (some m) (nI i) (oI bst) (nI most) (nI k) (nI (zfr (fun j => decide (num6 w j = 0)) (d + 1) k))) M P := by
        unfold f_X9_writeSix_51
        rw [nI_1]
        by_cases c : zfr (fun j => decide (num6 w j = 0)) (d + 1) k ≤ most
        · rw [if_pos c] at eq
          exact wm_t (nI_le c (by omega)) (ih (k + 1) f bst most (by omega) (by omega) hm8 hq eq)
        · rw [if_neg c] at eq
          exact wm_f (nI_ge (by omega) (by omega)) (ih (k + 1) f (some k) _ (by omega) (by omega) (by omega) (fun q z => by cases z; omega) eq)
      have L17 : ∀ (e n f' : Nat), n + e = d + 1 → e < f' → n + zfr (fun j => decide (num6 w j = 0)) e (k + n) = zfr (fun j => decide (num6 w j = 0)) (d + 1) k → wm m D (f_X9_writeSix_L17 (f_X9_writeSix_L7 f) f' (some m) (nI i) (oI bst) (nI most) (nI k) (nI n)) M P := by
        intro e
        induction e with
        | zero =>
          intro n f' hn hf' eq'
          obtain ⟨f', rfl⟩ : ∃ g, f' = g + 1 := ⟨f' - 1, by omega⟩
          rw [f_X9_writeSix_L17]
          unfold f_X9_writeSix_17
          rw [zfr, Nat.add_zero] at eq'
          rw [nI_add]
          refine wm_t (show nI 8 ≤ nI (k + n) from nI_le (by omega) (by omega)) ?_
          rw [eq']
          exact k51
        | succ e ihe =>
          intro n f' hn hf' eq'
          obtain ⟨f', rfl⟩ : ∃ g, f' = g + 1 := ⟨f' - 1, by omega⟩
          rw [f_X9_writeSix_L17]
          unfold f_X9_writeSix_17
          rw [zfr] at eq'
          rw [nI_add]
          refine wm_f (show ¬ nI 8 ≤ nI (k + n) from nI_ge (by omega) (by omega)) (wm_get (k := 6) (t := 1) (by decide) (by rw [eidx k, nI_add]) (show 8 * i + k + n < 40 by omega) ?_)
          rw [Nat.add_assoc]
          refine wm_if (fun c => ?_) (fun c => ?_)
          · rw [if_pos ((hz (k + n) (by omega)).mp c)] at eq'
            rw [nI_1]
            refine ihe (n + 1) f' (by omega) (by omega) ?_
            rw [← eq', show k + (n + 1) = k + n + 1 by omega]
            omega
          · rw [if_neg (fun y => c ((hz (k + n) (by omega)).mpr y)), Nat.add_zero] at eq'
            rw [eq']
            exact k51
      exact L17 (d + 1) 0 gF (by omega) (by unfold gF; omega) (Nat.zero_add _)
  unfold f_X9_writeSix
  exact L7 8 0 gF none 1 (by omega) (by decide) (by omega) (fun q z => by cases z) rfl
theorem m_writeHost {i : Nat} (hi : i < 5) (hR : Rw M R) (hH : PH M R i U) (ok : okH U) (hP : ∀ M', Ex [18, 19] M M' → Wt M' (uR U 4) → P () M') : wm m D (f_X9_writeHost (some m) (nI i)) M P := by
  obtain ⟨h1, h2, h3⟩ := hH
  obtain ⟨o1, o2, o3, o4⟩ := ok
  unfold f_X9_writeHost
  refine wm_b (wm_wI (wm_get (k := 5) (t := 1) (by decide) rfl (show i < 5 from hi) ?_))
  have E0 : Ex [18, 19] M (uN M 19 0) := Ex.n (by decide)
  have W0 : Wt (uN M 19 0) [] := ⟨by rw [mI_uN, if_pos rfl]; rfl, by decide, isB.nil, By.nil⟩
  rw [mA_uN, h1]
  refine wm_if (fun c => ?_) (fun c => wm_get (k := 5) (t := 1) (by decide) rfl (show i < 5 from hi) ?_)
  · rw [if_pos c] at h3
    have := o4 c
    refine m_writeName (M := M) hi hR (R (6 * i + 2)).length 0 gF _ (by omega) (by rw [h3]; unfold gF; omega) E0 (by rw [List.take_zero]; exact W0) (by rw [h3]; omega) (fun M' E W => hP M' E (by rw [← h3]; exact W))
  · rw [mA_uN, h1]
    refine wm_if (fun d => ?_) (fun d => ?_)
    · have hv : mA M 6 (8 * i) = uW U 0 := by
        have := h2 0 (by omega)
        rw [Nat.add_zero] at this
        rw [this, d]
        rfl
      refine m_writeFour (M := M) hi hv 4 0 gF _ [] (by omega) (by decide) (by omega) E0 W0 (by decide) (fun M' E W => hP M' E ?_)
      rw [o2 d]
      exact W
    · have k6 : uK U = 6 := by
        rcases o1 with z | z | z
        · exact absurd z c
        · exact absurd z d
        · exact z
      refine wm_n (wm_b (m_writeSix (w := uW U) hi (fun k hk => ?_) W0 (fun M' E W => wm_p (hP M' (E0.trans E) (by rw [o3 k6]; exact W)))))
      rw [mA_uN, h2 k hk, k6]
      rfl
end MV
