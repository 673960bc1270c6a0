/-! THE OTHER OBJECT: readHost -/
/-- the bytes of a name before they are made small -/
def dcd (xs : List Int32) (b : Nat) : Nat → Nat → List Int32
  | 0, _ => []
  | f + 1, i => if b ≤ i then [] else match cod xs b i with
    | some c => nI c :: dcd xs b f (i + 3)
    | none => xs.getD i 0 :: dcd xs b f (i + 1)
theorem dec_dcd (xs : List Int32) (b : Nat) : ∀ f i, dec xs b f i = (dcd xs b f i).map pLow
  | 0, i => rfl
  | f + 1, i => by
    rw [dec, dcd]
    by_cases c : b ≤ i
    · rw [if_pos c, if_pos c]
      rfl
    · rw [if_neg c, if_neg c]
      cases cod xs b i with
      | none =>
        dsimp only
        rw [List.map_cons, dec_dcd xs b f (i + 1)]
      | some c =>
        dsimp only
        rw [List.map_cons, dec_dcd xs b f (i + 3)]
theorem dcd_len (xs : List Int32) (b : Nat) : ∀ f i, (dcd xs b f i).length ≤ b - i
  | 0, i => Nat.zero_le _
  | f + 1, i => by
    rw [dcd]
    by_cases c : b ≤ i
    · rw [if_pos c]
      exact Nat.zero_le _
    · rw [if_neg c]
      cases hc : cod xs b i with
      | none =>
        have := dcd_len xs b f (i + 1)
        simp only [List.length_cons]
        omega
      | some c =>
        have := dcd_len xs b f (i + 3)
        simp only [List.length_cons]
        omega
theorem cod_lt {xs : List Int32} {b i c : Nat} (h : cod xs b i = some c) : c < 256 ∧ i + 2 < b := by
  unfold cod at h
  split at h
  · rename_i hc
    rcases hx (xs.getD (i + 1) 0) with ⟨-, e⟩ | ⟨d, hd, -, e⟩
    · rw [e] at h
      cases h
    · rcases hx (xs.getD (i + 2) 0) with ⟨-, e'⟩ | ⟨d', hd', -, e'⟩
      · rw [e, e'] at h
        cases h
      · rw [e, e'] at h
        cases h
        exact ⟨by omega, hc.1⟩
  · cases h
theorem dcd_b {xs : List Int32} {b : Nat} (hx : isB xs) (hb : b ≤ xs.length) : ∀ f i, isB (dcd xs b f i)
  | 0, i => isB.nil
  | f + 1, i => by
    rw [dcd]
    by_cases c : b ≤ i
    · rw [if_pos c]
      exact isB.nil
    · rw [if_neg c]
      cases hc : cod xs b i with
      | none =>
        obtain ⟨n, hn, e⟩ := hx.get (j := i) (by omega)
        exact isB.cons hn e (dcd_b hx hb f (i + 1))
      | some c => exact isB.cons (cod_lt hc).1 rfl (dcd_b hx hb f (i + 3))
theorem num6_wS {F : Nat → Nat} (h : ∀ j, F j < 65536) {i : Nat} (hi : i < 8) : num6 (wS F) i = F i := by
  have t : ∀ k, (wd F k).toBitVec.toNat = F k * 65536 + F (k + 1) := fun k => by
    unfold wd
    have h1 := h k
    have h2 := h (k + 1)
    exact pk_tn (by omega)
  unfold num6 wS w4
  rcases (show i = 0 ∨ i = 1 ∨ i = 2 ∨ i = 3 ∨ i = 4 ∨ i = 5 ∨ i = 6 ∨ i = 7 by omega) with rfl | rfl | rfl | rfl | rfl | rfl | rfl | rfl
  · have t0 : (wd F 0).toBitVec.toNat = F 0 * 65536 + F 1 := t 0; have := h 1; simp; omega
  · have t0 : (wd F 0).toBitVec.toNat = F 0 * 65536 + F 1 := t 0; have := h 1; simp; omega
  · have t0 : (wd F 2).toBitVec.toNat = F 2 * 65536 + F 3 := t 2; have := h 3; simp; omega
  · have t0 : (wd F 2).toBitVec.toNat = F 2 * 65536 + F 3 := t 2; have := h 3; simp; omega
  · have t0 : (wd F 4).toBitVec.toNat = F 4 * 65536 + F 5 := t 4; have := h 5; simp; omega
  · have t0 : (wd F 4).toBitVec.toNat = F 4 * 65536 + F 5 := t 4; have := h 5; simp; omega
  · have t0 : (wd F 6).toBitVec.toNat = F 6 * 65536 + F 7 := t 6; have := h 7; simp; omega
  · have t0 : (wd F 6).toBitVec.toNat = F 6 * 65536 + F 7 := t 6; have := h 7; simp; omega
theorem sixR_lt {xs : List Int32} {a b : Nat} {F : Nat → Nat} (h : sixR xs a b = some F) : ∀ j, F j < 65536 := by
  unfold sixR at h
  have n0 : allP ([] : List Nat) := fun x hx => by cases hx
  cases hp : pcsC xs (fGap xs b (b - a) a) (decide (fGap xs b (b - a) a = b)) gF a (decide (a < fGap xs b (b - a) a)) [] with
  | none => rw [hp] at h; cases h
  | some ps =>
    rw [hp] at h
    dsimp only at h
    obtain ⟨o1, o2, o3, -⟩ := pcsC_ok _ _ _ _ _ n0 (by decide) hp
    split at h
    · split at h
      · cases h
        exact fun j => spr_lt o1 _ j
      · cases h
    · cases hq : pcsC xs b true gF (fGap xs b (b - a) a + 2) (decide (fGap xs b (b - a) a + 2 < b)) ps with
      | none => rw [hq] at h; cases h
      | some ps' =>
        rw [hq] at h
        dsimp only at h
        obtain ⟨q1, -⟩ := pcsC_ok _ _ _ _ _ o1 o3 hq
        split at h
        · cases h
          exact fun j => spr_lt q1 _ j
        · cases h
section MZ
variable {m : Nat} {D : Nat → Nat} {M : MS} {xs : List Int32} {P : Int32 → MS → Prop}
/-- the decoded bytes -/
theorem m_dec {b : Nat} (hb : b ≤ xs.length) : ∀ (f i : Nat) (M : MS) (ds : List Int32), b - i < f → i ≤ b → In M xs → mI M 15 = nI ds.length → isB ds → By (mA M 14) 0 ds → ds.length + (b - i) ≤ 300 → (∀ M', Ex [14, 15] M M' → mI M' 15 = nI (ds ++ dcd xs b f i).length → By (mA M' 14) 0 (ds ++ dcd xs b f i) → wm m D (f_X9_readHost_L248 gF (some m) 0) M' P) → wm m D (f_X9_readHost_L91 f (some m) (nI b) (nI i)) M P := by
  intro f
  induction f with
  | zero => intro i M ds h; omega
  | succ f ih =>
    intro i M ds hf hi hI h15 hds hBy hlen hP
    have hl := hI.2.1
    rw [f_X9_readHost_L91]
    unfold f_X9_readHost_91
    rw [dcd] at hP
    by_cases c : b ≤ i
    · rw [if_pos c, List.append_nil] at hP
      exact wm_t (nI_le c (by omega)) (hP M Ex.rf h15 hBy)
    · rw [if_neg c] at hP
      refine wm_f (nI_ge (by omega) (by omega)) (wm_get (k := 11) (t := 0) (by decide) rfl (show i < 300 by omega) ?_)
      rw [hI.u (by omega)]
      obtain ⟨n, hn, en⟩ := hI.2.2.1.get (j := i) (by omega)
      -- one byte more
      have put : ∀ (y : Nat) (s : Bool) (v : Int32) (nx : Nat), y < 256 → v = nI y → nx = (if s then i + 3 else i + 1) → nx ≤ b → (∀ M', Ex [14, 15] M M' → mI M' 15 = nI (ds ++ (nI y :: dcd xs b f nx)).length → By (mA M' 14) 0 (ds ++ (nI y :: dcd xs b f nx)) → wm m D (f_X9_readHost_L248 gF (some m) 0) M' P) → wm m D (f_X9_readHost_217 (f_X9_readHost_L91 f) (some m) (nI b) (nI i) (b2i s) (some (D 14)) (nI ds.length) v) M P := by
        intro y s v nx hy hv hnx hle hP'
        subst hv
        unfold f_X9_readHost_217
        refine wm_b (wm_sI (k := 14) (t := 0) (by decide) rfl (show ds.length < 300 by omega) (wm_rd ?_))
        rw [mI_uA, h15, nI_1]
        refine wm_b (wm_wI ?_)
        rw [show gnar 0 ((nI y).toInt8.toInt32) = sb (nI y) from gnar0s (nI y)]
        have E : Ex [14, 15] M (uN (uA M 14 ds.length (sb (nI y))) 15 (nI (ds.length + 1))) := (Ex.a (by decide)).trans (Ex.n (by decide))
        have go : wm m D (f_X9_readHost_L91 f (some m) (nI b) (nI nx)) (uN (uA M 14 ds.length (sb (nI y))) 15 (nI (ds.length + 1))) P := by
          have nle : i + 1 ≤ nx := by
            rw [hnx]
            split <;> omega
          refine ih nx _ (ds ++ [nI y]) (by omega) hle (hI.ex E (by decide) (by decide)) ?_ (hds.app (isB.cons hy rfl isB.nil)) (hBy.snoc (fun j hj => ?_) ?_) ?_ (fun M' E' h1 h2 => ?_)
          · rw [mI_uN, if_pos rfl, List.length_append, List.length_singleton]
          · rw [mA_uN, mA_uA, if_neg (fun z => by have := z.2; omega)]
          · rw [mA_uN, mA_uA, Nat.zero_add, if_pos ⟨rfl, rfl⟩]
          · rw [List.length_append, List.length_singleton]; omega
          · rw [List.append_assoc] at h1 h2
            exact hP' M' (E.trans E') h1 h2
        refine wm_bz (fun z => ?_) (fun z => ?_)
        · rw [z, if_neg (by decide)] at hnx
          rw [nI_1, ← hnx]
          exact go
        · rw [z, if_pos rfl] at hnx
          rw [show nI i + 3 = nI (i + 3) from nI_add i 3, ← hnx]
          exact go
      have plain : cod xs b i = none → wm m D (f_X9_readHost_162 (f_X9_readHost_L91 f) (some m) (nI b) (nI i) (xs.getD i 0)) M P := by
        intro hc
        rw [hc] at hP
        dsimp only at hP
        unfold f_X9_readHost_162 f_X9_readHost_163
        refine wm_b (wm_rR (k := 14) (t := 0) (by decide) (wm_rd ?_))
        rw [h15]
        rw [en] at hP ⊢
        exact wm_t rfl (put n false (nI n) (i + 1) hn rfl rfl (by omega) hP)
      have hcod : cod xs b i = if i + 2 < b ∧ xs.getD i 0 = 37 then (match hxN (xs.getD (i + 1) 0), hxN (xs.getD (i + 2) 0) with
        | some h, some l => some (16 * h + l)
        | _, _ => none) else none := rfl
      have e2 : nI i + 2 = nI (i + 2) := nI_add i 2
      refine wm_if (fun d => ?_) (fun d => plain (by rw [hcod, if_neg (fun z => d z.2)]))
      rw [e2]
      by_cases e : b ≤ i + 2
      · exact wm_t (nI_le e (by omega)) (plain (by rw [hcod, if_neg (fun z => by omega)]))
      · rw [if_pos ⟨by omega, d⟩] at hcod
        refine wm_f (nI_ge (by omega) (by omega)) (wm_get (k := 11) (t := 0) (by decide) (nI_1 i) (show i + 1 < 300 by omega) ?_)
        rw [hI.u (by omega)]
        obtain ⟨n1, hn1, en1⟩ := hI.2.2.1.get (j := i + 1) (by omega)
        obtain ⟨n2, hn2, en2⟩ := hI.2.2.1.get (j := i + 2) (by omega)
        refine wm_b (wm_q (fun _ _ => m_hex (Or.inr ⟨n1, hn1, en1⟩)) ?_)
        rcases hx (xs.getD (i + 1) 0) with ⟨p1, p2⟩ | ⟨h, hh, p1, p2⟩
        · rw [p1]
          rw [p2] at hcod
          exact wm_t (by decide) (plain hcod)
        · rw [p1]
          refine wm_f (nI_pos (by omega)) (wm_get (k := 11) (t := 0) (by decide) rfl (show i + 2 < 300 by omega) ?_)
          rw [hI.u (by omega)]
          refine wm_b (wm_q (fun _ _ => m_hex (Or.inr ⟨n2, hn2, en2⟩)) ?_)
          rcases hx (xs.getD (i + 2) 0) with ⟨q1, q2⟩ | ⟨l, hl', q1, q2⟩
          · rw [q1]
            rw [p2, q2] at hcod
            exact wm_t (by decide) (plain hcod)
          · rw [q1]
            rw [p2, q2] at hcod
            dsimp only at hcod
            rw [hcod] at hP
            dsimp only at hP
            refine wm_f (nI_pos (by omega)) ?_
            unfold f_X9_readHost_163
            refine wm_b (wm_rR (k := 14) (t := 0) (by decide) (wm_rd ?_))
            rw [h15]
            refine wm_f (by decide) (wm_get (k := 11) (t := 0) (by decide) (nI_1 i) (show i + 1 < 300 by omega) ?_)
            rw [hI.u (by omega)]
            refine wm_b (wm_q (fun _ _ => m_hex (Or.inr ⟨n1, hn1, en1⟩)) ?_)
            rw [p1]
            refine wm_get (k := 11) (t := 0) (by decide) (nI_add i 2) (show i + 2 < 300 by omega) ?_
            rw [hI.u (by omega)]
            refine wm_b (wm_q (fun _ _ => m_hex (Or.inr ⟨n2, hn2, en2⟩)) ?_)
            rw [q1]
            have e16 : (16 * nI h + nI l : Int32) = nI (16 * h + l) := by
              rw [show (16 : Int32) = nI 16 from rfl, pk_mul, nI_add]
            exact put (16 * h + l) true _ (i + 3) (by omega) e16 rfl (by omega) hP
/-- behind readHost: kind, numbers, the name -/
def Hr (M : MS) (k : Int32) (w : Nat → Int32) (ys : List Int32) : Prop := mI M 16 = k ∧ (∀ j, j < 8 → mA M 17 j = numA k w j) ∧ (k = 0 → Hb M ys) ∧ ∃ n, n ≤ 300 ∧ mI M 15 = nI n
theorem m_readHost {a b : Nat} (hI : In M xs) (hab : a ≤ b) (hb : b ≤ xs.length) (h0 : ∀ c M', rdH xs a b = .inl c → Ex [14, 15, 16, 17] M M' → P c M') (h1 : ∀ k w ys M', rdH xs a b = .inr (k, w, ys) → Ex [14, 15, 16, 17] M M' → Hr M' k w ys → P 0 M') : wm m D (f_X9_readHost (some m) (nI a) (nI b)) M P := by
  have hl := hI.2.1
  unfold f_X9_readHost
  -- a name
  have name : ∀ M1, Ex [14, 15, 16, 17] M M1 → (∀ j, j < 8 → mA M1 17 j = 0) → mI M1 15 = 0 → ¬ (a < b ∧ xs.getD a 0 = 91) → wm m D (f_X9_readHost_84 (some m) (nI a) (nI b)) M1 P := by
    intro M1 E1 z1 h15 hc
    have er : rdH xs a b = nameR (dec xs b gF a) := by
      unfold rdH
      rw [if_neg hc]
    rw [er] at h0 h1
    unfold f_X9_readHost_84
    refine wm_b (wm_wI ?_)
    have E2 : Ex [14, 15, 16, 17] M (uN M1 16 0) := E1.trans (Ex.n (by decide))
    have hdl := dcd_len xs b gF a
    have hdb := dcd_b hI.2.2.1 hb gF a
    refine m_dec hb gF a (uN M1 16 0) [] (by unfold gF; omega) hab (hI.ex E2 (by decide) (by decide)) (by rw [mI_uN, if_neg (by decide), h15]; rfl) isB.nil By.nil (by rw [List.length_nil]; omega) (fun M3 E3 g1 g2 => ?_)
    rw [List.nil_append] at g1 g2
    rw [dec_dcd] at h0 h1
    have E3' : Ex [14, 15, 16, 17] M M3 := E2.trans (E3.mono (by decide))
    have k3 : mI M3 16 = 0 := by
      rw [E3.2 16 (by decide), mI_uN, if_pos rfl]
    have z3 : ∀ j, j < 8 → mA M3 17 j = 0 := fun j hj => by
      rw [E3.1 17 (by decide), mA_uN]
      exact z1 j hj
    generalize dcd xs b gF a = ds at *
    refine m_L248 hdb (by omega) (fun M4 E4 hw => h0 (-14) M4 ?_ (E3'.trans (E4.mono (by decide)))) (fun hz {M4} E4 => h0 (-14) M4 ?_ (E3'.trans (E4.mono (by decide)))) (fun M4 E4 H4 hpos hw => ?_) g1 ds.length 0 gF M3 (by omega) (by unfold gF; omega) Ex.rf (fun j hj => absurd hj (Nat.not_lt_zero _)) (fun j _ hj => by have := g2 j hj; rw [Nat.zero_add] at this; exact this)
    · unfold nameR
      by_cases c : (ds.map pLow).length = 0
      · rw [if_pos c]
      · rw [if_neg c, if_pos hw]
    · unfold nameR
      rw [if_pos (by rw [List.length_map]; exact hz)]
    · have E4' : Ex [14, 15, 16, 17] M M4 := E3'.trans (E4.mono (by decide))
      have k4 : mI M4 16 = 0 := by rw [E4.2 16 (by decide)]; exact k3
      have z4 : ∀ j, j < 8 → mA M4 17 j = 0 := fun j hj => by rw [E4.1 17 (by decide)]; exact z3 j hj
      have hpos' : 0 < (ds.map pLow).length := by rw [List.length_map]; exact hpos
      generalize ds.map pLow = ns at *
      have hl4 := H4.2.1
      have er2 : nameR ns = if forC ns ns.length 0 = true then .inl (-14) else if numC ns (lps ns (lend ns)) (lend ns) = true then (match four ns (lend ns) 4 0 0 with
          | none => .inl (-15)
          | some v => .inr (4, (fun j => if j = 0 then nI v else 0), fourL 3 (nI v))) else .inr (0, (fun _ => 0), ns) := by
        unfold nameR
        rw [if_neg (by omega), if_neg (by rw [hw]; decide)]
        cases four ns (lend ns) 4 0 0 <;> rfl
      rw [er2] at h0 h1
      refine m_L313 H4 hpos' (fun hf => h0 (-14) M4 (by rw [if_pos hf]) E4') (fun hf => ?_) ns.length 0 gF (by omega) (by unfold gF; omega) rfl
      rw [hf, if_neg (by decide)] at h0 h1
      refine m_readFour H4 hpos' (fun hn => ?_) (fun hn hf4 => ?_) (fun v hn hf4 => ?_)
      · rw [hn, if_neg (by decide)] at h1
        refine h1 _ _ _ M4 rfl E4' ⟨k4, fun j hj => ?_, fun _ => H4, ns.length, hl4, H4.1⟩
        rw [z4 j hj]
        unfold numA
        rw [if_neg (by decide)]
        split <;> rfl
      · rw [hn, if_pos rfl, hf4] at h0
        exact h0 (-15) M4 rfl E4'
      · rw [hn, if_pos rfl, hf4] at h1
        refine h1 _ _ _ _ rfl (E4'.trans ((Ex.n (by decide)).trans (Ex.a (by decide)))) ⟨?_, fun j hj => ?_, fun z => absurd z (by decide), ns.length, hl4, ?_⟩
        · rw [mI_uA, mI_uN, if_pos rfl]
        · have eA : numA 4 (fun j => if j = 0 then nI v else 0) j = if j = 0 then nI v else 0 := by
            unfold numA
            rw [if_neg (by decide)]
            rfl
          rw [eA, mA_uA, mA_uN]
          by_cases c : j = 0
          · rw [if_pos ⟨rfl, c⟩, if_pos c]
          · rw [if_neg (fun z => c z.2), if_neg c]
            exact z4 j hj
        · rw [mI_uA, mI_uN, if_neg (by decide)]
          exact H4.1
  -- behind the zeros
  have fin : ∀ M1, Ex [17] M M1 → (∀ j, j < 8 → mA M1 17 j = 0) → wm m D (gb (wI 8 15 (some m) 0) fun _ => if nI b ≤ nI a then (f_X9_readHost_84 (some m) (nI a) (nI b)) else (gb (rR 8 11 (some m)) fun v1 => gb (aI 0 v1 (nI a)) fun v2 => if v2 = 91 then (gb (wI 8 16 (some m) 6) fun _ => gb (rR 8 11 (some m)) fun v3 => gb (aI 0 v3 (nI b - 1)) fun v4 => if v4 = 93 then (if (nI b - nI a) ≤ 1 then (gp (-16)) else (gb (nn 8 (some m)) fun _ => gb (f_X9_readSix (some m) (nI a + 1) (nI b - 1)) fun v5 => gp v5)) else (gp (-16))) else (f_X9_readHost_84 (some m) (nI a) (nI b)))) M1 P := by
    intro M1 E1 z1
    refine wm_b (wm_wI ?_)
    have E2 : Ex [14, 15, 16, 17] M (uN M1 15 0) := (E1.mono (by decide)).trans (Ex.n (by decide))
    have I2 := hI.ex E2 (by decide) (by decide)
    have h15 : mI (uN M1 15 0) 15 = 0 := by rw [mI_uN, if_pos rfl]
    rcases Nat.lt_or_ge a b with z | z
    · refine wm_f (nI_ge z (by omega)) (wm_get (k := 11) (t := 0) (by decide) rfl (show a < 300 by omega) ?_)
      refine wm_if (fun y => ?_) (fun y => name _ E2 z1 h15 (fun w => y ((I2.sbq (c := 91) (by omega) (by omega)).mpr w.2)))
      have y := (I2.sbq (c := 91) (by omega) (by omega)).mp y
      have er : rdH xs a b = if xs.getD (b - 1) 0 = 93 then (match sixR xs (a + 1) (b - 1) with
          | none => .inl (-16)
          | some F => .inr (6, wS F, sixS (wS F))) else .inl (-16) := by
        unfold rdH
        rw [if_pos ⟨z, y⟩]
        cases sixR xs (a + 1) (b - 1) <;> rfl
      rw [er] at h0 h1
      obtain ⟨c, hc⟩ : ∃ c, b = c + 1 := ⟨b - 1, by omega⟩
      refine wm_b (wm_wI ?_)
      have E3 : Ex [14, 15, 16, 17] M (uN (uN M1 15 0) 16 6) := E2.trans (Ex.n (by decide))
      have I3 := hI.ex E3 (by decide) (by decide)
      have eb : nI b - 1 = nI (b - 1) := by rw [hc, nI_pred]; rfl
      rw [eb]
      refine wm_get (k := 11) (t := 0) (by decide) rfl (show b - 1 < 300 by omega) ?_
      refine wm_if (fun w => ?_) (fun w => ?_)
      · have w := (I3.sbq (c := 93) (by omega) (by omega)).mp w
        rw [if_pos (show xs.getD (b - 1) 0 = 93 from w)] at h0 h1
        have ab : a + 1 ≤ b - 1 := by
          rcases Nat.lt_or_ge a (b - 1) with v | v
          · exact v
          · exfalso
            have : a = b - 1 := by omega
            rw [this, w] at y
            exact absurd y (by decide)
        rw [pk_sub hab, nI_1]
        refine wm_f (nI_ge (a := 1) (by omega) (by omega)) (wm_n (wm_b (m_readSix I3 ab (by omega) (fun hs M4 E4 => ?_) (fun F M4 hs E4 hF => ?_))))
        · rw [hs] at h0
          exact wm_p (h0 (-16) M4 rfl (E3.trans (E4.mono (by decide))))
        · rw [hs] at h1
          refine wm_p (h1 _ _ _ M4 rfl (E3.trans (E4.mono (by decide))) ⟨?_, fun j hj => ?_, fun v => absurd v (by decide), 0, by omega, ?_⟩)
          · rw [E4.2 16 (by decide), mI_uN, if_pos rfl]
          · rw [hF j hj]
            unfold numA
            rw [if_pos rfl, num6_wS (sixR_lt hs) hj]
          · rw [E4.2 15 (by decide), mI_uN, if_neg (by decide), h15]
            rfl
      · have w : ¬ xs.getD (b - 1) 0 = 93 := fun v => w ((I3.sbq (c := 93) (by omega) (by omega)).mpr v)
        rw [if_neg w] at h0
        exact wm_p (h0 (-16) _ rfl E3)
    · exact wm_t (nI_le z (by omega)) (name _ E2 z1 h15 (fun w => by omega))
  have L : ∀ (k i f : Nat) (M1 : MS), i + k = 8 → k < f → Ex [17] M M1 → (∀ j, j < i → mA M1 17 j = 0) → wm m D (f_X9_readHost_L2 f (some m) (nI a) (nI b) (nI i)) M1 P := by
    intro k
    induction k with
    | zero =>
      intro i f M1 hi hf E1 h
      obtain ⟨f, rfl⟩ : ∃ g, f = g + 1 := ⟨f - 1, by omega⟩
      rw [f_X9_readHost_L2]
      unfold f_X9_readHost_2
      exact wm_t (show nI 8 ≤ nI i from nI_le (by omega) (by omega)) (fin M1 E1 (fun j hj => h j (by omega)))
    | succ k ih =>
      intro i f M1 hi hf E1 h
      obtain ⟨f, rfl⟩ : ∃ g, f = g + 1 := ⟨f - 1, by omega⟩
      rw [f_X9_readHost_L2]
      unfold f_X9_readHost_2
      refine wm_f (show ¬ nI 8 ≤ nI i from nI_ge (by omega) (by omega)) (wm_b (wm_rR (k := 17) (t := 1) (by decide) (wm_b (wm_sI (k := 17) (t := 1) (by decide) rfl (show i < 8 by omega) ?_))))
      rw [gnar1, nI_1]
      refine ih (i + 1) f _ (by omega) (by omega) (E1.trans (Ex.a (by decide))) (fun j hj => ?_)
      rw [mA_uA]
      by_cases c : j = i
      · rw [if_pos ⟨rfl, c⟩]
      · rw [if_neg (fun z => c z.2)]
        exact h j (by omega)
  exact L 8 0 gF M (by omega) (by decide) Ex.rf (fun j hj => absurd hj (Nat.not_lt_zero _))
end MZ
