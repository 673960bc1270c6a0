/-! AN ADDRESS OF SIX WRITTEN -/
/-- the class's search of the first longest row of 0s, z k: number k is 0 -/
def flg (z : Nat → Bool) : Nat → Nat → Nat → Nat → Nat → Nat
  | 0, _, best, _, _ => best
  | m + 1, k, best, lo, zs => if (if z k then zs + 1 else 0) ≤ lo then flg z m (k + 1) best lo (if z k then zs + 1 else 0) else flg z m (k + 1) (k + 1 - (if z k then zs + 1 else 0)) (if z k then zs + 1 else 0) (if z k then zs + 1 else 0)
def zfr (z : Nat → Bool) : Nat → Nat → Nat
  | 0, _ => 0
  | m + 1, k => if z k then 1 + zfr z m (k + 1) else 0
/-- the state of a Host of SIX while it is written -/
def Six (ex : Nat → Prop) (σ : gS) (h a r : Nat) (w : Nat → Int32) : Prop := WFx ex σ ∧ gkd σ h = 3 ∧ grr σ 2 0 h = some a ∧ grr σ 2 1 h = some r ∧ gkd σ a = 1 ∧ gkd σ r = 5 ∧ aK σ a = 6 ∧ (∀ j, j < 4 → aW σ a j = w j) ∧ Bud σ 0
theorem num6_congr {v w : Nat → Int32} (h : ∀ j, j < 4 → v j = w j) {i : Nat} (hi : i < 8) : num6 v i = num6 w i := by
  unfold num6
  rw [h (i / 2) (by omega)]
theorem Six.num {ex : Nat → Prop} {σ : gS} {h a r i : Nat} {w : Nat → Int32} {Q : Int32 → gS → Prop} (S : Six ex σ h a r w) (hxa : ¬ ex a) (hi : i < 8) (hQ : Q (nI (num6 w i)) σ) : wp (f_X0_numberAt (some a) (nI i)) σ Q := by
  obtain ⟨hW, -, -, -, ka, -, kk, hw, -⟩ := S
  refine sp_numberAt hW ka hxa hi ?_
  unfold numA
  rw [if_pos kk, num6_congr hw hi]
  exact hQ
theorem Six.next {ex : Nat → Prop} {σ σ' : gS} {h a r : Nat} {w : Nat → Int32} {ys : List Int32} (S : Six ex σ h a r w) (hxa : ¬ ex a) (hR : RowTo ex σ σ' r ys) : Six ex σ' h a r w := by
  obtain ⟨hW, hh, ga, gr, ka, kr, kk, hw, hB⟩ := S
  exact ⟨hR.1, hR.kd hh, by rw [hR.2.1.ref hh (by decide) (by simp)]; exact ga, by rw [hR.2.1.ref hh (by decide) (by simp)]; exact gr, hR.kd ka, hR.kd kr, by rw [hR.2.1.aK ka (by simp)]; exact kk, fun j hj => by rw [hR.2.1.aW hW ka hxa (by simp)]; exact hw j hj, hR.bud hB⟩
theorem sp_flg {ex : Nat → Prop} {σ : gS} {h a r : Nat} {w : Nat → Int32} {Q : Int32 → gS → Prop} (S : Six ex σ h a r w) (hxa : ¬ ex a) : ∀ (m k best lo zs f : Nat), k + m = 8 → m < f → best ≤ 8 → lo ≤ 8 → zs ≤ k → Q (nI (flg (fun i => decide (num6 w i = 0)) m k best lo zs)) σ → wp (f_X3_firstLongestGap_L10 f (some h) (nI best) (nI lo) (nI zs) (nI k)) σ Q := by
  intro m
  induction m with
  | zero =>
    intro k best lo zs f hk hf h1 h2 h3 hQ
    obtain ⟨f, rfl⟩ : ∃ g, f = g + 1 := ⟨f - 1, by omega⟩
    show wp (f_X3_firstLongestGap_10 (f_X3_firstLongestGap_L10 f) (some h) (nI best) (nI lo) (nI zs) (nI k)) σ Q
    unfold f_X3_firstLongestGap_10
    exact wp_t (show nI 8 ≤ nI k from nI_le (by omega) (by omega)) (wp_p hQ)
  | succ m ih =>
    intro k best lo zs f hk hf h1 h2 h3 hQ
    obtain ⟨f, rfl⟩ : ∃ g, f = g + 1 := ⟨f - 1, by omega⟩
    show wp (f_X3_firstLongestGap_10 (f_X3_firstLongestGap_L10 f) (some h) (nI best) (nI lo) (nI zs) (nI k)) σ Q
    unfold f_X3_firstLongestGap_10
    refine wp_f (show ¬ nI 8 ≤ nI k from nI_ge (by omega) (by omega)) ?_
    refine wp_b (wp_rR S.2.1 ?_)
    rw [S.2.2.1]
    refine wp_b (wp_nn S.2.2.2.2.1 (wp_b (S.num hxa (by omega) ?_)))
    rw [flg] at hQ
    have key : ∀ q, q ≤ k + 1 → Q (nI (if q ≤ lo then flg (fun i => decide (num6 w i = 0)) m (k + 1) best lo q else flg (fun i => decide (num6 w i = 0)) m (k + 1) (k + 1 - q) q q)) σ → wp (f_X3_firstLongestGap_36 (f_X3_firstLongestGap_L10 f) (some h) (nI best) (nI lo) (nI k) (nI q)) σ Q := by
      intro q hq hQ
      unfold f_X3_firstLongestGap_36
      rw [nI_1]
      refine wp_if (fun c => ?_) (fun c => ?_)
      · have c := (nI_leI (by omega) (by omega)).mp c
        rw [if_pos c] at hQ
        exact ih (k + 1) best lo q f (by omega) (by omega) h1 h2 hq hQ
      · have c : ¬ q ≤ lo := fun z => c (nI_le z (by omega))
        rw [if_neg c] at hQ
        rw [pk_sub (by omega)]
        exact ih (k + 1) (k + 1 - q) q q f (by omega) (by omega) (by omega) (by omega) hq hQ
    have hlt := num6_lt w k
    refine wp_if (fun c => ?_) (fun c => ?_)
    · have c := (nI_eq (a := num6 w k) (b := 0) (by omega) (by omega)).mp c
      simp only [c, decide_true, if_true] at hQ
      rw [nI_1]
      exact key (zs + 1) (by omega) hQ
    · have c : ¬ num6 w k = 0 := fun z => c (by rw [z]; rfl)
      simp only [c, decide_false, Bool.false_eq_true, if_false] at hQ
      exact key 0 (by omega) hQ
theorem sp_zfr {ex : Nat → Prop} {σ : gS} {h a r k0 : Nat} {w : Nat → Int32} {Q : Int32 → gS → Prop} (S : Six ex σ h a r w) (hxa : ¬ ex a) : ∀ (m k f : Nat), k + m = 8 → k0 ≤ k → m < f → Q (nI (k - k0 + zfr (fun i => decide (num6 w i = 0)) m k)) σ → wp (f_X3_zerosFrom_L2 f (some h) (nI k0) (nI k)) σ Q := by
  intro m
  induction m with
  | zero =>
    intro k f hk h0 hf hQ
    obtain ⟨f, rfl⟩ : ∃ g, f = g + 1 := ⟨f - 1, by omega⟩
    show wp (f_X3_zerosFrom_2 (f_X3_zerosFrom_L2 f) (some h) (nI k0) (nI k)) σ Q
    unfold f_X3_zerosFrom_2
    rw [pk_sub h0]
    exact wp_t (show nI 8 ≤ nI k from nI_le (by omega) (by omega)) (wp_p hQ)
  | succ m ih =>
    intro k f hk h0 hf hQ
    obtain ⟨f, rfl⟩ : ∃ g, f = g + 1 := ⟨f - 1, by omega⟩
    show wp (f_X3_zerosFrom_2 (f_X3_zerosFrom_L2 f) (some h) (nI k0) (nI k)) σ Q
    unfold f_X3_zerosFrom_2
    rw [pk_sub h0]
    refine wp_f (show ¬ nI 8 ≤ nI k from nI_ge (by omega) (by omega)) ?_
    refine wp_b (wp_rR S.2.1 ?_)
    rw [S.2.2.1]
    refine wp_b (wp_nn S.2.2.2.2.1 (wp_b (S.num hxa (by omega) ?_)))
    rw [zfr] at hQ
    have hlt := num6_lt w k
    refine wp_if (fun c => ?_) (fun c => ?_)
    · have c := (nI_eq (a := num6 w k) (b := 0) (by omega) (by omega)).mp c
      simp only [c, decide_true, if_true] at hQ
      rw [nI_1]
      refine ih (k + 1) f (by omega) (by omega) (by omega) ?_
      rw [show k + 1 - k0 + zfr (fun i => decide (num6 w i = 0)) m (k + 1) = k - k0 + (1 + zfr (fun i => decide (num6 w i = 0)) m (k + 1)) by omega]
      exact hQ
    · have c : ¬ num6 w k = 0 := fun z => c (by rw [z]; rfl)
      simp only [c, decide_false, Bool.false_eq_true, if_false] at hQ
      exact wp_p hQ
theorem hexL_len : ∀ (k n : Nat), (hexL k n).length ≤ k + 1
  | 0, n => by simp [hexL]
  | k + 1, n => by
    have := hexL_len k n
    rw [hexL, List.length_append]
    split
    · simp only [List.length_nil]; omega
    · simp only [List.length_cons, List.length_nil]; omega
/-- what is written from number k on, the gap from g up to b -/
def sixL (w : Nat → Int32) (g b : Nat) : Nat → Nat → List Int32
  | 0, _ => [93]
  | m + 1, k => (if k = g then tstr 8 else []) ++ ((if g ≤ k ∧ k < b then [] else (if 0 < k ∧ k ≠ b then [58] else []) ++ hexL 3 (num6 w k)) ++ sixL w g b m (k + 1))
theorem sp_sixL {ex : Nat → Prop} {h a r g b : Nat} {w : Nat → Int32} {Q : Unit → gS → Prop} (hxa : ¬ ex a) (hxr : ¬ ex r) (hg : g ≤ 8) (hb : b ≤ 16) : ∀ (m k f : Nat) (σ : gS), k + m = 8 → m < f → Six ex σ h a r w → (rowL σ r).length + 7 * (m + 1) ≤ 4096 → (∀ σ', RowTo ex σ σ' r (rowL σ r ++ sixL w g b m k) → Q () σ') → wp (f_X3_setSix_L51 f (some h) (nI g) (nI b) (nI k)) σ Q := by
  intro m
  induction m with
  | zero =>
    intro k f σ hk hf S hl hQ
    obtain ⟨f, rfl⟩ : ∃ g, f = g + 1 := ⟨f - 1, by omega⟩
    show wp (f_X3_setSix_51 (f_X3_setSix_L51 f) (some h) (nI g) (nI b) (nI k)) σ Q
    unfold f_X3_setSix_51
    refine wp_t (show nI 8 ≤ nI k from nI_le (by omega) (by omega)) ?_
    refine wp_b (wp_rR S.2.1 ?_)
    rw [S.2.2.2.1]
    exact wp_b (wp_nn S.2.2.2.2.2.1 (wp_b (sp_add S.1 S.2.2.2.2.2.1 hxr (by omega) S.2.2.2.2.2.2.2.2 (fun σ1 h1 => wp_p (hQ σ1 h1)))))
  | succ m ih =>
    intro k f σ hk hf S hl hQ
    obtain ⟨f, rfl⟩ : ∃ g, f = g + 1 := ⟨f - 1, by omega⟩
    show wp (f_X3_setSix_51 (f_X3_setSix_L51 f) (some h) (nI g) (nI b) (nI k)) σ Q
    have hlt := num6_lt w k
    have hx3 := hexL_len 3 (num6 w k)
    have t8 : (tstr 8).length = 2 := rfl
    -- the number itself, then the rest
    have L112 : ∀ (τ : gS) (ys : List Int32), Six ex τ h a r w → RowTo ex σ τ r ys → ys.length + 4 + 7 * (m + 1) ≤ 4096 → (∀ σ', RowTo ex σ σ' r (ys ++ (hexL 3 (num6 w k) ++ sixL w g b m (k + 1))) → Q () σ') → wp (f_X3_setSix_112 (f_X3_setSix_L51 f) (some h) (nI g) (nI b) (nI k)) τ Q := by
      intro τ ys St Rt hly hQt
      unfold f_X3_setSix_112
      refine wp_b (wp_rR St.2.1 ?_)
      rw [St.2.2.2.1]
      refine wp_b (wp_rR St.2.1 ?_)
      rw [St.2.2.1]
      refine wp_b (wp_nn St.2.2.2.2.1 (wp_b (St.num hxa (by omega) ?_)))
      refine wp_b (wp_nn St.2.2.2.2.2.1 (wp_b (sp_addHex St.1 St.2.2.2.2.2.1 hxr hlt (by rw [Rt.2.2.1]; omega) St.2.2.2.2.2.2.2.2 (fun σ1 h1 => ?_))))
      rw [nI_1]
      rw [Rt.2.2.1] at h1
      refine ih (k + 1) f σ1 (by omega) (by omega) (St.next hxa h1) (by rw [h1.2.2.1, List.length_append]; omega) (fun σ' h' => hQt σ' ?_)
      rw [h1.2.2.1, List.append_assoc] at h'
      exact (Rt.trans h1).trans h'
    have L91 : ∀ (τ : gS) (ys : List Int32), Six ex τ h a r w → RowTo ex σ τ r ys → ys.length + 5 + 7 * (m + 1) ≤ 4096 → (∀ σ', RowTo ex σ σ' r (ys ++ ((if 0 < k ∧ k ≠ b then [58] else []) ++ hexL 3 (num6 w k) ++ sixL w g b m (k + 1))) → Q () σ') → wp (f_X3_setSix_91 (f_X3_setSix_L51 f) (some h) (nI g) (nI b) (nI k)) τ Q := by
      intro τ ys St Rt hly hQt
      unfold f_X3_setSix_91
      refine wp_if (fun c => ?_) (fun c => ?_)
      · have c := (nI_leI (a := k) (b := 0) (by omega) (by omega)).mp c
        rw [if_neg (by omega), List.nil_append] at hQt
        exact L112 τ ys St Rt (by omega) hQt
      · have c : ¬ k ≤ 0 := fun z => c (nI_le (a := k) (b := 0) z (by omega))
        refine wp_if (fun d => ?_) (fun d => ?_)
        · have d := (nI_eq (a := k) (b := b) (by omega) (by omega)).mp d
          rw [if_neg (by omega), List.nil_append] at hQt
          exact L112 τ ys St Rt (by omega) hQt
        · have d : ¬ k = b := fun z => d (by rw [z])
          rw [if_pos ⟨by omega, d⟩] at hQt
          refine wp_b (wp_rR St.2.1 ?_)
          rw [St.2.2.2.1]
          refine wp_b (wp_nn St.2.2.2.2.2.1 (wp_b (sp_add St.1 St.2.2.2.2.2.1 hxr (by rw [Rt.2.2.1]; omega) St.2.2.2.2.2.2.2.2 (fun σ1 h1 => ?_))))
          rw [Rt.2.2.1] at h1
          refine L112 σ1 (ys ++ [58]) (St.next hxa h1) (Rt.trans h1) (by simp only [List.length_append, List.length_cons, List.length_nil]; omega) (fun σ' h' => hQt σ' ?_)
          simpa [List.append_assoc] using h'
    have L74 : ∀ (τ : gS) (ys : List Int32), Six ex τ h a r w → RowTo ex σ τ r ys → ys.length + 5 + 7 * (m + 1) ≤ 4096 → (∀ σ', RowTo ex σ σ' r (ys ++ ((if g ≤ k ∧ k < b then [] else (if 0 < k ∧ k ≠ b then [58] else []) ++ hexL 3 (num6 w k)) ++ sixL w g b m (k + 1))) → Q () σ') → wp (f_X3_setSix_74 (f_X3_setSix_L51 f) (some h) (nI g) (nI b) (nI k)) τ Q := by
      intro τ ys St Rt hly hQt
      unfold f_X3_setSix_74
      refine wp_if (fun c => ?_) (fun c => ?_)
      · have c := (nI_ltI (by omega) (by omega)).mp c
        rw [if_neg (by omega)] at hQt
        exact L91 τ ys St Rt hly hQt
      · have c : g ≤ k := Nat.not_lt.mp (fun z => c (nI_lt z (by omega)))
        refine wp_if (fun d => ?_) (fun d => ?_)
        · have d := (nI_leI (by omega) (by omega)).mp d
          rw [if_neg (by omega)] at hQt
          exact L91 τ ys St Rt hly hQt
        · have d : k < b := Nat.not_le.mp (fun z => d (nI_le z (by omega)))
          rw [if_pos ⟨c, d⟩, List.nil_append] at hQt
          rw [nI_1]
          refine ih (k + 1) f τ (by omega) (by omega) St (by rw [Rt.2.2.1]; omega) (fun σ' h' => hQt σ' ?_)
          rw [Rt.2.2.1] at h'
          exact Rt.trans h'
    unfold f_X3_setSix_51
    rw [sixL] at hQ
    refine wp_f (show ¬ nI 8 ≤ nI k from nI_ge (by omega) (by omega)) ?_
    refine wp_if (fun c => ?_) (fun c => ?_)
    · have c := (nI_eq (a := k) (b := g) (by omega) (by omega)).mp c
      rw [if_pos c] at hQ
      refine wp_b (wp_rR S.2.1 ?_)
      rw [S.2.2.2.1]
      refine wp_b (wp_nn S.2.2.2.2.2.1 (wp_b (sp_addText S.1 S.2.2.2.2.2.1 hxr (by omega) (by omega) S.2.2.2.2.2.2.2.2 (fun σ1 h1 => ?_))))
      refine L74 σ1 (rowL σ r ++ tstr 8) (S.next hxa h1) h1 (by rw [List.length_append]; omega) (fun σ' h' => hQ σ' ?_)
      rw [List.append_assoc] at h'
      exact h'
    · have c : ¬ k = g := fun z => c (by rw [z])
      rw [if_neg c, List.nil_append] at hQ
      exact L74 σ (rowL σ r) S (RowTo.rf S.1) (by omega) hQ
/-- the gap: where it begins, what is behind it -/
def gapB (w : Nat → Int32) : Nat := flg (fun i => decide (num6 w i = 0)) 8 0 8 1 0
def gapE (w : Nat → Int32) : Nat := gapB w + zfr (fun i => decide (num6 w i = 0)) (8 - gapB w) (gapB w)
def sixS (w : Nat → Int32) : List Int32 := [91] ++ sixL w (gapB w) (gapE w) 8 0
theorem flg_le (z : Nat → Bool) : ∀ (m k best lo zs : Nat), k + m = 8 → best ≤ 8 → flg z m k best lo zs ≤ 8
  | 0, _, best, _, _, _, h => h
  | m + 1, k, best, lo, zs, hk, h => by
    rw [flg]
    by_cases c : (if z k = true then zs + 1 else 0) ≤ lo
    · rw [if_pos c]
      exact flg_le z m (k + 1) best lo _ (by omega) h
    · rw [if_neg c]
      exact flg_le z m (k + 1) _ _ _ (by omega) (by omega)
theorem zfr_le (z : Nat → Bool) : ∀ (m k : Nat), zfr z m k ≤ m
  | 0, _ => Nat.le_refl _
  | m + 1, k => by
    rw [zfr]
    have := zfr_le z m (k + 1)
    split <;> omega
theorem sp_setSix {ex : Nat → Prop} {σ : gS} {h : Nat} {x y z u : Int32} {Q : Unit → gS → Prop} (hW : WFx ex σ) (hh : gkd σ h = 3) (hx : ¬ ex h) (hxa : ¬ ex (tg σ 2 0 h)) (hxr : ¬ ex (tg σ 2 1 h)) (hB : Bud σ 0) (hQ : ∀ σ', HoTo ex σ σ' h 6 (w4 6 x y z u) (sixS (w4 6 x y z u)) → Q () σ') : wp (f_X3_setSix (some h) x y z u) σ Q := by
  obtain ⟨a1, a2, a3, a4⟩ := hW.host hh hx
  unfold f_X3_setSix
  refine wp_b (wp_rR hh ?_)
  rw [a1]
  refine wp_b (wp_nn a2 (wp_b (sp_setTo hW a2 hxa (fun σ1 h1 => ?_))))
  have e0 : grr σ1 2 0 h = some (tg σ 2 0 h) := by rw [h1.2.1.ref hh (by decide) (by simp)]; exact a1
  have e1 : grr σ1 2 1 h = some (tg σ 2 1 h) := by rw [h1.2.1.ref hh (by decide) (by simp)]; exact a3
  have S1 : Six ex σ1 h (tg σ 2 0 h) (tg σ 2 1 h) (w4 6 x y z u) := ⟨h1.1, h1.2.1.kd hh, e0, e1, h1.2.1.kd a2, h1.2.1.kd a4, h1.2.2.1, h1.2.2.2.1, h1.2.2.2.2 0 hB⟩
  have g8 : gapB (w4 6 x y z u) ≤ 8 := flg_le _ 8 0 8 1 0 rfl (by omega)
  have z8 := zfr_le (fun i => decide (num6 (w4 6 x y z u) i = 0)) (8 - gapB (w4 6 x y z u)) (gapB (w4 6 x y z u))
  refine wp_b (wp_nn S1.2.1 (wp_b ?_))
  unfold f_X3_firstLongestGap
  refine sp_flg S1 hxa 8 0 8 1 0 gF rfl (by show 8 < 10000; omega) (by omega) (by omega) (by omega) ?_
  refine wp_b (wp_nn S1.2.1 (wp_b ?_))
  unfold f_X3_zerosFrom
  refine sp_zfr (k0 := gapB (w4 6 x y z u)) S1 hxa (8 - gapB (w4 6 x y z u)) (gapB (w4 6 x y z u)) gF (by omega) (Nat.le_refl _) (by show _ < 10000; omega) ?_
  rw [Nat.sub_self, Nat.zero_add]
  refine wp_b (wp_rR S1.2.1 ?_)
  rw [S1.2.2.2.1]
  refine wp_b (wp_nn S1.2.2.2.2.2.1 (wp_b (sp_cutTo (k := 0) S1.1 S1.2.2.2.2.2.1 hxr (by omega) (fun σ2 h2 => ?_))))
  rw [List.take_zero] at h2
  have S2 := S1.next hxa h2
  refine wp_b (wp_rR S2.2.1 ?_)
  rw [S2.2.2.2.1]
  refine wp_b (wp_nn S2.2.2.2.2.2.1 (wp_b (sp_add S2.1 S2.2.2.2.2.2.1 hxr (by rw [h2.2.2.1]; simp) S2.2.2.2.2.2.2.2.2 (fun σ3 h3 => ?_))))
  rw [h2.2.2.1, List.nil_append] at h3
  have S3 := S2.next hxa h3
  show wp (f_X3_setSix_L51 gF (some h) (nI (gapB (w4 6 x y z u))) (nI (gapB (w4 6 x y z u)) + nI (zfr (fun i => decide (num6 (w4 6 x y z u) i = 0)) (8 - gapB (w4 6 x y z u)) (gapB (w4 6 x y z u)))) (nI 0)) σ3 Q
  rw [nI_add]
  refine sp_sixL (b := gapE (w4 6 x y z u)) hxa hxr g8 (by unfold gapE; omega) 8 0 gF σ3 rfl (by show 8 < 10000; omega) S3 (by rw [h3.2.2.1]; simp only [List.length_cons, List.length_nil]; omega) (fun σ' h' => hQ σ' ?_)
  rw [h3.2.2.1] at h'
  exact HoTo.of hW hh hx hxa h1 ((h2.trans h3).trans h')
