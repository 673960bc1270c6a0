/-! THE OTHER OBJECT: SIX and HOSTs -/
def f2S (xs : List Int32) (b f k : Nat) (mo : Bool) (ps : List Nat) (q : Nat) : Option (Nat → Nat) := match pcsC xs b true f k mo ps with
  | none => none
  | some ps' => if ps'.length ≤ 7 then some (spr ps' q) else none
def f1S (xs : List Int32) (b g f k : Nat) (mo : Bool) (ps : List Nat) : Option (Nat → Nat) := match pcsC xs g (decide (g = b)) f k mo ps with
  | none => none
  | some ps' => if g = b then (if ps'.length = 8 then some (spr ps' ps'.length) else none) else f2S xs b gF (g + 2) (decide (g + 2 < b)) ps' ps'.length
theorem sixR_f (xs : List Int32) (a b : Nat) : sixR xs a b = f1S xs b (fGap xs b (b - a) a) gF a (decide (a < fGap xs b (b - a) a)) [] := by
  unfold sixR f1S f2S
  rfl
theorem pcs_end {xs : List Int32} {b f k : Nat} {fr : Bool} {ps : List Nat} (hf : 0 < f) : pcsC xs b fr f k false ps = some ps := by
  obtain ⟨f, rfl⟩ : ∃ g, f = g + 1 := ⟨f - 1, by omega⟩
  rw [pcsC, if_pos rfl]
theorem pcs_next {xs : List Int32} {e b f k : Nat} {fr : Bool} {ps : List Nat} (hk : k ≤ e) (he : e ≤ b) (h : e = b ∨ xs.getD e 0 = 58) (hf : fr = true → e = b) (hf2 : e = b → fr = true) : pcsC xs e fr (f + 1) k true ps = match pcB xs b k ps with
    | none => none
    | some ps' => pcsC xs e fr f (clE xs (b - k) k + 1) (decide (clE xs (b - k) k < e)) ps' := by
  obtain ⟨h1, -⟩ := clE_g he h (e - k) k (by omega)
  rw [pcsC, if_neg (by decide), if_neg (by omega), pc1_B hk he h hf hf2, h1]
  cases pcB xs b k ps with
  | none => rfl
  | some ps' => rfl
theorem pcB_8 {xs : List Int32} {b k : Nat} {ps : List Nat} (h : ps.length = 8) : pcB xs b k ps = none := by
  unfold pcB ptP pcP
  split
  · split
    · cases ptsC xs (b - k) k 0 none 0 with
      | none => rfl
      | some v => rw [ad2, if_neg (by omega)]
    · rfl
  · split
    · cases numV xs 16 (clE xs (b - k) k - k) k 0 with
      | none => rfl
      | some v => rw [ad1, if_neg (by omega)]
    · rfl
/-- an empty piece is none -/
theorem pcB_0 {xs : List Int32} {b k : Nat} {ps : List Nat} (h : k = b ∨ (k < b ∧ xs.getD k 0 = 58)) : pcB xs b k ps = none := by
  unfold pcB
  rcases h with z | ⟨z1, z2⟩
  · subst z
    rw [Nat.sub_self, ptA, clE, if_neg (by decide)]
    unfold pcP
    rw [if_neg (by omega)]
  · obtain ⟨j, hj⟩ : ∃ j, b - k = j + 1 := ⟨b - k - 1, by omega⟩
    rw [hj, ptA, clE, if_pos z2, if_pos z2, if_neg (by decide)]
    unfold pcP
    rw [if_neg (by omega)]
theorem fGap_58 (xs : List Int32) (b : Nat) : ∀ m i, fGap xs b m i ≠ b → xs.getD (fGap xs b m i) 0 = 58 ∧ xs.getD (fGap xs b m i + 1) 0 = 58
  | 0, i, h => absurd rfl h
  | m + 1, i, h => by
    rw [fGap] at h ⊢
    by_cases c : b ≤ i + 1
    · rw [if_pos c] at h
      exact absurd rfl h
    · rw [if_neg c] at h ⊢
      by_cases d : xs.getD i 0 = 58 ∧ xs.getD (i + 1) 0 = 58
      · rw [if_pos d] at h ⊢
        exact d
      · rw [if_neg d] at h ⊢
        exact fGap_58 xs b m (i + 1) h
theorem fGap_walk {xs : List Int32} {b t : Nat} (ht : t < b) : ∀ m i, i + m = b → i ≤ t → (∀ j, i ≤ j → j < t → xs.getD j 0 ≠ 58) → fGap xs b m i = fGap xs b (b - t) t
  | 0, i, h, hi, _ => by omega
  | m + 1, i, h, hi, hn => by
    by_cases c : i = t
    · subst c
      rw [show b - i = m + 1 by omega]
    · rw [fGap, if_neg (by omega), if_neg (fun z => hn i (Nat.le_refl _) (by omega) z.1)]
      exact fGap_walk ht m (i + 1) (by omega) (by omega) (fun j h1 h2 => hn j (by omega) h2)
section MY
variable {m : Nat} {D : Nat → Nat} {xs : List Int32} {P : Int32 → MS → Prop} {b : Nat}
theorem m_sp2 {M : MS} {bh g : Nat} (hg : g + bh ≤ 7) (hP : ∀ M', Ex [17] M M' → (∀ j, mA M' 17 j = if g ≤ j ∧ j < 8 - bh then 0 else mA M 17 j) → P 0 M') : ∀ (k i f : Nat) (M1 : MS), i + k = 8 - bh → k < f → g ≤ i → Ex [17] M M1 → (∀ j, mA M1 17 j = if g ≤ j ∧ j < i then 0 else mA M 17 j) → wm m D (f_X9_readSix_L349 f (some m) (nI bh) (nI i)) M1 P := by
  have e8 : (8 : Int32) - nI bh = nI (8 - bh) := pk_sub (a := 8) (by omega)
  intro k
  induction k with
  | zero =>
    intro i f M1 hi hf hgi E h
    obtain ⟨f, rfl⟩ : ∃ g, f = g + 1 := ⟨f - 1, by omega⟩
    rw [f_X9_readSix_L349]
    unfold f_X9_readSix_349
    rw [e8]
    refine wm_t (nI_le (by omega) (by omega)) (wm_p (hP M1 E (fun j => ?_)))
    rw [h j, show i = 8 - bh by omega]
  | succ k ih =>
    intro i f M1 hi hf hgi E h
    obtain ⟨f, rfl⟩ : ∃ g, f = g + 1 := ⟨f - 1, by omega⟩
    rw [f_X9_readSix_L349]
    unfold f_X9_readSix_349
    rw [e8]
    refine wm_f (nI_ge (by omega) (by omega)) (wm_b (wm_rR (k := 17) (t := 1) (by decide) (wm_b (wm_sI (k := 17) (t := 1) (by decide) rfl (show i < 8 by omega) ?_))))
    rw [gnar1, nI_1]
    refine ih (i + 1) f _ (by omega) (by omega) (by omega) (E.trans (Ex.a (by decide))) (fun j => ?_)
    rw [mA_uA]
    by_cases z : j = i
    · rw [if_pos ⟨rfl, z⟩, if_pos (by omega)]
    · rw [if_neg (fun y => z y.2), h j]
      by_cases w : g ≤ j ∧ j < i
      · rw [if_pos w, if_pos (by omega)]
      · rw [if_neg w, if_neg (by omega)]
theorem m_spread {M : MS} {ps : List Nat} {q : Nat} (hN : Nb M ps) (h7 : ps.length ≤ 7) (hq : q ≤ ps.length) (hP : ∀ M', Ex [17] M M' → (∀ j, j < 8 → mA M' 17 j = nI (spr ps q j)) → P 0 M') : wm m D (f_X9_readSix_L311 gF (some m) (nI ps.length) (nI q) (nI ps.length - nI q) 0) M P := by
  rw [pk_sub hq]
  have L : ∀ (k i f : Nat) (M1 : MS), i + k = ps.length - q → k < f → Ex [17] M M1 → (∀ j, j < ps.length → j ≤ 7 - i → mA M1 17 j = nI (ps.getD j 0)) → (∀ j, 8 - i ≤ j → j < 8 → mA M1 17 j = nI (ps.getD (j - (8 - ps.length)) 0)) → wm m D (f_X9_readSix_L311 f (some m) (nI ps.length) (nI q) (nI (ps.length - q)) (nI i)) M1 P := by
    intro k
    induction k with
    | zero =>
      intro i f M1 hi hf E h1 h2
      obtain ⟨f, rfl⟩ : ∃ g, f = g + 1 := ⟨f - 1, by omega⟩
      rw [f_X9_readSix_L311]
      unfold f_X9_readSix_311
      refine wm_t (nI_le (by omega) (by omega)) ?_
      refine m_sp2 (M := M1) (bh := ps.length - q) (g := q) (by omega) (fun M' E' h => hP M' (E.trans E') (fun j hj => ?_)) (8 - (ps.length - q) - q) q gF M1 (by omega) (by unfold gF; omega) (Nat.le_refl _) Ex.rf (fun j => by rw [if_neg (by omega)])
      rw [h j]
      unfold spr
      by_cases c : j < q
      · rw [if_neg (by omega), if_pos c]
        exact h1 j (by omega) (by omega)
      · by_cases d : j < 8 - (ps.length - q)
        · rw [if_pos ⟨by omega, d⟩, if_neg c, if_pos d]
          rfl
        · rw [if_neg (by omega), if_neg c, if_neg d]
          exact h2 j (by omega) hj
    | succ k ih =>
      intro i f M1 hi hf E h1 h2
      obtain ⟨f, rfl⟩ : ∃ g, f = g + 1 := ⟨f - 1, by omega⟩
      rw [f_X9_readSix_L311]
      unfold f_X9_readSix_311
      have e1 : nI ps.length - 1 - nI i = nI (ps.length - 1 - i) := by
        rw [show (1 : Int32) = nI 1 from rfl, pk_sub (by omega), pk_sub (by omega)]
      have e2 : (7 : Int32) - nI i = nI (7 - i) := pk_sub (a := 7) (by omega)
      refine wm_f (nI_ge (by omega) (by omega)) (wm_b (wm_rR (k := 17) (t := 1) (by decide) (wm_get (k := 17) (t := 1) (by decide) e1 (show ps.length - 1 - i < 8 by omega) (wm_b (wm_sI (k := 17) (t := 1) (by decide) e2 (show 7 - i < 8 by omega) ?_)))))
      rw [gnar1, nI_1, h1 (ps.length - 1 - i) (by omega) (by omega)]
      refine ih (i + 1) f _ (by omega) (by omega) (E.trans (Ex.a (by decide))) (fun j hj hj2 => ?_) (fun j hj hj2 => ?_)
      · rw [mA_uA, if_neg (fun y => by have := y.2; omega)]
        exact h1 j hj (by omega)
      · rw [mA_uA]
        by_cases z : j = 7 - i
        · rw [if_pos ⟨rfl, z⟩, z, show 7 - i - (8 - ps.length) = ps.length - 1 - i by omega]
        · rw [if_neg (fun y => z y.2)]
          exact h2 j (by omega) hj2
  exact L (ps.length - q) 0 gF M (by omega) (by unfold gF; omega) Ex.rf (fun j hj _ => hN j hj) (fun j h1 h2 => by omega)
theorem m_ph2 {q : Nat} (hb : b ≤ xs.length) : ∀ (fm k f : Nat) (ps : List Nat) (M : MS), b - k < fm → b + 1 - k < f → k ≤ b → In M xs → Nb M ps → ps.length ≤ 8 → q ≤ ps.length → (f2S xs b f k (decide (k < b)) ps q = none → ∀ M', Ex [17] M M' → P (-16) M') → (∀ F M', f2S xs b f k (decide (k < b)) ps q = some F → Ex [17] M M' → (∀ j, j < 8 → mA M' 17 j = nI (F j)) → P 0 M') → wm m D (f_X9_readSix_L57 fm (some m) (nI b) (nI ps.length) (nI q) (nI k)) M P := by
  intro fm
  induction fm with
  | zero => intro k f ps M h; omega
  | succ fm ih =>
    intro k f ps M hfm hf hk hI hN h8 hq h0 h1
    have hl := hI.2.1
    obtain ⟨f, rfl⟩ : ∃ g, f = g + 1 := ⟨f - 1, by omega⟩
    rw [f_X9_readSix_L57]
    unfold f_X9_readSix_57
    by_cases kb : k = b
    · subst kb
      have er : f2S xs k (f + 1) k (decide (k < k)) ps q = if ps.length ≤ 7 then some (spr ps q) else none := by
        unfold f2S
        rw [decide_eq_false (Nat.lt_irrefl _), pcs_end (by omega)]
      rw [er] at h0 h1
      refine wm_t (nI_le (Nat.le_refl _) (by omega)) (wm_t (show nI 0 ≤ nI q from nI_le (by omega) (by omega)) ?_)
      by_cases c : ps.length = 8
      · rw [if_neg (by omega)] at h0
        exact wm_t (by rw [c]; rfl) (wm_p (h0 rfl M Ex.rf))
      · rw [if_pos (by omega)] at h1
        refine wm_f (fun z => c ((nI_eq (b := 8) (by omega) (by omega)).mp z)) ?_
        unfold f_X9_readSix_297
        refine wm_f (nI_pos (by omega)) ?_
        exact m_spread hN (by omega) hq (fun M' E h => h1 _ M' rfl E h)
    · have kl : k < b := by omega
      have er : f2S xs b (f + 1) k (decide (k < b)) ps q = match pcB xs b k ps with
          | none => none
          | some ps' => f2S xs b f (clE xs (b - k) k + 1) (decide (clE xs (b - k) k < b)) ps' q := by
        unfold f2S
        rw [decide_eq_true kl, pcs_next hk (Nat.le_refl _) (Or.inl rfl) (fun _ => rfl) (fun _ => rfl)]
        cases pcB xs b k ps with
        | none => rfl
        | some ps' => rfl
      refine wm_f (nI_ge kl (by omega)) ?_
      by_cases c : ps.length = 8
      · refine wm_t (by rw [c]; rfl) (wm_p (h0 ?_ M Ex.rf))
        rw [er, pcB_8 c]
      · refine wm_f (fun z => c ((nI_eq (b := 8) (by omega) (by omega)).mp z)) ?_
        obtain ⟨t1, t2⟩ := clE_le xs (b - k) k
        have t58 := clE_58 xs (b - k) k
        have mono : ∀ {ps'}, pcB xs b k ps = some ps' → ps'.length ≤ 8 ∧ q ≤ ps'.length := fun {ps'} h => by
          unfold pcB ptP pcP at h
          split at h
          · split at h
            · cases hv : ptsC xs (b - k) k 0 none 0 with
              | none => rw [hv] at h; cases h
              | some v =>
                rw [hv, ad2] at h
                split at h
                · cases h
                  rw [List.length_append]
                  show ps.length + 2 ≤ 8 ∧ q ≤ ps.length + 2
                  omega
                · cases h
            · cases h
          · split at h
            · cases hv : numV xs 16 (clE xs (b - k) k - k) k 0 with
              | none => rw [hv] at h; cases h
              | some v =>
                rw [hv, ad1] at h
                split at h
                · cases h
                  rw [List.length_append]
                  show ps.length + 1 ≤ 8 ∧ q ≤ ps.length + 1
                  omega
                · cases h
            · cases h
        refine m_piece hI hb kl hN (by omega) (fun z M' E => h0 (by rw [er, z]) M' E) (fun ps' M' z ht E N => ?_) (fun ps' M' z ht E N => ?_)
        · obtain ⟨g1, g2⟩ := mono z
          have er2 : f2S xs b (f + 1) k (decide (k < b)) ps q = f2S xs b f b (decide (b < b)) ps' q := by
            rw [er, z]
            dsimp only
            unfold f2S
            rw [ht, decide_eq_false (Nat.lt_irrefl _), pcs_end (by omega), pcs_end (by omega)]
          exact ih b f ps' M' (by omega) (by omega) (Nat.le_refl _) (hI.ex E (by decide) (by decide)) N g1 g2 (fun y M2 E2 => h0 (by rw [er2]; exact y) M2 (E.trans E2)) (fun F M2 y E2 h => h1 F M2 (by rw [er2]; exact y) (E.trans E2) h)
        · obtain ⟨g1, g2⟩ := mono z
          have I' := hI.ex E (by decide) (by decide)
          have t58 := t58 (by omega)
          generalize et : clE xs (b - k) k = t at *
          rw [z] at er
          dsimp only at er
          rw [decide_eq_true ht] at er
          obtain ⟨f', rfl⟩ : ∃ g, f = g + 1 := ⟨f - 1, by omega⟩
          have nx : pcB xs b (t + 1) ps' = none → f2S xs b (f' + 1) (t + 1) true ps' q = none := fun y => by
            unfold f2S
            rw [pcs_next (by omega) (Nat.le_refl _) (Or.inl rfl) (fun _ => rfl) (fun _ => rfl), y]
          rw [nI_1]
          by_cases tb : t + 1 = b
          · refine wm_t (by rw [tb]) (wm_p (h0 ?_ M' E))
            rw [er]
            exact nx (pcB_0 (Or.inl tb))
          · refine wm_f (fun y => tb ((nI_eq (by omega) (by omega)).mp y)) (wm_get (k := 11) (t := 0) (by decide) rfl (show t + 1 < 300 by omega) ?_)
            refine wm_if (fun y => ?_) (fun y => ?_)
            · have y := (I'.sbq (c := 58) (by omega) (by omega)).mp y
              refine wm_f (nI_pos (by omega)) (wm_p (h0 ?_ M' E))
              rw [er]
              exact nx (pcB_0 (Or.inr ⟨by omega, y⟩))
            · have er2 : f2S xs b (f' + 1 + 1) k (decide (k < b)) ps q = f2S xs b (f' + 1) (t + 1) (decide (t + 1 < b)) ps' q := by
                rw [er, decide_eq_true (show t + 1 < b by omega)]
              exact ih (t + 1) (f' + 1) ps' M' (by omega) (by omega) (by omega) I' N g1 g2 (fun w M2 E2 => h0 (by rw [er2]; exact w) M2 (E.trans E2)) (fun F M2 w E2 h => h1 F M2 (by rw [er2]; exact w) (E.trans E2) h)
theorem pcB_len {k : Nat} {ps ps' : List Nat} (h : pcB xs b k ps = some ps') : ps'.length ≤ 8 := by
  unfold pcB ptP pcP at h
  split at h
  · split at h
    · cases hv : ptsC xs (b - k) k 0 none 0 with
      | none => rw [hv] at h; cases h
      | some v =>
        rw [hv, ad2] at h
        split at h
        · cases h
          rw [List.length_append]
          show ps.length + 2 ≤ 8
          omega
        · cases h
    · cases h
  · split at h
    · cases hv : numV xs 16 (clE xs (b - k) k - k) k 0 with
      | none => rw [hv] at h; cases h
      | some v =>
        rw [hv, ad1] at h
        split at h
        · cases h
          rw [List.length_append]
          show ps.length + 1 ≤ 8
          omega
        · cases h
    · cases h
theorem m_ph1 {g : Nat} (hb : b ≤ xs.length) : ∀ (fm k f : Nat) (ps : List Nat) (M : MS), b - k < fm → b + 1 - k < f → k ≤ b → fGap xs b (b - k) k = g → (k < b → k < g) → In M xs → Nb M ps → ps.length ≤ 8 → (f1S xs b g f k (decide (k < b)) ps = none → ∀ M', Ex [17] M M' → P (-16) M') → (∀ F M', f1S xs b g f k (decide (k < b)) ps = some F → Ex [17] M M' → (∀ j, j < 8 → mA M' 17 j = nI (F j)) → P 0 M') → wm m D (f_X9_readSix_L57 fm (some m) (nI b) (nI ps.length) (-1) (nI k)) M P := by
  intro fm
  induction fm with
  | zero => intro k f ps M h; omega
  | succ fm ih =>
    intro k f ps M hfm hf hk hG hkg hI hN h8 h0 h1
    have hl := hI.2.1
    obtain ⟨f, rfl⟩ : ∃ g, f = g + 1 := ⟨f - 1, by omega⟩
    rw [f_X9_readSix_L57]
    unfold f_X9_readSix_57
    by_cases kb : k = b
    · subst kb
      have gk : g = k := by
        rw [← hG, Nat.sub_self]
        rfl
      subst gk
      have er : f1S xs g g (f + 1) g (decide (g < g)) ps = if ps.length = 8 then some (spr ps ps.length) else none := by
        unfold f1S
        rw [decide_eq_false (Nat.lt_irrefl _), pcs_end (by omega)]
        dsimp only
        rw [if_pos rfl]
      rw [er] at h0 h1
      refine wm_t (nI_le (Nat.le_refl _) (by omega)) (wm_f (by decide) ?_)
      by_cases c : ps.length = 8
      · rw [if_pos c] at h1
        refine wm_t (by rw [c]; rfl) ?_
        unfold f_X9_readSix_297
        refine wm_t (by decide) (wm_p (h1 _ M rfl Ex.rf (fun j hj => ?_)))
        unfold spr
        rw [if_pos (by omega)]
        exact hN j (by omega)
      · rw [if_neg c] at h0
        exact wm_f (fun z => c ((nI_eq (b := 8) (by omega) (by omega)).mp z)) (wm_p (h0 rfl M Ex.rf))
    · have kl : k < b := by omega
      have kg := hkg kl
      have fl := fGap_le xs b (b - k) k hk
      rw [hG] at fl
      have g58 := fGap_58 xs b (b - k) k
      rw [hG] at g58
      have ge : g = b ∨ xs.getD g 0 = 58 := by
        by_cases w : g = b
        · exact Or.inl w
        · exact Or.inr (g58 w).1
      have er : f1S xs b g (f + 1) k (decide (k < b)) ps = match pcB xs b k ps with
          | none => none
          | some ps' => f1S xs b g f (clE xs (b - k) k + 1) (decide (clE xs (b - k) k < g)) ps' := by
        unfold f1S
        rw [decide_eq_true kl, pcs_next (by omega) fl.2.1 ge (fun z => of_decide_eq_true z) (fun z => decide_eq_true z)]
        cases pcB xs b k ps with
        | none => rfl
        | some ps' => rfl
      refine wm_f (nI_ge kl (by omega)) ?_
      by_cases c : ps.length = 8
      · refine wm_t (by rw [c]; rfl) (wm_p (h0 ?_ M Ex.rf))
        rw [er, pcB_8 c]
      · refine wm_f (fun z => c ((nI_eq (b := 8) (by omega) (by omega)).mp z)) ?_
        obtain ⟨t1, t2⟩ := clE_le xs (b - k) k
        have t58 := clE_58 xs (b - k) k
        have tno := clE_no xs (b - k) k
        -- the piece ends before the gap
        have tg' : clE xs (b - k) k ≤ g := by
          obtain ⟨w1, -⟩ := clE_g fl.2.1 ge (g - k) k (by omega)
          have := clE_le xs (g - k) k
          omega
        refine m_piece hI hb kl hN (by omega) (fun z M' E => h0 (by rw [er, z]) M' E) (fun ps' M' z ht E N => ?_) (fun ps' M' z ht E N => ?_)
        · have g1 := pcB_len z
          have gb : g = b := by omega
          have er2 : f1S xs b g (f + 1) k (decide (k < b)) ps = f1S xs b g f b (decide (b < b)) ps' := by
            rw [er, z]
            dsimp only
            unfold f1S
            rw [ht, decide_eq_false (show ¬ b < g by omega), decide_eq_false (Nat.lt_irrefl _), pcs_end (by omega), pcs_end (by omega)]
          refine ih b f ps' M' (by omega) (by omega) (Nat.le_refl _) (by rw [Nat.sub_self, gb]; rfl) (fun w => absurd w (Nat.lt_irrefl _)) (hI.ex E (by decide) (by decide)) N g1 (fun y M2 E2 => h0 (by rw [er2]; exact y) M2 (E.trans E2)) (fun F M2 y E2 h => h1 F M2 (by rw [er2]; exact y) (E.trans E2) h)
        · have g1 := pcB_len z
          have I' := hI.ex E (by decide) (by decide)
          have t58 := t58 (by omega)
          have walk : fGap xs b (b - k) k = fGap xs b (b - clE xs (b - k) k) (clE xs (b - k) k) := fGap_walk ht (b - k) k (by omega) t1 (fun j h1 h2 => tno j h1 h2)
          rw [hG] at walk
          generalize et : clE xs (b - k) k = t at *
          rw [z] at er
          dsimp only at er
          obtain ⟨f', rfl⟩ : ∃ g, f = g + 1 := ⟨f - 1, by omega⟩
          rw [nI_1]
          by_cases tb : t + 1 = b
          · have gb : g = b := by
              by_cases w : g = b
              · exact w
              · have := fl.2.2 w
                omega
            refine wm_t (by rw [tb]) (wm_p (h0 ?_ M' E))
            rw [er, decide_eq_true (show t < g by omega)]
            unfold f1S
            rw [pcs_next (b := b) (by omega) fl.2.1 ge (fun z => of_decide_eq_true z) (fun z => decide_eq_true z), pcB_0 (Or.inl tb)]
          · obtain ⟨j, hj⟩ : ∃ j, b - t = j + 1 := ⟨b - t - 1, by omega⟩
            rw [hj, fGap, if_neg (by omega)] at walk
            refine wm_f (fun y => tb ((nI_eq (by omega) (by omega)).mp y)) (wm_get (k := 11) (t := 0) (by decide) rfl (show t + 1 < 300 by omega) ?_)
            refine wm_if (fun y => ?_) (fun y => ?_)
            · have y := (I'.sbq (c := 58) (by omega) (by omega)).mp y
              rw [if_pos ⟨t58, y⟩] at walk
              subst walk
              have er2 : f1S xs b g (f' + 1 + 1) k (decide (k < b)) ps = f2S xs b gF (g + 2) (decide (g + 2 < b)) ps' ps'.length := by
                rw [er, decide_eq_false (Nat.lt_irrefl _)]
                unfold f1S
                rw [pcs_end (by omega)]
                dsimp only
                rw [if_neg (by omega)]
              refine wm_t (by decide) ?_
              rw [nI_1]
              exact m_ph2 hb fm (g + 2) gF ps' M' (by omega) (by unfold gF; omega) (by omega) I' N g1 (Nat.le_refl _) (fun w M2 E2 => h0 (by rw [er2]; exact w) M2 (E.trans E2)) (fun F M2 w E2 h => h1 F M2 (by rw [er2]; exact w) (E.trans E2) h)
            · have y : ¬ xs.getD (t + 1) 0 = 58 := fun w => y ((I'.sbq (c := 58) (by omega) (by omega)).mpr w)
              rw [if_neg (fun w => y w.2)] at walk
              have tlg : t < g := by
                rcases Nat.lt_or_ge t g with w | w
                · exact w
                · exfalso
                  have : t = g := by omega
                  by_cases v : g = b
                  · omega
                  · rw [this] at y
                    exact y (g58 v).2
              have er2 : f1S xs b g (f' + 1 + 1) k (decide (k < b)) ps = f1S xs b g (f' + 1) (t + 1) (decide (t + 1 < b)) ps' := by
                rw [er, decide_eq_true tlg, decide_eq_true (show t + 1 < b by omega)]
              refine ih (t + 1) (f' + 1) ps' M' (by omega) (by omega) (by omega) (by rw [show b - (t + 1) = j by omega]; exact walk.symm) (fun _ => ?_) I' N g1 (fun w M2 E2 => h0 (by rw [er2]; exact w) M2 (E.trans E2)) (fun F M2 w E2 h => h1 F M2 (by rw [er2]; exact w) (E.trans E2) h)
              rcases Nat.lt_or_ge (t + 1) g with w | w
              · exact w
              · exfalso
                have : t + 1 = g := by omega
                rcases ge with v | v
                · omega
                · rw [← this] at v
                  exact y v
theorem m_readSix {M : MS} {a : Nat} (hI : In M xs) (hab : a ≤ b) (hb : b ≤ xs.length) (h0 : sixR xs a b = none → ∀ M', Ex [17] M M' → P (-16) M') (h1 : ∀ F M', sixR xs a b = some F → Ex [17] M M' → (∀ j, j < 8 → mA M' 17 j = nI (F j)) → P 0 M') : wm m D (f_X9_readSix (some m) (nI a) (nI b)) M P := by
  have hl := hI.2.1
  have N0 : Nb M [] := fun j hj => absurd hj (Nat.not_lt_zero _)
  have fl := fGap_le xs b (b - a) a hab
  have g58 := fGap_58 xs b (b - a) a
  have ge : fGap xs b (b - a) a = b ∨ xs.getD (fGap xs b (b - a) a) 0 = 58 := by
    by_cases w : fGap xs b (b - a) a = b
    · exact Or.inl w
    · exact Or.inr (g58 w).1
  rw [sixR_f] at h0 h1
  generalize eg : fGap xs b (b - a) a = g at *
  unfold f_X9_readSix
  rcases Nat.lt_or_ge a b with z | z
  · refine wm_f (nI_ge z (by omega)) (wm_get (k := 11) (t := 0) (by decide) rfl (show a < 300 by omega) ?_)
    obtain ⟨j, hj⟩ : ∃ j, b - a = j + 1 := ⟨b - a - 1, by omega⟩
    rw [hj, fGap] at eg
    -- a : at the very first place
    have none0 : xs.getD a 0 = 58 → a < g → f1S xs b g gF a (decide (a < g)) [] = none := fun y w => by
      show f1S xs b g (9999 + 1) a (decide (a < g)) [] = none
      unfold f1S
      rw [decide_eq_true w, pcs_next (b := b) fl.1 fl.2.1 ge (fun z => of_decide_eq_true z) (fun z => decide_eq_true z), pcB_0 (Or.inr ⟨z, y⟩)]
    refine wm_if (fun y => ?_) (fun y => ?_)
    · have y := (hI.sbq (c := 58) (by omega) (by omega)).mp y
      rw [nI_1]
      by_cases c : b ≤ a + 1
      · rw [if_pos c] at eg
        exact wm_t (nI_le c (by omega)) (wm_p (h0 (none0 y (by omega)) M Ex.rf))
      · rw [if_neg c] at eg
        refine wm_f (nI_ge (by omega) (by omega)) (wm_get (k := 11) (t := 0) (by decide) rfl (show a + 1 < 300 by omega) ?_)
        refine wm_if (fun w => ?_) (fun w => ?_)
        · have w := (hI.sbq (c := 58) (by omega) (by omega)).mp w
          rw [if_pos ⟨y, w⟩] at eg
          subst eg
          have er : f1S xs b a gF a (decide (a < a)) [] = f2S xs b gF (a + 2) (decide (a + 2 < b)) [] 0 := by
            show f1S xs b a (9999 + 1) a (decide (a < a)) [] = _
            unfold f1S
            rw [decide_eq_false (Nat.lt_irrefl _), pcs_end (by omega)]
            dsimp only
            rw [if_neg (by omega)]
            rfl
          rw [er] at h0 h1
          rw [show nI a + 2 = nI (a + 2) from nI_add a 2]
          exact m_ph2 (q := 0) hb gF (a + 2) gF [] M (by unfold gF; omega) (by unfold gF; omega) (by omega) hI N0 (by decide) (Nat.le_refl _) h0 h1
        · have w : ¬ xs.getD (a + 1) 0 = 58 := fun v => w ((hI.sbq (c := 58) (by omega) (by omega)).mpr v)
          refine wm_p (h0 (none0 y ?_) M Ex.rf)
          rcases Nat.lt_or_ge a g with v | v
          · exact v
          · exfalso
            have ag : a = g := by omega
            by_cases u : g = b
            · omega
            · rw [ag] at w
              exact w (g58 u).2
    · have y : ¬ xs.getD a 0 = 58 := fun v => y ((hI.sbq (c := 58) (by omega) (by omega)).mpr v)
      have ag : a < g := by
        rcases Nat.lt_or_ge a g with v | v
        · exact v
        · exfalso
          have ag : a = g := by omega
          rcases ge with u | u
          · omega
          · rw [← ag] at u
            exact y u
      rw [decide_eq_true ag, ← decide_eq_true z] at h0 h1
      refine m_ph1 (g := g) hb gF a gF [] M (by unfold gF; omega) (by unfold gF; omega) hab ?_ (fun _ => ag) hI N0 (by decide) h0 h1
      rw [hj, fGap]
      exact eg
  · have ab : a = b := by omega
    subst ab
    have ga : g = a := by omega
    subst ga
    refine wm_t (nI_le (by omega) (by omega)) ?_
    exact m_ph1 (g := g) hb gF g gF [] M (by unfold gF; omega) (by unfold gF; omega) hab eg (fun w => absurd w (Nat.lt_irrefl _)) hI N0 (by decide) h0 h1
end MY
