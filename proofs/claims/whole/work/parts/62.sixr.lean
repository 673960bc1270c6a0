/-! HOSTREADER: SIX and HOSTS -/
def clE (xs : List Int32) : Nat → Nat → Nat
  | 0, i => i
  | m + 1, i => if xs.getD i 0 = 58 then i else clE xs m (i + 1)
theorem clE_le (xs : List Int32) : ∀ m i, i ≤ clE xs m i ∧ clE xs m i ≤ i + m
  | 0, i => by simp [clE]
  | m + 1, i => by
    have := clE_le xs m (i + 1)
    rw [clE]
    split <;> omega
def ptA (xs : List Int32) : Nat → Nat → Bool
  | 0, _ => false
  | m + 1, i => if xs.getD i 0 = 58 then false else (decide (xs.getD i 0 = 46) || ptA xs m (i + 1))
/-- one piece from p on, or the four numbers that end it -/
def pc1 (xs : List Int32) (b : Nat) (fr : Bool) (p : Nat) (ps : List Nat) : Option (List Nat) := if ptA xs (b - p) p = true then (if fr = true ∧ ¬ clE xs (b - p) p < b then ptP xs p (clE xs (b - p) p) ps else none) else pcP xs p (clE xs (b - p) p) ps
def pcsC (xs : List Int32) (b : Nat) (fr : Bool) : Nat → Nat → Bool → List Nat → Option (List Nat)
  | 0, _, _, _ => none
  | f + 1, p, more, ps => if more = false then some ps else if b < p then some ps else match pc1 xs b fr p ps with
    | none => none
    | some ps' => pcsC xs b fr f (clE xs (b - p) p + 1) (decide (clE xs (b - p) p < b)) ps'
section RP
variable {r q p : Nat} {xs : List Int32} {Q : Int32 → gS → Prop}
theorem sp_inner {σ : gS} {b pp : Nat} {x4 : Int32} {R : Option Nat → Option Nat → Int32 → Int32 → Int32 → Int32 → gM Int32} (S : Sr σ r xs) (hb : b ≤ xs.length) : ∀ (m i : Nat) (fl : Bool) (f : Nat), i + m = b → m < f → wp (f_X4_readPieces_79 R (some q) (some r) (nI b) x4 (nI pp) (nI (clE xs m i)) (b2i (fl || ptA xs m i))) σ Q → wp (f_X4_readPieces_L33 R f (some q) (some r) (nI b) x4 (nI pp) (nI i) (b2i fl)) σ Q := by
  have hl := S.2.2.2
  intro m
  induction m with
  | zero =>
    intro i fl f hi hf hQ
    obtain ⟨f, rfl⟩ : ∃ g, f = g + 1 := ⟨f - 1, by omega⟩
    rw [f_X4_readPieces_L33]
    unfold f_X4_readPieces_33
    rw [clE, ptA, Bool.or_false] at hQ
    exact wp_t (nI_le (by omega) (by omega)) hQ
  | succ m ih =>
    intro i fl f hi hf hQ
    obtain ⟨f, rfl⟩ : ∃ g, f = g + 1 := ⟨f - 1, by omega⟩
    rw [f_X4_readPieces_L33]
    unfold f_X4_readPieces_33
    rw [clE, ptA] at hQ
    refine wp_f (nI_ge (by omega) (by omega)) (S.b (by omega) ?_)
    refine wp_if (fun c => ?_) (fun c => ?_)
    · rw [if_pos c, if_pos c, Bool.or_false] at hQ
      exact hQ
    · rw [if_neg c, if_neg c] at hQ
      rw [nI_1]
      cases fl with
      | true =>
        rw [Bool.true_or] at hQ
        refine wp_f (by decide) (ih (i + 1) true f (by omega) (by omega) ?_)
        rw [Bool.true_or]
        exact hQ
      | false =>
        rw [Bool.false_or] at hQ
        refine wp_t rfl (S.b (by omega) ?_)
        refine wp_if (fun d => ?_) (fun d => ?_)
        · rw [decide_eq_true d] at hQ
          exact ih (i + 1) true f (by omega) (by omega) hQ
        · rw [decide_eq_false d] at hQ
          exact ih (i + 1) false f (by omega) (by omega) hQ
theorem sp_pcsL {b : Nat} {fr : Bool} (hb : b ≤ xs.length) : ∀ (f pp : Nat) (more : Bool) (ps : List Nat) (σ : gS), b + 1 - pp < f → pp ≤ b + 1 → Sr σ r xs → Pc σ q p ps → (pcsC xs b fr f pp more ps = none → ∀ ps' σ', PcTo σ σ' q p ps' → Q 0 σ') → (∀ ps' σ', pcsC xs b fr f pp more ps = some ps' → PcTo σ σ' q p ps' → Q 1 σ') → wp (f_X4_readPieces_L15 f (some q) (some r) (nI b) (b2i fr) (nI pp) (b2i more)) σ Q := by
  intro f
  induction f with
  | zero => intro pp more ps σ h; omega
  | succ f ih =>
    intro pp more ps σ hf hp S P h0 h1
    have hl := S.2.2.2
    have hPr := PcTo.rf S.1 P
    rw [f_X4_readPieces_L15]
    unfold f_X4_readPieces_15
    rw [pcsC] at h0 h1
    cases more with
    | false =>
      rw [if_pos rfl] at h1
      exact wp_t rfl (wp_z1 (h1 _ σ rfl hPr))
    | true =>
      rw [if_neg (by decide)] at h0 h1
      refine wp_f (by decide) ?_
      refine wp_if (fun c => ?_) (fun c => ?_)
      · have c := (nI_ltI (by omega) (by omega)).mp c
        rw [if_pos c] at h1
        exact wp_z1 (h1 _ σ rfl hPr)
      · have c : ¬ b < pp := fun z => c (nI_lt z (by omega))
        rw [if_neg c] at h0 h1
        refine sp_inner (x4 := b2i fr) (pp := pp) S hb (b - pp) pp false gF (by omega) (by show _ < 10000; omega) ?_
        rw [Bool.false_or]
        obtain ⟨l1, l2⟩ := clE_le xs (b - pp) pp
        unfold pc1 at h0 h1
        generalize clE xs (b - pp) pp = e at *
        generalize ptA xs (b - pp) pp = pt at *
        unfold f_X4_readPieces_79
        -- behind the piece: on or out
        have out : ∀ (o : Option (List Nat)), o = none → (∀ ps' σ', PcTo σ σ' q p ps' → Q 0 σ') → True := fun _ _ _ => trivial
        have key : ∀ s0 : Int32, s0 = b2i (decide (e < b)) → wp (f_X4_readPieces_90 (f_X4_readPieces_L15 f) (some q) (some r) (nI b) (b2i fr) (nI pp) (nI e) (b2i pt) s0) σ Q := by
          intro s0 hs
          rw [hs]
          unfold f_X4_readPieces_90 f_X4_readPieces_123 f_X4_readPieces_136
          have on : ∀ ps1 σ1, PcTo σ σ1 q p ps1 → (pcsC xs b fr f (e + 1) (decide (e < b)) ps1 = none → ∀ ps' σ', PcTo σ σ' q p ps' → Q 0 σ') → (∀ ps' σ', pcsC xs b fr f (e + 1) (decide (e < b)) ps1 = some ps' → PcTo σ σ' q p ps' → Q 1 σ') → wp (if (1 : Int32) = 0 then gz 0 else f_X4_readPieces_L15 f (some q) (some r) (nI b) (b2i fr) (nI e + 1) (b2i (decide (e < b)))) σ1 Q := by
            intro ps1 σ1 g1 k0 k1
            rw [nI_1]
            refine wp_f (by decide) (ih (e + 1) (decide (e < b)) ps1 σ1 (by omega) (by omega) (g1.sr S) g1.2.2.1 (fun z ps' σ' g => k0 z ps' σ' (g1.trans g)) (fun ps' σ' z g => k1 ps' σ' z (g1.trans g)))
          cases pt with
          | false =>
            rw [if_neg (by decide)] at h0 h1
            refine wp_t rfl (wp_b (wp_nn P.1 (wp_b (sp_readPiece S P (by omega) (by omega) (fun z => ?_) (fun ps1 σ1 z g1 => ?_)))))
            · rw [z] at h0
              exact wp_t rfl (wp_z0 (h0 rfl _ _ hPr))
            · rw [z] at h0 h1
              exact on ps1 σ1 g1 h0 h1
          | true =>
            rw [if_pos rfl] at h0 h1
            refine wp_f (by decide) ?_
            cases fr with
            | false =>
              rw [if_neg (fun z => absurd z.1 (by decide))] at h0
              exact wp_t rfl (wp_t rfl (wp_z0 (h0 rfl _ _ hPr)))
            | true =>
              refine wp_f (by decide) ?_
              by_cases d : e < b
              · rw [if_neg (fun z => z.2 d)] at h0
                rw [b2i_t (decide_eq_true d)]
                exact wp_f (by decide) (wp_t rfl (wp_z0 (h0 rfl _ _ hPr)))
              · rw [if_pos ⟨rfl, d⟩] at h0 h1
                refine wp_t (b2i_f (decide_eq_false d)) (wp_b (wp_nn P.1 (wp_b (sp_readPoints S P (by omega) (by omega) (fun z ps1 σ1 g1 => ?_) (fun ps1 σ1 z g1 => ?_)))))
                · rw [z] at h0
                  exact wp_t rfl (wp_t rfl (wp_z0 (h0 rfl _ _ g1)))
                · rw [z] at h0 h1
                  exact wp_f (by decide) (on ps1 σ1 g1 h0 h1)
        refine wp_if (fun d => key 0 ?_) (fun d => key 1 ?_)
        · have d := (nI_leI (by omega) (by omega)).mp d
          rw [b2i_f (decide_eq_false (by omega))]
        · have d : ¬ b ≤ e := fun z => d (nI_le z (by omega))
          rw [b2i_t (decide_eq_true (by omega))]
theorem sp_readPieces {σ : gS} {a b : Nat} {fr : Bool} {ps : List Nat} (hab : a ≤ b + 1) (hb : b ≤ xs.length) (S : Sr σ r xs) (P : Pc σ q p ps) (h0 : pcsC xs b fr gF a (decide (a < b)) ps = none → ∀ ps' σ', PcTo σ σ' q p ps' → Q 0 σ') (h1 : ∀ ps' σ', pcsC xs b fr gF a (decide (a < b)) ps = some ps' → PcTo σ σ' q p ps' → Q 1 σ') : wp (f_X4_readPieces (some q) (some r) (nI a) (nI b) (b2i fr)) σ Q := by
  have hl := S.2.2.2
  unfold f_X4_readPieces
  have key : ∀ x : Int32, x = b2i (decide (a < b)) → wp (f_X4_readPieces_L15 gF (some q) (some r) (nI b) (b2i fr) (nI a) x) σ Q := fun x hx => by
    rw [hx]
    exact sp_pcsL hb gF a (decide (a < b)) ps σ (by show _ < 10000; omega) hab S P h0 h1
  refine wp_if (fun d => key 0 ?_) (fun d => key 1 ?_)
  · have d := (nI_leI (by omega) (by omega)).mp d
    rw [b2i_f (decide_eq_false (by omega))]
  · have d : ¬ b ≤ a := fun z => d (nI_le z (by omega))
    rw [b2i_t (decide_eq_true (by omega))]
def fGap (xs : List Int32) (b : Nat) : Nat → Nat → Nat
  | 0, _ => b
  | m + 1, i => if b ≤ i + 1 then b else if xs.getD i 0 = 58 ∧ xs.getD (i + 1) 0 = 58 then i else fGap xs b m (i + 1)
theorem fGap_le (xs : List Int32) (b : Nat) : ∀ m i, i ≤ b → i ≤ fGap xs b m i ∧ fGap xs b m i ≤ b ∧ (fGap xs b m i ≠ b → fGap xs b m i + 2 ≤ b)
  | 0, i => fun h => ⟨h, Nat.le_refl _, fun z => absurd rfl z⟩
  | m + 1, i => fun h => by
    rw [fGap]
    by_cases h1 : b ≤ i + 1
    · rw [if_pos h1]
      exact ⟨h, Nat.le_refl _, fun z => absurd rfl z⟩
    · rw [if_neg h1]
      have := fGap_le xs b m (i + 1) (by omega)
      split
      · omega
      · exact ⟨by omega, this.2.1, this.2.2⟩
theorem sp_findGapL {σ : gS} {b : Nat} (S : Sr σ r xs) (hb : b ≤ xs.length) : ∀ (m i f : Nat), i + m = b → m < f → Q (nI (fGap xs b m i)) σ → wp (f_X4_findGap_L3 f (some r) (nI b) (nI i)) σ Q := by
  have hl := S.2.2.2
  intro m
  induction m with
  | zero =>
    intro i f hi hf hQ
    obtain ⟨f, rfl⟩ : ∃ g, f = g + 1 := ⟨f - 1, by omega⟩
    rw [f_X4_findGap_L3]
    unfold f_X4_findGap_3
    rw [nI_1]
    exact wp_t (nI_le (by omega) (by omega)) (wp_p hQ)
  | succ m ih =>
    intro i f hi hf hQ
    obtain ⟨f, rfl⟩ : ∃ g, f = g + 1 := ⟨f - 1, by omega⟩
    rw [f_X4_findGap_L3]
    unfold f_X4_findGap_3
    rw [nI_1]
    rw [fGap] at hQ
    refine wp_if (fun c => ?_) (fun c => ?_)
    · have c := (nI_leI (by omega) (by omega)).mp c
      rw [if_pos c] at hQ
      exact wp_p hQ
    · have c : ¬ b ≤ i + 1 := fun z => c (nI_le z (by omega))
      rw [if_neg c] at hQ
      refine S.b (by omega) (wp_if (fun d => ?_) (fun d => ?_))
      · refine S.b (by omega) (wp_if (fun e => ?_) (fun e => ?_))
        · rw [if_pos ⟨d, e⟩] at hQ
          exact wp_p hQ
        · rw [if_neg (fun z => e z.2)] at hQ
          exact ih (i + 1) f (by omega) (by omega) hQ
      · rw [if_neg (fun z => d z.1)] at hQ
        exact ih (i + 1) f (by omega) (by omega) hQ
end RP
/-- the pieces spread over eight places: those from k on at the end -/
def spr (ps : List Nat) (k i : Nat) : Nat := if i < k then ps.getD i 0 else if i < 8 - (ps.length - k) then 0 else ps.getD (i - (8 - ps.length)) 0
def Pw (σ : gS) (q p : Nat) (P : Nat → Nat) : Prop := gkd σ q = 4 ∧ grr σ 3 1 q = some p ∧ gkd σ p = 11 ∧ gln σ p = 8 ∧ ∀ j, j < 8 → gai σ p j = nI (P j)
def SpTo (σ σ' : gS) (q p : Nat) (P : Nat → Nat) : Prop := WF σ' ∧ Mod (XP q) σ σ' ∧ Pw σ' q p P ∧ BK 0 σ σ'
theorem sp_spreadL {q p k : Nat} {ps : List Nat} {Q : Unit → gS → Prop} (hk : k ≤ ps.length) (hl : ps.length ≤ 8) : ∀ (n f : Nat) (σ : gS), n ≤ 8 → n < f → WF σ → gkd σ q = 4 → grr σ 3 1 q = some p → gkd σ p = 11 → gln σ p = 8 → gii σ 3 2 q = nI ps.length → (∀ j, j < 8 → n ≤ j → gai σ p j = nI (spr ps k j)) → (∀ j, j < n → j < ps.length → gai σ p j = nI (ps.getD j 0)) → (∀ σ', SpTo σ σ' q p (spr ps k) → Q () σ') → wp (f_X4_spread_L10 f (some q) (nI k) (nI (ps.length - k)) (nI n + (-1))) σ Q := by
  intro n
  induction n with
  | zero =>
    intro f σ hn hf hW kq ep kp lp ec hA hB hQ
    obtain ⟨f, rfl⟩ : ∃ g, f = g + 1 := ⟨f - 1, by omega⟩
    rw [f_X4_spread_L10]
    unfold f_X4_spread_10
    have hlt : ∀ k, k < 9 → nI 0 + (-1) < nI k := by decide +kernel
    exact wp_t (hlt k (by omega)) (wp_p (hQ σ ⟨hW, Mod.rf, ⟨kq, ep, kp, lp, fun j hj => hA j hj (Nat.zero_le _)⟩, BK.rf⟩))
  | succ i ih =>
    intro f σ hn hf hW kq ep kp lp ec hA hB hQ
    obtain ⟨f, rfl⟩ : ∃ g, f = g + 1 := ⟨f - 1, by omega⟩
    rw [f_X4_spread_L10, pk_m1]
    unfold f_X4_spread_10
    refine wp_if (fun c => ?_) (fun c => ?_)
    · have c := (nI_ltI (by omega) (by omega)).mp c
      refine wp_p (hQ σ ⟨hW, Mod.rf, ⟨kq, ep, kp, lp, fun j hj => ?_⟩, BK.rf⟩)
      by_cases d : i + 1 ≤ j
      · exact hA j hj d
      · rw [hB j (by omega) (by omega), spr, if_pos (by omega)]
    · have c : ¬ i < k := fun z => c (nI_lt z (by omega))
      refine wp_f (nI_pos (by omega)) (wp_b (wp_rI kq ?_))
      rw [ec]
      refine wp_b (wp_rR kq ?_)
      rw [ep, show (8 : Int32) = nI 8 from rfl, pk_sub (a := 8) (by omega), pk_sub (a := 8) (by omega)]
      have store : ∀ v : Nat, v = spr ps k i → wp (f_X4_spread_59 (f_X4_spread_L10 f) (some q) (nI k) (nI (ps.length - k)) (nI i) (some p) (nI i) (nI v)) σ Q := by
        intro v hv
        unfold f_X4_spread_59
        refine wp_b (wp_sI (t := 1) kp (by omega) (by omega) ?_)
        obtain ⟨m1, m2, m3⟩ := arr_upd (j := i) (v := gnar 1 (nI v)) hW (c := 3) (k := 1) kq (by decide) (by decide) rfl ep
        refine ih f _ (by omega) (by omega) m1 kq ep kp lp ec (fun j hj hij => ?_) (fun j hj hjl => ?_) (fun σ' g => hQ σ' ⟨g.1, (m2.mono (fun _ _ _ _ z => Or.inr z)).trans g.2.1, g.2.2.1, m3.trans g.2.2.2⟩)
        · rw [qA_ai]
          by_cases e : j = i
          · rw [if_pos ⟨rfl, e⟩, e, ← hv]
            rfl
          · rw [if_neg (fun z => e z.2)]
            exact hA j hj (by omega)
        · rw [qA_ai, if_neg (fun z => by omega)]
          exact hB j (by omega) hjl
      refine wp_if (fun d => ?_) (fun d => ?_)
      · have d := (nI_ltI (by omega) (by omega)).mp d
        exact store 0 (by rw [spr, if_neg c, if_pos d])
      · have d : ¬ i < 8 - (ps.length - k) := fun z => d (nI_lt z (by omega))
        rw [pk_sub (by omega)]
        refine wp_f (nI_pos (by omega)) (wp_b (wp_rR kq ?_))
        rw [ep]
        refine wp_b (wp_aI (t := 1) kp (by omega) (by omega) ?_)
        rw [hB _ (by omega) (by omega)]
        exact store _ (by rw [spr, if_neg c, if_neg d])
theorem sp_spread {σ : gS} {q p k : Nat} {ps : List Nat} {Q : Unit → gS → Prop} (hW : WF σ) (P : Pc σ q p ps) (hk : k ≤ ps.length) (hQ : ∀ σ', SpTo σ σ' q p (spr ps k) → Q () σ') : wp (f_X4_spread (some q) (nI k)) σ Q := by
  obtain ⟨kq, ep, kp, lp, ec, hc, hj⟩ := P
  unfold f_X4_spread
  refine wp_b (wp_rI kq ?_)
  rw [ec, pk_sub hk, show (7 : Int32) = nI 8 + (-1) from rfl]
  exact sp_spreadL hk hc 8 gF σ (by omega) (by show 8 < 10000; omega) hW kq ep kp lp ec (fun j h1 h2 => by omega) (fun j _ h => hj j h) hQ
def wd (P : Nat → Nat) (k : Nat) : Int32 := nI (P k * 65536 + P (k + 1))
theorem sp_wordAt {σ : gS} {q p k : Nat} {P : Nat → Nat} {Q : Int32 → gS → Prop} (hW : Pw σ q p P) (hk : k + 1 < 8) (hP : ∀ j, P j < 65536) (hQ : Q (wd P k) σ) : wp (f_X4_wordAt (some q) (nI k)) σ Q := by
  obtain ⟨kq, ep, kp, lp, hj⟩ := hW
  unfold f_X4_wordAt
  refine wp_f (nI_pos (by omega)) (wp_b (wp_rR kq ?_))
  rw [ep]
  refine wp_b (wp_aL (t := 1) kp ?_)
  rw [lp, nI_1]
  refine wp_t (nI_lt hk (by omega)) (wp_b (wp_rR kq ?_))
  rw [ep]
  refine wp_b (wp_aI (t := 1) kp (by omega) (by omega) (wp_b (wp_rR kq ?_)))
  rw [ep]
  refine wp_b (wp_aI (t := 1) kp (by omega) (by omega) (wp_p ?_))
  have p1 := hP k
  have p2 := hP (k + 1)
  rw [hj k (by omega), hj (k + 1) hk, pk_shlN (16 &&& 31) 16 (by decide) (show P k * 2 ^ 16 < 2 ^ 32 by omega), or_N (k := 16) p2 (by omega)]
  exact hQ
