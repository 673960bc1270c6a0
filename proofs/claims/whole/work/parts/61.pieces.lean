/-! HOSTREADER: the pieces of SIX -/
theorem or_N {k a b : Nat} (ha : a < 2 ^ k) (h : b * 2 ^ k + a < 2 ^ 32) : nI (b * 2 ^ k) ||| nI a = nI (b * 2 ^ k + a) := by
  apply Int32.toBitVec_inj.mp
  apply BitVec.eq_of_toNat_eq
  rw [Int32.toBitVec_or, BitVec.toNat_or, pk_tn (by omega), pk_tn (by omega), pk_tn h, ← Nat.shiftLeft_eq, Nat.shiftLeft_add_eq_or_of_lt ha]
/-- a row that is read -/
def Sr (σ : gS) (r : Nat) (xs : List Int32) : Prop := WF σ ∧ gkd σ r = 5 ∧ rowL σ r = xs ∧ xs.length ≤ 4096
theorem Sr.b {σ : gS} {r i : Nat} {xs : List Int32} {β : Type} {K : Int32 → gM β} {P : β → gS → Prop} (S : Sr σ r xs) (hi : i < xs.length) (h : wp (K (xs.getD i 0)) σ P) : wp (gb (nn 4 (some r)) fun _ => gb (f_X5_byteAt (some r) (nI i)) K) σ P := by
  obtain ⟨hW, kr, e, hl⟩ := S
  refine wp_b (wp_nn kr (wp_b (sp_byteAt hW kr id ?_)))
  rw [e, bAt_nI hi (by omega)]
  exact h
theorem Sr.mod {σ σ' : gS} {r : Nat} {xs : List Int32} {X : Nat → Nat → Nat → Nat → Prop} (S : Sr σ r xs) (hW' : WF σ') (hM : Mod X σ σ') (hX : ¬ X 0 r 0 0) : Sr σ' r xs := ⟨hW', hM.kd S.2.1, by rw [hM.row S.1 S.2.1 id hX]; exact S.2.2.1, S.2.2.2⟩
/-- the pieces of HostReader q, in the array p -/
def Pc (σ : gS) (q p : Nat) (ps : List Nat) : Prop := gkd σ q = 4 ∧ grr σ 3 1 q = some p ∧ gkd σ p = 11 ∧ gln σ p = 8 ∧ gii σ 3 2 q = nI ps.length ∧ ps.length ≤ 8 ∧ ∀ j, j < ps.length → gai σ p j = nI (ps.getD j 0)
abbrev XP (q : Nat) : Nat → Nat → Nat → Nat → Prop := fun t x y z => (t = 1 ∧ x = 3 ∧ y = 2 ∧ z = q) ∨ (t = 3 ∧ x = 3 ∧ y = 1 ∧ z = q)
def PcTo (σ σ' : gS) (q p : Nat) (ps : List Nat) : Prop := WF σ' ∧ Mod (XP q) σ σ' ∧ Pc σ' q p ps ∧ BK 0 σ σ'
theorem PcTo.trans {σ σ1 σ2 : gS} {q p : Nat} {ps ps' : List Nat} (h : PcTo σ σ1 q p ps) (h2 : PcTo σ1 σ2 q p ps') : PcTo σ σ2 q p ps' := ⟨h2.1, h.2.1.trans h2.2.1, h2.2.2.1, h.2.2.2.trans h2.2.2.2⟩
theorem PcTo.rf {σ : gS} {q p : Nat} {ps : List Nat} (hW : WF σ) (h : Pc σ q p ps) : PcTo σ σ q p ps := ⟨hW, Mod.rf, h, BK.rf⟩
theorem PcTo.sr {σ σ' : gS} {q p r : Nat} {ps xs : List _} (h : PcTo σ σ' q p ps) (S : Sr σ r xs) : Sr σ' r xs := S.mod h.1 h.2.1 (by simp)
theorem getD_app {ps : List Nat} {v j : Nat} (h : j < ps.length + 1) : (ps ++ [v]).getD j 0 = if j = ps.length then v else ps.getD j 0 := by
  by_cases e : j = ps.length
  · rw [if_pos e, e]
    simp
  · rw [if_neg e]
    have : j < ps.length := by omega
    simp [List.getD_eq_getElem?_getD, List.getElem?_append_left this]
theorem sp_addPiece {σ : gS} {q p v : Nat} {ps : List Nat} {Q : Int32 → gS → Prop} (hW : WF σ) (P : Pc σ q p ps) (h0 : 8 ≤ ps.length → Q 0 σ) (h1 : ∀ σ', ps.length < 8 → PcTo σ σ' q p (ps ++ [v]) → Q 1 σ') : wp (f_X4_addPiece (some q) (nI v)) σ Q := by
  obtain ⟨kq, ep, kp, lp, ec, hc, hj⟩ := P
  unfold f_X4_addPiece
  refine wp_b (wp_rI kq ?_)
  rw [ec]
  refine wp_b (wp_rR kq ?_)
  rw [ep]
  refine wp_b (wp_aL (t := 1) kp ?_)
  rw [lp]
  refine wp_if (fun c => ?_) (fun c => ?_)
  · have c := (nI_ltI (by omega) (by omega)).mp c
    refine wp_b (wp_rR kq ?_)
    rw [ep]
    refine wp_b (wp_rI kq ?_)
    rw [ec]
    refine wp_b (wp_sI (t := 1) kp (by omega) (by omega) ?_)
    obtain ⟨m1, m2, m3⟩ := arr_upd (j := ps.length) (v := gnar 1 (nI v)) hW (c := 3) (k := 1) kq (by decide) (by decide) rfl ep
    have ec1 : gii (gsA σ p ps.length (gnar 1 (nI v))) 3 2 q = nI ps.length := ec
    refine wp_b (wp_rI kq ?_)
    rw [ec1, nI_1]
    refine wp_b (wp_wI kq (wp_z1 (h1 _ c ?_)))
    obtain ⟨n1, n2, n3⟩ := int_upd (c := 3) (k := 2) (a := q) (v := nI (ps.length + 1)) m1 (by decide)
    refine ⟨n1, (m2.mono (fun _ _ _ _ z => Or.inr z)).trans (n2.mono (fun _ _ _ _ z => Or.inl z)), ⟨kq, ep, kp, lp, ?_, ?_, ?_⟩, m3.trans n3⟩
    · rw [qI_ii, if_pos ⟨rfl, rfl, rfl⟩, List.length_append]
      rfl
    · simp only [List.length_append, List.length_cons, List.length_nil]
      omega
    · intro j hjl
      simp only [List.length_append, List.length_cons, List.length_nil] at hjl
      rw [getD_app (by omega)]
      show gai (gsA σ p ps.length (gnar 1 (nI v))) p j = _
      rw [qA_ai]
      by_cases e : j = ps.length
      · rw [if_pos ⟨rfl, e⟩, if_pos e]
        rfl
      · rw [if_neg (fun z => e z.2), if_neg e]
        exact hj j (by omega)
  · have c : ¬ ps.length < 8 := fun z => c (nI_lt z (by omega))
    exact wp_z0 (h0 (by omega))
/-- what is left of the pieces behind one more number -/
def ad1 (ps : List Nat) : Option Nat → Option (List Nat)
  | none => none
  | some v => if ps.length < 8 then some (ps ++ [v]) else none
def pcP (xs : List Int32) (a b : Nat) (ps : List Nat) : Option (List Nat) := if 1 ≤ b - a ∧ b - a ≤ 4 then ad1 ps (numV xs 16 (b - a) a 0) else none
section PR
variable {r q p : Nat} {xs : List Int32} {Q : Int32 → gS → Prop}
theorem sp_rpL {σ : gS} {b : Nat} {ps : List Nat} (S : Sr σ r xs) (P : Pc σ q p ps) (hb : b ≤ xs.length) : ∀ (m i v f : Nat), i + m = b → m < f → (ad1 ps (numV xs 16 m i v) = none → Q 0 σ) → (∀ ps' σ', ad1 ps (numV xs 16 m i v) = some ps' → PcTo σ σ' q p ps' → Q 1 σ') → wp (f_X4_readPiece_L22 f (some q) (some r) (nI b) (nI v) (nI i)) σ Q := by
  have hl := S.2.2.2
  intro m
  induction m with
  | zero =>
    intro i v f hi hf h0 h1
    obtain ⟨f, rfl⟩ : ∃ g, f = g + 1 := ⟨f - 1, by omega⟩
    rw [f_X4_readPiece_L22]
    unfold f_X4_readPiece_22
    rw [numV, ad1] at h0 h1
    refine wp_t (nI_le (by omega) (by omega)) (wp_b (wp_nn P.1 (wp_b (sp_addPiece S.1 P (fun c => ?_) (fun σ' c h' => ?_)))))
    · rw [if_neg (by omega)] at h0
      exact wp_z0 (h0 rfl)
    · rw [if_pos c] at h1
      exact wp_z1 (h1 _ σ' rfl h')
  | succ m ih =>
    intro i v f hi hf h0 h1
    obtain ⟨f, rfl⟩ : ∃ g, f = g + 1 := ⟨f - 1, by omega⟩
    rw [f_X4_readPiece_L22]
    unfold f_X4_readPiece_22
    rw [numV] at h0 h1
    refine wp_f (nI_ge (by omega) (by omega)) (S.b (by omega) (wp_b (sp_hexValue ?_)))
    rcases hx (xs.getD i 0) with ⟨e1, e2⟩ | ⟨d, hd, e1, e2⟩
    · rw [e2] at h0
      exact wp_t e1 (wp_z0 (h0 rfl))
    · rw [e2] at h0 h1
      dsimp only at h0 h1
      rw [if_pos hd] at h0 h1
      rw [e1]
      refine wp_f ?_ ?_
      · have : ∀ d, d < 16 → ¬ nI d = -1 := by decide +kernel
        exact this d hd
      · rw [show (16 : Int32) = nI 16 from rfl, pk_mul, nI_add, nI_1, Nat.mul_comm 16 v]
        exact ih (i + 1) _ f (by omega) (by omega) h0 h1
theorem sp_readPiece {σ : gS} {a b : Nat} {ps : List Nat} (S : Sr σ r xs) (P : Pc σ q p ps) (hab : a ≤ b) (hb : b ≤ xs.length) (h0 : pcP xs a b ps = none → Q 0 σ) (h1 : ∀ ps' σ', pcP xs a b ps = some ps' → PcTo σ σ' q p ps' → Q 1 σ') : wp (f_X4_readPiece (some q) (some r) (nI a) (nI b)) σ Q := by
  have hl := S.2.2.2
  unfold f_X4_readPiece
  unfold pcP at h0 h1
  rw [pk_sub hab]
  refine wp_if (fun c => ?_) (fun c => ?_)
  · have c := (nI_ltI (a := b - a) (b := 1) (by omega) (by omega)).mp c
    rw [if_neg (by omega)] at h0
    exact wp_z0 (h0 rfl)
  · have c : ¬ b - a < 1 := fun z => c (nI_lt (b := 1) z (by omega))
    refine wp_if (fun d => ?_) (fun d => ?_)
    · have d := (nI_leI (a := b - a) (b := 4) (by omega) (by omega)).mp d
      rw [if_pos ⟨by omega, d⟩] at h0 h1
      exact sp_rpL S P hb (b - a) a 0 gF (by omega) (by show _ < 10000; omega) h0 h1
    · have d : ¬ b - a ≤ 4 := fun z => d (nI_le (b := 4) z (by omega))
      rw [if_neg (fun z => d z.2)] at h0
      exact wp_z0 (h0 rfl)
end PR
/-- the value of a digit of base 10 -/
def dg (b : Int32) : Nat := (b - 48).toNatClampNeg
theorem dg_of {b : Int32} (h : ¬ pDig b = 0) : dg b < 10 ∧ b - 48 = nI (dg b) ∧ b = nI (48 + dg b) := by
  unfold pDig at h
  by_cases h1 : b < 48
  · rw [if_pos h1] at h; exact absurd rfl h
  · by_cases h2 : 57 < b
    · rw [if_neg h1, if_pos h2] at h; exact absurd rfl h
    · obtain ⟨n, h3, h4, rfl⟩ := b_of (b := b) (fun z => h1 (Int32.lt_trans z (by decide))) (fun z => h2 (Int32.lt_trans (by decide) z))
      have a1 : 48 ≤ n := Nat.not_lt.mp (fun z => h1 (nI_lt (a := n) (b := 48) z (by omega)))
      have a2 : n ≤ 57 := Nat.not_lt.mp (fun z => h2 (nI_lt (a := 57) (b := n) z (by omega)))
      have : ∀ n, n < 58 → 48 ≤ n → dg (nI n) < 10 ∧ nI n - 48 = nI (dg (nI n)) ∧ nI n = nI (48 + dg (nI n)) := by decide +kernel
      exact this n (by omega) a1
/-- four numbers with points between: m bytes from place i on, B the bits before, the number so far, how many points -/
def ptsC (xs : List Int32) : Nat → Nat → Nat → Option Nat → Nat → Option Nat
  | 0, _, B, val, pts => if val = none then none else if pts = 3 then some (B * 256 + val.getD 0) else none
  | m + 1, i, B, val, pts => if xs.getD i 0 = 46 then (if val = none then none else if pts + 1 ≤ 3 then ptsC xs m (i + 1) (B * 256 + val.getD 0) none (pts + 1) else none) else if pDig (xs.getD i 0) = 0 then none else if val = none then ptsC xs m (i + 1) B (some (dg (xs.getD i 0))) pts else if val = some 0 then none else if 10 * val.getD 0 + dg (xs.getD i 0) ≤ 255 then ptsC xs m (i + 1) B (some (10 * val.getD 0 + dg (xs.getD i 0))) pts else none
def ad2 (ps : List Nat) : Option Nat → Option (List Nat)
  | none => none
  | some v => if ps.length + 2 ≤ 8 then some (ps ++ [v / 65536, v % 65536]) else none
section PT
variable {r q p : Nat} {xs : List Int32} {Q : Int32 → gS → Prop}
def oN : Option Nat → Int32
  | none => -1
  | some v => nI v
theorem sp_ptsL {σ : gS} {b : Nat} {ps : List Nat} (S : Sr σ r xs) (P : Pc σ q p ps) (hb : b ≤ xs.length) : ∀ (m i B : Nat) (val : Option Nat) (pts f : Nat), i + m = b → m < f → pts ≤ 3 → B < 256 ^ pts → (∀ v, val = some v → v ≤ 255) → (ad2 ps (ptsC xs m i B val pts) = none → ∀ ps' σ', PcTo σ σ' q p ps' → Q 0 σ') → (∀ ps' σ', ad2 ps (ptsC xs m i B val pts) = some ps' → PcTo σ σ' q p ps' → Q 1 σ') → wp (f_X4_readPoints_L12 f (some q) (some r) (nI b) (nI B) (oN val) (nI pts) (nI i)) σ Q := by
  have hl := S.2.2.2
  have hPr := PcTo.rf S.1 P
  have nm1 : ∀ v, v < 256 → ¬ nI v = -1 := by decide +kernel
  have orB : ∀ {B v pts : Nat}, pts ≤ 3 → B < 256 ^ pts → v ≤ 255 → (nI B <<< (8 &&& 31 : Int32)) ||| nI v = nI (B * 256 + v) ∧ B * 256 + v < 256 ^ (pts + 1) ∧ B * 256 + v < 2 ^ 32 := by
    intro B v pts hp hB hv
    have e1 : B * 256 + v < 256 ^ (pts + 1) := by rw [Nat.pow_succ]; omega
    have e2 : 256 ^ (pts + 1) ≤ 256 ^ 4 := Nat.pow_le_pow_right (by omega) (by omega)
    have e4 : B * 256 + v < 4294967296 := Nat.lt_of_lt_of_le e1 (Nat.le_trans e2 (by decide))
    refine ⟨?_, e1, e4⟩
    clear e1 e2 hB
    have e6 : B * 2 ^ 8 + v < 2 ^ 32 := e4
    have e5 : B * 2 ^ 8 < 2 ^ 32 := Nat.lt_of_le_of_lt (Nat.le_add_right _ _) e6
    have e7 : v < 2 ^ 8 := by
      simp only [Nat.reducePow]
      omega
    rw [pk_shlN (n := B) (8 &&& 31) 8 (by decide) e5]
    exact or_N (k := 8) e7 e6
  intro m
  induction m with
  | zero =>
    intro i B val pts f hi hf hp hB hv h0 h1
    obtain ⟨f, rfl⟩ : ∃ g, f = g + 1 := ⟨f - 1, by omega⟩
    rw [f_X4_readPoints_L12]
    unfold f_X4_readPoints_12
    rw [ptsC] at h0 h1
    refine wp_t (nI_le (by omega) (by omega)) ?_
    cases val with
    | none =>
      rw [if_pos rfl] at h0
      exact wp_t rfl (wp_z0 (h0 rfl _ _ hPr))
    | some v =>
      have hv := hv v rfl
      rw [if_neg (by simp), Option.getD_some] at h0 h1
      refine wp_f (nm1 v (by omega)) ?_
      refine wp_if (fun c => ?_) (fun c => ?_)
      · have c := (nI_eq (a := pts) (b := 3) (by omega) (by omega)).mp c
        rw [if_pos c, ad2] at h0 h1
        obtain ⟨o1, o2, o3⟩ := orB hp hB hv
        rw [show oN (some v) = nI v from rfl, o1, pk_ushrN o3 (16 : Int32) 16 (by decide), pk_andN o3 (m := 65535) 16 (by decide)]
        refine wp_b (wp_nn P.1 (wp_b (sp_addPiece S.1 P (fun d => ?_) (fun σ1 d g1 => ?_))))
        · rw [if_neg (by omega)] at h0
          exact wp_t rfl (wp_z0 (h0 rfl _ _ hPr))
        · refine wp_f (by decide) (wp_b (wp_nn g1.2.2.1.1 (wp_b (sp_addPiece g1.1 g1.2.2.1 (fun d' => ?_) (fun σ2 d' g2 => ?_)))))
          · simp only [List.length_append, List.length_cons, List.length_nil] at d'
            rw [if_neg (by omega)] at h0
            exact wp_t rfl (wp_z0 (h0 rfl _ _ g1))
          · simp only [List.length_append, List.length_cons, List.length_nil] at d'
            rw [if_pos (by omega)] at h1
            refine wp_f (by decide) (wp_z1 (h1 _ σ2 rfl ?_))
            have := g1.trans g2
            rw [List.append_assoc] at this
            exact this
      · have c : ¬ pts = 3 := fun z => c (by rw [z]; rfl)
        rw [if_neg c] at h0
        exact wp_z0 (h0 rfl _ _ hPr)
  | succ m ih =>
    intro i B val pts f hi hf hp hB hv h0 h1
    obtain ⟨f, rfl⟩ : ∃ g, f = g + 1 := ⟨f - 1, by omega⟩
    rw [f_X4_readPoints_L12]
    unfold f_X4_readPoints_12 f_X4_readPoints_100 f_X4_readPoints_102
    rw [ptsC] at h0 h1
    refine wp_f (nI_ge (by omega) (by omega)) (S.b (by omega) ?_)
    refine wp_if (fun c => ?_) (fun c => ?_)
    · rw [if_pos c] at h0 h1
      cases val with
      | none =>
        rw [if_pos rfl] at h0
        exact wp_t rfl (wp_z0 (h0 rfl _ _ hPr))
      | some v =>
        have hv := hv v rfl
        rw [if_neg (by simp), Option.getD_some] at h0 h1
        obtain ⟨o1, o2, o3⟩ := orB hp hB hv
        refine wp_f (nm1 v (by omega)) (wp_f (by decide) ?_)
        rw [show oN (some v) = nI v from rfl, o1, nI_1, nI_1]
        refine wp_if (fun d => ?_) (fun d => ?_)
        · have d := (nI_leI (a := pts + 1) (b := 3) (by omega) (by omega)).mp d
          rw [if_pos d] at h0 h1
          exact ih (i + 1) _ none (pts + 1) f (by omega) (by omega) d o2 (fun _ z => by cases z) h0 h1
        · have d : ¬ pts + 1 ≤ 3 := fun z => d (nI_le (b := 3) z (by omega))
          rw [if_neg d] at h0
          exact wp_z0 (h0 rfl _ _ hPr)
    · rw [if_neg c] at h0 h1
      refine wp_b (sp_isDigit ?_)
      refine wp_if (fun d => ?_) (fun d => ?_)
      · rw [if_pos d] at h0
        exact wp_z0 (h0 rfl _ _ hPr)
      · rw [if_neg d] at h0 h1
        obtain ⟨d1, d2, d3⟩ := dg_of d
        cases val with
        | none =>
          rw [if_pos rfl] at h0 h1
          refine wp_f (by decide) (wp_t rfl ?_)
          rw [d2, nI_1]
          refine wp_f ?_ (wp_t (nI_le (b := 3) hp (by omega)) ?_)
          · exact fun y => absurd ((nI_ltI (a := 255) (by omega) (by omega)).mp y) (by omega)
          · exact ih (i + 1) B (some _) pts f (by omega) (by omega) hp hB (fun _ z => by cases z; omega) h0 h1
        | some v =>
          have hv := hv v rfl
          rw [if_neg (by simp), Option.getD_some] at h0 h1
          rw [show oN (some v) = nI v from rfl]
          refine wp_if (fun e => ?_) (fun e => ?_)
          · have e := (nI_eq (a := v) (b := 0) (by omega) (by omega)).mp e
            rw [if_pos (by rw [e])] at h0
            exact wp_z0 (h0 rfl _ _ hPr)
          · have e : ¬ v = 0 := fun z => e (by rw [z]; rfl)
            rw [if_neg (fun z => e (Option.some.inj z))] at h0 h1
            refine wp_f (nm1 v (by omega)) ?_
            have e5 : (10 : Int32) * nI v + xs.getD i 0 - 48 = nI (10 * v + dg (xs.getD i 0)) := by
              rw [show (10 : Int32) = nI 10 from rfl, pk_mul]
              rw [show nI (10 * v) + xs.getD i 0 - 48 = nI (10 * v) + (xs.getD i 0 - 48) from by rw [Int32.sub_eq_add_neg, Int32.sub_eq_add_neg, Int32.add_assoc], d2, nI_add]
            rw [e5, nI_1]
            refine wp_if (fun g => ?_) (fun g => ?_)
            · have g := (nI_ltI (a := 255) (by omega) (by omega)).mp g
              rw [if_neg (by omega)] at h0
              exact wp_z0 (h0 rfl _ _ hPr)
            · have g : ¬ 255 < 10 * v + dg (xs.getD i 0) := fun z => g (nI_lt (a := 255) z (by omega))
              rw [if_pos (by omega)] at h0 h1
              refine wp_t (nI_le (b := 3) hp (by omega)) ?_
              exact ih (i + 1) B (some _) pts f (by omega) (by omega) hp hB (fun _ z => by cases z; omega) h0 h1
def ptP (xs : List Int32) (a b : Nat) (ps : List Nat) : Option (List Nat) := ad2 ps (ptsC xs (b - a) a 0 none 0)
theorem sp_readPoints {σ : gS} {a b : Nat} {ps : List Nat} (S : Sr σ r xs) (P : Pc σ q p ps) (hab : a ≤ b) (hb : b ≤ xs.length) (h0 : ptP xs a b ps = none → ∀ ps' σ', PcTo σ σ' q p ps' → Q 0 σ') (h1 : ∀ ps' σ', ptP xs a b ps = some ps' → PcTo σ σ' q p ps' → Q 1 σ') : wp (f_X4_readPoints (some q) (some r) (nI a) (nI b)) σ Q := by
  have hl := S.2.2.2
  unfold f_X4_readPoints
  exact sp_ptsL S P hb (b - a) a 0 none 0 gF (by omega) (by show _ < 10000; omega) (by omega) (by decide) (fun _ z => by cases z) h0 h1
end PT
