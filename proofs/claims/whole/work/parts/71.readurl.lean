/-! URLREADER: readUrl -/
theorem nI_m1 {n : Nat} (h : n < 2 ^ 31) : ¬ nI n = -1 := fun z => nI_pos h (by rw [z]; decide)
theorem nI_all (x : Int32) : nI x.toBitVec.toNat = x := by
  apply Int32.toBitVec_inj.mp
  apply BitVec.eq_of_toNat_eq
  exact pk_tn x.toBitVec.isLt
/-- what a step leaves as it is: rows but k, ints but j -/
def Fx (k j : Nat) (U V : UV) : Prop := (∀ i, i ≠ k → uR V i = uR U i) ∧ (∀ i, i ≠ j → uI V i = uI U i) ∧ uK V = uK U ∧ uW V = uW U
theorem Fx.rf {k j : Nat} {U : UV} : Fx k j U U := ⟨fun _ _ => rfl, fun _ _ => rfl, rfl, rfl⟩
theorem Fx.trans {k j : Nat} {U V W : UV} (h : Fx k j U V) (h2 : Fx k j V W) : Fx k j U W := ⟨fun i hi => (h2.1 i hi).trans (h.1 i hi), fun i hi => (h2.2.1 i hi).trans (h.2.1 i hi), h2.2.2.1.trans h.2.2.1, h2.2.2.2.trans h.2.2.2⟩
theorem Fx.r {k j : Nat} {U : UV} {ys : List Int32} : Fx k j U (vR U k ys) := ⟨fun i hi => by rw [uR_R, if_neg hi], fun _ _ => rfl, rfl, rfl⟩
theorem Fx.i {k j : Nat} {U : UV} {v : Int32} : Fx k j U (vI U j v) := ⟨fun _ _ => rfl, fun i hi => by rw [uI_I, if_neg hi], rfl, rfl⟩
theorem drS_fx (U : UV) : Fx 6 7 U (drS U) := by
  unfold drS
  split
  · exact Fx.rf
  · exact Fx.r.trans Fx.i
theorem bgS_fx (U : UV) : Fx 6 7 U (bgS U) := Fx.trans (V := vR U 6 (uR U 6 ++ [47])) Fx.r Fx.i
theorem tk1_fx (n : Nat) (U : UV) : Fx 6 7 U (tk1 n U) := by
  unfold tk1
  split
  · exact drS_fx U
  · exact Fx.rf
theorem tk2_fx (n : Nat) (mo : Bool) (U : UV) : Fx 6 7 U (tk2 n mo U) := by
  unfold tk2
  split
  · exact (tk1_fx n U).trans (bgS_fx _)
  · exact tk1_fx n U
theorem tkS_fx (xs : List Int32) (a b : Nat) (mo : Bool) (U : UV) : Fx 6 7 U (tkS xs a b mo U) := by
  unfold tkS
  split
  · exact (tk2_fx 0 mo U).trans Fx.r
  · exact tk2_fx _ mo U
theorem sgL_fx (xs : List Int32) : ∀ f a U, Fx 6 7 U (sgL xs f a U).1
  | 0, a, U => Fx.rf
  | f + 1, a, U => by
    rw [sgL]
    split
    · exact tkS_fx xs a _ false U
    · exact (tkS_fx xs a _ true U).trans (sgL_fx xs f _ _)
theorem sgL_le (xs : List Int32) : ∀ f a U, a ≤ xs.length → (sgL xs f a U).2 ≤ xs.length
  | 0, a, U, h => h
  | f + 1, a, U, h => by
    have h1 := dvS_le xs (xs.length - a) a
    rw [sgL]
    by_cases c : pSla (xs.getD (dvS xs (xs.length - a) a) (-1)) = 0
    · rw [if_pos c]
      show dvS xs (xs.length - a) a ≤ xs.length
      omega
    · rw [if_neg c]
      refine sgL_le xs f _ _ ?_
      rcases Nat.lt_or_ge (dvS xs (xs.length - a) a) xs.length with z | z
      · omega
      · rw [gd_out z] at c
        exact absurd rfl c
theorem usL_fx (xs : List Int32) : ∀ m i ip U, (∀ k, k ≠ 2 → k ≠ 3 → uR (usL xs m i ip U) k = uR U k) ∧ uI (usL xs m i ip U) = uI U ∧ uK (usL xs m i ip U) = uK U ∧ uW (usL xs m i ip U) = uW U
  | 0, i, ip, U => ⟨fun _ _ _ => rfl, rfl, rfl, rfl⟩
  | m + 1, i, ip, U => by
    rw [usL]
    split
    · exact usL_fx xs m (i + 1) true U
    · split
      · obtain ⟨h1, h2, h3, h4⟩ := usL_fx xs m (i + 1) ip (vR U 2 (uR U 2 ++ esc (xs.getD i (-1)) 6))
        exact ⟨fun k k2 k3 => by rw [h1 k k2 k3, uR_R, if_neg k2], h2, h3, h4⟩
      · obtain ⟨h1, h2, h3, h4⟩ := usL_fx xs m (i + 1) ip (vR U 3 (uR U 3 ++ esc (xs.getD i (-1)) 6))
        exact ⟨fun k k2 k3 => by rw [h1 k k2 k3, uR_R, if_neg k3], h2, h3, h4⟩
theorem auU_fx (xs : List Int32) (p : Nat) (U : UV) : (∀ k, k ≠ 2 → k ≠ 3 → uR (auU xs p U).1 k = uR U k) ∧ uI (auU xs p U).1 = uI U ∧ uK (auU xs p U).1 = uK U ∧ uW (auU xs p U).1 = uW U := by
  unfold auU
  split
  · exact ⟨fun _ _ _ => rfl, rfl, rfl, rfl⟩
  · exact usL_fx xs _ _ false U
theorem auU_le (xs : List Int32) (p : Nat) (U : UV) (hp : p ≤ xs.length) : (auU xs p U).2 ≤ auE xs p ∧ auE xs p ≤ xs.length := by
  have b1 := slS_le xs (xs.length - p) p
  have b2 := dvS_le xs (xs.length - auF xs p) (auF xs p)
  have e1 : auF xs p = slS xs (xs.length - p) p := rfl
  have e2 : auE xs p = dvS xs (xs.length - auF xs p) (auF xs p) := rfl
  unfold auU
  cases h : atS xs (auF xs p) (auE xs p) with
  | none =>
    show auF xs p ≤ auE xs p ∧ auE xs p ≤ xs.length
    omega
  | some s =>
    have := atS_le xs _ _ s h
    show s + 1 ≤ auE xs p ∧ auE xs p ≤ xs.length
    omega
def enF (xs : List Int32) (U : UV) (p : Nat) : UV := frU xs (quU xs p U).2 (quU xs p U).1
def enS (xs : List Int32) (U : UV) (p : Nat) : UV := enF xs (sgL xs gF p U).1 (sgL xs gF p U).2
def enP (xs : List Int32) (U : UV) (p : Nat) : UV := enS xs U (if pSla (xs.getD p (-1)) = 0 then p else p + 1)
/-- the authority from p on -/
def enA (xs : List Int32) (U : UV) (p : Nat) : Int32 ⊕ UV :=
  if heS xs (auE xs p - (auU xs p U).2) (auU xs p U).2 false = (auU xs p U).2 then .inl (-13) else
  match rdH xs (auU xs p U).2 (heS xs (auE xs p - (auU xs p U).2) (auU xs p U).2 false) with
  | .inl c => .inl c
  | .inr h => match prt xs (auE xs p - (heS xs (auE xs p - (auU xs p U).2) (auU xs p U).2 false + 1)) (heS xs (auE xs p - (auU xs p U).2) (auU xs p U).2 false + 1) none with
    | none => .inl (-17)
    | some acc => .inr (enP xs (ptU (vH (auU xs p U).1 h.1 h.2.1 h.2.2) acc) (auE xs p))
/-- from p on, relative to B -/
def enR (xs : List Int32) (B U : UV) (p : Nat) : Int32 ⊕ UV :=
  if pSla (xs.getD p (-1)) ≠ 0 ∧ pSla (xs.getD (p + 1) (-1)) ≠ 0 then enA xs U p else
  if pSla (xs.getD p (-1)) ≠ 0 then .inr (enP xs (tkA U B) p) else
  if xs.getD p (-1) = 63 then .inr (enF xs (tkP (tkA U B) B) p) else
  if xs.getD p (-1) = 35 ∨ xs.getD p (-1) = -1 then .inr (enF xs (tkQ (tkP (tkA U B) B) B) p) else
  .inr (enS xs (drS (tkP (tkA U B) B)) p)
def rdU (ts : List Int32) (Bo : Option UV) (U : UV) : Int32 ⊕ UV :=
  match schE (tdy ts) with
  | none => (match Bo with
    | none => .inl (-11)
    | some B => enR (tdy ts) B (scU (emU U) (uI B 0)) 0)
  | some c => match schU (tdy ts) c 5 0 with
    | none => .inl (-12)
    | some s => (match Bo with
      | none => enA (tdy ts) (scU (emU U) (nI s)) (c + 1)
      | some B => if uI B 0 = nI s ∧ hasS (tdy ts) (c + 1) (tstr 5) = false then enR (tdy ts) B (scU (emU U) (nI s)) (c + 1) else enA (tdy ts) (scU (emU U) (nI s)) (c + 1))
/-- what a base keeps to -/
def okB (B : UV) : Prop := okA (uK B) (uW B) ∧ (uI B 9 = 0 ∨ uI B 9 = 1) ∧ sgO B ∧ (uR B 6).length ≤ 1000 ∧ (uR B 8).length ≤ 1000
section RU
variable {σ0 : gS} {y q u p : Nat} {xs : List Int32} {U : UV} {Q : Int32 → gS → Prop}
theorem quU_le (hp : p ≤ xs.length) : (quU xs p U).2 ≤ xs.length := by
  unfold quU
  split
  · rename_i c
    have h1 := hsS_le xs (xs.length - (p + 1)) (p + 1)
    have hlt : p < xs.length := by
      rcases Nat.lt_or_ge p xs.length with z | z
      · exact z
      · rw [gd_out z] at c
        exact absurd c (by decide)
    show hsS xs (xs.length - (p + 1)) (p + 1) ≤ xs.length
    omega
  · exact hp
theorem quU_fx : Fx 8 9 U (quU xs p U).1 := by
  unfold quU
  split
  · exact Fx.i.trans Fx.r
  · exact Fx.rf
/-- the end of a good reading -/
def Ok (σ0 σ : gS) (y q u : Nat) (V : UV) : Prop := WF σ ∧ Mod (XL σ0 y q u) σ0 σ ∧ BK 0 σ0 σ ∧ Ur σ u V
theorem Ld.ok {σ : gS} (L : Ld σ0 σ y q u xs U p) : Ok σ0 σ y q u U := ⟨L.2.2.1.1, L.1, L.2.1, L.2.2.2.1⟩
theorem sp_en152 {σ : gS} (A : Ac σ0 y q u) (hp : p ≤ xs.length) (h8 : (uR U 8).length + 3 * xs.length ≤ 4096) (h10 : (uR U 10).length + 3 * xs.length ≤ 4096) (L : Ld σ0 σ y q u xs U p) (hQ : ∀ σ', Ok σ0 σ' y q u (enF xs U p) → Q 0 σ') : wp (f_X7_readUrl_152 (some y) (some u)) σ Q := by
  unfold f_X7_readUrl_152
  refine wp_b (wp_nn L.2.2.1.2.1 (wp_b (sp_readQuery A hp L h8 (fun σ1 L1 => ?_))))
  refine wp_b (wp_nn L1.2.2.1.2.1 (wp_b (sp_readFragment A (quU_le hp) L1 (by rw [quU_fx.1 10 (by decide)]; exact h10) (fun σ2 L2 => wp_p (hQ σ2 L2.ok)))))
theorem sp_en147 {σ : gS} (A : Ac σ0 y q u) (hp : p ≤ xs.length) (hs : sgO U) (h6 : (uR U 6).length + 3 * xs.length + 1 ≤ 4096) (h8 : (uR U 8).length + 3 * xs.length ≤ 4096) (h10 : (uR U 10).length + 3 * xs.length ≤ 4096) (L : Ld σ0 σ y q u xs U p) (hQ : ∀ σ', Ok σ0 σ' y q u (enS xs U p) → Q 0 σ') : wp (f_X7_readUrl_147 (some y) (some u)) σ Q := by
  unfold f_X7_readUrl_147
  refine wp_b (wp_nn L.2.2.1.2.1 (wp_b (sp_readSegments A hp L hs (by omega) (fun σ1 L1 => ?_))))
  have F := sgL_fx xs gF p U
  exact sp_en152 A (sgL_le xs gF p U hp) (by rw [F.1 8 (by decide)]; exact h8) (by rw [F.1 10 (by decide)]; exact h10) L1 hQ
theorem sp_en4 {σ : gS} (A : Ac σ0 y q u) (hp : p ≤ xs.length) (hs : sgO U) (h6 : (uR U 6).length + 3 * xs.length + 1 ≤ 4096) (h8 : (uR U 8).length + 3 * xs.length ≤ 4096) (h10 : (uR U 10).length + 3 * xs.length ≤ 4096) (L : Ld σ0 σ y q u xs U p) (hQ : ∀ σ', Ok σ0 σ' y q u (enP xs U p) → Q 0 σ') : wp (f_X7_readUrl_94 (some y) (some u) 4) σ Q := by
  have hl := L.2.2.1.2.2.2
  unfold f_X7_readUrl_94 f_X7_readUrl_135
  unfold enP at hQ
  refine wp_t (by decide) (wp_t rfl (L.2.2.1.bh L.2.2.2.2 (by omega) (wp_b (sp_isSlash (wp_if (fun c => ?_) (fun c => ?_))))))
  · rw [if_pos c] at hQ
    exact wp_t rfl (sp_en147 A hp hs h6 h8 h10 L hQ)
  · rw [if_neg c] at hQ
    have hlt : p < xs.length := by
      rcases Nat.lt_or_ge p xs.length with z | z
      · exact z
      · rw [gd_out z] at c
        exact absurd rfl c
    refine ld_rh L ?_
    rw [nI_1]
    exact ld_wp A L (fun σ1 L1 => wp_t rfl (sp_en147 A (by omega) hs h6 h8 h10 L1 hQ))
theorem sp_en5 {σ : gS} (A : Ac σ0 y q u) (hp : p ≤ xs.length) (hs : sgO U) (h6 : (uR U 6).length + 3 * xs.length + 1 ≤ 4096) (h8 : (uR U 8).length + 3 * xs.length ≤ 4096) (h10 : (uR U 10).length + 3 * xs.length ≤ 4096) (L : Ld σ0 σ y q u xs U p) (hQ : ∀ σ', Ok σ0 σ' y q u (enS xs U p) → Q 0 σ') : wp (f_X7_readUrl_94 (some y) (some u) 5) σ Q := by
  unfold f_X7_readUrl_94 f_X7_readUrl_135
  exact wp_t (by decide) (wp_f (by decide) (wp_f (by decide) (wp_t rfl (sp_en147 A hp hs h6 h8 h10 L hQ))))
theorem sp_en6 {σ : gS} (A : Ac σ0 y q u) (hp : p ≤ xs.length) (h8 : (uR U 8).length + 3 * xs.length ≤ 4096) (h10 : (uR U 10).length + 3 * xs.length ≤ 4096) (L : Ld σ0 σ y q u xs U p) (hQ : ∀ σ', Ok σ0 σ' y q u (enF xs U p) → Q 0 σ') : wp (f_X7_readUrl_94 (some y) (some u) 6) σ Q := by
  unfold f_X7_readUrl_94 f_X7_readUrl_135
  exact wp_t (by decide) (wp_f (by decide) (wp_f (by decide) (wp_f (by decide) (sp_en152 A hp h8 h10 L hQ))))
/-- a fault ends it -/
theorem sp_enF {σ : gS} {c : Int32} (hc : c < 0) (hQ : Q c σ) : wp (f_X7_readUrl_94 (some y) (some u) c) σ Q := by
  unfold f_X7_readUrl_94
  exact wp_f (fun z => absurd (Int32.lt_of_le_of_lt z hc) (Int32.lt_irrefl)) (wp_p hQ)
theorem nameR_neg {ns : List Int32} {c : Int32} (h : nameR ns = .inl c) : c < 0 ∧ c ≠ 0 := by
  unfold nameR at h
  repeat' split at h
  all_goals first | (cases h; decide) | cases h
theorem rdH_neg {a b : Nat} {c : Int32} (h : rdH xs a b = .inl c) : c < 0 ∧ c ≠ 0 := by
  unfold rdH at h
  split at h
  · split at h
    · split at h
      · cases h; decide
      · cases h
    · cases h; decide
  · exact nameR_neg h
theorem XR_l {σ : gS} (A : Ac σ0 y q u) (hM : Mod (XL σ0 y q u) σ0 σ) : ∀ t a b c, XR q (tg σ 3 0 q) (hA σ u) (hW σ u) t a b c → XL σ0 y q u t a b c := by
  obtain ⟨e1, e2, e3, e4, e5, e6⟩ := hM.lref A
  rw [e3, e4, e6]
  rintro t a b c (h | h | h)
  · exact Or.inr (Or.inr (Or.inr (Or.inl h)))
  · exact Or.inr (Or.inr (Or.inr (Or.inr h)))
  · exact Or.inl (Or.inr (Or.inr h))
theorem Ld.host {σ σ' : gS} {k : Int32} {w : Nat → Int32} {ys : List Int32} (A : Ac σ0 y q u) (L : Ld σ0 σ y q u xs U p) (R : RhTo σ σ' q (hO σ u) k w ys) : Ld σ0 σ' y q u xs (vH U k w ys) p := by
  obtain ⟨⟨r1, r2, r3⟩, r4, r5, r6⟩ := R
  have A1 := L.ac A
  obtain ⟨l1, l2, ⟨wf, ky, ex, lx⟩, l4, l5⟩ := L
  have kq : gkd σ q = 4 := A1.2.2.1
  obtain ⟨g1, g2, g3, g4, g5, g6⟩ := wf.uhost l4.1
  have hM : Mod (XL σ0 y q u) σ0 σ' := l1.trans (r2.mono (XR_l A l1))
  obtain ⟨e1, e2, e3, e4, e5, e6⟩ := hM.lref A
  obtain ⟨f1, f2, f3, f4, f5, f6⟩ := l1.lref A
  obtain ⟨n1, n2⟩ := wf.snu ky l4.1
  have nq : tg σ 6 0 y ≠ tg σ 3 0 q := wf.ne (c := 6) (c' := 3) ky id (by decide) (by decide) rfl kq id (by decide) (by decide) rfl (fun z => absurd z.1 (by decide))
  have nu : ∀ k, ftk 5 k = 5 → tg σ 5 k u ≠ tg σ 3 0 q := fun k hk => wf.ne (c := 5) (c' := 3) l4.1 id (by decide) (rk hk).1 (rk hk).2.1 kq id (by decide) (by decide) rfl (fun z => absurd z.1 (by decide))
  refine ⟨hM, l2.trans r3, ⟨r1, r2.kd ky, ?_, lx⟩, ⟨r2.kd l4.1, fun j hj => ?_, ?_, fun j => ?_, ?_, fun j hj => ?_⟩, ?_⟩
  · rw [e5, ← f5, r2.row wf (wf.src ky).2 id (fun z => ?_)]
    · exact ex
    · rcases z with (⟨z, -⟩ | ⟨z, -⟩) | ⟨-, z⟩ | (⟨z, -⟩ | ⟨z, -⟩) | ⟨-, z⟩
      · exact absurd z (by decide)
      · exact absurd z (by decide)
      · exact nq z
      · exact absurd z (by decide)
      · exact absurd z (by decide)
      · exact n2 z
  · rw [e1, ← f1, uR_H, if_neg (rk hj).2.2, r2.row wf (wf.urow l4.1 hj).2 id (fun z => ?_)]
    · exact l4.2.1 j hj
    · rcases z with (⟨z, -⟩ | ⟨z, -⟩) | ⟨-, z⟩ | (⟨z, -⟩ | ⟨z, -⟩) | ⟨-, z⟩
      · exact absurd z (by decide)
      · exact absurd z (by decide)
      · exact nu j hj z
      · exact absurd z (by decide)
      · exact absurd z (by decide)
      · exact wf.unh l4.1 l4.1 hj z
  · rw [e4, ← f4, uR_H, if_pos rfl]
    exact r6
  · rw [r2.int (c := 5) l4.1 (by decide) (by simp)]
    exact l4.2.2.2.1 j
  · rw [e3, ← f3]
    exact r4
  · rw [e3, ← f3]
    exact r5 j hj
  · rw [r2.int (c := 6) ky (by decide) (by simp)]
    exact l5
/-- behind a fault -/
def Fl (σ0 σ : gS) (y q u : Nat) : Prop := WF σ ∧ Mod (XL σ0 y q u) σ0 σ ∧ BK 0 σ0 σ
theorem Ld.fl {σ : gS} (L : Ld σ0 σ y q u xs U p) : Fl σ0 σ y q u := ⟨L.2.2.1.1, L.1, L.2.1⟩
/-- before the authority: nothing but the scheme is there -/
def Em (U : UV) : Prop := uR U 2 = [] ∧ uR U 3 = [] ∧ uR U 6 = [] ∧ uI U 7 = 0 ∧ uR U 8 = [] ∧ uR U 10 = []
theorem sp_enA {σ : gS} (A : Ac σ0 y q u) (hp : p ≤ xs.length) (hx : xs.length ≤ 300) (hE : Em U) (L : Ld σ0 σ y q u xs U p) (h0 : ∀ c σ', enA xs U p = .inl c → Fl σ0 σ' y q u → Q c σ') (h1 : ∀ V σ', enA xs U p = .inr V → Ok σ0 σ' y q u V → Q 0 σ') : wp (f_X7_readUrl_35 (some y) (some u) (some q) 2) σ Q := by
  obtain ⟨m2, m3, m6, m7, m8, m10⟩ := hE
  unfold f_X7_readUrl_35
  unfold enA at h0 h1
  obtain ⟨b1, b2⟩ := auU_le xs p U hp
  obtain ⟨x1, x2, x3, x4⟩ := auU_fx xs p U
  refine wp_t rfl (wp_b (wp_nn L.2.2.1.2.1 (wp_b (sp_authority A L hp (by rw [m2]; simp only [List.length_nil]; omega) (by rw [m3]; simp only [List.length_nil]; omega) (fun σ1 L1 e => ?_) (fun σ1 L1 e2 e3 ne => ?_)))))
  · rw [if_pos e] at h0
    unfold f_X7_readUrl_48
    exact wp_f (by decide) (sp_enF (by decide) (h0 _ _ rfl L1.fl))
  · rw [if_neg ne] at h0 h1
    obtain ⟨c1, c2⟩ := heS_le xs (auE xs p - (auU xs p U).2) (auU xs p U).2 false
    generalize heS xs (auE xs p - (auU xs p U).2) (auU xs p U).2 false = g at *
    generalize (auU xs p U).2 = a at *
    generalize (auU xs p U).1 = U1 at *
    generalize auE xs p = e at *
    unfold f_X7_readUrl_48 f_X7_readUrl_92
    have A1 := L1.ac A
    obtain ⟨g1, g2⟩ := L1.2.2.1.1.src L1.2.2.1.2.1
    obtain ⟨o1, o2, -⟩ := L1.2.2.1.1.uhost L1.2.2.2.1.1
    refine wp_t rfl (wp_b (wp_rR L1.2.2.1.2.1 ?_))
    rw [g1]
    refine wp_b (wp_rI L1.2.2.1.2.1 ?_)
    rw [e2]
    refine wp_b (wp_rI L1.2.2.1.2.1 ?_)
    rw [e3]
    refine wp_b (wp_rR L1.2.2.2.1.1 ?_)
    rw [o1]
    have nq : tg σ1 6 0 y ≠ tg σ1 3 0 q := L1.2.2.1.1.ne (c := 6) (c' := 3) L1.2.2.1.2.1 id (by decide) (by decide) rfl A1.2.2.1 id (by decide) (by decide) rfl (fun z => absurd z.1 (by decide))
    refine wp_b (wp_nn A1.2.2.1 (wp_b (sp_readHost ⟨L1.2.2.1.1, g2, L1.2.2.1.2.2.1, by omega⟩ A1.2.2.1 o2 c1 (by omega) A1.2.2.2.2 nq (fun c σ2 z R => ?_) (fun k w ys σ2 z R => ?_))))
    · rw [z] at h0
      obtain ⟨n1, n2⟩ := rdH_neg z
      exact wp_f n2 (sp_enF n1 (h0 _ _ rfl ⟨R.1, L1.1.trans (R.2.1.mono (XR_l A L1.1)), L1.2.1.trans R.2.2⟩))
    · rw [z] at h0 h1
      dsimp only at h0 h1
      have L2 := L1.host A R
      have e3' : gii σ2 6 3 y = nI g := by
        rw [R.1.2.1.int (c := 6) L1.2.2.1.2.1 (by decide) (by simp)]
        exact e3
      refine wp_t rfl (wp_b (wp_nn L2.2.2.1.2.1 (wp_b (sp_readPort A L2 b2 (by omega) e3' (fun z2 => ?_) (fun acc σ3 z2 L3 => ?_)))))
      · rw [z2] at h0
        exact sp_enF (by decide) (h0 _ _ rfl L2.fl)
      · rw [z2] at h1
        have r6 : uR (ptU (vH U1 k w ys) acc) 6 = [] := by rw [ptU, uR_I, uR_H, if_neg (by decide), x1 6 (by decide) (by decide), m6]
        have r8 : uR (ptU (vH U1 k w ys) acc) 8 = [] := by rw [ptU, uR_I, uR_H, if_neg (by decide), x1 8 (by decide) (by decide), m8]
        have r10 : uR (ptU (vH U1 k w ys) acc) 10 = [] := by rw [ptU, uR_I, uR_H, if_neg (by decide), x1 10 (by decide) (by decide), m10]
        have r7 : uI (ptU (vH U1 k w ys) acc) 7 = 0 := by rw [ptU, uI_I, if_neg (by decide), uI_H, x2, m7]
        exact sp_en4 A b2 ⟨by rw [r7, r6]; rfl, Or.inl r6⟩ (by rw [r6]; simp only [List.length_nil]; omega) (by rw [r8]; simp only [List.length_nil]; omega) (by rw [r10]; simp only [List.length_nil]; omega) L3 (fun σ' K => h1 _ σ' rfl K)
end RU
