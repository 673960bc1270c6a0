/-! URLREADER: scheme, relative, readUrl -/
section RV
variable {σ0 : gS} {y q u p : Nat} {xs : List Int32} {U : UV} {Q : Int32 → gS → Prop}
/-- the base, as reference and as value -/
def Bs (σ0 : gS) (u : Nat) (bo : Option Nat) (Bo : Option UV) : Prop := (bo = none ∧ Bo = none) ∨ ∃ b B, bo = some b ∧ Bo = some B ∧ Ur σ0 b B ∧ b ≠ u ∧ okB B
theorem schE_lt {c : Nat} (h : schE xs = some c) : c < xs.length := by
  unfold schE at h
  split at h
  · cases h
  · split at h
    · rename_i d
      cases h
      rcases Nat.lt_or_ge (scS xs (xs.length - 1) 1) xs.length with z | z
      · exact z
      · rw [gd_out z] at d
        exact absurd d (by decide)
    · cases h
theorem schU_lt {e : Nat} : ∀ m s r, s + m = 5 → schU xs e m s = some r → r < 5
  | 0, s, r, h, z => by cases z
  | m + 1, s, r, h, z => by
    rw [schU] at z
    split at z
    · cases z
      omega
    · exact schU_lt m (s + 1) r (by omega) z
def scC (xs : List Int32) (Bo : Option UV) (c s : Nat) : Int32 := match Bo with
  | none => 2
  | some B => if uI B 0 = nI s ∧ hasS xs (c + 1) (tstr 5) = false then 1 else 2
theorem sp_readScheme {σ : gS} {bo : Option Nat} {Bo : Option UV} (A : Ac σ0 y q u) (L : Ld σ0 σ y q u xs U p) (hB : Bs σ0 u bo Bo) (h1 : schE xs = none → Bo = none → Q (-11) σ) (h2 : ∀ B σ', schE xs = none → Bo = some B → Ld σ0 σ' y q u xs (scU U (uI B 0)) 0 → Q 1 σ') (h3 : ∀ c, schE xs = some c → schU xs c 5 0 = none → Q (-12) σ) (h4 : ∀ c s σ', schE xs = some c → schU xs c 5 0 = some s → Ld σ0 σ' y q u xs (scU U (nI s)) (c + 1) → Q (scC xs Bo c s) σ') : wp (f_X7_readScheme (some y) bo (some u)) σ Q := by
  have hl := L.2.2.1.2.2.2
  unfold f_X7_readScheme
  refine wp_b (wp_nn L.2.2.1.2.1 (wp_b (sp_schE L.2.2.1 ?_)))
  cases hc : schE xs with
  | none =>
    refine wp_t rfl ?_
    rcases hB with ⟨rfl, e⟩ | ⟨b, B, rfl, e, hb, hne, ok⟩
    · exact wp_t rfl (wp_p (h1 hc e))
    · refine wp_f (by simp) (ld_wp (n := 0) A L (fun σ1 L1 => ?_))
      refine (L1.base A hb hne).ri (wp_b (wp_nn L1.2.2.2.1.1 (wp_b (sp_setScheme L1.2.2.1.1 L1.2.2.2.1 (L1.ac A).2.2.2.2 (fun σ2 T => wp_p (h2 B σ2 hc e (L1.url A T)))))))
  | some c =>
    have c1 := schE_lt hc
    refine wp_f (nI_m1 (by omega)) (wp_b (wp_nn L.2.2.1.2.1 (wp_b (sp_schU L.2.2.1 (by omega) ?_))))
    cases hs : schU xs c 5 0 with
    | none => exact wp_t rfl (wp_p (h3 c hc hs))
    | some s =>
      have s1 := schU_lt 5 0 s rfl hs
      refine wp_f (nI_m1 (by omega)) ?_
      rw [show oI (some c) = nI c from rfl, show oI (some s) = nI s from rfl, nI_1]
      refine ld_wp A L (fun σ1 L1 => wp_b (wp_nn L1.2.2.2.1.1 (wp_b (sp_setScheme L1.2.2.1.1 L1.2.2.2.1 (L1.ac A).2.2.2.2 (fun σ2 T => ?_)))))
      have L2 := L1.url A T
      have h4 := h4 c s σ2 hc hs L2
      unfold f_X7_readScheme_78
      rcases hB with ⟨rfl, e⟩ | ⟨b, B, rfl, e, hb, hne, ok⟩
      · rw [e, scC] at h4
        unfold f_X7_readScheme_79
        exact wp_t rfl (wp_t rfl (wp_p h4))
      · rw [e, scC] at h4
        refine wp_f (by simp) ((L2.base A hb hne).ri (wp_if (fun d => ?_) (fun d => ?_)))
        · unfold f_X7_readScheme_79
          refine wp_f (by decide) ?_
          obtain ⟨g1, g2⟩ := L2.2.2.1.1.src L2.2.2.1.2.1
          refine wp_b (wp_rR L2.2.2.1.2.1 ?_)
          rw [g1]
          refine wp_b (wp_rI L2.2.2.1.2.1 ?_)
          rw [L2.2.2.2.2]
          refine wp_b (wp_nn g2 (wp_b (sp_hasAt L2.2.2.1.1 g2 id (by omega) ?_)))
          rw [L2.2.2.1.2.2.1]
          cases h5 : hasS xs (c + 1) (tstr 5) with
          | true =>
            rw [if_neg (fun z => by rw [h5] at z; exact absurd z.2 (by decide))] at h4
            exact wp_f (by decide) (wp_p h4)
          | false =>
            rw [if_pos ⟨d, h5⟩] at h4
            exact wp_t rfl (wp_p h4)
        · rw [if_neg (fun z => d z.1)] at h4
          unfold f_X7_readScheme_79
          exact wp_t rfl (wp_p h4)
theorem sp_enR {σ : gS} {b : Nat} {B : UV} (A : Ac σ0 y q u) (hp : p ≤ xs.length) (hx : xs.length ≤ 300) (hE : Em U) (L : Ld σ0 σ y q u xs U p) (hb : Ur σ0 b B) (hne : b ≠ u) (ok : okB B) (h0 : ∀ c σ', enR xs B U p = .inl c → Fl σ0 σ' y q u → Q c σ') (h1 : ∀ V σ', enR xs B U p = .inr V → Ok σ0 σ' y q u V → Q 0 σ') : wp (gb (f_X7_readRelative (some y) (some b) (some u)) fun v2 => f_X7_readUrl_35 (some y) (some u) (some q) v2) σ Q := by
  have hl := L.2.2.1.2.2.2
  obtain ⟨m2, m3, m6, m7, m8, m10⟩ := hE
  obtain ⟨k1, k2, k3, k4, k5⟩ := ok
  -- behind the two slashes
  have auth : (pSla (xs.getD p (-1)) ≠ 0 ∧ pSla (xs.getD (p + 1) (-1)) ≠ 0) → wp (f_X7_readUrl_35 (some y) (some u) (some q) 2) σ Q := by
    intro c
    unfold enR at h0 h1
    rw [if_pos c] at h0 h1
    exact sp_enA A hp hx ⟨m2, m3, m6, m7, m8, m10⟩ L h0 h1
  have rest : ¬ (pSla (xs.getD p (-1)) ≠ 0 ∧ pSla (xs.getD (p + 1) (-1)) ≠ 0) → wp (gb (f_X7_readRelative_40 (some b) (some u) (xs.getD p (-1))) fun v2 => f_X7_readUrl_35 (some y) (some u) (some q) v2) σ Q := by
    intro c
    unfold enR at h1
    rw [if_neg c] at h1
    have A1 := L.ac A
    refine wp_b ?_
    unfold f_X7_readRelative_40 f_X7_readRelative_79
    refine wp_b (wp_nn L.2.2.2.1.1 (wp_b (sp_takeAuthority L.2.2.1.1 L.2.2.2.1 (L.base A hb hne) hne k1 A1.2.2.2.2 (fun σ1 T => ?_))))
    have L1 := L.url A T
    refine wp_b (sp_isSlash (wp_if (fun d => ?_) (fun d => ?_)))
    · rw [if_neg (fun z => z d)] at h1
      refine wp_b (wp_nn L1.2.2.2.1.1 (wp_b (sp_takePath L1.2.2.1.1 L1.2.2.2.1 (L1.base A hb hne) hne (L1.ac A).2.2.2.2 (fun σ2 T2 => ?_))))
      have L2 := L1.url A T2
      have r6 : uR (tkP (tkA U B) B) 6 = uR B 6 := by rw [tkP, uR_I, uR_R, if_pos rfl]
      have r7 : uI (tkP (tkA U B) B) 7 = uI B 7 := by rw [tkP, uI_I, if_pos rfl]
      have r8 : uR (tkP (tkA U B) B) 8 = [] := by rw [tkP, uR_I, uR_R, if_neg (by decide), tkA, uR_I, uR_H, if_neg (by decide), uR_R, if_neg (by decide), uR_R, if_neg (by decide), m8]
      have r10 : uR (tkP (tkA U B) B) 10 = [] := by rw [tkP, uR_I, uR_R, if_neg (by decide), tkA, uR_I, uR_H, if_neg (by decide), uR_R, if_neg (by decide), uR_R, if_neg (by decide), m10]
      have sg : sgO (tkP (tkA U B) B) := ⟨by rw [r7, r6]; exact k3.1, by rw [r6]; exact k3.2⟩
      refine wp_if (fun e => ?_) (fun e => ?_)
      · rw [if_pos e] at h1
        refine wp_p ?_
        unfold f_X7_readUrl_35 f_X7_readUrl_48
        exact wp_f (by decide) (wp_f (by decide) (sp_en6 A hp (by rw [r8]; simp only [List.length_nil]; omega) (by rw [r10]; simp only [List.length_nil]; omega) L2 (fun σ' K => h1 _ σ' rfl K)))
      · rw [if_neg e] at h1
        have qq : (xs.getD p (-1) = 35 ∨ xs.getD p (-1) = -1) → wp (gb (nn 5 (some u)) fun _ => gb (f_X6_takeQuery (some u) (some b)) fun _ => gp 6) σ2 (fun v2 σ' => wp (f_X7_readUrl_35 (some y) (some u) (some q) v2) σ' Q) := by
          intro g
          rw [if_pos g] at h1
          refine wp_b (wp_nn L2.2.2.2.1.1 (wp_b (sp_takeQuery L2.2.2.1.1 L2.2.2.2.1 (L2.base A hb hne) hne k2 (L2.ac A).2.2.2.2 (fun σ3 T3 => wp_p ?_))))
          have L3 := L2.url A T3
          have s8 : uR (tkQ (tkP (tkA U B) B) B) 8 = uR B 8 := by rw [tkQ, uR_I, uR_R, if_pos rfl]
          have s10 : uR (tkQ (tkP (tkA U B) B) B) 10 = [] := by rw [tkQ, uR_I, uR_R, if_neg (by decide), r10]
          unfold f_X7_readUrl_35 f_X7_readUrl_48
          exact wp_f (by decide) (wp_f (by decide) (sp_en6 A hp (by rw [s8]; omega) (by rw [s10]; simp only [List.length_nil]; omega) L3 (fun σ' K => h1 _ σ' rfl K)))
        refine wp_if (fun g => qq (Or.inl g)) (fun g => ?_)
        refine wp_if (fun g2 => qq (Or.inr g2)) (fun g2 => ?_)
        rw [if_neg (fun z => z.elim g g2)] at h1
        obtain ⟨o1, o2, o3⟩ := drS_ok sg (by rw [r6]; omega)
        have fx := drS_fx (tkP (tkA U B) B)
        refine wp_b (wp_nn L2.2.2.2.1.1 (wp_b (sp_dropSegment L2.2.2.1.1 L2.2.2.2.1 (by rw [r6]; omega) o3 (fun σ3 T3 => wp_p ?_))))
        have L3 := L2.url A T3
        unfold f_X7_readUrl_35 f_X7_readUrl_48
        rw [r6] at o2
        exact wp_f (by decide) (wp_f (by decide) (sp_en5 A hp o1 (by omega) (by rw [fx.1 8 (by decide), r8]; simp only [List.length_nil]; omega) (by rw [fx.1 10 (by decide), r10]; simp only [List.length_nil]; omega) L3 (fun σ' K => h1 _ σ' rfl K)))
    · rw [if_pos d] at h1
      have r6 : uR (tkA U B) 6 = [] := by rw [tkA, uR_I, uR_H, if_neg (by decide), uR_R, if_neg (by decide), uR_R, if_neg (by decide), m6]
      have r8 : uR (tkA U B) 8 = [] := by rw [tkA, uR_I, uR_H, if_neg (by decide), uR_R, if_neg (by decide), uR_R, if_neg (by decide), m8]
      have r10 : uR (tkA U B) 10 = [] := by rw [tkA, uR_I, uR_H, if_neg (by decide), uR_R, if_neg (by decide), uR_R, if_neg (by decide), m10]
      have r7 : uI (tkA U B) 7 = 0 := by rw [tkA, uI_I, if_neg (by decide), uI_H, uI_R, uI_R, m7]
      refine wp_p ?_
      unfold f_X7_readUrl_35 f_X7_readUrl_48
      exact wp_f (by decide) (wp_f (by decide) (sp_en4 A hp ⟨by rw [r7, r6]; rfl, Or.inl r6⟩ (by rw [r6]; simp only [List.length_nil]; omega) (by rw [r8]; simp only [List.length_nil]; omega) (by rw [r10]; simp only [List.length_nil]; omega) L1 (fun σ' K => h1 _ σ' rfl K)))
  refine wp_b ?_
  unfold f_X7_readRelative
  refine L.2.2.1.bh L.2.2.2.2 (by omega) (wp_b (sp_isSlash (wp_if (fun c => ?_) (fun c => ?_))))
  · have := rest (fun z => z.1 c)
    obtain ⟨x, h1, h2⟩ := this
    obtain ⟨z, w1, w2⟩ := gb_some h1
    exact ⟨z, w1, x, w2, h2⟩
  · obtain ⟨g1, g2⟩ := L.2.2.1.1.src L.2.2.1.2.1
    refine wp_b (wp_rR L.2.2.1.2.1 ?_)
    rw [g1]
    refine wp_b (wp_rI L.2.2.1.2.1 ?_)
    rw [L.2.2.2.2, nI_1]
    refine wp_b (wp_nn g2 (wp_b (sp_byteAt L.2.2.1.1 g2 id ?_)))
    rw [L.2.2.1.2.2.1, bAt_g (by omega) hl]
    refine wp_b (sp_isSlash (wp_if (fun d => ?_) (fun d => ?_)))
    · have := rest (fun z => z.2 d)
      obtain ⟨x, h1, h2⟩ := this
      obtain ⟨z, w1, w2⟩ := gb_some h1
      exact ⟨z, w1, x, w2, h2⟩
    · exact wp_p (auth ⟨c, d⟩)
theorem Em.sc {a : Int32} : Em (scU (emU U) a) := ⟨rfl, rfl, rfl, rfl, rfl, rfl⟩
theorem sp_readUrl {t : Nat} {ts : List Int32} {bo : Option Nat} {Bo : Option UV} (A : Ac σ0 y q u) (S : Sr σ0 t ts) (ht : ts.length ≤ 300) (hts : t ≠ tg σ0 6 0 y) (hU : Ur σ0 u U) (hB : Bs σ0 u bo Bo) (h0 : ∀ c σ', rdU ts Bo U = .inl c → Fl σ0 σ' y q u → Q c σ') (h1 : ∀ V σ', rdU ts Bo U = .inr V → Ok σ0 σ' y q u V → Q 0 σ') : wp (f_X7_readUrl (some y) (some t) bo (some u) (some q)) σ0 Q := by
  obtain ⟨wf, ky, kq, ku, bud⟩ := A
  have A : Ac σ0 y q u := ⟨wf, ky, kq, ku, bud⟩
  have hx := tdy_len ts
  unfold f_X7_readUrl
  refine wp_b (wp_nn ky (wp_b (sp_tidy ky S hts bud (fun σ1 R => ?_))))
  have hM : Mod (XL σ0 y q u) σ0 σ1 := R.2.1.mono (fun _ _ _ _ z => Or.inr (Or.inr (Or.inl z)))
  obtain ⟨e1, e2, e3, e4, e5, e6⟩ := hM.lref A
  have hU1 : Ur σ1 u U := by
    obtain ⟨n1, n2⟩ := wf.snu ky ku
    exact (hU.mod wf R.2.1 (fun k hk z => n1 k hk z.2.symm) (fun z => n2 z.2.symm) (by simp) (by simp) (by simp) (by simp) (by simp)).1
  have L1 : Ld σ0 σ1 y q u (tdy ts) U (gii σ1 6 1 y).toBitVec.toNat := ⟨hM, R.2.2.2, ⟨R.1, R.kd ky, by rw [e5]; exact R.2.2.1, by omega⟩, hU1, (nI_all _).symm⟩
  refine wp_b (wp_nn hU1.1 (wp_b (sp_empty R.1 hU1 (fun σ2 T => ?_))))
  have L2 := L1.url A T
  have L2ky := L2.2.2.1.2.1
  unfold rdU at h0 h1
  refine wp_b (wp_nn L2ky (wp_b (sp_readScheme A L2 hB (fun a1 a2 => ?_) (fun B σ3 a1 a2 L3 => ?_) (fun c a1 a2 => ?_) (fun c s σ3 a1 a2 L3 => ?_))))
  · rw [a1, a2] at h0
    refine wp_f (by decide) ?_
    unfold f_X7_readUrl_35 f_X7_readUrl_48
    exact wp_f (by decide) (wp_f (by decide) (sp_enF (by decide) (h0 _ _ rfl L2.fl)))
  · rw [a1, a2] at h0 h1
    dsimp only at h0 h1
    rcases hB with ⟨-, z⟩ | ⟨b, B', rfl, z, hb, hne, ok⟩
    · rw [a2] at z; cases z
    · rw [a2] at z
      cases z
      exact wp_t rfl (wp_f (by simp) (wp_b (wp_nn L3.2.2.1.2.1 (sp_enR A (Nat.zero_le _) (by omega) Em.sc L3 hb hne ok h0 h1))))
  · rw [a1] at h0
    dsimp only at h0
    rw [a2] at h0
    refine wp_f (by decide) ?_
    unfold f_X7_readUrl_35 f_X7_readUrl_48
    exact wp_f (by decide) (wp_f (by decide) (sp_enF (by decide) (h0 _ _ rfl L2.fl)))
  · rw [a1] at h0 h1
    dsimp only at h0 h1
    rw [a2] at h0 h1
    dsimp only at h0 h1
    have c1 := schE_lt a1
    rcases hB with ⟨rfl, rfl⟩ | ⟨b, B, rfl, rfl, hb, hne, ok⟩
    · exact wp_f (show ¬ (2 : Int32) = 1 by decide) (sp_enA A (by omega) (by omega) Em.sc L3 h0 h1)
    · unfold scC
      dsimp only at h0 h1 ⊢
      by_cases d : uI B 0 = nI s ∧ hasS (tdy ts) (c + 1) (tstr 5) = false
      · rw [if_pos d] at h0 h1
        exact wp_t (if_pos d) (wp_f (by simp) (wp_b (wp_nn L3.2.2.1.2.1 (sp_enR A (by omega) (by omega) Em.sc L3 hb hne ok h0 h1))))
      · rw [if_neg d] at h0 h1
        refine wp_f (by rw [if_neg d]; decide) ?_
        rw [if_neg d]
        exact (sp_enA A (by omega) (by omega) Em.sc L3 h0 h1)
end RV
