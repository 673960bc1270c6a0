/-! HOSTREADER: how large the pieces are; readSix, readHost -/
theorem numV_lt (xs : List Int32) : ∀ (m i v w : Nat), numV xs 16 m i v = some w → w < (v + 1) * 16 ^ m
  | 0, i, v, w, h => by
    rw [numV] at h
    cases h
    omega
  | m + 1, i, v, w, h => by
    rw [numV] at h
    rcases hx (xs.getD i 0) with ⟨-, e2⟩ | ⟨d, hd, -, e2⟩
    · rw [e2] at h
      cases h
    · rw [e2] at h
      dsimp only at h
      rw [if_pos hd] at h
      have h1 := numV_lt xs m (i + 1) _ w h
      have h2 : (v * 16 + d + 1) * 16 ^ m ≤ ((v + 1) * 16) * 16 ^ m := Nat.mul_le_mul (by omega) (Nat.le_refl _)
      have h3 : (v + 1) * 16 ^ (m + 1) = ((v + 1) * 16) * 16 ^ m := by rw [Nat.pow_succ, Nat.mul_comm (16 ^ m) 16, Nat.mul_assoc]
      omega
theorem ptsC_lt (xs : List Int32) : ∀ (m i B : Nat) (val : Option Nat) (pts w : Nat), pts ≤ 3 → B < 256 ^ pts → (∀ v, val = some v → v ≤ 255) → ptsC xs m i B val pts = some w → w < 4294967296
  | 0, i, B, val, pts, w, hp, hB, hv, h => by
    rw [ptsC] at h
    cases val with
    | none => rw [if_pos rfl] at h; cases h
    | some v =>
      have := hv v rfl
      rw [if_neg (by simp), Option.getD_some] at h
      by_cases c : pts = 3
      · rw [if_pos c] at h
        cases h
        rw [c] at hB
        have : (256 : Nat) ^ 3 = 16777216 := by decide
        omega
      · rw [if_neg c] at h
        cases h
  | m + 1, i, B, val, pts, w, hp, hB, hv, h => by
    rw [ptsC] at h
    have e : B * 256 + 255 < 256 ^ (pts + 1) := by rw [Nat.pow_succ]; omega
    by_cases c : xs.getD i 0 = 46
    · rw [if_pos c] at h
      cases val with
      | none => rw [if_pos rfl] at h; cases h
      | some v =>
        have := hv v rfl
        rw [if_neg (by simp), Option.getD_some] at h
        by_cases c : pts + 1 ≤ 3
        · rw [if_pos c] at h
          exact ptsC_lt xs m (i + 1) _ none (pts + 1) w c (Nat.lt_of_le_of_lt (by omega) e) (fun _ z => by cases z) h
        · rw [if_neg c] at h
          cases h
    · rw [if_neg c] at h
      by_cases d : pDig (xs.getD i 0) = 0
      · rw [if_pos d] at h; cases h
      · rw [if_neg d] at h
        have hd := (dg_of d).1
        cases val with
        | none =>
          rw [if_pos rfl] at h
          exact ptsC_lt xs m (i + 1) _ _ pts w hp hB (fun _ z => by cases z; omega) h
        | some v =>
          rw [if_neg (by simp), Option.getD_some] at h
          by_cases g : some v = some 0
          · rw [if_pos g] at h; cases h
          · rw [if_neg g] at h
            by_cases k : 10 * v + dg (xs.getD i 0) ≤ 255
            · rw [if_pos k] at h
              exact ptsC_lt xs m (i + 1) _ _ pts w hp hB (fun _ z => by cases z; omega) h
            · rw [if_neg k] at h; cases h
def allP (ps : List Nat) : Prop := ∀ x, x ∈ ps → x < 65536
theorem allP_app {ps qs : List Nat} (h : allP ps) (h2 : allP qs) : allP (ps ++ qs) := fun x hx => (List.mem_append.mp hx).elim (h x) (h2 x)
theorem pc1_ok {xs : List Int32} {b p : Nat} {fr : Bool} {ps ps' : List Nat} (h : allP ps) (e : pc1 xs b fr p ps = some ps') : allP ps' ∧ ps.length < ps'.length ∧ ps'.length ≤ 8 ∧ ps'.take ps.length = ps := by
  unfold pc1 at e
  split at e
  · split at e
    · unfold ptP at e
      cases hw : ptsC xs (clE xs (b - p) p - p) p 0 none 0 with
      | none => rw [hw] at e; cases e
      | some w =>
        have hw2 := ptsC_lt xs _ _ _ _ _ w (by omega) (by decide) (fun _ z => by cases z) hw
        rw [hw, ad2] at e
        split at e
        · cases e
          refine ⟨allP_app h (fun x hx => ?_), by simp, by simp; omega, by simp⟩
          have hx : x = w / 65536 ∨ x = w % 65536 := by simpa using hx
          omega
        · cases e
    · cases e
  · unfold pcP at e
    split at e
    · rename_i hm
      cases hw : numV xs 16 (clE xs (b - p) p - p) p 0 with
      | none => rw [hw] at e; cases e
      | some w =>
        have hw2 := numV_lt xs _ _ _ w hw
        have h4 : 16 ^ (clE xs (b - p) p - p) ≤ 16 ^ 4 := Nat.pow_le_pow_right (by omega) hm.2
        have h5 : (16 : Nat) ^ 4 = 65536 := by decide
        rw [hw, ad1] at e
        split at e
        · cases e
          refine ⟨allP_app h (fun x hx => ?_), by simp, by simp; omega, by simp⟩
          have hx : x = w := by simpa using hx
          omega
        · cases e
    · cases e
theorem pcsC_ok {xs : List Int32} {b : Nat} {fr : Bool} : ∀ (f p : Nat) (more : Bool) (ps ps' : List Nat), allP ps → ps.length ≤ 8 → pcsC xs b fr f p more ps = some ps' → allP ps' ∧ ps.length ≤ ps'.length ∧ ps'.length ≤ 8 ∧ ps'.take ps.length = ps
  | 0, p, more, ps, ps', h, hl, e => by rw [pcsC] at e; cases e
  | f + 1, p, more, ps, ps', h, hl, e => by
    rw [pcsC] at e
    by_cases c : more = false
    · rw [if_pos c] at e
      cases e
      exact ⟨h, Nat.le_refl _, hl, by simp⟩
    · rw [if_neg c] at e
      by_cases d : b < p
      · rw [if_pos d] at e
        cases e
        exact ⟨h, Nat.le_refl _, hl, by simp⟩
      · rw [if_neg d] at e
        cases hq : pc1 xs b fr p ps with
        | none => rw [hq] at e; cases e
        | some qs =>
          rw [hq] at e
          obtain ⟨k1, k2, k3, k4⟩ := pc1_ok h hq
          obtain ⟨j1, j2, j3, j4⟩ := pcsC_ok f _ _ qs ps' k1 k3 e
          refine ⟨j1, by omega, j3, ?_⟩
          have e5 : ps'.take ps.length = (ps'.take qs.length).take ps.length := by rw [List.take_take, Nat.min_eq_left (by omega)]
          rw [e5, j4, k4]
theorem spr_lt {ps : List Nat} (h : allP ps) (k i : Nat) : spr ps k i < 65536 := by
  have g : ∀ j, ps.getD j 0 < 65536 := by
    intro j
    rw [List.getD_eq_getElem?_getD]
    cases hj : ps[j]? with
    | none => simp
    | some x => exact h x (List.mem_of_getElem? hj)
  unfold spr
  split
  · exact g _
  · split
    · omega
    · exact g _
/-- the numbers of SIX between its brackets -/
def sixR (xs : List Int32) (a b : Nat) : Option (Nat → Nat) :=
  match pcsC xs (fGap xs b (b - a) a) (decide (fGap xs b (b - a) a = b)) gF a (decide (a < fGap xs b (b - a) a)) [] with
  | none => none
  | some ps => if fGap xs b (b - a) a = b then (if ps.length = 8 then some (spr ps ps.length) else none) else match pcsC xs b true gF (fGap xs b (b - a) a + 2) (decide (fGap xs b (b - a) a + 2 < b)) ps with
    | none => none
    | some ps' => if ps'.length ≤ 7 then some (spr ps' ps.length) else none
def wS (P : Nat → Nat) : Nat → Int32 := w4 6 (wd P 0) (wd P 2) (wd P 4) (wd P 6)
/-- what readHost may change -/
abbrev XR (q nm a r : Nat) : Nat → Nat → Nat → Nat → Prop := fun t x y z => XP q t x y z ∨ (t = 0 ∧ x = nm) ∨ XH a r t x y z
/-- behind readHost: nothing but HostReader q and Host h has changed -/
def RhAny (σ σ' : gS) (q h : Nat) : Prop := WF σ' ∧ Mod (XR q (tg σ 3 0 q) (tg σ 2 0 h) (tg σ 2 1 h)) σ σ' ∧ BK 0 σ σ'
def RhTo (σ σ' : gS) (q h : Nat) (k : Int32) (w : Nat → Int32) (ys : List Int32) : Prop := RhAny σ σ' q h ∧ aK σ' (tg σ 2 0 h) = k ∧ (∀ j, j < 4 → aW σ' (tg σ 2 0 h) j = w j) ∧ rowL σ' (tg σ 2 1 h) = ys
/-- a state like it, but for the pieces -/
theorem RhTo.of {σ σ1 σ2 : gS} {q h : Nat} {k : Int32} {w : Nat → Int32} {ys : List Int32} (hh : gkd σ h = 3) (hM : Mod (XR q (tg σ 3 0 q) (tg σ 2 0 h) (tg σ 2 1 h)) σ σ1) (hB : BK 0 σ σ1) (H : HoTo (fun _ => False) σ1 σ2 h k w ys) : RhTo σ σ2 q h k w ys := by
  have e0 : tg σ1 2 0 h = tg σ 2 0 h := hM.tgt hh (by decide) (by simp)
  have e1 : tg σ1 2 1 h = tg σ 2 1 h := hM.tgt hh (by decide) (by simp)
  obtain ⟨w1, w2, w3, w4, w5, w6⟩ := H
  rw [e0, e1] at w2
  rw [e0] at w3 w4
  rw [e1] at w5
  exact ⟨⟨w1, hM.trans (w2.mono (fun _ _ _ _ z => Or.inr (Or.inr z))), hB.trans w6⟩, w3, w4, w5⟩
section RS
variable {σ : gS} {r q p h a b : Nat} {xs : List Int32} {Q : Int32 → gS → Prop}
theorem sp_readSix (S : Sr σ r xs) (kq : gkd σ q = 4) (hh : gkd σ h = 3) (hab : a ≤ b) (hb : b ≤ xs.length) (hB : Bud σ 0) (h0 : ∀ σ', sixR xs a b = none → RhAny σ σ' q h → Q (-16) σ') (h1 : ∀ P σ', sixR xs a b = some P → RhTo σ σ' q h 6 (wS P) (sixS (wS P)) → Q 0 σ') : wp (f_X4_readSix (some q) (some r) (nI a) (nI b) (some h)) σ Q := by
  have hl := S.2.2.2
  obtain ⟨ep, kp, lp⟩ := S.1.fld (c := 3) (k := 1) kq id (by decide) (by decide) rfl
  have lp : gln σ (tg σ 3 1 q) = 8 := lp (by decide)
  generalize hp : tg σ 3 1 q = p at *
  unfold f_X4_readSix
  refine wp_b (wp_nn kq (wp_b ?_))
  unfold f_X4_findGap
  refine sp_findGapL S hb (b - a) a gF (by omega) (by show _ < 10000; omega) ?_
  obtain ⟨g1, g2, g3⟩ := fGap_le xs b (b - a) a hab
  unfold sixR at h0 h1
  generalize fGap xs b (b - a) a = g at *
  obtain ⟨m1, m2, m3⟩ := int_upd (c := 3) (k := 2) (a := q) (v := 0) S.1 (by decide)
  have P0 : Pc (gsI σ 3 2 q 0) q p [] := ⟨kq, ep, kp, lp, by rw [qI_ii, if_pos ⟨rfl, rfl, rfl⟩]; rfl, by simp, fun j hj => by simp at hj⟩
  have C0 : PcTo σ (gsI σ 3 2 q 0) q p [] := ⟨m1, m2.mono (fun _ _ _ _ z => Or.inl z), P0, m3⟩
  have any : ∀ {ps σ'}, PcTo σ σ' q p ps → RhAny σ σ' q h := fun C => ⟨C.1, C.2.1.mono (fun _ _ _ _ z => Or.inl z), C.2.2.2⟩
  have fin : ∀ (ps : List Nat) (k : Nat) (σ' : gS), PcTo σ σ' q p ps → allP ps → k ≤ ps.length → (∀ σ'', RhTo σ σ'' q h 6 (wS (spr ps k)) (sixS (wS (spr ps k))) → Q 0 σ'') → wp (f_X4_readSix_100 (some q) (some h) (nI k)) σ' Q := by
    intro ps k σ' C hA hk hQ
    have hP := fun j => spr_lt hA k j
    unfold f_X4_readSix_100
    refine wp_b (wp_nn C.2.2.1.1 (wp_b (sp_spread C.1 C.2.2.1 hk (fun σ2 D => ?_))))
    have kq2 := D.2.2.1.1
    refine wp_b (wp_nn kq2 (wp_b (sp_wordAt (k := 0) D.2.2.1 (by omega) hP ?_)))
    refine wp_b (wp_nn kq2 (wp_b (sp_wordAt (k := 2) D.2.2.1 (by omega) hP ?_)))
    refine wp_b (wp_nn kq2 (wp_b (sp_wordAt (k := 4) D.2.2.1 (by omega) hP ?_)))
    refine wp_b (wp_nn kq2 (wp_b (sp_wordAt (k := 6) D.2.2.1 (by omega) hP ?_)))
    have hM : Mod (XR q (tg σ 3 0 q) (tg σ 2 0 h) (tg σ 2 1 h)) σ σ2 := (C.2.1.trans D.2.1).mono (fun _ _ _ _ z => Or.inl z)
    have hBK := C.2.2.2.trans D.2.2.2
    refine wp_b (wp_nn (hM.kd hh) (wp_b (sp_setSix D.1 (hM.kd hh) id id id (hBK 0 hB) (fun σ3 H => wp_p (hQ σ3 ?_)))))
    exact RhTo.of hh hM hBK H
  have f71 : ∀ (fl : Bool) (ps : List Nat) (k : Nat) (σ' : gS), PcTo σ σ' q p ps → wp (f_X4_readSix_71 (some q) (some h) (b2i fl) (nI k)) σ' Q ∨ True := fun _ _ _ _ _ => Or.inr trivial
  have start : ∀ s0 : Int32, s0 = b2i (decide (g = b)) → wp (f_X4_readSix_20 (some q) (some r) (nI a) (nI b) (some h) (nI g) s0) σ Q := by
    intro s0 hs
    rw [hs]
    unfold f_X4_readSix_20
    refine wp_b (wp_wI kq (wp_b (wp_nn kq (wp_b (sp_readPieces (by omega) (by omega) (C0.sr S) P0 (fun z ps' σ' C => ?_) (fun ps σ1 z C => ?_))))))
    · rw [z] at h0
      exact wp_t rfl (wp_p (h0 _ rfl (any (C0.trans C))))
    · obtain ⟨o1, o2, o3, o4⟩ := pcsC_ok gF _ _ [] ps (fun x hx => by simp at hx) (by simp) z
      have C := C0.trans C
      rw [z] at h0 h1
      dsimp only at h0 h1
      refine wp_f (by decide) (wp_b (wp_rI C.2.2.1.1 ?_))
      rw [C.2.2.1.2.2.2.2.1]
      by_cases c : g = b
      · rw [if_pos c] at h0 h1
        refine wp_f (by rw [b2i_t (decide_eq_true c)]; decide) ?_
        unfold f_X4_readSix_71
        refine wp_f (by rw [b2i_t (decide_eq_true c)]; decide) (wp_b (wp_rI C.2.2.1.1 ?_))
        rw [C.2.2.1.2.2.2.2.1]
        refine wp_if (fun d => ?_) (fun d => ?_)
        · have d := (nI_eq (a := ps.length) (b := 8) (by omega) (by omega)).mp d
          rw [if_pos d] at h1
          exact fin ps ps.length σ1 C o1 (Nat.le_refl _) (fun σ'' R => h1 _ σ'' rfl R)
        · have d : ¬ ps.length = 8 := fun z => d (by rw [z]; rfl)
          rw [if_neg d] at h0
          exact wp_p (h0 _ rfl (any C))
      · rw [if_neg c] at h0 h1
        have g3 := g3 c
        have z0 : b2i (decide (g = b)) = 0 := b2i_f (decide_eq_false c)
        rw [z0]
        refine wp_t rfl ?_
        rw [show nI g + 2 = nI (g + 2) from nI_add g 2]
        refine wp_b (wp_nn C.2.2.1.1 (wp_b (sp_readPieces (fr := true) (by omega) (by omega) (C.sr S) C.2.2.1 (fun z ps' σ' C' => ?_) (fun ps2 σ2 z C' => ?_))))
        · rw [z] at h0
          exact wp_t rfl (wp_p (h0 _ rfl (any (C.trans C'))))
        · obtain ⟨u1, u2, u3, u4⟩ := pcsC_ok gF _ _ ps ps2 o1 o3 z
          have C' := C.trans C'
          rw [z] at h0 h1
          dsimp only at h0 h1
          refine wp_f (by decide) ?_
          unfold f_X4_readSix_71
          refine wp_t rfl (wp_b (wp_rI C'.2.2.1.1 ?_))
          rw [C'.2.2.1.2.2.2.2.1]
          refine wp_if (fun d => ?_) (fun d => ?_)
          · have d := (nI_leI (a := ps2.length) (b := 7) (by omega) (by omega)).mp d
            rw [if_pos d] at h1
            exact fin ps2 ps.length σ2 C' u1 u2 (fun σ'' R => h1 _ σ'' rfl R)
          · have d : ¬ ps2.length ≤ 7 := fun z => d (nI_le (b := 7) z (by omega))
            rw [if_neg d] at h0
            exact wp_p (h0 _ rfl (any C'))
  refine wp_if (fun c => start 1 ?_) (fun c => start 0 ?_)
  · have c := (nI_eq (by omega) (by omega)).mp c
    rw [b2i_t (decide_eq_true c)]
  · have c : ¬ g = b := fun z => c (by rw [z])
    rw [b2i_f (decide_eq_false c)]
/-- a HOST that is read: a fault, or kind, words, WRITTEN -/
abbrev HR : Type := Int32 ⊕ (Int32 × (Nat → Int32) × List Int32)
/-- where the last part ends -/
def lend (ns : List Int32) : Nat := if ns.getD (ns.length - 1) 0 = 46 then ns.length - 1 else ns.length
def nameR (ns : List Int32) : HR :=
  if ns.length = 0 then .inl (-14) else if ns.any wro = true then .inl (-14) else if forC ns ns.length 0 = true then .inl (-14) else
  if numC ns (lps ns (lend ns)) (lend ns) = true then (match four ns (lend ns) 4 0 0 with
    | none => .inl (-15)
    | some v => .inr (4, (fun j => if j = 0 then nI v else 0), fourL 3 (nI v))) else .inr (0, (fun _ => 0), ns)
def rdH (xs : List Int32) (a b : Nat) : HR :=
  if a < b ∧ xs.getD a 0 = 91 then (if xs.getD (b - 1) 0 = 93 then (match sixR xs (a + 1) (b - 1) with
    | none => .inl (-16)
    | some P => .inr (6, wS P, sixS (wS P))) else .inl (-16)) else nameR (dec xs b gF a)
theorem lps_le (xs : List Int32) : ∀ n, lps xs n ≤ n
  | 0 => Nat.le_refl _
  | n + 1 => by
    have := lps_le xs n
    rw [lps]
    split <;> omega
theorem RhAny.rf (hW : WF σ) : RhAny σ σ q h := ⟨hW, Mod.rf, BK.rf⟩
theorem sp_readHost (S : Sr σ r xs) (kq : gkd σ q = 4) (hh : gkd σ h = 3) (hab : a ≤ b) (hb : b ≤ xs.length) (hB : Bud σ 0) (hne : r ≠ tg σ 3 0 q) (h0 : ∀ c σ', rdH xs a b = .inl c → RhAny σ σ' q h → Q c σ') (h1 : ∀ k w ys σ', rdH xs a b = .inr (k, w, ys) → RhTo σ σ' q h k w ys → Q 0 σ') : wp (f_X4_readHost (some q) (some r) (nI a) (nI b) (some h)) σ Q := by
  have hl := S.2.2.2
  obtain ⟨en, kn, -⟩ := S.1.fld (c := 3) (k := 0) kq id (by decide) (by decide) rfl
  have hnr : tg σ 3 0 q ≠ tg σ 2 1 h := S.1.ne (c := 3) (c' := 2) kq id (by decide) (by decide) rfl hh id (by decide) (by decide) rfl (fun z => absurd z.1 (by decide))
  have name : (¬ (a < b ∧ xs.getD a 0 = 91)) → wp (f_X4_readHost_46 (some q) (some r) (nI a) (nI b) (some h)) σ Q := by
    intro hc
    rw [rdH, if_neg hc] at h0 h1
    unfold f_X4_readHost_46
    refine wp_b (wp_nn kq (wp_b (sp_decode hne hab hb hl S.1 kq en kn S.2.1 S.2.2.1 hB (fun σ1 R => ?_))))
    have hlen := dec_len xs b gF a
    generalize dec xs b gF a = ns at *
    have en1 : grr σ1 3 0 q = some (tg σ 3 0 q) := by rw [R.2.1.ref (c := 3) kq (by decide) (by simp)]; exact en
    have N : Nm σ1 q (tg σ 3 0 q) ns := ⟨R.1, R.kd kq, en1, R.kd kn, R.2.2.1, by omega⟩
    have hM : Mod (XR q (tg σ 3 0 q) (tg σ 2 0 h) (tg σ 2 1 h)) σ σ1 := R.2.1.mono (fun _ _ _ _ z => Or.inr (Or.inl z))
    have any : RhAny σ σ1 q h := ⟨R.1, hM, R.2.2.2⟩
    have hB1 : Bud σ1 0 := R.2.2.2 0 hB
    unfold nameR at h0 h1
    refine wp_b (wp_rR N.2.1 ?_)
    rw [en1]
    refine wp_b (N.len (wp_if (fun c => ?_) (fun c => ?_)))
    · have c := (nI_eq (a := ns.length) (b := 0) (by omega) (by omega)).mp c
      rw [if_pos c] at h0
      exact wp_p (h0 _ _ rfl any)
    · have c : ¬ ns.length = 0 := fun z => c (by rw [z]; rfl)
      rw [if_neg c] at h0 h1
      refine wp_b (wp_nn N.2.1 (wp_b (sp_hasWrong N ?_)))
      cases hw : ns.any wro with
      | true =>
        rw [hw, if_pos rfl] at h0
        exact wp_f (by decide) (wp_p (h0 _ _ rfl any))
      | false =>
        rw [hw, if_neg (by decide)] at h0 h1
        refine wp_t rfl (wp_b (wp_nn N.2.1 (wp_b (sp_foreign N ?_))))
        cases hf : forC ns ns.length 0 with
        | true =>
          rw [hf, if_pos rfl] at h0
          exact wp_f (by decide) (wp_p (h0 _ _ rfl any))
        | false =>
          rw [hf, if_neg (by decide)] at h0 h1
          refine wp_t rfl (wp_b (wp_rR N.2.1 ?_))
          rw [en1]
          refine wp_b (wp_rR N.2.1 ?_)
          rw [en1]
          refine wp_b (N.len ?_)
          have e1 : nI ns.length - 1 = nI (ns.length - 1) := pk_sub (a := ns.length) (b := 1) (by omega)
          rw [e1]
          have tail : ∀ e, e = lend ns → e ≤ ns.length → wp (f_X4_readHost_120 (some q) (some h) (nI e)) σ1 Q := by
            intro e he hle
            rw [← he] at h0 h1
            unfold f_X4_readHost_120
            refine wp_b (wp_nn N.2.1 (wp_b ?_))
            unfold f_X4_lastPartStart
            refine sp_lps N e gF hle (by show _ < 10000; omega) ?_
            refine wp_b (wp_nn N.2.1 (wp_b (sp_isNumeral N (lps_le ns e) hle ?_)))
            cases hnum : numC ns (lps ns e) e with
            | false =>
              rw [hnum, if_neg (by decide)] at h1
              refine wp_t rfl (wp_b (wp_rR N.2.1 ?_))
              rw [en1]
              refine wp_b (wp_nn (hM.kd hh) (wp_b (sp_setName R.1 (hM.kd hh) N.2.2.2.1 id id id id (by rw [hM.tgt hh (by decide) (by simp)]; exact hnr) hB1 (fun σ2 H => wp_p (h1 _ _ _ σ2 rfl ?_)))))
              have := RhTo.of hh hM R.2.2.2 H
              rw [R.2.2.1] at this
              exact this
            | true =>
              rw [hnum, if_pos rfl] at h0 h1
              refine wp_f (by decide) (wp_b (wp_nn N.2.1 (wp_b (sp_readFour N hle (hM.kd hh) hB1 (fun z => ?_) (fun v σ2 z H => ?_)))))
              · rw [z] at h0
                exact wp_p (h0 _ _ rfl any)
              · rw [z] at h1
                exact wp_p (h1 _ _ _ σ2 rfl (RhTo.of hh hM R.2.2.2 H))
          refine wp_b (wp_nn N.2.2.2.1 (wp_b (N.at (by omega) ?_)))
          refine wp_if (fun d => ?_) (fun d => ?_)
          · refine wp_b (wp_rR N.2.1 ?_)
            rw [en1]
            refine wp_b (N.len ?_)
            rw [e1]
            exact tail _ (by rw [lend, if_pos d]) (by omega)
          · refine wp_b (wp_rR N.2.1 ?_)
            rw [en1]
            refine wp_b (N.len ?_)
            exact tail _ (by rw [lend, if_neg d]) (by omega)
  unfold f_X4_readHost
  refine wp_if (fun c => ?_) (fun c => ?_)
  · have c := (nI_leI (by omega) (by omega)).mp c
    exact name (fun z => by omega)
  · have c : ¬ b ≤ a := fun z => c (nI_le z (by omega))
    refine S.b (by omega) (wp_if (fun d => ?_) (fun d => ?_))
    · rw [rdH, if_pos ⟨by omega, d⟩] at h0 h1
      rw [show nI b - 1 = nI (b - 1) from pk_sub (a := b) (b := 1) (by omega), nI_1]
      refine S.b (by omega) (wp_if (fun e => ?_) (fun e => ?_))
      · rw [if_pos e] at h0 h1
        have hlt : a + 1 ≤ b - 1 := by
          rcases Nat.lt_or_ge a (b - 1) with z | z
          · omega
          · rw [show b - 1 = a by omega, d] at e
            exact absurd e (by decide)
        refine wp_b (wp_nn kq (wp_b (sp_readSix S kq hh hlt (by omega) hB (fun σ' z A => ?_) (fun P σ' z R => ?_))))
        · rw [z] at h0
          exact wp_p (h0 _ _ rfl A)
        · rw [z] at h1
          exact wp_p (h1 _ _ _ σ' rfl R)
      · rw [if_neg e] at h0
        exact wp_p (h0 _ _ rfl (RhAny.rf S.1))
    · exact name (fun z => d z.2)
end RS
