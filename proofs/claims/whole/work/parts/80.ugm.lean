/-! URLGATE: its methods, but for read -/
def byt (v : Int64) (j : Nat) : Int32 := (((v.toUInt64 >>> ((8 * nI j).toInt64.toUInt64 &&& Int64.toUInt64 63)).toInt64).toInt32) &&& 255
def bts (v : Int64) : Nat → Nat → List Int32
  | 0, _ => []
  | m + 1, j => byt v j :: bts v m (j + 1)
section UM
variable {σ : gS} {g : Nat} {T : List Int32} {P : Nat → Option UV} {G : GV} {Q : Int32 → gS → Prop}
/-- the length of the text -/
theorem Sys.len {β : Type} {K : Int32 → gM β} {R : β → gS → Prop} (S : Sys σ g T P G) (hQ : wp (K (nI T.length)) σ R) : wp (gb (rR 7 0 (some g)) fun v => gb (rI 4 1 v) K) σ R := by
  obtain ⟨e, k⟩ := S.fld (k := 0) (by decide) rfl
  refine wp_b (wp_rR S.2.1 ?_)
  rw [e]
  refine wp_b (wp_rI k ?_)
  rw [(S.1.row k id).2.2.1, ← rowL_len, S.2.2.1]
  exact hQ
theorem sp_typeL {v : Int64} {n : Nat} (hn : n ≤ 8) : ∀ (m j f : Nat) (σ : gS) (T : List Int32), j + m = n → m < f → Sys σ g T P G → T.length + m ≤ 300 → Bud σ 0 → (∀ σ', Sg σ σ' g (T ++ bts v m j) P G 0 → Q (nI (T.length + m)) σ') → wp (f_X8_type_L35 f (some g) v (nI n) (nI j)) σ Q := by
  intro m
  induction m with
  | zero =>
    intro j f σ T hj hf S hl hB hQ
    obtain ⟨f, rfl⟩ : ∃ g, f = g + 1 := ⟨f - 1, by omega⟩
    rw [f_X8_type_L35]
    unfold f_X8_type_35
    refine wp_t (nI_le (by omega) (by omega)) ?_
    refine S.len (wp_p ?_)
    have := hQ σ (by rw [bts, List.append_nil]; exact Sg.rf S)
    exact this
  | succ m ih =>
    intro j f σ T hj hf S hl hB hQ
    obtain ⟨f, rfl⟩ : ∃ g, f = g + 1 := ⟨f - 1, by omega⟩
    rw [f_X8_type_L35]
    unfold f_X8_type_35
    refine wp_f (nI_ge (by omega) (by omega)) ?_
    obtain ⟨e, k⟩ := S.fld (k := 0) (by decide) rfl
    refine wp_b (wp_rR S.2.1 ?_)
    rw [e]
    refine wp_b (wp_nn k (wp_b (sp_add S.1 k id (by rw [S.2.2.1]; omega) hB (fun σ1 R => ?_))))
    rw [S.2.2.1] at R
    have S1 := S.txt R (by rw [List.length_append, List.length_singleton]; omega)
    rw [nI_1]
    refine ih (j + 1) f σ1 _ (by omega) (by omega) S1.1 (by rw [List.length_append, List.length_singleton]; omega) (S1.2.2 0 hB) (fun σ2 S2 => ?_)
    rw [List.length_append, List.length_singleton, show T.length + 1 + m = T.length + (m + 1) by omega]
    refine hQ σ2 ?_
    have := S1.trans S2
    rw [List.append_assoc] at this
    exact this
theorem sp_type {v : Int64} {a : Int32} (S : Sys σ g T P G) (hB : Bud σ 0) (h0 : (a < 1 ∨ ¬ a ≤ 8) → Q (-2) σ) (h1 : ∀ n, a = nI n → 1 ≤ n → n ≤ 8 → 300 < T.length + n → Q (-3) σ) (h2 : ∀ n σ', a = nI n → 1 ≤ n → n ≤ 8 → T.length + n ≤ 300 → Sg σ σ' g (T ++ bts v n 0) P G 0 → Q (nI (T.length + n)) σ') : wp (f_X8_type (some g) v a) σ Q := by
  have hl := S.2.2.2.1
  unfold f_X8_type
  refine wp_if (fun c => wp_p (h0 (Or.inl c))) (fun c => ?_)
  refine wp_if (fun d => ?_) (fun d => wp_p (h0 (Or.inr d)))
  obtain ⟨n, hn, rfl⟩ : ∃ n : Nat, n < 9 ∧ a = nI n := by
    rcases pk_ix a (n := 9) (by omega) with z | z | z
    · exact absurd (Int32.lt_trans z (by decide)) c
    · exact absurd d (by rw [Int32.not_le]; exact Int32.lt_of_lt_of_le (by decide) z)
    · exact z
  have n1 : 1 ≤ n := by
    rcases Nat.eq_zero_or_pos n with z | z
    · subst z; exact absurd (show nI 0 < 1 by decide) c
    · exact z
  refine S.len ?_
  rw [nI_add]
  refine wp_if (fun e => ?_) (fun e => wp_p (h1 n rfl n1 (by omega) ?_))
  · have e : T.length + n ≤ 300 := (nI_leI (a := T.length + n) (b := 300) (by omega) (by omega)).mp e
    exact sp_typeL (by omega) n 0 gF σ T (by omega) (by unfold gF; omega) S e hB (fun σ' S' => h2 n σ' rfl n1 (by omega) e S')
  · rcases Nat.lt_or_ge 300 (T.length + n) with z | z
    · exact z
    · exact absurd (nI_le (a := T.length + n) (b := 300) z (by omega)) e
/-- the text is emptied -/
theorem sp_cut0 {β : Type} {K : Unit → gM β} {R : β → gS → Prop} (S : Sys σ g T P G) (hQ : ∀ σ', Sg σ σ' g [] P G 0 → RowTo (fun _ => False) σ σ' (tg σ 7 0 g) [] → wp (K ()) σ' R) : wp (gb (rR 7 0 (some g)) fun v => gb (nn 4 v) fun _ => gb (f_X5_cutTo v 0) K) σ R := by
  obtain ⟨e, k⟩ := S.fld (k := 0) (by decide) rfl
  refine wp_b (wp_rR S.2.1 ?_)
  rw [e]
  refine wp_b (wp_nn k (wp_b (sp_cutTo (k := 0) S.1 k id (by decide) (fun σ1 H => ?_))))
  rw [List.take_zero] at H
  exact hQ σ1 (S.txt H (by decide)) H
theorem sp_erase (S : Sys σ g T P G) (hQ : ∀ σ', Sg σ σ' g [] P G 0 → Q (nI T.length) σ') : wp (f_X8_erase (some g)) σ Q := by
  unfold f_X8_erase
  exact S.len (sp_cut0 S (fun σ' S' _ => wp_p (hQ σ' S')))
theorem sp_at {i : Int32} (S : Sys σ g T P G) (hQ : Q (bAt T i) σ) : wp (f_X8_at (some g) i) σ Q := by
  unfold f_X8_at
  obtain ⟨e, k⟩ := S.fld (k := 0) (by decide) rfl
  refine wp_b (wp_rR S.2.1 ?_)
  rw [e]
  refine wp_b (wp_nn k (wp_b (sp_byteAt S.1 k id (wp_p ?_))))
  rw [S.2.2.1]
  exact hQ
theorem ix7 {w : Int32} (h0 : ¬ w < 0) (h1 : w < 7) : ∃ j, j < 7 ∧ w = nI j := by
  rcases pk_ix w (n := 7) (by omega) with z | z | z
  · exact absurd z h0
  · exact absurd h1 (by rw [Int32.not_lt]; exact z)
  · exact z
def szA (P : Nat → Option UV) (i w : Int32) : Int32 := (plI P i).elim (-2) (fun U => if w < 0 then -2 else if w < 7 then (if thR U w.toNatClampNeg then nI (uR U (fOf w.toNatClampNeg)).length else -1) else -2)
theorem sp_size {i w : Int32} (S : Sys σ g T P G) (hQ : Q (szA P i w) σ) : wp (f_X8_size (some g) i w) σ Q := by
  unfold f_X8_size
  unfold szA at hQ
  refine wp_b (wp_nn S.2.1 (wp_b (sp_rec S (fun e => ?_) (fun u U e hU _ => ?_))))
  · rw [e] at hQ
    exact wp_t rfl (wp_p hQ)
  · rw [e] at hQ
    simp only [Option.elim] at hQ
    refine wp_f (by simp) ?_
    refine wp_if (fun c => ?_) (fun c => ?_)
    · rw [if_pos c] at hQ
      exact wp_p hQ
    · rw [if_neg c] at hQ
      refine wp_if (fun d => ?_) (fun d => ?_)
      · rw [if_pos d] at hQ
        obtain ⟨j, hj, rfl⟩ := ix7 c d
        rw [nI_clamp (by omega)] at hQ
        refine wp_b (wp_nn hU.1 (wp_b (sp_rowOf S.1 hU hj (fun t => ?_) (fun r t kr er => ?_))))
        · rw [t] at hQ
          exact wp_t rfl (wp_p hQ)
        · rw [t] at hQ
          refine wp_f (by simp) (wp_b (wp_rI kr ?_))
          rw [(S.1.row kr id).2.2.1, ← rowL_len, er]
          exact wp_p hQ
      · rw [if_neg d] at hQ
        exact wp_p hQ
def ptA' (P : Nat → Option UV) (i w k : Int32) : Int32 := (plI P i).elim (-2) (fun U => if w < 0 then -2 else if w < 7 then (if thR U w.toNatClampNeg then bAt (uR U (fOf w.toNatClampNeg)) k else -1) else -2)
theorem sp_part {i w k : Int32} (S : Sys σ g T P G) (hQ : Q (ptA' P i w k) σ) : wp (f_X8_part (some g) i w k) σ Q := by
  unfold f_X8_part
  unfold ptA' at hQ
  refine wp_b (wp_nn S.2.1 (wp_b (sp_rec S (fun e => ?_) (fun u U e hU _ => ?_))))
  · rw [e] at hQ
    exact wp_t rfl (wp_p hQ)
  · rw [e] at hQ
    simp only [Option.elim] at hQ
    refine wp_f (by simp) ?_
    refine wp_if (fun c => ?_) (fun c => ?_)
    · rw [if_pos c] at hQ
      exact wp_p hQ
    · rw [if_neg c] at hQ
      refine wp_if (fun d => ?_) (fun d => ?_)
      · rw [if_pos d] at hQ
        obtain ⟨j, hj, rfl⟩ := ix7 c d
        rw [nI_clamp (by omega)] at hQ
        refine wp_b (wp_nn hU.1 (wp_b (sp_rowOf S.1 hU hj (fun t => ?_) (fun r t kr er => ?_))))
        · rw [t] at hQ
          exact wp_t rfl (wp_p hQ)
        · rw [t] at hQ
          refine wp_f (by simp) (wp_b (wp_nn kr (wp_b (sp_byteAt S.1 kr id (wp_p ?_)))))
          rw [er]
          exact hQ
      · rw [if_neg d] at hQ
        exact wp_p hQ
def tdA (P : Nat → Option UV) (i w : Int32) : Int32 := (plI P i).elim (-2) (fun U => if w = 0 then uI U 5 else if w = 1 then pcU U else if w = 2 then uK U else if w = 3 then uI U 7 else -2)
theorem sp_told {i w : Int32} (S : Sys σ g T P G) (hQ : Q (tdA P i w) σ) : wp (f_X8_told (some g) i w) σ Q := by
  unfold f_X8_told
  unfold tdA at hQ
  refine wp_b (wp_nn S.2.1 (wp_b (sp_rec S (fun e => ?_) (fun u U e hU _ => ?_))))
  · rw [e] at hQ
    exact wp_t rfl (wp_p hQ)
  · rw [e] at hQ
    simp only [Option.elim] at hQ
    obtain ⟨g1, g2, g3, g4, g5, g6⟩ := S.1.uhost hU.1
    refine wp_f (by simp) ?_
    refine wp_if (fun c => ?_) (fun c => ?_)
    · rw [if_pos c] at hQ
      exact hU.ri (wp_p hQ)
    rw [if_neg c] at hQ
    refine wp_if (fun c => ?_) (fun c => ?_)
    · rw [if_pos c] at hQ
      exact wp_b (wp_nn hU.1 (wp_b (sp_portThatCounts hU (wp_p hQ))))
    rw [if_neg c] at hQ
    refine wp_if (fun c => ?_) (fun c => ?_)
    · rw [if_pos c] at hQ
      refine wp_b (wp_rR hU.1 ?_)
      rw [g1]
      refine wp_b (wp_rR g2 ?_)
      rw [g3]
      refine wp_b (wp_rI g4 (wp_p ?_))
      rw [show gii σ 0 0 (hA σ u) = uK U from hU.2.2.2.2.1]
      exact hQ
    rw [if_neg c] at hQ
    refine wp_if (fun c => ?_) (fun c => ?_)
    · rw [if_pos c] at hQ
      exact hU.ri (wp_p hQ)
    rw [if_neg c] at hQ
    exact wp_p hQ
def nmA (P : Nat → Option UV) (i w : Int32) : Int32 := (plI P i).elim (-2) (fun U => if w < 0 then -2 else if w ≤ 7 then numA (uK U) (uW U) w.toNatClampNeg else -2)
theorem numA_congr {k : Int32} {w v : Nat → Int32} (h : ∀ j, j < 4 → w j = v j) {i : Nat} (hi : i < 8) : numA k w i = numA k v i := by
  unfold numA num6
  rw [h 0 (by omega), h (i / 2) (by omega)]
theorem sp_number {i w : Int32} (S : Sys σ g T P G) (hQ : Q (nmA P i w) σ) : wp (f_X8_number (some g) i w) σ Q := by
  unfold f_X8_number
  unfold nmA at hQ
  refine wp_b (wp_nn S.2.1 (wp_b (sp_rec S (fun e => ?_) (fun u U e hU _ => ?_))))
  · rw [e] at hQ
    exact wp_t rfl (wp_p hQ)
  · rw [e] at hQ
    simp only [Option.elim] at hQ
    obtain ⟨g1, g2, g3, g4, g5, g6⟩ := S.1.uhost hU.1
    refine wp_f (by simp) ?_
    refine wp_if (fun c => ?_) (fun c => ?_)
    · rw [if_pos c] at hQ
      exact wp_p hQ
    · rw [if_neg c] at hQ
      refine wp_if (fun d => ?_) (fun d => ?_)
      · rw [if_pos d] at hQ
        obtain ⟨j, hj, rfl⟩ : ∃ j : Nat, j < 8 ∧ w = nI j := by
          rcases pk_ix w (n := 8) (by omega) with z | z | z
          · exact absurd z c
          · exact absurd d (by rw [Int32.not_le]; exact Int32.lt_of_lt_of_le (by decide) z)
          · exact z
        rw [nI_clamp (by omega)] at hQ
        refine wp_b (wp_rR hU.1 ?_)
        rw [g1]
        refine wp_b (wp_rR g2 ?_)
        rw [g3]
        refine wp_b (wp_nn g4 (wp_b (sp_numberAt S.1 g4 id hj (wp_p ?_))))
        rw [hU.2.2.2.2.1, numA_congr hU.2.2.2.2.2 hj]
        exact hQ
      · rw [if_neg d] at hQ
        exact wp_p hQ
def orE (U B : UV) : Bool := decide (uI U 0 = uI B 0 ∧ (uK U = uK B ∧ uR U 4 = uR B 4) ∧ pcU U = pcU B)
def smA (P : Nat → Option UV) (i j : Int32) : Int32 := (plI P i).elim (-2) (fun U => (plI P j).elim (-2) (fun B => b2i (orE U B)))
theorem sp_same {i j : Int32} (S : Sys σ g T P G) (hQ : Q (smA P i j) σ) : wp (f_X8_same (some g) i j) σ Q := by
  unfold f_X8_same
  unfold smA at hQ
  refine wp_b (wp_nn S.2.1 (wp_b (sp_rec S (fun e => ?_) (fun u U e hU _ => ?_))))
  · rw [e] at hQ
    exact wp_b (wp_nn S.2.1 (wp_b (sp_rec S (fun _ => wp_t rfl (wp_p hQ)) (fun _ _ _ _ _ => wp_t rfl (wp_p hQ)))))
  · rw [e] at hQ
    simp only [Option.elim] at hQ
    refine wp_b (wp_nn S.2.1 (wp_b (sp_rec S (fun e2 => ?_) (fun b B e2 hB _ => ?_))))
    · rw [e2] at hQ
      exact wp_f (by simp) (wp_t rfl (wp_p hQ))
    · rw [e2] at hQ
      simp only [Option.elim] at hQ
      refine wp_f (by simp) (wp_f (by simp) (wp_b (wp_nn hU.1 (wp_b (sp_hasOriginOf S.1 hU hB ?_)))))
      refine wp_bz (fun c => ?_) (fun c => ?_)
      · rw [show orE U B = false from c] at hQ
        exact wp_p hQ
      · rw [show orE U B = true from c] at hQ
        exact wp_p hQ
def psA (P : Nat → Option UV) (G : GV) (i : Int32) : Int32 := (plI P i).elim (-2) (fun U => jdg G U)
theorem sp_pass {i : Int32} (S : Sys σ g T P G) (hQ : Q (psA P G i) σ) : wp (f_X8_pass (some g) i) σ Q := by
  unfold f_X8_pass
  unfold psA at hQ
  obtain ⟨e6, k6⟩ := S.fld (k := 6) (by decide) rfl
  refine wp_b (wp_nn S.2.1 (wp_b (sp_rec S (fun e => ?_) (fun u U e hU _ => ?_))))
  · rw [e] at hQ
    exact wp_t rfl (wp_p hQ)
  · rw [e] at hQ
    simp only [Option.elim] at hQ
    refine wp_f (by simp) (wp_b (wp_rR S.2.1 ?_))
    rw [e6]
    exact wp_b (wp_nn k6 (wp_b (sp_judge S.1 S.2.2.2.2.2.1 hU (wp_p hQ))))
theorem Sys.sg {σ' : gS} {G' : GV} {d : Nat} (S : Sys σ g T P G) (W : WF σ') (hM : Mod (XG (tg σ 7 6 g)) σ σ') (hB : BK d σ σ') (hG : Gt σ' (tg σ 7 6 g) G') : Sg σ σ' g T P G' d := ⟨S.gate W hM hG, hM.mono (fun t x y z q => Or.inr (by rw [q.2.1]; decide)), hB⟩
theorem sp_clear (S : Sys σ g T P G) (hQ : ∀ σ', Sg σ σ' g T P (GH G, 0, GA G, 0, GR G, 0) 0 → Q (nI (NH G + NA G + NR G)) σ') : wp (f_X8_clear (some g)) σ Q := by
  unfold f_X8_clear
  obtain ⟨e6, k6⟩ := S.fld (k := 6) (by decide) rfl
  refine wp_b (wp_rR S.2.1 ?_)
  rw [e6]
  exact wp_b (wp_nn k6 (wp_b (sp_forget S.1 S.2.2.2.2.2.1 (fun σ' W M B hG => wp_p (hQ σ' (S.sg W M B hG))))))
def rgO (a n : Int32) : Prop := (a = 4 ∨ a = 6) ∧ ¬ n < 0 ∧ n ≤ (if a = 4 then 32 else 128)
theorem sp_range {a p q r s n : Int32} (S : Sys σ g T P G) (hB : Bud σ 134) (h0 : ¬ rgO a n → Q (-2) σ) (h1 : rgO a n → NR G = 12 → Q (-3) σ) (hQ : ∀ σ', rgO a n → NR G < 12 → Sg σ σ' g T P (adR G (a, w4 a p q r s, n)) 134 → Q (nI (NR G + 1)) σ') : wp (f_X8_range (some g) a p q r s n) σ Q := by
  obtain ⟨e6, k6⟩ := S.fld (k := 6) (by decide) rfl
  have go : ∀ m, (a = 4 ∨ a = 6) → ¬ n < 0 → m = (if a = 4 then 32 else 128 : Int32) → wp (f_X8_range_31 (some g) a p q r s n n m) σ Q := by
    intro m ha hn hm
    unfold f_X8_range_31
    refine wp_if (fun c => ?_) (fun c => wp_p (h0 (fun z => c (by rw [hm]; exact z.2.2))))
    have ok : rgO a n := ⟨ha, hn, by rw [← hm]; exact c⟩
    refine wp_b (wp_rR S.2.1 ?_)
    rw [e6]
    exact wp_b (wp_nn k6 (wp_b (sp_addRange S.1 S.2.2.2.2.2.1 hB (fun z => wp_p (h1 ok z)) (fun σ' z W M B hG => wp_p (hQ σ' ok z (S.sg W M B hG))))))
  have go2 : (a = 4 ∨ a = 6) → wp (f_X8_range_11 (some g) a p q r s n) σ Q := by
    intro ha
    unfold f_X8_range_11
    refine wp_if (fun c => wp_p (h0 (fun z => z.2.1 c))) (fun c => ?_)
    refine wp_if (fun d => go 32 ha c (by rw [if_pos d])) (fun d => go 128 ha c (by rw [if_neg d]))
  unfold f_X8_range
  refine wp_if (fun c => go2 (Or.inl c)) (fun c => ?_)
  exact wp_if (fun d => go2 (Or.inr d)) (fun d => wp_p (h0 (fun z => z.1.elim c d)))
theorem sp_write {i : Int32} (S : Sys σ g T P G) (hB : Bud σ 0) (h0 : plI P i = none → Q (-2) σ) (h1 : ∀ U σ', plI P i = some U → 300 < (wrU U).length → Sg σ σ' g T P G 0 → Q (-3) σ') (hQ : ∀ U σ', plI P i = some U → (wrU U).length ≤ 300 → Sg σ σ' g (wrU U) P G 0 → Q (nI (wrU U).length) σ') : wp (f_X8_write (some g) i) σ Q := by
  obtain ⟨e0, k0⟩ := S.fld (k := 0) (by decide) rfl
  obtain ⟨e1, k1⟩ := S.fld (k := 1) (by decide) rfl
  have h := S.1
  have kg := S.2.1
  unfold f_X8_write
  refine wp_b (wp_nn S.2.1 (wp_b (sp_rec S (fun e => wp_t rfl (wp_p (h0 e))) (fun u U e hU hA => ?_))))
  have ok : okV U := by
    unfold plI at e
    split at e
    · cases e
    · rename_i c
      split at e
      · rename_i d
        rcases pk_ix i (n := 4) (by omega) with z | z | ⟨j, hj, rfl⟩
        · exact absurd z c
        · exact absurd d (by rw [Int32.not_lt]; exact z)
        · rw [nI_clamp (by omega)] at e
          exact S.2.2.2.2.2.2 j U hj e
      · cases e
  refine wp_f (by simp) (wp_b (wp_rR kg ?_))
  rw [e1]
  have hF : Fr σ u (tg σ 7 1 g) := by
    refine ⟨fun k hk z => ?_, fun z => ?_⟩
    · exact h.ne (c := 5) (c' := 7) (k' := 1) hU.1 id (by decide) (rk hk).1 (rk hk).2.1 kg id (by decide) (by decide) rfl (fun q => absurd q.1 (by decide)) z
    · exact h.ne (c := 2) (k := 1) (c' := 7) (k' := 1) (h.uhost hU.1).2.1 id (by decide) (by decide) rfl kg id (by decide) (by decide) rfl (fun q => absurd q.1 (by decide)) z
  refine wp_b (wp_nn hU.1 (wp_b (sp_writeTo h hU hF k1 hB ok.1.2.2.2.2.1 ok.1.2.2.2.2.2 (fun σ1 R _ => ?_))))
  have S1 := S.row1 R
  have kg1 := S1.1.2.1
  have t1 : tg σ1 7 1 g = tg σ 7 1 g := R.2.1.tgt (c := 7) kg (by decide) (by simp)
  have t0 : tg σ1 7 0 g = tg σ 7 0 g := R.2.1.tgt (c := 7) kg (by decide) (by simp)
  obtain ⟨e0', k0'⟩ := S1.1.fld (k := 0) (by decide) rfl
  obtain ⟨e1', k1'⟩ := S1.1.fld (k := 1) (by decide) rfl
  have r1 : rowL σ1 (tg σ1 7 1 g) = wrU U := by rw [t1]; exact R.2.2.1
  have hw := ok.2
  refine wp_b (wp_rR kg1 ?_)
  rw [e1']
  refine wp_b (wp_rI k1' ?_)
  rw [(R.1.row k1' id).2.2.1, ← rowL_len, r1]
  refine wp_if (fun c => ?_) (fun c => wp_p (h1 U σ1 e ?_ S1))
  · have c : (wrU U).length ≤ 300 := (nI_leI (a := (wrU U).length) (b := 300) (by omega) (by omega)).mp c
    refine wp_b (wp_rR kg1 ?_)
    rw [e0']
    refine wp_b (wp_rR kg1 ?_)
    rw [e1']
    have hne : tg σ1 7 1 g ≠ tg σ1 7 0 g := R.1.ne (c := 7) (c' := 7) kg1 id (by decide) (by decide) rfl kg1 id (by decide) (by decide) rfl (fun z => absurd z.2.1 (by decide))
    refine wp_b (wp_nn k0' (wp_b (sp_take R.1 k0' k1' id id hne (S1.2.2 0 hB) (fun σ2 R2 => ?_))))
    rw [r1] at R2
    have S2 := S1.1.txt R2 c
    refine S2.1.len (wp_p (hQ U σ2 e c (S1.trans S2)))
  · rcases Nat.lt_or_ge 300 (wrU U).length with z | z
    · exact z
    · exact absurd (nI_le (a := (wrU U).length) (b := 300) z (by omega)) c
end UM
