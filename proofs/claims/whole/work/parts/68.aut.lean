/-! URLREADER: tidy -/
def tF (xs : List Int32) : Nat → Nat → Nat
  | 0, i => i
  | m + 1, i => if 32 < xs.getD i 0 then i else tF xs m (i + 1)
theorem tF_le (xs : List Int32) : ∀ m i, i ≤ tF xs m i ∧ tF xs m i ≤ i + m
  | 0, i => by simp [tF]
  | m + 1, i => by
    have := tF_le xs m (i + 1)
    rw [tF]
    split <;> omega
def tT (xs : List Int32) (a : Nat) : Nat → Nat
  | 0 => 0
  | n + 1 => if n + 1 ≤ a then n + 1 else if 32 < xs.getD n 0 then n + 1 else tT xs a n
theorem tT_le (xs : List Int32) (a : Nat) : ∀ n, a ≤ n → a ≤ tT xs a n ∧ tT xs a n ≤ n
  | 0, h => by simp [tT]; omega
  | n + 1, h => by
    rw [tT]
    by_cases c : n + 1 ≤ a
    · rw [if_pos c]; omega
    · have := tT_le xs a n (by omega)
      rw [if_neg c]
      split <;> omega
def flt (xs : List Int32) : Nat → Nat → List Int32
  | 0, _ => []
  | m + 1, i => if xs.getD i 0 = 9 ∨ xs.getD i 0 = 10 ∨ xs.getD i 0 = 13 then flt xs m (i + 1) else xs.getD i 0 :: flt xs m (i + 1)
theorem flt_len (xs : List Int32) : ∀ m i, (flt xs m i).length ≤ m
  | 0, i => Nat.le_refl _
  | m + 1, i => by
    have := flt_len xs m (i + 1)
    rw [flt]
    split
    · omega
    · simp only [List.length_cons]; omega
/-- the text without its ends, tabs and line ends -/
def tdy (ts : List Int32) : List Int32 := flt ts (tT ts (tF ts ts.length 0) ts.length - tF ts ts.length 0) (tF ts ts.length 0)
theorem tdy_len (ts : List Int32) : (tdy ts).length ≤ ts.length := by
  have h1 := flt_len ts (tT ts (tF ts ts.length 0) ts.length - tF ts ts.length 0) (tF ts ts.length 0)
  have h2 := tF_le ts ts.length 0
  have h3 := tT_le ts (tF ts ts.length 0) ts.length (by omega)
  unfold tdy
  omega
section TD
variable {y t s : Nat} {ts : List Int32} {Q : Unit → gS → Prop}
theorem sp_fltL {b : Nat} (hne : t ≠ s) (hb : b ≤ ts.length) (hl : ts.length ≤ 4096) : ∀ (m i f : Nat) (σ : gS), i + m = b → m < f → Sr σ t ts → gkd σ y = 7 → grr σ 6 0 y = some s → gkd σ s = 5 → (rowL σ s).length + m ≤ 4096 → Bud σ 0 → (∀ σ', RowTo (fun _ => False) σ σ' s (rowL σ s ++ flt ts m i) → Q () σ') → wp (f_X7_tidy_L62 f (some y) (some t) (nI b) (nI i)) σ Q := by
  intro m
  induction m with
  | zero =>
    intro i f σ hi hf S ky es ks hlen hB hQ
    obtain ⟨f, rfl⟩ : ∃ g, f = g + 1 := ⟨f - 1, by omega⟩
    rw [f_X7_tidy_L62]
    unfold f_X7_tidy_62
    rw [flt, List.append_nil] at hQ
    exact wp_t (nI_le (by omega) (by omega)) (wp_p (hQ σ (RowTo.rf S.1)))
  | succ m ih =>
    intro i f σ hi hf S ky es ks hlen hB hQ
    obtain ⟨f, rfl⟩ : ∃ g, f = g + 1 := ⟨f - 1, by omega⟩
    rw [f_X7_tidy_L62]
    unfold f_X7_tidy_62
    rw [flt] at hQ
    rw [nI_1]
    refine wp_f (nI_ge (by omega) (by omega)) (S.b (by omega) (wp_if (fun c => ?_) (fun c => ?_)))
    · rw [if_pos (Or.inl c)] at hQ
      exact ih (i + 1) f σ (by omega) (by omega) S ky es ks (by omega) hB hQ
    · refine wp_if (fun d => ?_) (fun d => ?_)
      · rw [if_pos (Or.inr (Or.inl d))] at hQ
        exact ih (i + 1) f σ (by omega) (by omega) S ky es ks (by omega) hB hQ
      · refine wp_if (fun e => ?_) (fun e => ?_)
        · rw [if_pos (Or.inr (Or.inr e))] at hQ
          exact ih (i + 1) f σ (by omega) (by omega) S ky es ks (by omega) hB hQ
        · rw [if_neg (fun z => z.elim c (fun z => z.elim d e))] at hQ
          refine wp_b (wp_rR ky ?_)
          rw [es]
          refine wp_b (wp_nn ks (wp_b (sp_add S.1 ks id (by omega) hB (fun σ1 R => ?_))))
          refine ih (i + 1) f σ1 (by omega) (by omega) (S.mod R.1 R.2.1 (fun z => hne z.2)) (R.kd ky) (by rw [R.2.1.ref (c := 6) ky (by decide) (by simp)]; exact es) (R.kd ks) (by rw [R.2.2.1, List.length_append]; simp only [List.length_cons, List.length_nil]; omega) (R.bud hB) (fun σ' R' => hQ σ' ?_)
          have := R.trans R'
          rw [R.2.2.1, List.append_assoc, List.singleton_append] at this
          exact this
theorem sp_tidy {σ : gS} (hy : gkd σ y = 7) (S : Sr σ t ts) (hne : t ≠ tg σ 6 0 y) (hB : Bud σ 0) (hQ : ∀ σ', RowTo (fun _ => False) σ σ' (tg σ 6 0 y) (tdy ts) → Q () σ') : wp (f_X7_tidy (some y) (some t)) σ Q := by
  have hl := S.2.2.2
  obtain ⟨es, ks⟩ := S.1.src hy
  have h51 : ∀ a b, a ≤ b → b ≤ ts.length → (∀ σ', RowTo (fun _ => False) σ σ' (tg σ 6 0 y) (flt ts (b - a) a) → Q () σ') → wp (f_X7_tidy_51 (some y) (some t) (nI a) (nI b)) σ Q := by
    intro a b hab hb hQ
    unfold f_X7_tidy_51
    refine wp_b (wp_rR hy ?_)
    rw [es]
    refine wp_b (wp_nn ks (wp_b (sp_cutTo (k := 0) S.1 ks id (by omega) (fun σ1 R => ?_))))
    rw [List.take_zero] at R
    refine sp_fltL (s := tg σ 6 0 y) hne hb hl (b - a) a gF σ1 (by omega) (by show _ < 10000; omega) (S.mod R.1 R.2.1 (fun z => hne z.2)) (R.kd hy) (by rw [R.2.1.ref (c := 6) hy (by decide) (by simp)]; exact es) (R.kd ks) (by rw [R.2.2.1]; simp only [List.length_nil]; omega) (R.bud hB) (fun σ' R' => hQ σ' ?_)
    rw [R.2.2.1, List.nil_append] at R'
    exact R.trans R'
  have h28 : ∀ (n a f : Nat), n ≤ ts.length → a ≤ n → n < f → (∀ σ', RowTo (fun _ => False) σ σ' (tg σ 6 0 y) (flt ts (tT ts a n - a) a) → Q () σ') → wp (f_X7_tidy_L28 f (some y) (some t) (nI a) (nI n)) σ Q := by
    intro n
    induction n with
    | zero =>
      intro a f hn ha hf hQ
      obtain ⟨f, rfl⟩ : ∃ g, f = g + 1 := ⟨f - 1, by omega⟩
      rw [f_X7_tidy_L28]
      unfold f_X7_tidy_28
      exact wp_t (nI_le (by omega) (by omega)) (h51 a 0 ha (by omega) hQ)
    | succ n ih =>
      intro a f hn ha hf hQ
      obtain ⟨f, rfl⟩ : ∃ g, f = g + 1 := ⟨f - 1, by omega⟩
      rw [f_X7_tidy_L28]
      unfold f_X7_tidy_28
      rw [tT] at hQ
      refine wp_if (fun c => ?_) (fun c => ?_)
      · have c := (nI_leI (by omega) (by omega)).mp c
        rw [if_pos c] at hQ
        exact h51 a (n + 1) ha (by omega) hQ
      · have c : ¬ n + 1 ≤ a := fun z => c (nI_le z (by omega))
        rw [if_neg c] at hQ
        rw [nI_pred]
        refine S.b (by omega) (wp_if (fun d => ?_) (fun d => ?_))
        · rw [if_pos d] at hQ
          exact h51 a (n + 1) ha (by omega) hQ
        · rw [if_neg d] at hQ
          rw [pk_m1]
          exact ih a f (by omega) (by omega) (by omega) hQ
  have h7 : ∀ (m i f : Nat), i + m = ts.length → m < f → (∀ σ', RowTo (fun _ => False) σ σ' (tg σ 6 0 y) (flt ts (tT ts (tF ts m i) ts.length - tF ts m i) (tF ts m i)) → Q () σ') → wp (f_X7_tidy_L7 f (some y) (some t) (nI i) (nI ts.length)) σ Q := by
    intro m
    induction m with
    | zero =>
      intro i f hi hf hQ
      obtain ⟨f, rfl⟩ : ∃ g, f = g + 1 := ⟨f - 1, by omega⟩
      rw [f_X7_tidy_L7]
      unfold f_X7_tidy_7
      exact wp_t (nI_le (by omega) (by omega)) (h28 ts.length i gF (by omega) (by omega) (by show _ < 10000; omega) hQ)
    | succ m ih =>
      intro i f hi hf hQ
      obtain ⟨f, rfl⟩ : ∃ g, f = g + 1 := ⟨f - 1, by omega⟩
      rw [f_X7_tidy_L7]
      unfold f_X7_tidy_7
      rw [tF] at hQ
      refine wp_f (nI_ge (by omega) (by omega)) (S.b (by omega) (wp_if (fun d => ?_) (fun d => ?_)))
      · rw [if_pos d] at hQ
        exact h28 ts.length i gF (by omega) (by omega) (by show _ < 10000; omega) hQ
      · rw [if_neg d] at hQ
        rw [nI_1]
        exact ih (i + 1) f (by omega) (by omega) hQ
  unfold f_X7_tidy
  refine wp_b (wp_rI S.2.1 ?_)
  rw [(S.1.row S.2.1 id).2.2.1, ← rowL_len, S.2.2.1]
  exact h7 ts.length 0 gF (by omega) (by show _ < 10000; omega) hQ
end TD
/-! URLREADER: the state while a Url u is read, by UrlReader y and HostReader q, from state σ0 on -/
abbrev XL (σ0 : gS) (y q u : Nat) : Nat → Nat → Nat → Nat → Prop := fun t a b c => XU σ0 u t a b c ∨ (t = 1 ∧ a = 6 ∧ c = y) ∨ (t = 0 ∧ a = tg σ0 6 0 y) ∨ XP q t a b c ∨ (t = 0 ∧ a = tg σ0 3 0 q)
def Ld (σ0 σ : gS) (y q u : Nat) (xs : List Int32) (U : UV) (p : Nat) : Prop := Mod (XL σ0 y q u) σ0 σ ∧ BK 0 σ0 σ ∧ Rd σ y xs ∧ Ur σ u U ∧ gii σ 6 1 y = nI p
/-- the actors -/
def Ac (σ0 : gS) (y q u : Nat) : Prop := WF σ0 ∧ gkd σ0 y = 7 ∧ gkd σ0 q = 4 ∧ gkd σ0 u = 6 ∧ Bud σ0 0
section LD
variable {σ0 σ σ' : gS} {y q u b p : Nat} {xs : List Int32} {U B V : UV}
theorem Mod.lref (A : Ac σ0 y q u) (hM : Mod (XL σ0 y q u) σ0 σ) : (∀ k, tg σ 5 k u = tg σ0 5 k u) ∧ hO σ u = hO σ0 u ∧ hA σ u = hA σ0 u ∧ hW σ u = hW σ0 u ∧ tg σ 6 0 y = tg σ0 6 0 y ∧ tg σ 3 0 q = tg σ0 3 0 q := by
  obtain ⟨h0, hy, hq, hu, hB⟩ := A
  obtain ⟨g1, g2, -⟩ := h0.uhost hu
  have e : ∀ k, tg σ 5 k u = tg σ0 5 k u := fun k => hM.tgt (c := 5) hu (by decide) (by simp)
  have eh : hO σ u = hO σ0 u := e 4
  refine ⟨e, eh, ?_, ?_, hM.tgt (c := 6) hy (by decide) (by simp), hM.tgt (c := 3) hq (by decide) (by simp)⟩
  · show tg σ 2 0 (hO σ u) = tg σ0 2 0 (hO σ0 u)
    rw [eh]
    exact hM.tgt (c := 2) g2 (by decide) (by simp)
  · show tg σ 2 1 (hO σ u) = tg σ0 2 1 (hO σ0 u)
    rw [eh]
    exact hM.tgt (c := 2) g2 (by decide) (by simp)
theorem XU_l (A : Ac σ0 y q u) (hM : Mod (XL σ0 y q u) σ0 σ) : XU σ u = XU σ0 u := by
  obtain ⟨e1, e2, e3, e4, -⟩ := hM.lref A
  funext t x y z
  simp only [XU, e1, e3, e4]
theorem Ld.ac (A : Ac σ0 y q u) (L : Ld σ0 σ y q u xs U p) : Ac σ y q u := ⟨L.2.2.1.1, L.2.2.1.2.1, L.1.kd A.2.2.1, L.2.2.2.1.1, L.2.1 0 A.2.2.2.2⟩
/-- the source is no row of a Url -/
theorem WFx.snu (h : WF σ) (hy : gkd σ y = 7) (hu : gkd σ u = 6) : (∀ k, ftk 5 k = 5 → tg σ 6 0 y ≠ tg σ 5 k u) ∧ tg σ 6 0 y ≠ hW σ u := by
  obtain ⟨g1, g2, -⟩ := h.uhost hu
  exact ⟨fun k hk => h.ne (c := 6) (c' := 5) hy id (by decide) (by decide) rfl hu id (by decide) (rk hk).1 (rk hk).2.1 (fun z => absurd z.1 (by decide)), h.ne (c := 6) (c' := 2) (k' := 1) hy id (by decide) (by decide) rfl g2 id (by decide) (by decide) rfl (fun z => absurd z.1 (by decide))⟩
theorem XU_src (h : WF σ) (hy : gkd σ y = 7) (hu : gkd σ u = 6) : ¬ XU σ u 0 (tg σ 6 0 y) 0 0 := by
  obtain ⟨n1, n2⟩ := h.snu hy hu
  rintro (⟨-, k, hk, e⟩ | ⟨e, -⟩ | (⟨e, -⟩ | ⟨e, -⟩) | ⟨-, e⟩)
  · exact n1 k hk e
  · exact absurd e (by decide)
  · exact absurd e (by decide)
  · exact absurd e (by decide)
  · exact n2 e
/-- a step on the Url -/
theorem Ld.url (A : Ac σ0 y q u) (L : Ld σ0 σ y q u xs U p) (T : UrTo σ σ' u V) : Ld σ0 σ' y q u xs V p := by
  obtain ⟨l1, l2, ⟨w, ky, ex, lx⟩, l4, l5⟩ := L
  have hM : Mod (XL σ0 y q u) σ σ' := T.2.1.mono (fun t x y z h => Or.inl (by rw [XU_l A l1] at h; exact h))
  have es : tg σ' 6 0 y = tg σ 6 0 y := T.2.1.tgt (c := 6) ky (by decide) (by simp)
  refine ⟨l1.trans hM, l2.trans T.2.2.2, ⟨T.1, T.2.1.kd ky, ?_, lx⟩, T.2.2.1, ?_⟩
  · rw [es, T.2.1.row w (w.src ky).2 id (XU_src w ky l4.1)]
    exact ex
  · rw [T.2.1.int (c := 6) ky (by decide) (by simp)]
    exact l5
/-- a step on the UrlReader's ints -/
theorem Ld.int (A : Ac σ0 y q u) (L : Ld σ0 σ y q u xs U p) (k : Nat) (v : Int32) : Mod (XL σ0 y q u) σ0 (gsI σ 6 k y v) ∧ BK 0 σ0 (gsI σ 6 k y v) ∧ Rd (gsI σ 6 k y v) y xs ∧ Ur (gsI σ 6 k y v) u U := by
  obtain ⟨l1, l2, ⟨w, ky, ex, lx⟩, l4, l5⟩ := L
  obtain ⟨m1, m2, m3⟩ := int_upd (c := 6) (k := k) (a := y) (v := v) w (by decide)
  refine ⟨l1.trans (m2.mono (fun _ _ _ _ h => Or.inr (Or.inl ⟨h.1, h.2.1, h.2.2.2⟩))), l2.trans m3, ⟨m1, ky, ?_, lx⟩, (l4.mod w m2 (by simp) (by simp) (by simp) (by simp) (by simp) (by simp) (by simp)).1⟩
  rw [show tg (gsI σ 6 k y v) 6 0 y = tg σ 6 0 y from rfl, m2.row w (w.src ky).2 id (by simp)]
  exact ex
theorem Ld.pos (A : Ac σ0 y q u) (L : Ld σ0 σ y q u xs U p) (n : Nat) : Ld σ0 (gsI σ 6 1 y (nI n)) y q u xs U n := by
  obtain ⟨m1, m2, m3, m4⟩ := L.int A 1 (nI n)
  exact ⟨m1, m2, m3, m4, by rw [qI_ii, if_pos ⟨rfl, rfl, rfl⟩]⟩
theorem Ld.oth (A : Ac σ0 y q u) (L : Ld σ0 σ y q u xs U p) {k : Nat} (hk : k ≠ 1) (v : Int32) : Ld σ0 (gsI σ 6 k y v) y q u xs U p := by
  obtain ⟨m1, m2, m3, m4⟩ := L.int A k v
  exact ⟨m1, m2, m3, m4, by rw [qI_ii, if_neg (fun z => hk z.2.1.symm)]; exact L.2.2.2.2⟩
/-- another Url stays -/
theorem Ld.base (A : Ac σ0 y q u) (L : Ld σ0 σ y q u xs U p) (hB : Ur σ0 b B) (hne : b ≠ u) : Ur σ b B := by
  obtain ⟨h0, hy, hq, hu, -⟩ := A
  obtain ⟨n1, n2, n3⟩ := h0.hne hu hB.1 hne
  obtain ⟨s1, s2⟩ := h0.snu hy hB.1
  obtain ⟨g1, g2, -⟩ := h0.uhost hB.1
  have q1 : ∀ k, ftk 5 k = 5 → tg σ0 5 k b ≠ tg σ0 3 0 q := fun k hk => h0.ne (c := 5) (c' := 3) hB.1 id (by decide) (rk hk).1 (rk hk).2.1 hq id (by decide) (by decide) rfl (fun z => absurd z.1 (by decide))
  have q2 : hW σ0 b ≠ tg σ0 3 0 q := h0.ne (c := 2) (k := 1) (c' := 3) g2 id (by decide) (by decide) rfl hq id (by decide) (by decide) rfl (fun z => absurd z.1 (by decide))
  refine (hB.mod h0 L.1 (fun k hk z => ?_) (fun z => ?_) (fun k z => ?_) (by simp) (by simp) (fun z => ?_) (fun z => ?_)).1
  · rcases z with (⟨-, j, hj, e⟩ | ⟨e, -⟩ | (⟨e, -⟩ | ⟨e, -⟩) | ⟨-, e⟩) | ⟨e, -⟩ | ⟨-, e⟩ | (⟨e, -⟩ | ⟨e, -⟩) | ⟨-, e⟩
    · exact h0.une hu hB.1 hk hj (fun q => hne q.2) e
    · exact absurd e (by decide)
    · exact absurd e (by decide)
    · exact absurd e (by decide)
    · exact h0.unh hu hB.1 hk e
    · exact absurd e (by decide)
    · exact s1 k hk e.symm
    · exact absurd e (by decide)
    · exact absurd e (by decide)
    · exact q1 k hk e
  · rcases z with (⟨-, j, hj, e⟩ | ⟨e, -⟩ | (⟨e, -⟩ | ⟨e, -⟩) | ⟨-, e⟩) | ⟨e, -⟩ | ⟨-, e⟩ | (⟨e, -⟩ | ⟨e, -⟩) | ⟨-, e⟩
    · exact h0.unh hB.1 hu hj e.symm
    · exact absurd e (by decide)
    · exact absurd e (by decide)
    · exact absurd e (by decide)
    · exact n3 e
    · exact absurd e (by decide)
    · exact s2 e.symm
    · exact absurd e (by decide)
    · exact absurd e (by decide)
    · exact q2 e
  · have : b = u := by simpa [XL, XU, XH, XA, XP] using z
    exact hne this
  · have : hA σ0 b = hA σ0 u := by simpa [XL, XU, XH, XA, XP] using z
    exact n2 this
  · have : hA σ0 b = hA σ0 u := by simpa [XL, XU, XH, XA, XP] using z
    exact n2 this
variable {β : Type} {P : β → gS → Prop}
theorem ld_wp {K : Unit → gM β} {n : Nat} (A : Ac σ0 y q u) (L : Ld σ0 σ y q u xs U p) (hQ : ∀ σ', Ld σ0 σ' y q u xs U n → wp (K ()) σ' P) : wp (gb (wI 6 1 (some y) (nI n)) K) σ P := wp_b (wp_wI L.2.2.1.2.1 (hQ _ (L.pos A n)))
theorem ld_rh {K : Int32 → gM β} (L : Ld σ0 σ y q u xs U p) (hQ : wp (K (nI p)) σ P) : wp (gb (rI 6 1 (some y)) K) σ P := by
  refine wp_b (wp_rI L.2.2.1.2.1 ?_)
  rw [L.2.2.2.2]
  exact hQ
theorem ld_op {K : Unit → gM β} {m : Option Nat → gM Unit} {k : Nat} {ys : List Int32} (A : Ac σ0 y q u) (L : Ld σ0 σ y q u xs U p) (hk : ftk 5 k = 5) (hm : ∀ Q : Unit → gS → Prop, (∀ σ', RowTo (fun _ => False) σ σ' (tg σ 5 k u) ys → Q () σ') → wp (m (some (tg σ 5 k u))) σ Q) (hQ : ∀ σ', Ld σ0 σ' y q u xs (vR U k ys) p → wp (K ()) σ' P) : wp (gb (nn 4 (some (tg σ 5 k u))) fun _ => gb (m (some (tg σ 5 k u))) K) σ P :=
  wp_b (wp_nn (L.2.2.1.1.urow L.2.2.2.1.1 hk).2 (wp_b (hm _ (fun σ' R => hQ σ' (L.url A (UrTo.row L.2.2.1.1 L.2.2.2.1 hk R))))))
theorem ld_esc {K : Unit → gM β} {k t : Nat} {v : Int32} (A : Ac σ0 y q u) (L : Ld σ0 σ y q u xs U p) (hk : ftk 5 k = 5) (ht : t < 24) (hl : (uR U k).length + 3 ≤ 4096) (hQ : ∀ σ', Ld σ0 σ' y q u xs (vR U k (uR U k ++ esc v t)) p → wp (K ()) σ' P) : wp (gb (nn 4 (some (tg σ 5 k u))) fun _ => gb (f_X5_addEscaped (some (tg σ 5 k u)) v t) K) σ P := by
  have e := L.2.2.2.1.2.1 k hk
  exact ld_op (m := fun r => f_X5_addEscaped r v t) A L hk (fun _ hR => sp_addEscaped L.2.2.1.1 (L.2.2.1.1.urow L.2.2.2.1.1 hk).2 id ht (by rw [e]; exact hl) (L.2.1 0 A.2.2.2.2) (fun σ' R => hR σ' (by rw [e] at R; exact R))) hQ
theorem esc_len (b : Int32) (t : Nat) : (esc b t).length ≤ 3 ∧ 1 ≤ (esc b t).length := by
  unfold esc
  split <;> simp
/-- the USER and the PASSWORD -/
def usL (xs : List Int32) : Nat → Nat → Bool → UV → UV
  | 0, _, _, U => U
  | m + 1, i, ip, U => if xs.getD i (-1) = 58 ∧ ip = false then usL xs m (i + 1) true U else if ip = false then usL xs m (i + 1) ip (vR U 2 (uR U 2 ++ esc (xs.getD i (-1)) 6)) else usL xs m (i + 1) ip (vR U 3 (uR U 3 ++ esc (xs.getD i (-1)) 6))
theorem sp_readUserL {e : Nat} {Q : Unit → gS → Prop} (A : Ac σ0 y q u) (he : e ≤ xs.length) : ∀ (m i : Nat) (ip : Bool) (f : Nat) (U : UV) (σ : gS), i + m = e → m < f → Ld σ0 σ y q u xs U p → (uR U 2).length + 3 * m ≤ 4096 → (uR U 3).length + 3 * m ≤ 4096 → (∀ σ', Ld σ0 σ' y q u xs (usL xs m i ip U) p → Q () σ') → wp (f_X7_readUser_L6 f (some y) (nI e) (some u) (b2i ip) (nI i)) σ Q := by
  intro m
  induction m with
  | zero =>
    intro i ip f U σ hi hf L h2 h3 hQ
    have hl := L.2.2.1.2.2.2
    obtain ⟨f, rfl⟩ : ∃ g, f = g + 1 := ⟨f - 1, by omega⟩
    rw [f_X7_readUser_L6]
    unfold f_X7_readUser_6
    exact wp_t (nI_le (by omega) (by omega)) (wp_p (hQ σ L))
  | succ m ih =>
    intro i ip f U σ hi hf L h2 h3 hQ
    have hl := L.2.2.1.2.2.2
    obtain ⟨f, rfl⟩ : ∃ g, f = g + 1 := ⟨f - 1, by omega⟩
    rw [f_X7_readUser_L6]
    unfold f_X7_readUser_6 f_X7_readUser_41 f_X7_readUser_57
    rw [usL] at hQ
    have hE := esc_len (xs.getD i (-1)) 6
    rw [nI_1]
    refine wp_f (nI_ge (by omega) (by omega)) (L.2.2.1.b (by omega) ?_)
    cases ip with
    | false =>
      refine wp_if (fun c => ?_) (fun c => ?_)
      · rw [if_pos ⟨c, rfl⟩] at hQ
        exact wp_t rfl (ih (i + 1) true f U σ (by omega) (by omega) L (by omega) (by omega) hQ)
      · rw [if_neg (fun z => c z.1), if_pos rfl] at hQ
        refine wp_t rfl (L.2.2.2.1.rd L.2.2.1.1 (by decide) (ld_esc A L (by decide) (by omega) (by omega) (fun σ1 L1 => ?_)))
        refine ih (i + 1) false f _ σ1 (by omega) (by omega) L1 ?_ ?_ hQ
        · rw [uR_R, if_pos rfl, List.length_append]; omega
        · rw [uR_R, if_neg (by decide)]; omega
    | true =>
      rw [if_neg (fun z => absurd z.2 (by decide)), if_neg (by decide)] at hQ
      have st : wp (gb (rR 5 3 (some u)) fun v2 => gb (nn 4 v2) fun _ => gb (f_X5_addEscaped v2 (xs.getD i (-1)) 6) fun _ => f_X7_readUser_L6 f (some y) (nI e) (some u) (b2i true) (nI (i + 1))) σ Q := by
        refine L.2.2.2.1.rd L.2.2.1.1 (by decide) (ld_esc A L (by decide) (by omega) (by omega) (fun σ1 L1 => ?_))
        refine ih (i + 1) true f _ σ1 (by omega) (by omega) L1 ?_ ?_ hQ
        · rw [uR_R, if_neg (by decide)]; omega
        · rw [uR_R, if_pos rfl, List.length_append]; omega
      exact wp_if (fun c => wp_f (by decide) (wp_f (by decide) st)) (fun c => wp_f (by decide) st)
end LD
