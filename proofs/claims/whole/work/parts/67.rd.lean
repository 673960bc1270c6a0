/-! URLREADER: what it reads of its source -/
theorem bAt_g {xs : List Int32} {i : Nat} (hi : i < 2 ^ 31) (hl : xs.length ≤ 4096) : bAt xs (nI i) = xs.getD i (-1) := by
  rcases Nat.lt_or_ge i xs.length with h | h
  · rw [bAt_nI h (by omega), List.getD_eq_getElem?_getD, List.getD_eq_getElem?_getD, List.getElem?_eq_getElem h]
    rfl
  · rw [bAt_out h hi, List.getD_eq_getElem?_getD, List.getElem?_eq_none h]
    rfl
theorem gd0 {xs : List Int32} {i : Nat} (h : i < xs.length) : xs.getD i (-1) = xs.getD i 0 := by
  rw [List.getD_eq_getElem?_getD, List.getD_eq_getElem?_getD, List.getElem?_eq_getElem h]
  rfl
/-- UrlReader y, its source xs -/
def Rd (σ : gS) (y : Nat) (xs : List Int32) : Prop := WF σ ∧ gkd σ y = 7 ∧ rowL σ (tg σ 6 0 y) = xs ∧ xs.length ≤ 4096
theorem WFx.src {σ : gS} {y : Nat} (h : WF σ) (hy : gkd σ y = 7) : grr σ 6 0 y = some (tg σ 6 0 y) ∧ gkd σ (tg σ 6 0 y) = 5 := by
  obtain ⟨h1, h2, -⟩ := h.fld (c := 6) (k := 0) hy id (by decide) (by decide) rfl
  exact ⟨h1, h2⟩
section RD
variable {σ : gS} {y : Nat} {xs : List Int32} {β : Type} {P : β → gS → Prop}
theorem Rd.b {K : Int32 → gM β} {i : Nat} (R : Rd σ y xs) (hi : i < 2 ^ 31) (h : wp (K (xs.getD i (-1))) σ P) : wp (gb (rR 6 0 (some y)) fun v => gb (nn 4 v) fun _ => gb (f_X5_byteAt v (nI i)) K) σ P := by
  obtain ⟨g1, g2⟩ := R.1.src R.2.1
  refine wp_b (wp_rR R.2.1 ?_)
  rw [g1]
  refine wp_b (wp_nn g2 (wp_b (sp_byteAt R.1 g2 id ?_)))
  rw [R.2.2.1, bAt_g hi R.2.2.2]
  exact h
theorem Rd.l {K : Int32 → gM β} (R : Rd σ y xs) (h : wp (K (nI xs.length)) σ P) : wp (gb (rR 6 0 (some y)) fun v => gb (rI 4 1 v) K) σ P := by
  obtain ⟨g1, g2⟩ := R.1.src R.2.1
  refine wp_b (wp_rR R.2.1 ?_)
  rw [g1]
  refine wp_b (wp_rI g2 ?_)
  rw [(R.1.row g2 id).2.2.1, ← rowL_len, R.2.2.1]
  exact h
theorem Rd.bh {K : Int32 → gM β} {i : Nat} (R : Rd σ y xs) (hp : gii σ 6 1 y = nI i) (hi : i < 2 ^ 31) (h : wp (K (xs.getD i (-1))) σ P) : wp (gb (rR 6 0 (some y)) fun v => gb (rI 6 1 (some y)) fun v2 => gb (nn 4 v) fun _ => gb (f_X5_byteAt v v2) K) σ P := by
  obtain ⟨g1, g2⟩ := R.1.src R.2.1
  refine wp_b (wp_rR R.2.1 ?_)
  rw [g1]
  refine wp_b (wp_rI R.2.1 ?_)
  rw [hp]
  refine wp_b (wp_nn g2 (wp_b (sp_byteAt R.1 g2 id ?_)))
  rw [R.2.2.1, bAt_g hi R.2.2.2]
  exact h
theorem Rd.has {K : Int32 → gM β} {i t : Nat} (R : Rd σ y xs) (ht : t < 24) (h : wp (K (b2i (hasS xs i (tstr t)))) σ P) : wp (gb (rR 6 0 (some y)) fun v => gb (nn 4 v) fun _ => gb (f_X5_hasAt v (nI i) t) K) σ P := by
  obtain ⟨g1, g2⟩ := R.1.src R.2.1
  refine wp_b (wp_rR R.2.1 ?_)
  rw [g1]
  refine wp_b (wp_nn g2 (wp_b (sp_hasAt R.1 g2 id ht ?_)))
  rw [R.2.2.1]
  exact h
variable {Q : Int32 → gS → Prop}
def pMay (b : Int32) : Int32 := if pLet b = 0 then (if pDig b = 0 then (if b = 43 then 1 else if b = 45 then 1 else if b = 46 then 1 else 0) else 1) else 1
theorem sp_mayBe {b : Int32} (hQ : Q (pMay b) σ) : wp (f_X7_mayBeInScheme b) σ Q := by
  unfold f_X7_mayBeInScheme
  unfold pMay at hQ
  refine wp_b (sp_isLetter (wp_if (fun c => ?_) (fun c => ?_)))
  · rw [if_pos c] at hQ
    refine wp_b (sp_isDigit (wp_if (fun d => ?_) (fun d => ?_)))
    · rw [if_pos d] at hQ
      repeat' (first | exact wp_z0 hQ | exact wp_z1 hQ | exact wp_p hQ | (refine wp_if (fun c => ?_) (fun c => ?_) <;> (first | rw [if_pos c] at hQ | rw [if_neg c] at hQ)))
    · rw [if_neg d] at hQ
      exact wp_z1 hQ
  · rw [if_neg c] at hQ
    exact wp_z1 hQ
def scS (xs : List Int32) : Nat → Nat → Nat
  | 0, i => i
  | m + 1, i => if pMay (xs.getD i (-1)) = 0 then i else scS xs m (i + 1)
/-- where the : behind a scheme is -/
def schE (xs : List Int32) : Option Nat := if pLet (xs.getD 0 (-1)) = 0 then none else if xs.getD (scS xs (xs.length - 1) 1) (-1) = 58 then some (scS xs (xs.length - 1) 1) else none
theorem scS_le (xs : List Int32) : ∀ m i, i ≤ scS xs m i ∧ scS xs m i ≤ i + m
  | 0, i => by simp [scS]
  | m + 1, i => by
    have := scS_le xs m (i + 1)
    rw [scS]
    split <;> omega
def oI : Option Nat → Int32
  | none => -1
  | some n => nI n
theorem sp_schEL (R : Rd σ y xs) : ∀ (m i f : Nat), i + m = xs.length → m < f → Q (if xs.getD (scS xs m i) (-1) = 58 then nI (scS xs m i) else -1) σ → wp (f_X7_schemeEnd_L18 f (some y) (nI i)) σ Q := by
  have hl := R.2.2.2
  intro m
  induction m with
  | zero =>
    intro i f hi hf hQ
    obtain ⟨f, rfl⟩ : ∃ g, f = g + 1 := ⟨f - 1, by omega⟩
    rw [f_X7_schemeEnd_L18]
    unfold f_X7_schemeEnd_18 f_X7_schemeEnd_49
    refine R.l (wp_t (nI_le (by omega) (by omega)) (R.b (by omega) ?_))
    rw [scS] at hQ
    repeat' (first | exact wp_z0 hQ | exact wp_z1 hQ | exact wp_p hQ | (refine wp_if (fun c => ?_) (fun c => ?_) <;> (first | rw [if_pos c] at hQ | rw [if_neg c] at hQ)))
  | succ m ih =>
    intro i f hi hf hQ
    obtain ⟨f, rfl⟩ : ∃ g, f = g + 1 := ⟨f - 1, by omega⟩
    rw [f_X7_schemeEnd_L18]
    unfold f_X7_schemeEnd_18 f_X7_schemeEnd_49
    rw [scS] at hQ
    refine R.l (wp_f (nI_ge (by omega) (by omega)) (R.b (by omega) (wp_b (sp_mayBe (wp_if (fun c => ?_) (fun c => ?_))))))
    · rw [if_pos c] at hQ
      refine R.b (by omega) ?_
      repeat' (first | exact wp_z0 hQ | exact wp_z1 hQ | exact wp_p hQ | (refine wp_if (fun c => ?_) (fun c => ?_) <;> (first | rw [if_pos c] at hQ | rw [if_neg c] at hQ)))
    · rw [if_neg c] at hQ
      rw [nI_1]
      exact ih (i + 1) f (by omega) (by omega) hQ
theorem sp_schE (R : Rd σ y xs) (hQ : Q (oI (schE xs)) σ) : wp (f_X7_schemeEnd (some y)) σ Q := by
  have hl := R.2.2.2
  unfold f_X7_schemeEnd
  unfold schE at hQ
  refine R.b (i := 0) (by omega) (wp_b (sp_isLetter (wp_if (fun c => ?_) (fun c => ?_))))
  · rw [if_pos c] at hQ
    exact wp_p hQ
  · rw [if_neg c] at hQ
    have h1 : 0 < xs.length := by
      rcases Nat.eq_zero_or_pos xs.length with z | z
      · rw [List.length_eq_zero_iff.mp z] at c
        exact absurd rfl c
      · exact z
    refine sp_schEL R (xs.length - 1) 1 gF (by omega) (by show _ < 10000; omega) ?_
    split <;> rename_i d
    · rw [if_pos d] at hQ
      exact hQ
    · rw [if_neg d] at hQ
      exact hQ
/-- whether what stands before place e is the word, in small letters -/
def isW (xs : List Int32) (e t : Nat) : Bool := decide ((xs.take e).map pLow = tstr t)
theorem map_drop {xs : List Int32} {e i : Nat} (hi : i < e) (he : e ≤ xs.length) : ((xs.take e).map pLow).drop i = pLow (xs.getD i (-1)) :: ((xs.take e).map pLow).drop (i + 1) := by
  have hl : i < ((xs.take e).map pLow).length := by simp; omega
  rw [List.drop_eq_getElem_cons hl]
  congr 1
  rw [List.getElem_map, List.getElem_take, List.getD_eq_getElem?_getD, List.getElem?_eq_getElem (by omega)]
  rfl
theorem sp_isWL {t : Nat} (R : Rd σ y xs) (ht : t < 24) (he : (tstr t).length ≤ xs.length) : ∀ (m i f : Nat), i + m = (tstr t).length → m < f → Q (b2i (decide (((xs.take (tstr t).length).map pLow).drop i = (tstr t).drop i))) σ → wp (f_X7_isWord_L12 f (some y) t (nI i)) σ Q := by
  have hl := R.2.2.2
  obtain ⟨-, t2, -⟩ := tstr_ok t ht
  intro m
  induction m with
  | zero =>
    intro i f hi hf hQ
    obtain ⟨f, rfl⟩ : ∃ g, f = g + 1 := ⟨f - 1, by omega⟩
    rw [f_X7_isWord_L12]
    unfold f_X7_isWord_12
    refine wp_b (wp_tk ht (wp_b (sp_len ht (wp_t (nI_le (by omega) (by omega)) ?_))))
    rw [List.drop_eq_nil_of_le (by simp; omega), List.drop_eq_nil_of_le (by omega), b2i_t (by simp)] at hQ
    exact wp_z1 hQ
  | succ m ih =>
    intro i f hi hf hQ
    obtain ⟨f, rfl⟩ : ∃ g, f = g + 1 := ⟨f - 1, by omega⟩
    rw [f_X7_isWord_L12]
    unfold f_X7_isWord_12
    refine wp_b (wp_tk ht (wp_b (sp_len ht (wp_f (nI_ge (by omega) (by omega)) (R.b (by omega) (wp_b (sp_low (wp_b (wp_tk ht (wp_b (sp_chr ht (by omega) ?_)))))))))))
    rw [map_drop (by omega) he, getD_drop (xs := tstr t) (by omega)] at hQ
    refine wp_if (fun c => ?_) (fun c => ?_)
    · rw [nI_1]
      refine ih (i + 1) f (by omega) (by omega) ?_
      rw [c] at hQ
      simp only [List.cons.injEq, true_and] at hQ
      exact hQ
    · rw [b2i_f (decide_eq_false (fun z => c (List.cons.inj z).1))] at hQ
      exact wp_z0 hQ
theorem sp_isW {t e : Nat} (R : Rd σ y xs) (ht : t < 24) (he : e ≤ xs.length) (hQ : Q (b2i (isW xs e t)) σ) : wp (f_X7_isWord (some y) (nI e) t) σ Q := by
  have hl := R.2.2.2
  obtain ⟨-, t2, -⟩ := tstr_ok t ht
  unfold f_X7_isWord
  refine wp_b (wp_tk ht (wp_b (sp_len ht (wp_if (fun c => ?_) (fun c => ?_)))))
  · have c := (nI_eq (by omega) (by omega)).mp c
    subst c
    exact sp_isWL R ht he _ 0 gF (Nat.zero_add _) (by show _ < 10000; omega) hQ
  · have c : ¬ e = (tstr t).length := fun z => c (by rw [z])
    rw [isW, b2i_f (decide_eq_false (fun z => c (by rw [← z]; simp; omega)))] at hQ
    exact wp_z0 hQ
def schU (xs : List Int32) (e : Nat) : Nat → Nat → Option Nat
  | 0, _ => none
  | m + 1, s => if isW xs e s = true then some s else schU xs e m (s + 1)
theorem sp_schUL {e : Nat} (R : Rd σ y xs) (he : e ≤ xs.length) : ∀ (m s f : Nat), s + m = 5 → m < f → Q (oI (schU xs e m s)) σ → wp (f_X7_schemeUpTo_L2 f (some y) (nI e) (nI s)) σ Q := by
  have sn : ∀ s, s < 5 → sNo (nI s) = s := by decide
  intro m
  induction m with
  | zero =>
    intro s f hi hf hQ
    obtain ⟨f, rfl⟩ : ∃ g, f = g + 1 := ⟨f - 1, by omega⟩
    rw [f_X7_schemeUpTo_L2]
    unfold f_X7_schemeUpTo_2
    exact wp_t (nI_le (a := 5) (by omega) (by omega)) (wp_p hQ)
  | succ m ih =>
    intro s f hi hf hQ
    obtain ⟨f, rfl⟩ : ∃ g, f = g + 1 := ⟨f - 1, by omega⟩
    rw [f_X7_schemeUpTo_L2]
    unfold f_X7_schemeUpTo_2
    rw [schU] at hQ
    refine wp_f (nI_ge (b := 5) (by omega) (by omega)) (wp_b (sp_nameOf (wp_b (wp_nn R.2.1 (wp_b ?_)))))
    rw [sn s (by omega)]
    refine sp_isW R (by omega) he ?_
    cases hc : isW xs e s with
    | true =>
      rw [hc, if_pos rfl] at hQ
      exact wp_f (by decide) (wp_p hQ)
    | false =>
      rw [hc, if_neg (by decide)] at hQ
      rw [nI_1]
      exact wp_t rfl (ih (s + 1) f (by omega) (by omega) hQ)
theorem sp_schU {e : Nat} (R : Rd σ y xs) (he : e ≤ xs.length) (hQ : Q (oI (schU xs e 5 0)) σ) : wp (f_X7_schemeUpTo (some y) (nI e)) σ Q := by
  unfold f_X7_schemeUpTo
  exact sp_schUL R he 5 0 gF rfl (by show 5 < 10000; omega) hQ
def heS (xs : List Int32) : Nat → Nat → Bool → Nat
  | 0, i, _ => i
  | m + 1, i, op => if xs.getD i (-1) = 58 ∧ op = false then i else heS xs m (i + 1) (decide (xs.getD i (-1) = 91) || (op && decide (xs.getD i (-1) ≠ 93)))
theorem heS_le (xs : List Int32) : ∀ m i op, i ≤ heS xs m i op ∧ heS xs m i op ≤ i + m
  | 0, i, op => by simp [heS]
  | m + 1, i, op => by
    have := heS_le xs m (i + 1) (decide (xs.getD i (-1) = 91) || (op && decide (xs.getD i (-1) ≠ 93)))
    rw [heS]
    split <;> omega
theorem sp_heS {b : Nat} (R : Rd σ y xs) (hb : b ≤ xs.length) : ∀ (m i : Nat) (op : Bool) (f : Nat), i + m = b → m < f → Q (nI (heS xs m i op)) σ → wp (f_X7_hostEndFrom_L5 f (some y) (nI b) (b2i op) (nI i)) σ Q := by
  have hl := R.2.2.2
  intro m
  induction m with
  | zero =>
    intro i op f hi hf hQ
    obtain ⟨f, rfl⟩ : ∃ g, f = g + 1 := ⟨f - 1, by omega⟩
    rw [f_X7_hostEndFrom_L5]
    unfold f_X7_hostEndFrom_5
    rw [heS, show i = b by omega] at hQ
    exact wp_t (nI_le (by omega) (by omega)) (wp_p hQ)
  | succ m ih =>
    intro i op f hi hf hQ
    obtain ⟨f, rfl⟩ : ∃ g, f = g + 1 := ⟨f - 1, by omega⟩
    rw [f_X7_hostEndFrom_L5]
    unfold f_X7_hostEndFrom_5
    rw [heS] at hQ
    refine wp_f (nI_ge (by omega) (by omega)) (R.b (by omega) ?_)
    have on : ¬ (xs.getD i (-1) = 58 ∧ op = false) → wp (f_X7_hostEndFrom_36 (f_X7_hostEndFrom_L5 f) (some y) (nI b) (b2i op) (nI i) (xs.getD i (-1))) σ Q := by
      intro hc
      rw [if_neg hc] at hQ
      unfold f_X7_hostEndFrom_36
      rw [nI_1]
      refine wp_if (fun d => ?_) (fun d => ?_)
      · rw [decide_eq_true d, Bool.true_or] at hQ
        exact ih (i + 1) true f (by omega) (by omega) hQ
      · rw [decide_eq_false d, Bool.false_or] at hQ
        cases op with
        | false =>
          rw [Bool.false_and] at hQ
          exact wp_t rfl (ih (i + 1) false f (by omega) (by omega) hQ)
        | true =>
          rw [Bool.true_and] at hQ
          refine wp_f (by decide) (wp_if (fun e => ?_) (fun e => ?_))
          · rw [decide_eq_false (fun z => z e)] at hQ
            exact ih (i + 1) false f (by omega) (by omega) hQ
          · rw [decide_eq_true e] at hQ
            exact ih (i + 1) true f (by omega) (by omega) hQ
    refine wp_if (fun c => ?_) (fun c => on (fun z => c z.1))
    cases op with
    | false =>
      rw [if_pos ⟨c, rfl⟩] at hQ
      exact wp_t rfl (wp_p hQ)
    | true => exact wp_f (by decide) (on (fun z => absurd z.2 (by decide)))
/-- . and .. , written in any way: how many points so far, from place i to b -/
def ptS (xs : List Int32) (b : Nat) : Nat → Nat → Nat → Nat
  | 0, _, _ => 0
  | f + 1, n, i => if b ≤ i then (if n ≤ 2 then n else 0) else if xs.getD i (-1) = 46 then ptS xs b f (n + 1) (i + 1) else if b < i + 3 then 0 else if hasS xs i (tstr 13) = true ∨ hasS xs i (tstr 14) = true then ptS xs b f (n + 1) (i + 3) else 0
theorem sp_ptS {b : Nat} (R : Rd σ y xs) (hb : b ≤ xs.length) : ∀ (f n i : Nat), b - i < f → n ≤ i → i ≤ b → Q (nI (ptS xs b f n i)) σ → wp (f_X7_pointsIn_L5 f (some y) (nI b) (nI n) (nI i)) σ Q := by
  have hl := R.2.2.2
  intro f
  induction f with
  | zero => intro n i h; omega
  | succ f ih =>
    intro n i hf hn hi hQ
    rw [f_X7_pointsIn_L5]
    unfold f_X7_pointsIn_5
    rw [ptS] at hQ
    rw [nI_1, nI_1, show nI i + 3 = nI (i + 3) from nI_add i 3]
    refine wp_if (fun c => ?_) (fun c => ?_)
    · have c := (nI_leI (by omega) (by omega)).mp c
      rw [if_pos c] at hQ
      refine wp_if (fun d => ?_) (fun d => ?_)
      · have d := (nI_leI (b := 2) (by omega) (by omega)).mp d
        rw [if_pos d] at hQ
        exact wp_p hQ
      · have d : ¬ n ≤ 2 := fun z => d (nI_le (b := 2) z (by omega))
        rw [if_neg d] at hQ
        exact wp_p hQ
    · have c : ¬ b ≤ i := fun z => c (nI_le z (by omega))
      rw [if_neg c] at hQ
      refine R.b (by omega) (wp_if (fun d => ?_) (fun d => ?_))
      · rw [if_pos d] at hQ
        exact ih (n + 1) (i + 1) (by omega) (by omega) (by omega) hQ
      · rw [if_neg d] at hQ
        refine wp_if (fun e => ?_) (fun e => ?_)
        · have e := (nI_ltI (by omega) (by omega)).mp e
          rw [if_pos e] at hQ
          exact wp_p hQ
        · have e : ¬ b < i + 3 := fun z => e (nI_lt z (by omega))
          rw [if_neg e] at hQ
          refine R.has (by omega) ?_
          cases h13 : hasS xs i (tstr 13) with
          | true =>
            rw [if_pos (Or.inl h13)] at hQ
            exact wp_f (by decide) (ih (n + 1) (i + 3) (by omega) (by omega) (by omega) hQ)
          | false =>
            refine wp_t rfl (R.has (by omega) ?_)
            cases h14 : hasS xs i (tstr 14) with
            | true =>
              rw [if_pos (Or.inr h14)] at hQ
              exact wp_f (by decide) (ih (n + 1) (i + 3) (by omega) (by omega) (by omega) hQ)
            | false =>
              rw [if_neg (fun z => by rw [h13, h14] at z; simp at z)] at hQ
              exact wp_t rfl (wp_p hQ)
end RD
