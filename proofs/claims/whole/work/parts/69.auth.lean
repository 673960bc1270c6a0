/-! URLREADER: the authority -/
theorem vR_vR (U : UV) (k : Nat) (a b : List Int32) : vR (vR U k a) k b = vR U k b := by
  unfold vR
  congr 1
  funext j
  show (if j = k then b else if j = k then a else uR U j) = if j = k then b else uR U j
  split <;> rfl
theorem vR_id (U : UV) (k : Nat) : vR U k (uR U k) = U := by
  unfold vR
  have : (fun j => if j = k then uR U k else uR U j) = uR U := by
    funext j
    split
    · rename_i h; rw [h]
    · rfl
  rw [this]
  rfl
def slS (xs : List Int32) : Nat → Nat → Nat
  | 0, i => i
  | m + 1, i => if pSla (xs.getD i (-1)) = 0 then i else slS xs m (i + 1)
theorem slS_le (xs : List Int32) : ∀ m i, i ≤ slS xs m i ∧ slS xs m i ≤ i + m
  | 0, i => by simp [slS]
  | m + 1, i => by
    have := slS_le xs m (i + 1)
    rw [slS]
    split <;> omega
def dvS (xs : List Int32) : Nat → Nat → Nat
  | 0, i => i
  | m + 1, i => if pDiv (xs.getD i (-1)) = 0 then dvS xs m (i + 1) else i
theorem dvS_le (xs : List Int32) : ∀ m i, i ≤ dvS xs m i ∧ dvS xs m i ≤ i + m
  | 0, i => by simp [dvS]
  | m + 1, i => by
    have := dvS_le xs m (i + 1)
    rw [dvS]
    split <;> omega
def atS (xs : List Int32) (a : Nat) : Nat → Option Nat
  | 0 => none
  | n + 1 => if n < a then none else if xs.getD n (-1) = 64 then some n else atS xs a n
theorem atS_le (xs : List Int32) (a : Nat) : ∀ n s, atS xs a n = some s → a ≤ s ∧ s < n
  | 0, s, h => by cases h
  | n + 1, s, h => by
    rw [atS] at h
    by_cases c : n < a
    · rw [if_pos c] at h; cases h
    · rw [if_neg c] at h
      by_cases d : xs.getD n (-1) = 64
      · rw [if_pos d] at h
        cases h
        omega
      · rw [if_neg d] at h
        have := atS_le xs a n s h
        omega
def auF (xs : List Int32) (p : Nat) : Nat := slS xs (xs.length - p) p
def auE (xs : List Int32) (p : Nat) : Nat := dvS xs (xs.length - auF xs p) (auF xs p)
/-- the record with its USER, where its HOST begins -/
def auU (xs : List Int32) (p : Nat) (U : UV) : UV × Nat := match atS xs (auF xs p) (auE xs p) with
  | none => (U, auF xs p)
  | some s => (usL xs (s - auF xs p) (auF xs p) false U, s + 1)
section AU
variable {σ0 : gS} {y q u p : Nat} {xs : List Int32} {U : UV} {Q : Int32 → gS → Prop}
theorem sp_au124 {σ : gS} {a e : Nat} (A : Ac σ0 y q u) (L : Ld σ0 σ y q u xs U e) (hae : a ≤ e) (he : e ≤ xs.length) (h0 : ∀ σ', Ld σ0 σ' y q u xs U e → heS xs (e - a) a false = a → Q (-13) σ') (h1 : ∀ σ', Ld σ0 σ' y q u xs U e → gii σ' 6 2 y = nI a → gii σ' 6 3 y = nI (heS xs (e - a) a false) → heS xs (e - a) a false ≠ a → Q 3 σ') : wp (f_X7_readAuthority_124 (some y) (nI a) (nI e)) σ Q := by
  have hl := L.2.2.1.2.2.2
  obtain ⟨l1, l2⟩ := heS_le xs (e - a) a false
  unfold f_X7_readAuthority_124
  refine wp_b (wp_wI L.2.2.1.2.1 ?_)
  have L1 := L.oth A (k := 2) (by decide) (nI a)
  refine wp_b (wp_nn L1.2.2.1.2.1 (wp_b ?_))
  unfold f_X7_hostEndFrom
  refine sp_heS L1.2.2.1 he (e - a) a false gF (by omega) (by show _ < 10000; omega) ?_
  generalize heS xs (e - a) a false = g at *
  refine wp_b (wp_wI L1.2.2.1.2.1 ?_)
  have L2 := L1.oth A (k := 3) (by decide) (nI g)
  have e3 : gii (gsI (gsI σ 6 2 y (nI a)) 6 3 y (nI g)) 6 3 y = nI g := by rw [qI_ii, if_pos ⟨rfl, rfl, rfl⟩]
  have e2 : gii (gsI (gsI σ 6 2 y (nI a)) 6 3 y (nI g)) 6 2 y = nI a := by rw [qI_ii, if_neg (by simp), qI_ii, if_pos ⟨rfl, rfl, rfl⟩]
  refine wp_b (wp_rI L2.2.2.1.2.1 ?_)
  rw [e3]
  refine wp_b (wp_rI L2.2.2.1.2.1 ?_)
  rw [e2]
  refine wp_if (fun c => ?_) (fun c => ?_)
  · exact wp_p (h0 _ L2 ((nI_eq (by omega) (by omega)).mp c))
  · exact wp_p (h1 _ L2 e2 e3 (fun z => c (by rw [z])))
theorem sp_au79 {a e : Nat} (A : Ac σ0 y q u) (hae : a ≤ e) (he : e ≤ xs.length) (h2 : (uR U 2).length + 3 * (e - a) ≤ 4096) (h3 : (uR U 3).length + 3 * (e - a) ≤ 4096) {σ : gS} (L : Ld σ0 σ y q u xs U e) (k0 : ∀ V c σ', (match atS xs a e with | none => (U, a) | some s => (usL xs (s - a) a false U, s + 1)) = (V, c) → Ld σ0 σ' y q u xs V e → heS xs (e - c) c false = c → Q (-13) σ') (k1 : ∀ V c σ', (match atS xs a e with | none => (U, a) | some s => (usL xs (s - a) a false U, s + 1)) = (V, c) → Ld σ0 σ' y q u xs V e → gii σ' 6 2 y = nI c → gii σ' 6 3 y = nI (heS xs (e - c) c false) → heS xs (e - c) c false ≠ c → Q 3 σ') : wp (f_X7_readAuthority_L79 gF (some y) (some u) (nI a) (nI e) (nI e - 1)) σ Q := by
  have hl := L.2.2.1.2.2.2
  have key : ∀ (n f : Nat), n ≤ e → n < f → atS xs a n = atS xs a e → wp (f_X7_readAuthority_L79 f (some y) (some u) (nI a) (nI e) (nI n + (-1))) σ Q := by
    intro n
    induction n with
    | zero =>
      intro f hn hf hat
      obtain ⟨f, rfl⟩ : ∃ g, f = g + 1 := ⟨f - 1, by omega⟩
      rw [f_X7_readAuthority_L79]
      unfold f_X7_readAuthority_79 f_X7_readAuthority_105
      have lt : nI 0 + (-1) < nI a := Int32.lt_of_lt_of_le (by decide : nI 0 + (-1) < 0) (nI_pos' (by omega))
      refine wp_t lt (wp_t lt ?_)
      rw [← hat] at k0 k1
      exact sp_au124 A L hae he (fun σ' L' z => k0 _ _ σ' rfl L' z) (fun σ' L' z1 z2 z3 => k1 _ _ σ' rfl L' z1 z2 z3)
    | succ n ih =>
      intro f hn hf hat
      obtain ⟨f, rfl⟩ : ∃ g, f = g + 1 := ⟨f - 1, by omega⟩
      rw [f_X7_readAuthority_L79]
      rw [pk_m1]
      unfold f_X7_readAuthority_79 f_X7_readAuthority_105
      rw [atS] at hat
      refine wp_if (fun c => ?_) (fun c => ?_)
      · have c' := (nI_ltI (by omega) (by omega)).mp c
        rw [if_pos c'] at hat
        rw [← hat] at k0 k1
        exact wp_t c (sp_au124 A L hae he (fun σ' L' z => k0 _ _ σ' rfl L' z) (fun σ' L' z1 z2 z3 => k1 _ _ σ' rfl L' z1 z2 z3))
      · have c' : ¬ n < a := fun z => c (nI_lt z (by omega))
        rw [if_neg c'] at hat
        refine L.2.2.1.b (by omega) (wp_if (fun d => ?_) (fun d => ?_))
        · rw [if_pos d] at hat
          rw [← hat] at k0 k1
          dsimp only at k0 k1
          refine wp_f c (wp_b (wp_nn L.2.2.1.2.1 (wp_b ?_)))
          unfold f_X7_readUser
          refine sp_readUserL A (by omega : n ≤ xs.length) (n - a) a false gF U σ (by omega) (by show _ < 10000; omega) L (by omega) (by omega) (fun σ1 L1 => ?_)
          rw [nI_1]
          exact sp_au124 A L1 (by omega) he (fun σ' L' z => k0 _ _ σ' rfl L' z) (fun σ' L' z1 z2 z3 => k1 _ _ σ' rfl L' z1 z2 z3)
        · rw [if_neg d] at hat
          exact ih f (by omega) (by omega) hat
  have e1 : nI e - 1 = nI e + (-1) := Int32.sub_eq_add_neg _ _
  rw [e1]
  exact key e gF (Nat.le_refl _) (by show _ < 10000; omega) rfl
theorem sp_authority {σ : gS} (A : Ac σ0 y q u) (L : Ld σ0 σ y q u xs U p) (hp : p ≤ xs.length) (h2 : (uR U 2).length + 3 * xs.length ≤ 4096) (h3 : (uR U 3).length + 3 * xs.length ≤ 4096) (k0 : ∀ σ', Ld σ0 σ' y q u xs (auU xs p U).1 (auE xs p) → heS xs (auE xs p - (auU xs p U).2) (auU xs p U).2 false = (auU xs p U).2 → Q (-13) σ') (k1 : ∀ σ', Ld σ0 σ' y q u xs (auU xs p U).1 (auE xs p) → gii σ' 6 2 y = nI (auU xs p U).2 → gii σ' 6 3 y = nI (heS xs (auE xs p - (auU xs p U).2) (auU xs p U).2 false) → heS xs (auE xs p - (auU xs p U).2) (auU xs p U).2 false ≠ (auU xs p U).2 → Q 3 σ') : wp (f_X7_readAuthority (some y) (some u)) σ Q := by
  have hl := L.2.2.1.2.2.2
  have s38 : ∀ (m a i f : Nat), i + m = xs.length → a ≤ i → m < f → (∀ σ', Ld σ0 σ' y q u xs U (dvS xs m i) → wp (f_X7_readAuthority_L79 gF (some y) (some u) (nI a) (nI (dvS xs m i)) (nI (dvS xs m i) - 1)) σ' Q) → wp (f_X7_readAuthority_L38 f (some y) (some u) (nI a) (nI i)) σ Q := by
    intro m
    induction m with
    | zero =>
      intro a i f hi ha hf hQ
      obtain ⟨f, rfl⟩ : ∃ g, f = g + 1 := ⟨f - 1, by omega⟩
      rw [f_X7_readAuthority_L38]
      unfold f_X7_readAuthority_38 f_X7_readAuthority_69
      rw [dvS] at hQ
      exact L.2.2.1.l (wp_t (nI_le (by omega) (by omega)) (ld_wp A L hQ))
    | succ m ih =>
      intro a i f hi ha hf hQ
      obtain ⟨f, rfl⟩ : ∃ g, f = g + 1 := ⟨f - 1, by omega⟩
      rw [f_X7_readAuthority_L38]
      unfold f_X7_readAuthority_38 f_X7_readAuthority_69
      rw [dvS] at hQ
      refine L.2.2.1.l (wp_f (nI_ge (by omega) (by omega)) (L.2.2.1.b (by omega) (wp_b (sp_isDivider (wp_if (fun c => ?_) (fun c => ?_))))))
      · rw [if_pos c] at hQ
        rw [nI_1]
        exact ih a (i + 1) f (by omega) (by omega) (by omega) hQ
      · rw [if_neg c] at hQ
        exact ld_wp A L hQ
  have s5 : ∀ (m i f : Nat), i + m = xs.length → m < f → (∀ σ', Ld σ0 σ' y q u xs U (dvS xs (xs.length - slS xs m i) (slS xs m i)) → wp (f_X7_readAuthority_L79 gF (some y) (some u) (nI (slS xs m i)) (nI (dvS xs (xs.length - slS xs m i) (slS xs m i))) (nI (dvS xs (xs.length - slS xs m i) (slS xs m i)) - 1)) σ' Q) → wp (f_X7_readAuthority_L5 f (some y) (some u) (nI i)) σ Q := by
    intro m
    induction m with
    | zero =>
      intro i f hi hf hQ
      obtain ⟨f, rfl⟩ : ∃ g, f = g + 1 := ⟨f - 1, by omega⟩
      rw [f_X7_readAuthority_L5]
      unfold f_X7_readAuthority_5
      rw [slS] at hQ
      exact L.2.2.1.l (wp_t (nI_le (by omega) (by omega)) (s38 _ i i gF (by omega) (Nat.le_refl _) (by show _ < 10000; omega) hQ))
    | succ m ih =>
      intro i f hi hf hQ
      obtain ⟨f, rfl⟩ : ∃ g, f = g + 1 := ⟨f - 1, by omega⟩
      rw [f_X7_readAuthority_L5]
      unfold f_X7_readAuthority_5
      rw [slS] at hQ
      refine L.2.2.1.l (wp_f (nI_ge (by omega) (by omega)) (L.2.2.1.b (by omega) (wp_b (sp_isSlash (wp_if (fun c => ?_) (fun c => ?_))))))
      · rw [if_pos c] at hQ
        exact s38 _ i i gF (by omega) (Nat.le_refl _) (by show _ < 10000; omega) hQ
      · rw [if_neg c] at hQ
        rw [nI_1]
        exact ih (i + 1) f (by omega) (by omega) hQ
  unfold f_X7_readAuthority
  refine ld_rh L (s5 (xs.length - p) p gF (by omega) (by show _ < 10000; omega) (fun σ' L' => ?_))
  have b1 := slS_le xs (xs.length - p) p
  have b2 := dvS_le xs (xs.length - slS xs (xs.length - p) p) (slS xs (xs.length - p) p)
  refine sp_au79 A (by omega) (by omega) (by omega) (by omega) L' (fun V c σ2 e L2 z => ?_) (fun V c σ2 e L2 z1 z2 z3 => ?_)
  · have e' : auU xs p U = (V, c) := e
    rw [e'] at k0
    exact k0 σ2 L2 z
  · have e' : auU xs p U = (V, c) := e
    rw [e'] at k1
    exact k1 σ2 L2 z1 z2 z3
/-- a PORT: none where it is wrong; none in it where there is none -/
def prt (xs : List Int32) : Nat → Nat → Option Nat → Option (Option Nat)
  | 0, _, acc => some acc
  | m + 1, i, acc => if pDig (xs.getD i (-1)) = 0 then none else if 10 * acc.getD 0 + dg (xs.getD i (-1)) ≤ 65535 then prt xs m (i + 1) (some (10 * acc.getD 0 + dg (xs.getD i (-1)))) else none
def ptU (U : UV) (acc : Option Nat) : UV := vI U 5 (if oI acc = pOf (uI U 0) then -1 else oI acc)
theorem sp_readPortL {σ : gS} {e : Nat} (A : Ac σ0 y q u) (L : Ld σ0 σ y q u xs U e) (he : e ≤ xs.length) : ∀ (m i : Nat) (acc : Option Nat) (f : Nat), m = e - i → i < 2 ^ 20 → m < f → (∀ v, acc = some v → v ≤ 65535) → (prt xs m i acc = none → Q (-17) σ) → (∀ acc' σ', prt xs m i acc = some acc' → Ld σ0 σ' y q u xs (ptU U acc') e → Q 4 σ') → wp (f_X7_readPort_L9 f (some y) (some u) (oI acc) (nI i)) σ Q := by
  have hl := L.2.2.1.2.2.2
  intro m
  induction m with
  | zero =>
    intro i acc f hi hi2 hf hv h0 h1
    obtain ⟨f, rfl⟩ : ∃ g, f = g + 1 := ⟨f - 1, by omega⟩
    rw [f_X7_readPort_L9]
    unfold f_X7_readPort_9 f_X7_readPort_85
    rw [prt] at h1
    refine ld_rh L (wp_t (nI_le (by omega) (by omega)) (L.2.2.2.1.ri (wp_b (sp_portOf ?_))))
    have fin : ∀ v, v = (if oI acc = pOf (uI U 0) then -1 else oI acc) → wp (gb (wI 5 5 (some u) v) fun _ => gp 4) σ Q := fun v hv => ur_wI L.2.2.1.1 L.2.2.2.1.1 (UrTo.rf L.2.2.1.1 L.2.2.2.1) (fun σ' T => wp_p (h1 acc σ' rfl (by rw [ptU, ← hv]; exact L.url A T)))
    refine wp_if (fun c => fin _ (by rw [if_pos c])) (fun c => fin _ (by rw [if_neg c]))
  | succ m ih =>
    intro i acc f hi hi2 hf hv h0 h1
    obtain ⟨f, rfl⟩ : ∃ g, f = g + 1 := ⟨f - 1, by omega⟩
    rw [f_X7_readPort_L9]
    unfold f_X7_readPort_9
    rw [prt] at h0 h1
    refine ld_rh L (wp_f (nI_ge (by omega) (by omega)) (L.2.2.1.b (by omega) (wp_b (sp_isDigit (wp_if (fun c => ?_) (fun c => ?_))))))
    · rw [if_pos c] at h0
      exact wp_p (h0 rfl)
    · rw [if_neg c] at h0 h1
      obtain ⟨d1, d2, d3⟩ := dg_of c
      have e5 : (10 : Int32) * (if oI acc < 0 then 0 else oI acc) + xs.getD i (-1) - 48 = nI (10 * acc.getD 0 + dg (xs.getD i (-1))) := by
        have : (if oI acc < 0 then 0 else oI acc) = nI (acc.getD 0) := by
          cases acc with
          | none => rfl
          | some v =>
            have := hv v rfl
            exact if_neg (nI_pos (by omega))
        rw [this, show (10 : Int32) = nI 10 from rfl, pk_mul]
        rw [show nI (10 * acc.getD 0) + xs.getD i (-1) - 48 = nI (10 * acc.getD 0) + (xs.getD i (-1) - 48) from by rw [Int32.sub_eq_add_neg, Int32.sub_eq_add_neg, Int32.add_assoc], d2, nI_add]
      have hg : acc.getD 0 ≤ 65535 := by
        cases acc with
        | none => exact Nat.zero_le _
        | some v => exact hv v rfl
      rw [e5, nI_1]
      refine wp_if (fun g => ?_) (fun g => ?_)
      · have g := (nI_leI (b := 65535) (by omega) (by omega)).mp g
        rw [if_pos g] at h0 h1
        exact ih (i + 1) (some _) f (by omega) (by omega) (by omega) (fun v z => by cases z; exact g) h0 h1
      · have g : ¬ 10 * acc.getD 0 + dg (xs.getD i (-1)) ≤ 65535 := fun z => g (nI_le (b := 65535) z (by omega))
        rw [if_neg g] at h0
        exact wp_p (h0 rfl)
theorem sp_readPort {σ : gS} {e g : Nat} (A : Ac σ0 y q u) (L : Ld σ0 σ y q u xs U e) (he : e ≤ xs.length) (hg : g ≤ e) (eg : gii σ 6 3 y = nI g) (h0 : prt xs (e - (g + 1)) (g + 1) none = none → Q (-17) σ) (h1 : ∀ acc' σ', prt xs (e - (g + 1)) (g + 1) none = some acc' → Ld σ0 σ' y q u xs (ptU U acc') e → Q 4 σ') : wp (f_X7_readPort (some y) (some u)) σ Q := by
  have hl := L.2.2.1.2.2.2
  unfold f_X7_readPort
  refine wp_b (wp_rI L.2.2.1.2.1 ?_)
  rw [eg, nI_1]
  exact sp_readPortL A L he _ (g + 1) none gF rfl (by omega) (by show _ < 10000; omega) (fun _ z => by cases z) h0 h1
end AU
