/-! THE OTHER OBJECT: bytes, its text -/
def bb (b : Int32) : Prop := b = -1 ∨ ∃ n, n < 256 ∧ b = nI n
def inI (v a b : Int32) : Bool := decide (¬ v < a ∧ ¬ b < v)
section MP
variable {σ : gS} {b : Int32} {Q : Int32 → gS → Prop}
theorem m_isIn {v a b : Int32} (hQ : Q (b2i (inI v a b)) σ) : wp (f_X9_isIn v a b) σ Q := by
  unfold f_X9_isIn
  unfold inI at hQ
  refine wp_if (fun c => ?_) (fun c => ?_)
  · rw [decide_eq_false (fun z => z.1 c)] at hQ
    exact wp_z0 hQ
  · refine wp_if (fun d => ?_) (fun d => ?_)
    · rw [decide_eq_false (fun z => z.2 d)] at hQ
      exact wp_z0 hQ
    · rw [decide_eq_true ⟨c, d⟩] at hQ
      exact wp_z1 hQ
theorem inI_low (b : Int32) : (if b2i (inI b 65 90) = 0 then b else b + 32) = pLow b := by
  unfold inI pLow
  by_cases c : b < 65
  · simp [c, b2i]
  · by_cases d : 90 < b
    · simp [c, d, b2i]
    · simp [c, d, b2i]
theorem m_low (hQ : Q (pLow b) σ) : wp (f_X9_low b) σ Q := by
  unfold f_X9_low
  rw [← inI_low] at hQ
  refine wp_b (m_isIn ?_)
  refine wp_if (fun c => ?_) (fun c => ?_)
  · rw [if_pos c] at hQ
    exact wp_p hQ
  · rw [if_neg c] at hQ
    exact wp_p hQ
theorem m_isDigit (hQ : Q (pDig b) σ) : wp (f_X9_isDigit b) σ Q := by
  unfold f_X9_isDigit
  refine wp_b (m_isIn (wp_z (by unfold b2i; split; exact Or.inr rfl; exact Or.inl rfl) ?_))
  have : b2i (inI b 48 57) = pDig b := by
    unfold inI pDig b2i
    by_cases c : b < 48
    · simp [c]
    · by_cases d : 57 < b
      · simp [c, d]
      · simp [c, d]
  rw [this]
  exact hQ
theorem mlet_t : ∀ n, n < 256 → b2i (inI (pLow (nI n)) 97 122) = pLet (nI n) := by decide +kernel
theorem m_isLetter (hb : bb b) (hQ : Q (pLet b) σ) : wp (f_X9_isLetter b) σ Q := by
  unfold f_X9_isLetter
  refine wp_b (m_low (wp_b (m_isIn (wp_z (by unfold b2i; split; exact Or.inr rfl; exact Or.inl rfl) ?_))))
  have : b2i (inI (pLow b) 97 122) = pLet b := by
    rcases hb with rfl | ⟨n, hn, rfl⟩
    · decide
    · exact mlet_t n hn
  rw [this]
  exact hQ
def mHex (b : Int32) : Int32 := if pDig b = 0 then (if b2i (inI (pLow b) 97 102) = 0 then -1 else pLow b - 97 + 10) else b - 48
theorem mhex_t : ∀ n, n < 256 → mHex (nI n) = pHex (nI n) := by decide +kernel
theorem m_hex (hb : bb b) (hQ : Q (pHex b) σ) : wp (f_X9_hex b) σ Q := by
  have : mHex b = pHex b := by
    rcases hb with rfl | ⟨n, hn, rfl⟩
    · decide
    · exact mhex_t n hn
  rw [← this] at hQ
  unfold f_X9_hex
  unfold mHex at hQ
  refine wp_b (m_isDigit ?_)
  refine wp_if (fun c => ?_) (fun c => ?_)
  · rw [if_pos c] at hQ
    refine wp_b (m_low (wp_b (m_isIn ?_)))
    refine wp_if (fun d => ?_) (fun d => ?_)
    · rw [if_pos d] at hQ
      exact wp_p hQ
    · rw [if_neg d] at hQ
      exact wp_b (m_low (wp_p hQ))
  · rw [if_neg c] at hQ
    exact wp_p hQ
theorem m_isSlash (hQ : Q (pSla b) σ) : wp (f_X9_isSlash b) σ Q := by
  unfold pSla at hQ
  unfold f_X9_isSlash
  repeat' (first | exact wp_z0 hQ | exact wp_z1 hQ | exact wp_p hQ | (refine wp_if (fun c => ?_) (fun c => ?_) <;> (first | rw [if_pos c] at hQ | rw [if_neg c] at hQ)))
def eU (b : Int32) : Int32 := if b = 47 then 1 else if b = 58 then 1 else if b = 59 then 1 else if b = 61 then 1 else if b = 64 then 1 else if b = 91 then 1 else if b = 92 then 1 else if b = 93 then 1 else if b = 124 then 1 else 0
def e180 (s p u : Int32) : Int32 := if p = 0 then (if s = 3 then (if u = 0 then 0 else 1) else 0) else 1
def ePa (b : Int32) : Int32 := if b = 35 then 1 else if b = 63 then 1 else if b = 94 then 1 else if b = 96 then 1 else if b = 123 then 1 else if b = 125 then 1 else 0
def mEsc (b s : Int32) : Int32 := if b < 32 then 1 else if b ≤ 126 then (if b = 32 then 1 else if b = 34 then 1 else if b = 60 then 1 else if b = 62 then 1 else if s = 0 then (if b = 96 then 1 else 0) else if s = 1 then (if b = 35 then 1 else if b = 39 then 1 else 0) else e180 s (ePa b) (eU b)) else 1
theorem m_e180 {s p u : Int32} (hQ : Q (e180 s p u) σ) : wp (f_X9_isEscaped_180 s p u) σ Q := by
  unfold e180 at hQ
  unfold f_X9_isEscaped_180
  repeat' (first | exact wp_z0 hQ | exact wp_z1 hQ | exact wp_p hQ | (refine wp_if (fun c => ?_) (fun c => ?_) <;> (first | rw [if_pos c] at hQ | rw [if_neg c] at hQ)))
theorem m_e120 {s p : Int32} (hQ : Q (e180 s p (eU b)) σ) : wp (f_X9_isEscaped_120 b s p) σ Q := by
  unfold f_X9_isEscaped_120 f_X9_isEscaped_175
  unfold eU at hQ
  repeat' (first | exact m_e180 hQ | (refine wp_if (fun c => ?_) (fun c => ?_) <;> (first | rw [if_pos c] at hQ | rw [if_neg c] at hQ)))
theorem m_isEscaped {s : Int32} (hQ : Q (mEsc b s) σ) : wp (f_X9_isEscaped b s) σ Q := by
  unfold f_X9_isEscaped f_X9_isEscaped_115
  unfold mEsc ePa at hQ
  repeat' (first | exact wp_z0 hQ | exact wp_z1 hQ | exact m_e120 hQ | (refine wp_if (fun c => ?_) (fun c => ?_) <;> (first | rw [if_pos c] at hQ | rw [if_neg c] at hQ)))
/-- the set of a part, here and there -/
def stO (s : Nat) : Nat := [17, 16, 15, 6].getD s 0
theorem mesc_t : ∀ s, s < 4 → ∀ n, n < 256 → mEsc (nI n) (nI s) = pEsc (nI n) (stO s) := by decide +kernel
theorem m_digitOf (hQ : Q (if 10 ≤ b then 65 + b - 10 else 48 + b) σ) : wp (f_X9_digitOf b) σ Q := by
  unfold f_X9_digitOf
  repeat' (first | exact wp_z0 hQ | exact wp_z1 hQ | exact wp_p hQ | (refine wp_if (fun c => ?_) (fun c => ?_) <;> (first | rw [if_pos c] at hQ | rw [if_neg c] at hQ)))
theorem mdig_t : ∀ n, n < 256 → ((if (10 : Int32) ≤ nI n >>> ((4 : Int32) &&& 31) then 65 + nI n >>> ((4 : Int32) &&& 31) - 10 else 48 + nI n >>> ((4 : Int32) &&& 31)) = (tstr 7).getD ((((nI n).toUInt32 >>> ((4 : Int32).toUInt32 &&& Int32.toUInt32 31)).toInt32) &&& 15).toNatClampNeg 0) ∧ ((if (10 : Int32) ≤ nI n &&& 15 then 65 + (nI n &&& 15) - 10 else 48 + (nI n &&& 15)) = (tstr 7).getD (nI n &&& 15).toNatClampNeg 0) := by decide +kernel
theorem mdig_b : ∀ n, n < 256 → (∃ k, k < 256 ∧ (tstr 7).getD ((((nI n).toUInt32 >>> ((4 : Int32).toUInt32 &&& Int32.toUInt32 31)).toInt32) &&& 15).toNatClampNeg 0 = nI k) ∧ ∃ k, k < 256 ∧ (tstr 7).getD (nI n &&& 15).toNatClampNeg 0 = nI k := by decide +kernel
theorem m_portOf (hQ : Q (if 2 ≤ b then (if 4 ≤ b then 21 else 443) else 80) σ) : wp (f_X9_portOf b) σ Q := by
  unfold f_X9_portOf
  repeat' (first | exact wp_z0 hQ | exact wp_z1 hQ | exact wp_p hQ | (refine wp_if (fun c => ?_) (fun c => ?_) <;> (first | rw [if_pos c] at hQ | rw [if_neg c] at hQ)))
theorem m_schemeSize {s : Nat} (hs : s < 5) (hQ : Q (nI (tstr s).length) σ) : wp (f_X9_schemeSize (nI s)) σ Q := by
  unfold f_X9_schemeSize
  rcases (show s = 0 ∨ s = 1 ∨ s = 2 ∨ s = 3 ∨ s = 4 by omega) with rfl | rfl | rfl | rfl | rfl
  · exact wp_t rfl (wp_p hQ)
  · exact wp_f (by decide) (wp_t rfl (wp_p hQ))
  · exact wp_f (by decide) (wp_f (by decide) (wp_t rfl (wp_p hQ)))
  · exact wp_f (by decide) (wp_f (by decide) (wp_f (by decide) (wp_p hQ)))
  · exact wp_f (by decide) (wp_f (by decide) (wp_f (by decide) (wp_p hQ)))
theorem m_schemeByte {s j : Nat} (hs : s < 5) (hj : j < (tstr s).length) (hQ : Q ((tstr s).getD j 0) σ) : wp (f_X9_schemeByte (nI s) (nI j)) σ Q := by
  unfold f_X9_schemeByte f_X9_schemeByte_41
  rcases (show s = 0 ∨ s = 1 ∨ s = 2 ∨ s = 3 ∨ s = 4 by omega) with rfl | rfl | rfl | rfl | rfl
  · exact wp_t rfl (wp_b (wp_tk (by decide) (wp_b (sp_chr (i := 19) (by decide) hj (wp_p hQ)))))
  · exact wp_f (by decide) (wp_t rfl (wp_b (wp_tk (by decide) (wp_b (sp_chr (i := 20) (by decide) hj (wp_p hQ))))))
  · exact wp_f (by decide) (wp_f (by decide) (wp_t rfl (wp_b (wp_tk (by decide) (wp_b (sp_chr (i := 21) (by decide) hj (wp_p hQ)))))))
  · exact wp_f (by decide) (wp_f (by decide) (wp_f (by decide) (wp_t rfl (wp_b (wp_tk (by decide) (wp_b (sp_chr (i := 22) (by decide) hj (wp_p hQ))))))))
  · exact wp_f (by decide) (wp_f (by decide) (wp_f (by decide) (wp_f (by decide) (wp_b (wp_tk (by decide) (wp_b (sp_chr (i := 23) (by decide) hj (wp_p hQ))))))))
end MP
/-- the text, the text read, the rows of the parts -/
def Tx (M : MS) (T : List Int32) : Prop := mI M 1 = nI T.length ∧ T.length ≤ 300 ∧ isB T ∧ By (mA M 0) 0 T
def In (M : MS) (xs : List Int32) : Prop := mI M 12 = nI xs.length ∧ xs.length ≤ 300 ∧ isB xs ∧ By (mA M 11) 0 xs
def Rw (M : MS) (R : Nat → List Int32) : Prop := ∀ q, q < 30 → mA M 10 q = nI (R q).length ∧ (R q).length ≤ 2400 ∧ isB (R q) ∧ By (mA M 9) (2400 * q) (R q)
def uQ (R : Nat → List Int32) (q : Nat) (ys : List Int32) : Nat → List Int32 := fun k => if k = q then ys else R k
theorem uQ_eq (R : Nat → List Int32) (q : Nat) (ys : List Int32) : uQ R q ys q = ys := by rw [uQ, if_pos rfl]
theorem uQ_ne (R : Nat → List Int32) {q k : Nat} (ys : List Int32) (h : k ≠ q) : uQ R q ys k = R k := by rw [uQ, if_neg h]
theorem uQ_uQ (R : Nat → List Int32) (q : Nat) (ys zs : List Int32) : uQ (uQ R q ys) q zs = uQ R q zs := by
  funext k
  by_cases c : k = q
  · rw [c, uQ_eq, uQ_eq]
  · rw [uQ_ne _ _ c, uQ_ne _ _ c, uQ_ne _ _ c]
theorem uQ_id {R : Nat → List Int32} {q : Nat} {ys : List Int32} (h : R q = ys) : uQ R q ys = R := by
  funext k
  by_cases c : k = q
  · rw [c, uQ_eq, h]
  · rw [uQ_ne _ _ c]
theorem Tx.ex {S : List Nat} {M M' : MS} {T : List Int32} (h : Tx M T) (e : Ex S M M') (h0 : 0 ∉ S) (h1 : 1 ∉ S) : Tx M' T := by
  unfold Tx
  rw [e.2 1 h1, e.1 0 h0]
  exact h
theorem In.ex {S : List Nat} {M M' : MS} {T : List Int32} (h : In M T) (e : Ex S M M') (h0 : 11 ∉ S) (h1 : 12 ∉ S) : In M' T := by
  unfold In
  rw [e.2 12 h1, e.1 11 h0]
  exact h
theorem Rw.ex {S : List Nat} {M M' : MS} {R : Nat → List Int32} (h : Rw M R) (e : Ex S M M') (h0 : 9 ∉ S) (h1 : 10 ∉ S) : Rw M' R := by
  unfold Rw
  rw [e.1 9 h0, e.1 10 h1]
  exact h
section MT
variable {β : Type} {m : Nat} {D : Nat → Nat} {M : MS} {xs T : List Int32} {R : Nat → List Int32}
theorem m_byteAt {i : Nat} {P : Int32 → MS → Prop} (h : In M xs) (hi : i < 2 ^ 31) (hP : P (xs.getD i (-1)) M) : wm m D (f_X9_byteAt (some m) (nI i)) M P := by
  obtain ⟨h1, h2, h3, h4⟩ := h
  unfold f_X9_byteAt
  refine wm_rd ?_
  rw [h1]
  rcases Nat.lt_or_ge i xs.length with z | z
  · refine wm_f (nI_ge z (by omega)) ?_
    refine wm_get (k := 11) (t := 0) (by decide) rfl (show i < 300 by omega) (wm_p ?_)
    have := h4.get h3 z
    rw [Nat.zero_add] at this
    rw [this, getD0 z]
    exact hP
  · refine wm_t (nI_le z hi) (wm_p ?_)
    rw [List.getD_eq_getElem?_getD, List.getElem?_eq_none z] at hP
    exact hP
/-- reading a byte of the text -/
theorem m_ba {i : Nat} {K : Int32 → gM β} {P : β → MS → Prop} (h : In M xs) (hi : i < 2 ^ 31) (hP : wm m D (K (xs.getD i (-1))) M P) : wm m D (gb (nn 8 (some m)) fun _ => gb (f_X9_byteAt (some m) (nI i)) K) M P := wm_n (wm_b (m_byteAt h hi hP))
theorem Rw.put {M' : MS} {q : Nat} {ys : List Int32} (h : Rw M R) (hq : q < 30) (hy : ys.length ≤ 2400) (hb : isB ys) (e : mA M' 10 q = nI ys.length) (hB : By (mA M' 9) (2400 * q) ys) (ho : ∀ k, k ≠ q → mA M' 10 k = mA M 10 k) (hO : ∀ k j, k < 30 → k ≠ q → j < 2400 → mA M' 9 (2400 * k + j) = mA M 9 (2400 * k + j)) : Rw M' (uQ R q ys) := by
  intro k hk
  by_cases c : k = q
  · subst c
    rw [uQ_eq]
    exact ⟨e, hy, hb, hB⟩
  · rw [uQ_ne _ _ c, ho k c]
    obtain ⟨a1, a2, a3, a4⟩ := h k hk
    exact ⟨a1, a2, a3, a4.keep (fun j hj => hO k j hk c (by omega))⟩
theorem m_add {p n : Nat} {P : Unit → MS → Prop} (h : Rw M R) (hp : p < 6) (hl : (R (24 + p)).length < 2400) (hn : n < 256) (hP : ∀ M', Ex [9, 10] M M' → Rw M' (uQ R (24 + p) (R (24 + p) ++ [nI n])) → P () M') : wm m D (f_X9_add (some m) (nI p) (nI n)) M P := by
  obtain ⟨a1, a2, a3, a4⟩ := h (24 + p) (by omega)
  have e1 : (24 : Int32) + nI p = nI (24 + p) := nI_add 24 p
  unfold f_X9_add
  refine wm_b (wm_rR (k := 9) (t := 0) (by decide) ?_)
  refine wm_get (k := 10) (t := 1) (by decide) e1 (show 24 + p < 30 by omega) ?_
  refine wm_b (wm_sI (k := 9) (t := 0) (j := 2400 * (24 + p) + (R (24 + p)).length) (by decide) (by rw [e1, a1]; exact (congrArg (· + nI _) (pk_mul 2400 (24 + p))).trans (nI_add _ _)) (show _ < 72000 by omega) ?_)
  refine wm_b (wm_rR (k := 10) (t := 1) (by decide) ?_)
  refine wm_b (wm_aI (k := 10) (t := 1) (by decide) e1 (show 24 + p < 30 by omega) ?_)
  refine wm_b (wm_sI (k := 10) (t := 1) (by decide) e1 (show 24 + p < 30 by omega) ?_)
  rw [gnar1, mA_uA, if_neg (fun z => absurd z.1 (by decide)), a1, nI_1]
  refine wm_p (hP _ ((Ex.a (by decide)).trans (Ex.a (by decide))) ?_)
  refine h.put (by omega) (by rw [List.length_append, List.length_singleton]; omega) (a3.app (isB.cons hn rfl isB.nil)) ?_ ?_ (fun k hk => ?_) (fun k j hk hne hj => ?_)
  · rw [mA_uA, if_pos ⟨rfl, rfl⟩, List.length_append, List.length_singleton]
  · refine a4.snoc (fun j hj => ?_) ?_
    · rw [mA_uA, if_neg (fun z => absurd z.1 (by decide)), mA_uA, if_neg (fun z => by have := z.2; omega)]
    · rw [mA_uA, if_neg (fun z => absurd z.1 (by decide)), mA_uA, if_pos ⟨rfl, rfl⟩]
      exact gnar0s (nI n)
  · rw [mA_uA, if_neg (fun z => hk z.2), mA_uA, if_neg (fun z => absurd z.1 (by decide))]
  · rw [mA_uA, if_neg (fun z => absurd z.1 (by decide)), mA_uA, if_neg (fun z => by have := z.2; omega)]
theorem esc_b {n s : Nat} (hn : n < 256) : isB (esc (nI n) s) := by
  obtain ⟨⟨k1, h1, e1⟩, k2, h2, e2⟩ := mdig_b n hn
  unfold esc
  split
  · exact isB.cons hn rfl isB.nil
  · exact isB.cons (n := 37) (by omega) rfl (isB.cons h1 e1 (isB.cons h2 e2 isB.nil))
theorem m_addEsc {p n s : Nat} {P : Unit → MS → Prop} (h : Rw M R) (hp : p < 6) (hl : (R (24 + p)).length + 3 ≤ 2400) (hn : n < 256) (hs : s < 4) (hP : ∀ M', Ex [9, 10] M M' → Rw M' (uQ R (24 + p) (R (24 + p) ++ esc (nI n) (stO s))) → P () M') : wm m D (f_X9_addEscaped (some m) (nI p) (nI n) (nI s)) M P := by
  obtain ⟨⟨k1, h1, e1⟩, k2, h2, e2⟩ := mdig_b n hn
  obtain ⟨d1, d2⟩ := mdig_t n hn
  unfold f_X9_addEscaped
  unfold esc at hP
  rw [← mesc_t s hs n hn] at hP
  refine wm_b (wm_q (fun _ _ => m_isEscaped) ?_)
  refine wm_if (fun c => ?_) (fun c => ?_)
  · rw [if_pos c] at hP
    exact wm_n (wm_b (m_add h hp (by omega) hn (fun M' E W => wm_p (hP M' E W))))
  · rw [if_neg c] at hP
    refine wm_n (wm_b (m_add (n := 37) h hp (by omega) (by omega) (fun M1 E1 W1 => ?_)))
    refine wm_b (wm_q (fun _ _ => m_digitOf) ?_)
    rw [d1, e1]
    refine wm_n (wm_b (m_add W1 hp (by rw [uQ_eq, List.length_append, List.length_singleton]; omega) h1 (fun M2 E2 W2 => ?_)))
    rw [uQ_eq, uQ_uQ] at W2
    refine wm_b (wm_q (fun _ _ => m_digitOf) ?_)
    rw [d2, e2]
    refine wm_n (wm_b (m_add W2 hp (by rw [uQ_eq]; simp only [List.length_append, List.length_singleton]; omega) h2 (fun M3 E3 W3 => wm_p (hP M3 ((E1.trans E2).trans E3) ?_))))
    rw [uQ_eq, uQ_uQ] at W3
    rw [e1, e2]
    rw [List.append_assoc, List.append_assoc] at W3
    exact W3
/-- one byte more into a text -/
theorem Tx.snoc {n : Nat} (h : Tx M T) (hl : T.length < 300) (hn : n < 256) : Tx (uN (uA M 0 T.length (sb (nI n))) 1 (nI (T.length + 1))) (T ++ [nI n]) := by
  obtain ⟨h1, h2, h3, h4⟩ := h
  refine ⟨?_, ?_, h3.app (isB.cons hn rfl isB.nil), h4.snoc (fun j hj => ?_) ?_⟩
  · rw [mI_uN, if_pos rfl, List.length_append, List.length_singleton]
  · rw [List.length_append, List.length_singleton]; omega
  · rw [mA_uN, mA_uA, if_neg (fun z => by have := z.2; omega)]
  · rw [mA_uN, mA_uA, Nat.zero_add, if_pos ⟨rfl, rfl⟩]
theorem In.snoc {n : Nat} (h : In M xs) (hl : xs.length < 300) (hn : n < 256) : In (uN (uA M 11 xs.length (sb (nI n))) 12 (nI (xs.length + 1))) (xs ++ [nI n]) := by
  obtain ⟨h1, h2, h3, h4⟩ := h
  refine ⟨?_, ?_, h3.app (isB.cons hn rfl isB.nil), h4.snoc (fun j hj => ?_) ?_⟩
  · rw [mI_uN, if_pos rfl, List.length_append, List.length_singleton]
  · rw [List.length_append, List.length_singleton]; omega
  · rw [mA_uN, mA_uA, if_neg (fun z => by have := z.2; omega)]
  · rw [mA_uN, mA_uA, Nat.zero_add, if_pos ⟨rfl, rfl⟩]
/-- reading a byte of the text that is typed -/
theorem Tx.get {j : Nat} (h : Tx M T) (hj : j < T.length) : mA M 0 j &&& 255 = T.getD j 0 := by
  have := h.2.2.2.get h.2.2.1 hj
  rw [Nat.zero_add] at this
  exact this
theorem m_tak3 {b : Nat} {P : Unit → MS → Prop} : ∀ (k i f : Nat) (M : MS) (xs : List Int32), i + k = b → k < f → b ≤ T.length → Tx M T → In M xs → xs.length + k ≤ 300 → (∀ M', Ex [11, 12] M M' → In M' (xs ++ flt T k i) → P () M') → wm m D (f_X9_takeText_L68 f (some m) (nI b) (nI i)) M P := by
  intro k
  induction k with
  | zero =>
    intro i f M xs hi hf hb hT hI hl hP
    obtain ⟨f, rfl⟩ : ∃ g, f = g + 1 := ⟨f - 1, by omega⟩
    have := hT.2.1
    rw [f_X9_takeText_L68]
    unfold f_X9_takeText_68
    refine wm_t (nI_le (by omega) (by omega)) (wm_p (hP M Ex.rf ?_))
    rw [flt, List.append_nil]
    exact hI
  | succ k ih =>
    intro i f M xs hi hf hb hT hI hl hP
    obtain ⟨f, rfl⟩ : ∃ g, f = g + 1 := ⟨f - 1, by omega⟩
    have hT3 := hT.2.1
    rw [f_X9_takeText_L68]
    unfold f_X9_takeText_68
    refine wm_f (nI_ge (by omega) (by omega)) ?_
    refine wm_get (k := 0) (t := 0) (by decide) rfl (show i < 300 by omega) ?_
    rw [hT.get (by omega), nI_1]
    rw [flt] at hP
    refine wm_if (fun c => ?_) (fun c => ?_)
    · rw [if_pos (Or.inl c)] at hP
      exact ih (i + 1) f M xs (by omega) (by omega) hb hT hI (by omega) hP
    refine wm_if (fun d => ?_) (fun d => ?_)
    · rw [if_pos (Or.inr (Or.inl d))] at hP
      exact ih (i + 1) f M xs (by omega) (by omega) hb hT hI (by omega) hP
    refine wm_if (fun e => ?_) (fun e => ?_)
    · rw [if_pos (Or.inr (Or.inr e))] at hP
      exact ih (i + 1) f M xs (by omega) (by omega) hb hT hI (by omega) hP
    rw [if_neg (fun z => z.elim c (fun z => z.elim d e))] at hP
    obtain ⟨n, hn, en⟩ := hT.2.2.1.get (j := i) (by omega)
    rw [en] at hP ⊢
    refine wm_b (wm_rR (k := 11) (t := 0) (by decide) ?_)
    refine wm_rd ?_
    rw [hI.1]
    refine wm_b (wm_sI (k := 11) (t := 0) (by decide) rfl (show xs.length < 300 by omega) ?_)
    refine wm_rd ?_
    rw [mI_uA, hI.1, nI_1]
    refine wm_b (wm_wI ?_)
    rw [show gnar 0 ((nI n).toInt8.toInt32) = sb (nI n) from gnar0s (nI n)]
    have E : Ex [11, 12] M (uN (uA M 11 xs.length (sb (nI n))) 12 (nI (xs.length + 1))) := (Ex.a (by decide)).trans (Ex.n (by decide))
    refine ih (i + 1) f _ (xs ++ [nI n]) (by omega) (by omega) hb (hT.ex E (by decide) (by decide)) (hI.snoc (by omega) hn) (by rw [List.length_append, List.length_singleton]; omega) (fun M' E' I' => hP M' (E.trans E') ?_)
    rw [List.append_assoc] at I'
    exact I'
theorem m_tak2 {a : Nat} {P : Unit → MS → Prop} (hT : Tx M T) (hP : ∀ M', Ex [11, 12] M M' → In M' (flt T (tT T a T.length - a) a) → P () M') : ∀ (n f : Nat), n < f → a ≤ n → n ≤ T.length → tT T a n = tT T a T.length → wm m D (f_X9_takeText_L33 f (some m) (nI a) (nI n)) M P := by
  have hT3 := hT.2.1
  have fin : ∀ n, a ≤ n → n ≤ T.length → n = tT T a T.length → wm m D (f_X9_takeText_61 (some m) (nI a) (nI n)) M P := by
    intro n ha hn e
    unfold f_X9_takeText_61
    refine wm_b (wm_wI ?_)
    have E : Ex [11, 12] M (uN M 12 0) := Ex.n (by decide)
    refine m_tak3 (n - a) a gF _ [] (by omega) (by unfold gF; omega) hn (hT.ex E (by decide) (by decide)) ⟨by rw [mI_uN, if_pos rfl]; rfl, by decide, isB.nil, By.nil⟩ (by rw [List.length_nil]; omega) (fun M' E' I' => hP M' (E.trans E') ?_)
    rw [List.nil_append, e] at I'
    exact I'
  intro n
  induction n with
  | zero =>
    intro f hf ha hn e
    obtain ⟨f, rfl⟩ : ∃ g, f = g + 1 := ⟨f - 1, by omega⟩
    rw [f_X9_takeText_L33]
    unfold f_X9_takeText_33
    exact wm_t (nI_le (by omega) (by omega)) (fin 0 ha hn (by rw [← e]; rfl))
  | succ n ih =>
    intro f hf ha hn e
    obtain ⟨f, rfl⟩ : ∃ g, f = g + 1 := ⟨f - 1, by omega⟩
    rw [f_X9_takeText_L33]
    unfold f_X9_takeText_33
    rw [tT] at e
    by_cases c : n + 1 ≤ a
    · rw [if_pos c] at e
      exact wm_t (nI_le c (by omega)) (fin (n + 1) ha hn e)
    · rw [if_neg c] at e
      refine wm_f (nI_ge (by omega) (by omega)) ?_
      refine wm_get (k := 0) (t := 0) (j := n) (by decide) (nI_pred n) (show n < 300 by omega) ?_
      rw [hT.get (by omega)]
      refine wm_if (fun d => ?_) (fun d => ?_)
      · rw [if_pos d] at e
        exact fin (n + 1) ha hn e
      · rw [if_neg d] at e
        rw [pk_m1]
        exact ih f (by omega) (by omega) (by omega) e
theorem m_tak1 {P : Unit → MS → Prop} (hT : Tx M T) (hP : ∀ M', Ex [11, 12] M M' → In M' (tdy T) → P () M') : ∀ (k i f : Nat), i + k = T.length → k < f → tF T k i = tF T T.length 0 → wm m D (f_X9_takeText_L7 f (some m) (nI i) (nI T.length)) M P := by
  have hT3 := hT.2.1
  have fin : ∀ i, i ≤ T.length → i = tF T T.length 0 → wm m D (f_X9_takeText_L33 gF (some m) (nI i) (nI T.length)) M P := by
    intro i hi e
    subst e
    exact m_tak2 hT hP T.length gF (by unfold gF; omega) hi (Nat.le_refl _) rfl
  intro k
  induction k with
  | zero =>
    intro i f hi hf e
    obtain ⟨f, rfl⟩ : ∃ g, f = g + 1 := ⟨f - 1, by omega⟩
    rw [f_X9_takeText_L7]
    unfold f_X9_takeText_7
    exact wm_t (nI_le (by omega) (by omega)) (fin i (by omega) e)
  | succ k ih =>
    intro i f hi hf e
    obtain ⟨f, rfl⟩ : ∃ g, f = g + 1 := ⟨f - 1, by omega⟩
    rw [f_X9_takeText_L7]
    unfold f_X9_takeText_7
    rw [tF] at e
    refine wm_f (nI_ge (by omega) (by omega)) ?_
    refine wm_get (k := 0) (t := 0) (by decide) rfl (show i < 300 by omega) ?_
    rw [hT.get (by omega)]
    refine wm_if (fun d => ?_) (fun d => ?_)
    · rw [if_pos d] at e
      exact fin i (by omega) e
    · rw [if_neg d] at e
      rw [nI_1]
      exact ih (i + 1) f (by omega) (by omega) e
theorem m_takeText {P : Unit → MS → Prop} (hT : Tx M T) (hP : ∀ M', Ex [11, 12] M M' → In M' (tdy T) → P () M') : wm m D (f_X9_takeText (some m)) M P := by
  have hT3 := hT.2.1
  unfold f_X9_takeText
  refine wm_rd ?_
  rw [hT.1]
  exact m_tak1 hT hP T.length 0 gF (by omega) (by unfold gF; omega) rfl
theorem m_erase {P : Int32 → MS → Prop} (hT : Tx M T) (hP : P (nI T.length) (uN M 1 0)) : wm m D (f_X9_erase (some m)) M P := by
  unfold f_X9_erase
  refine wm_rd (wm_b (wm_wI (wm_p ?_)))
  rw [hT.1]
  exact hP
theorem m_at {i : Int32} {P : Int32 → MS → Prop} (hT : Tx M T) (hP : P (bAt T i) M) : wm m D (f_X9_at (some m) i) M P := by
  have hT3 := hT.2.1
  unfold f_X9_at
  refine wm_rd (wm_b (wm_q (fun _ _ => m_isIn) ?_))
  rw [hT.1]
  unfold bAt at hP
  refine wm_bz (fun c => ?_) (fun c => ?_)
  · have c := of_decide_eq_false c
    by_cases d : i < 0
    · rw [if_pos d] at hP
      exact wm_p hP
    · rw [if_neg d] at hP
      by_cases e : nI T.length ≤ i
      · rw [if_pos e] at hP
        exact wm_p hP
      · exfalso
        refine c ⟨d, fun z => ?_⟩
        rcases pk_ix i (n := T.length) (by omega) with q | q | ⟨j, hj, rfl⟩
        · exact d q
        · exact e q
        · obtain ⟨n, hn⟩ : ∃ n, T.length = n + 1 := ⟨T.length - 1, by omega⟩
          rw [hn, nI_pred] at z
          exact nI_nlt (by omega) (by omega) z
  · have c := of_decide_eq_true c
    rw [if_neg c.1] at hP
    rcases pk_ix i (n := T.length) (by omega) with q | q | ⟨j, hj, rfl⟩
    · exact absurd q c.1
    · exfalso
      refine c.2 ?_
      rcases Nat.eq_zero_or_pos T.length with z | z
      · rw [z]
        exact Int32.lt_of_lt_of_le (b := nI 0) (by decide) (by rw [z] at q; exact q)
      · obtain ⟨n, hn⟩ : ∃ n, T.length = n + 1 := ⟨T.length - 1, by omega⟩
        rw [hn, nI_pred]
        rw [hn] at q
        exact Int32.lt_of_lt_of_le (nI_lt (by omega) (by omega)) q
    · rw [if_neg (nI_ge hj (by omega)), nI_clamp (by omega)] at hP
      refine wm_get (k := 0) (t := 0) (by decide) rfl (show j < 300 by omega) (wm_p ?_)
      rw [hT.get hj]
      exact hP
end MT
