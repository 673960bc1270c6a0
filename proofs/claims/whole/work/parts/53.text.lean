/-! STRING CONSTANTS AND BYTES -/
def tstr (i : Nat) : List Int32 := gByt.getD i []
theorem tstr_ok : ∀ i, i < 24 → (gLen.getD i 0 = (tstr i).length ∧ (tstr i).length < 1000 ∧ ∀ b ∈ tstr i, ((b &&& 255).toUInt32 % 65536).toInt32 = b ∧ narrow .char (.int b) = .int b) := by decide +kernel
theorem sp_len {σ : gS} {i : Nat} {Q : Int32 → gS → Prop} (hi : i < 24) (hQ : Q (nI (tstr i).length) σ) : wp (f_J0_length_8abf5 i) σ Q := by
  obtain ⟨h1, h2, -⟩ := tstr_ok i hi
  unfold f_J0_length_8abf5 f_J0_coder_7d493
  refine wp_b (wp_tk hi ?_)
  refine wp_b (wp_tk hi ?_)
  refine wp_b (wp_tk hi ?_)
  refine wp_b (wp_b (wp_tk hi (wp_by rfl (wp_p ?_))))
  rw [h1]
  show Q (nI (tstr i).length >>> ((0 : Int32) &&& 31)) σ
  rw [sc_shr0 (by omega)]
  exact hQ
theorem sp_chr {σ : gS} {i j : Nat} {Q : Int32 → gS → Prop} (hi : i < 24) (hj : j < (tstr i).length) (hQ : Q ((tstr i).getD j 0) σ) : wp (f_J0_charAt_5068e i (nI j)) σ Q := by
  obtain ⟨h1, h2, h3⟩ := tstr_ok i hi
  have hm : (tstr i).getD j 0 ∈ tstr i := by
    rw [List.getD_eq_getElem?_getD, List.getElem?_eq_getElem hj]
    exact List.getElem_mem hj
  obtain ⟨e1, e2⟩ := h3 _ hm
  unfold f_J0_charAt_5068e f_J0_isLatin1_aae02 f_J1_charAt_3b067 f_J0_checkIndex_df160 f_J3_checkIndex_8e157
  refine wp_b (wp_tk hi ?_)
  refine wp_b (wp_b (wp_tk hi (wp_z1 ?_)))
  refine wp_f (by decide) ?_
  refine wp_b (wp_tk hi ?_)
  refine wp_b (wp_b (wp_tk hi ?_))
  refine wp_b (wp_b ?_)
  refine wp_f (nI_pos (by omega)) ?_
  rw [h1]
  refine wp_t (nI_lt hj (by omega)) (wp_p (wp_p ?_))
  refine wp_b (wp_tA hi (by rw [h1]; exact hj) (by rw [h1]; omega) ?_)
  have e3 : (gByt.getD i []).getD j 0 = (tstr i).getD j 0 := rfl
  rw [e3, e1]
  exact wp_ch e2 (wp_ch e2 hQ)
theorem sp_ixL {σ : gS} {i : Nat} {v : Int32} {Q : Int32 → gS → Prop} (hi : i < 24) (h0 : v ∉ tstr i → Q (-1) σ) (h1 : ∀ j, j < (tstr i).length → v ∈ tstr i → Q (nI j) σ) : ∀ (n j : Nat), (tstr i).length - j < n → j ≤ (tstr i).length → (∀ k, k < j → (tstr i).getD k 0 ≠ v) → wp (f_J1_indexOfChar_4cfef_L7 n i (nI (tstr i).length) v (nI j)) σ Q := by
  obtain ⟨g1, g2, -⟩ := tstr_ok i hi
  intro n
  induction n with
  | zero => intro j h; omega
  | succ n ih =>
    intro j hn hj hk
    show wp (f_J1_indexOfChar_4cfef_7 (f_J1_indexOfChar_4cfef_L7 n) i (nI (tstr i).length) v (nI j)) σ Q
    unfold f_J1_indexOfChar_4cfef_7
    refine wp_if (fun c => ?_) (fun c => ?_)
    · have c := (nI_leI (by omega) (by omega)).mp c
      refine wp_p (h0 (fun hm => ?_))
      obtain ⟨k, hk1, hk2⟩ := List.getElem_of_mem hm
      exact hk k (by omega) (by rw [List.getD_eq_getElem?_getD, List.getElem?_eq_getElem hk1, hk2]; rfl)
    · have c : j < (tstr i).length := Nat.not_le.mp (fun z => c (nI_le z (by omega)))
      refine wp_b (wp_tA hi (by rw [g1]; exact c) (by rw [g1]; omega) ?_)
      have e3 : (gByt.getD i []).getD j 0 = (tstr i).getD j 0 := rfl
      rw [e3]
      refine wp_if (fun d => ?_) (fun d => ?_)
      · refine wp_p (h1 j c ?_)
        rw [← d, List.getD_eq_getElem?_getD, List.getElem?_eq_getElem c]
        exact List.getElem_mem c
      · rw [nI_1]
        refine ih (j + 1) (by omega) c (fun k hk1 => ?_)
        rcases Nat.lt_or_ge k j with q | q
        · exact hk k q
        · rw [show k = j by omega]
          exact d
theorem b7 : ∀ n, n < 128 → (nI n).toInt8.toInt32 = nI n ∧ ((nI n).toUInt32 % 65536).toInt32 = nI n := by decide +kernel
/-- indexOf of a char below 128 -/
theorem sp_ix {σ : gS} {i n : Nat} {Q : Int32 → gS → Prop} (hi : i < 24) (hn : n < 128) (h0 : nI n ∉ tstr i → Q (-1) σ) (h1 : ∀ j, j < (tstr i).length → nI n ∈ tstr i → Q (nI j) σ) : wp (f_J0_indexOf_0f7a4 i (nI n)) σ Q := by
  obtain ⟨g1, g2, -⟩ := tstr_ok i hi
  unfold f_J0_indexOf_0f7a4 f_J0_indexOf_7cf53 f_J0_isLatin1_aae02 f_J1_indexOf_4cfef f_J1_canEncode_9a6ad f_J1_indexOfChar_4cfef
  refine wp_b (wp_tk hi ?_)
  refine wp_b (wp_b (wp_tk hi ?_))
  refine wp_b (wp_b (wp_tk hi (wp_z1 ?_)))
  refine wp_f (by decide) ?_
  refine wp_b (wp_tk hi ?_)
  refine wp_b (wp_tk hi ?_)
  refine wp_b (sp_len hi ?_)
  refine wp_b (wp_b ?_)
  refine wp_f (nI_pos (by omega)) ?_
  refine wp_f (show ¬ nI 255 < nI n from nI_nlt (by omega) (by omega)) (wp_z1 ?_)
  refine wp_f (by decide) ?_
  refine wp_b (wp_tk hi ?_)
  rw [g1]
  have e0 : (if (0 : Int32) < 0 then (0 : Int32) else 0) = nI 0 := rfl
  have e1 : (if Int32.ofNat (tstr i).length < nI (tstr i).length then Int32.ofNat (tstr i).length else nI (tstr i).length) = nI (tstr i).length := by split <;> rfl
  rw [e0, e1, (b7 n hn).1]
  refine wp_if (fun c => ?_) (fun c => ?_)
  · refine wp_b ?_
    refine sp_ixL hi (fun h => wp_p (wp_p (wp_p (h0 h)))) (fun j hj hm => wp_p (wp_p (wp_p (h1 j hj hm)))) gF 0 ?_ (Nat.zero_le _) (fun k hk => by omega)
    show _ < 10000
    omega
  · refine wp_p (wp_p (wp_p (h0 (fun hm => ?_))))
    have hl : 0 < (tstr i).length := List.length_pos_of_mem hm
    exact c (nI_lt hl (by omega))
/-- bytes, as the class sorts them -/
def pLet (b : Int32) : Int32 := if b < 97 then (if b < 65 then 0 else if 90 < b then 0 else 1) else if b ≤ 122 then 1 else (if b < 65 then 0 else if 90 < b then 0 else 1)
def pDig (b : Int32) : Int32 := if b < 48 then 0 else if 57 < b then 0 else 1
def pLow (b : Int32) : Int32 := if b < 65 then b else if 90 < b then b else b + 32
def pSla (b : Int32) : Int32 := if b = 47 then 1 else if b = 92 then 1 else 0
def pDiv (b : Int32) : Int32 := if b = 47 then 1 else if b = 92 then 1 else if b = 63 then 1 else if b = 35 then 1 else 0
def pHex (b : Int32) : Int32 := if b < 48 then (if b < 97 then (if b < 65 then -1 else if 70 < b then -1 else b - 65 + 10) else if 102 < b then (if b < 65 then -1 else if 70 < b then -1 else b - 65 + 10) else b - 97 + 10) else if 57 < b then (if b < 97 then (if b < 65 then -1 else if 70 < b then -1 else b - 65 + 10) else if 102 < b then (if b < 65 then -1 else if 70 < b then -1 else b - 65 + 10) else b - 97 + 10) else b - 48
def pEsc (b : Int32) (i : Nat) : Int32 := if b < 32 then 1 else if 126 < b then 1 else if b ∈ tstr i then 1 else 0
def pWro (b : Int32) : Int32 := if b ≤ 32 then 1 else if 126 < b then 1 else if b ∈ tstr 10 then 1 else 0
section PB
variable {σ : gS} {b : Int32} {Q : Int32 → gS → Prop}
theorem sp_isLetter (hQ : Q (pLet b) σ) : wp (f_X1_isLetter b) σ Q := by
  unfold pLet at hQ
  unfold f_X1_isLetter f_X1_isLetter_12
  repeat' (first | exact wp_z0 hQ | exact wp_z1 hQ | exact wp_p hQ | (refine wp_if (fun c => ?_) (fun c => ?_) <;> (first | rw [if_pos c] at hQ | rw [if_neg c] at hQ)))
theorem sp_isDigit (hQ : Q (pDig b) σ) : wp (f_X1_isDigit b) σ Q := by
  unfold pDig at hQ
  unfold f_X1_isDigit
  repeat' (first | exact wp_z0 hQ | exact wp_z1 hQ | exact wp_p hQ | (refine wp_if (fun c => ?_) (fun c => ?_) <;> (first | rw [if_pos c] at hQ | rw [if_neg c] at hQ)))
theorem sp_low (hQ : Q (pLow b) σ) : wp (f_X1_low b) σ Q := by
  unfold pLow at hQ
  unfold f_X1_low
  repeat' (first | exact wp_z0 hQ | exact wp_z1 hQ | exact wp_p hQ | (refine wp_if (fun c => ?_) (fun c => ?_) <;> (first | rw [if_pos c] at hQ | rw [if_neg c] at hQ)))
theorem sp_isSlash (hQ : Q (pSla b) σ) : wp (f_X1_isSlash b) σ Q := by
  unfold pSla at hQ
  unfold f_X1_isSlash
  repeat' (first | exact wp_z0 hQ | exact wp_z1 hQ | exact wp_p hQ | (refine wp_if (fun c => ?_) (fun c => ?_) <;> (first | rw [if_pos c] at hQ | rw [if_neg c] at hQ)))
theorem sp_isDivider (hQ : Q (pDiv b) σ) : wp (f_X1_isDivider b) σ Q := by
  unfold pDiv at hQ
  unfold f_X1_isDivider
  repeat' (first | exact wp_z0 hQ | exact wp_z1 hQ | exact wp_p hQ | (refine wp_if (fun c => ?_) (fun c => ?_) <;> (first | rw [if_pos c] at hQ | rw [if_neg c] at hQ)))
theorem sp_hexValue (hQ : Q (pHex b) σ) : wp (f_X1_hexValue b) σ Q := by
  unfold pHex at hQ
  unfold f_X1_hexValue f_X1_hexValue_17 f_X1_hexValue_37
  repeat' (first | exact wp_z0 hQ | exact wp_z1 hQ | exact wp_p hQ | (refine wp_if (fun c => ?_) (fun c => ?_) <;> (first | rw [if_pos c] at hQ | rw [if_neg c] at hQ)))
/-- a printable byte by its number -/
theorem b_of {b : Int32} (h1 : ¬ b < 32) (h2 : ¬ 126 < b) : ∃ n, 32 ≤ n ∧ n < 127 ∧ b = nI n := by
  obtain ⟨n, hn, rfl⟩ := nI_of (x := b) (fun h => h1 (Int32.lt_of_lt_of_le h (by decide)))
  refine ⟨n, ?_, ?_, rfl⟩
  · exact Nat.not_lt.mp (fun h => h1 (nI_lt (a := n) (b := 32) h (by omega)))
  · exact Nat.not_le.mp (fun h => h2 (nI_lt (a := 126) (by omega) hn))
theorem sp_isToEscape {i : Nat} (hi : i < 24) (hQ : Q (pEsc b i) σ) : wp (f_X1_isToEscape b i) σ Q := by
  unfold pEsc at hQ
  unfold f_X1_isToEscape
  refine wp_if (fun c1 => ?_) (fun c1 => ?_)
  · rw [if_pos c1] at hQ
    exact wp_z1 hQ
  · rw [if_neg c1] at hQ
    refine wp_if (fun c2 => ?_) (fun c2 => ?_)
    · rw [if_pos c2] at hQ
      exact wp_z1 hQ
    · rw [if_neg c2] at hQ
      obtain ⟨n, h1, h2, rfl⟩ := b_of c1 c2
      rw [(b7 n (by omega)).2]
      obtain ⟨g1, g2, -⟩ := tstr_ok i hi
      refine wp_b (wp_tk hi (wp_b (sp_ix hi (by omega) (fun hm => ?_) (fun j hj hm => ?_))))
      · rw [if_neg hm] at hQ
        exact wp_t (by decide) (wp_z0 hQ)
      · rw [if_pos hm] at hQ
        exact wp_f (nI_pos (by omega)) (wp_z1 hQ)
theorem sp_isWrong (hQ : Q (pWro b) σ) : wp (f_X1_isWrongInName b) σ Q := by
  unfold pWro at hQ
  unfold f_X1_isWrongInName
  refine wp_if (fun c1 => ?_) (fun c1 => ?_)
  · rw [if_pos c1] at hQ
    exact wp_z1 hQ
  · rw [if_neg c1] at hQ
    refine wp_if (fun c2 => ?_) (fun c2 => ?_)
    · rw [if_pos c2] at hQ
      exact wp_z1 hQ
    · rw [if_neg c2] at hQ
      obtain ⟨n, h1, h2, rfl⟩ := b_of (b := b) (fun h => c1 (Int32.le_of_lt h)) c2
      rw [(b7 n (by omega)).2]
      obtain ⟨g1, g2, -⟩ := tstr_ok 10 (by omega)
      refine wp_b (wp_tk (by omega) (wp_b (sp_ix (by omega) (by omega) (fun hm => ?_) (fun j hj hm => ?_))))
      · rw [if_neg hm] at hQ
        exact wp_t (by decide) (wp_z0 hQ)
      · rw [if_pos hm] at hQ
        exact wp_f (nI_pos (by omega)) (wp_z1 hQ)
end PB
