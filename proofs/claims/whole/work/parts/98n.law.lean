/-! THE LAW: its loop -/
theorem wp_sc {L : Nat} {xs : Nat → Int32} {j : Nat} {i : Int32} {β : Type} {K : Int32 → gM β} {σ : gS} {Q : β → gS → Prop} (hL : L ≤ 3584) (hi : i = nI j) (hj : j < L) (h : wp (K (xs j)) σ Q) : wp (gb (scr L xs i) K) σ Q := by
  subst hi
  unfold scr
  refine wp_b ?_
  rw [if_pos (gin_nI hj (by omega)), nI_clamp (by omega)]
  exact wp_p h
def emS (P : Nat → Option UV) : Nat := emB P 0 + emB P 1 + emB P 2 + emB P 3
theorem emS_set {P : Nat → Option UV} {n : Nat} {V : UV} (hn : n < 4) : emS (setP P n V) + emB P n = emS P := by
  have same : ∀ j, j ≠ n → emB (setP P n V) j = emB P j := fun j hj => by
    unfold emB setP
    rw [if_neg hj]
  have self : emB (setP P n V) n = 0 := by
    unfold emB setP
    rw [if_pos rfl]
    rfl
  unfold emS
  rcases (show n = 0 ∨ n = 1 ∨ n = 2 ∨ n = 3 by omega) with rfl | rfl | rfl | rfl
  · rw [self, same 1 (by decide), same 2 (by decide), same 3 (by decide)]
    omega
  · rw [self, same 0 (by decide), same 2 (by decide), same 3 (by decide)]
    omega
  · rw [self, same 0 (by decide), same 1 (by decide), same 3 (by decide)]
    omega
  · rw [self, same 0 (by decide), same 1 (by decide), same 2 (by decide)]
    omega
theorem ty_no {a : Int32} {n : Nat} (h : a < 1 ∨ ¬ a ≤ 8) (e : a = nI n) (h1 : 1 ≤ n) (h8 : n ≤ 8) : False := by
  subst e
  rcases h with z | z
  · have := (nI_ltI (b := 1) (by omega) (by omega)).mp z
    omega
  · exact z (nI_le (b := 8) h8 (by omega))
theorem rd_no {i j : Int32} {P : Nat → Option UV} {n : Nat} (h : i < 0 ∨ ¬ i < 4 ∨ (j ≠ -1 ∧ plI P j = none)) (e : i = nI n) (hn : n < 4) (hj : j = -1 ∨ plI P j ≠ none) : False := by
  subst e
  rcases h with z | z | ⟨z1, z2⟩
  · exact nI_pos (by omega) z
  · exact z (nI_lt (b := 4) hn (by omega))
  · exact hj.elim z1 (fun y => y z2)
/-- one round of the loop -/
theorem law_step {L : Nat} {xs : Nat → Int32} {σ : gS} {g m i k : Nat} {D : Nat → Nat} {T : List Int32} {P : Nat → Option UV} {G : GV} {rec : Option Nat → Option Nat → Int32 → gM Int32} {Q : Int32 → gS → Prop} (hL : L ≤ 3584) (hi : 7 * i + 7 ≤ L) (S0 : St σ g m D T P G) (hB : Bud σ (58068 + emS P + 8456 * (k + 1)))
    (nx : ∀ σ2 T' P' G', St σ2 g m D T' P' G' → Bud σ2 (58068 + emS P' + 8456 * k) → wp (rec (some g) (some m) (nI (7 * i) + 7)) σ2 Q) : wp (f_L_law_18 L xs rec (some g) (some m) (nI (7 * i))) σ Q := by
  obtain ⟨S, M, R, hM, hO⟩ := S0
  have kg : gkd σ g = 7 + 1 := S.2.1
  have b0 : Bud σ 0 := hB.le (by omega)
  have go : ∀ {σ1 : gS} {T' : List Int32} {G' : GV} {d : Nat} {p : gM Int32} {v : Int32}, Sg σ σ1 g T' P G' d → d ≤ 8456 → wm m D p M (fun r M' => r = v ∧ ∃ R', Mo M' R' T' P G') → wp (gb (nn 8 (some m)) fun _ => gb p fun x => if v = x then (rec (some g) (some m) (nI (7 * i) + 7)) else (gp 0)) σ1 Q := by
    intro σ1 T' G' d p v S1 hd hw
    exact st_step hM S1 hw (fun σ2 S2 B2 => wp_t rfl (nx σ2 T' P G' S2 (B2 _ (hB.le (by omega)))))
  have z0 := Sg.rf S
  have i1 : nI (7 * i) + 1 = nI (7 * i + 1) := nI_add _ 1
  have i2 : nI (7 * i) + 2 = nI (7 * i + 2) := nI_add _ 2
  have i3 : nI (7 * i) + 3 = nI (7 * i + 3) := nI_add _ 3
  have i4 : nI (7 * i) + 4 = nI (7 * i + 4) := nI_add _ 4
  have i5 : nI (7 * i) + 5 = nI (7 * i + 5) := nI_add _ 5
  have i6 : nI (7 * i) + 6 = nI (7 * i + 6) := nI_add _ 6
  have c1 : ∀ {K : Int32 → gM Int32} {σ}, wp (K (xs (7 * i + 1))) σ Q → wp (gb (scr L xs (nI (7 * i) + 1)) K) σ Q := fun h => wp_sc hL i1 (by omega) h
  have c2 : ∀ {K : Int32 → gM Int32} {σ}, wp (K (xs (7 * i + 2))) σ Q → wp (gb (scr L xs (nI (7 * i) + 2)) K) σ Q := fun h => wp_sc hL i2 (by omega) h
  have c3 : ∀ {K : Int32 → gM Int32} {σ}, wp (K (xs (7 * i + 3))) σ Q → wp (gb (scr L xs (nI (7 * i) + 3)) K) σ Q := fun h => wp_sc hL i3 (by omega) h
  have c4 : ∀ {K : Int32 → gM Int32} {σ}, wp (K (xs (7 * i + 4))) σ Q → wp (gb (scr L xs (nI (7 * i) + 4)) K) σ Q := fun h => wp_sc hL i4 (by omega) h
  have c5 : ∀ {K : Int32 → gM Int32} {σ}, wp (K (xs (7 * i + 5))) σ Q → wp (gb (scr L xs (nI (7 * i) + 5)) K) σ Q := fun h => wp_sc hL i5 (by omega) h
  have c6 : ∀ {K : Int32 → gM Int32} {σ}, wp (K (xs (7 * i + 6))) σ Q → wp (gb (scr L xs (nI (7 * i) + 6)) K) σ Q := fun h => wp_sc hL i6 (by omega) h
  have tnil : ∀ {M'}, mI M' 1 = 0 → Tx M' [] := fun h => ⟨h, by decide, isB.nil, By.nil⟩
  unfold f_L_law_18
  refine wp_f ?_ (wp_sc hL rfl (by omega) ?_)
  · intro z
    have : (nI L - 7 : Int32) = nI (L - 7) := pk_sub (b := 7) (by omega)
    have z : nI L - 7 < nI (7 * i) := z
    rw [this] at z
    have := (nI_ltI (by omega) (by omega)).mp z
    omega
  refine wp_if (fun _ => ?_) (fun _ => wp_if (fun _ => ?_) (fun _ => wp_if (fun _ => ?_) (fun _ => wp_if (fun _ => ?_) (fun _ => wp_if (fun _ => ?_) (fun _ => wp_if (fun _ => ?_) (fun _ => wp_if (fun _ => ?_) (fun _ => wp_if (fun _ => ?_) (fun _ => wp_if (fun _ => ?_) (fun _ => wp_if (fun _ => ?_) (fun _ => wp_if (fun _ => ?_) (fun _ => wp_if (fun _ => ?_) (fun _ => wp_if (fun _ => ?_) (fun _ => wp_if (fun _ => ?_) (fun _ => wp_if (fun _ => ?_) (fun _ => ?_)))))))))))))))
  · -- type
    refine c1 (c2 (c3 (wp_b (wp_nn kg (wp_b (sp_type S b0 (fun c => ?_) (fun n e h1 h8 hl => ?_) (fun n σ1 e h1 h8 hl S1 => ?_)))))))
    · exact c1 (c2 (c3 (go z0 (by omega) (m_type hO.1 (fun _ => ⟨rfl, R, hO⟩) (fun n e h1 h8 _ => (ty_no c e h1 h8).elim) (fun n M' e h1 h8 _ _ _ => (ty_no c e h1 h8).elim)))))
    · refine c1 (c2 (c3 (go z0 (by omega) (m_type hO.1 (fun c => (ty_no c e h1 h8).elim) (fun _ _ _ _ _ => ⟨rfl, R, hO⟩) (fun n' M' e' h1' h8' hl' _ _ => ?_)))))
      have : n = n' := (nI_eq (by omega) (by omega)).mp (e.symm.trans e')
      omega
    · refine c1 (c2 (c3 (go S1 (by omega) (m_type hO.1 (fun c => (ty_no c e h1 h8).elim) (fun n' e' h1' h8' hl' => ?_) (fun n' M' e' h1' h8' hl' E W => ?_)))))
      · have : n = n' := (nI_eq (by omega) (by omega)).mp (e.symm.trans e')
        omega
      · have : n = n' := (nI_eq (by omega) (by omega)).mp (e.symm.trans e')
        subst this
        exact ⟨rfl, R, hO.txt (E.mono (by decide)) W⟩
  · -- erase
    refine wp_b (wp_nn kg (wp_b (sp_erase S (fun σ1 S1 => go S1 (by omega) (m_erase hO.1 ⟨rfl, R, hO.txt (Ex.n (by decide)) (tnil ?_)⟩)))))
    rfl
  · -- read
    have hT := S.2.2.2.1
    have bs : ∀ {j : Int32} B, plI P j = some B → okV B ∧ okW B := by
      intro j B e
      have ok := plI_ok S e
      refine ⟨ok, ?_⟩
      unfold plI at e
      split at e
      · cases e
      · rename_i d0
        split at e
        · rename_i d1
          obtain ⟨x, hx, rfl⟩ := ix4 d0 d1
          rw [nI_clamp (by omega)] at e
          exact ((hO.2.2.1 x hx).2 B e).2.2.1
        · cases e
    have wok : ∀ {j : Int32} {U V : UV}, rdU T (plI P j) U = .inr V → okW V ∧ okR V := fun e => ⟨rdU_okW hT bs e, rdU_okR hT (fun B h => (bs B h).1) e⟩
    refine c1 (c2 (wp_b (wp_nn kg (wp_b (sp_read S (hB.le (by omega)) (fun U V Bo hb e => rdU_okR hT hb e) (fun U Bo c e => rdU_neg e) (fun z => ?_) (fun n U c σ1 ei hn hj e S1 => ?_) (fun n U V σ1 ei hn hj e hl S1 => ?_) (fun n U V σ1 ei hn hj e hl S1 => ?_))))))
    · exact c1 (c2 (go z0 (by omega) (m_read (U := (fun _ => [], fun _ => 0, 0, fun _ => 0)) hO (fun V e => wok e) (fun c e => rdU_neg e) (fun _ => ⟨rfl, R, hO⟩) (fun n c M' R' e hn hj _ _ => (rd_no z e hn hj).elim) (fun n c M' R' e hn hj _ _ _ => (rd_no z e hn hj).elim) (fun n c M' R' e hn hj _ _ _ => (rd_no z e hn hj).elim))))
    · refine c1 (c2 (go S1 (by omega) (m_read (U := U) hO (fun V e => wok e) (fun c e => rdU_neg e) (fun z => (rd_no z ei hn hj).elim) (fun n' c' M' R' ei' hn' hj' e' h' => ?_) (fun n' V M' R' ei' hn' hj' e' _ h' => ?_) (fun n' V M' R' ei' hn' hj' e' _ h' => ?_))))
      · rw [e] at e'
        cases e'
        exact ⟨rfl, R', h'⟩
      · rw [e] at e'
        cases e'
      · rw [e] at e'
        cases e'
    · refine c1 (c2 (go S1 (by omega) (m_read (U := U) hO (fun V e => wok e) (fun c e => rdU_neg e) (fun z => (rd_no z ei hn hj).elim) (fun n' c' M' R' ei' hn' hj' e' h' => ?_) (fun n' V M' R' ei' hn' hj' e' _ h' => ?_) (fun n' V M' R' ei' hn' hj' e' hl' h' => ?_))))
      · rw [e] at e'
        cases e'
      · exact ⟨rfl, R', h'⟩
      · rw [e] at e'
        cases e'
        omega
    · refine c1 (c2 (st_step hM S1 (v := 0) (m_read (U := U) hO (fun V e => wok e) (fun c e => rdU_neg e) (fun z => (rd_no z ei hn hj).elim) (fun n' c' M' R' ei' hn' hj' e' h' => ?_) (fun n' V M' R' ei' hn' hj' e' hl' h' => ?_) (fun n' V M' R' ei' hn' hj' e' hl' h' => ?_)) (fun σ2 S2 B2 => wp_t rfl (nx σ2 _ _ _ S2 (B2 _ (hB.le ?_))))))
      · rw [e] at e'
        cases e'
      · rw [e] at e'
        cases e'
        omega
      · rw [e] at e'
        cases e'
        have : n = n' := (nI_eq (by omega) (by omega)).mp (ei.symm.trans ei')
        subst this
        exact ⟨rfl, R', h'⟩
      · have := emS_set (P := P) (V := V) hn
        omega
  · -- write
    refine c1 (wp_b (wp_nn kg (wp_b (sp_write S b0 (fun e => ?_) (fun U σ1 e hl S1 => ?_) (fun U σ1 e hl S1 => ?_)))))
    · refine c1 (go z0 (by omega) (m_write hO (fun _ => ⟨rfl, R, hO⟩) (fun U M' e' _ _ => ?_) (fun U M' e' _ _ => ?_)))
      · rw [e] at e'
        cases e'
      · rw [e] at e'
        cases e'
    · refine c1 (go S1 (by omega) (m_write hO (fun e' => ?_) (fun U' M' e' _ h' => ⟨rfl, R, h'⟩) (fun U' M' e' hl' _ => ?_)))
      · rw [e] at e'
        cases e'
      · rw [e] at e'
        cases e'
        omega
    · refine c1 (go S1 (by omega) (m_write hO (fun e' => ?_) (fun U' M' e' hl' h' => ?_) (fun U' M' e' hl' h' => ?_)))
      · rw [e] at e'
        cases e'
      · rw [e] at e'
        cases e'
        omega
      · rw [e] at e'
        cases e'
        exact ⟨rfl, R, h'⟩
  · -- at
    exact c1 (wp_b (wp_nn kg (wp_b (sp_at S (c1 (go z0 (by omega) (m_at hO.1 ⟨rfl, R, hO⟩)))))))
  · -- size
    exact c1 (c2 (wp_b (wp_nn kg (wp_b (sp_size S (c1 (c2 (go z0 (by omega) (m_size hO (fun M' E _ => ⟨rfl, R, hO.ex (E.mono (by decide))⟩))))))))))
  · -- part
    exact c1 (c2 (c3 (wp_b (wp_nn kg (wp_b (sp_part S (c1 (c2 (c3 (go z0 (by omega) (m_part hO (fun M' E => ⟨rfl, R, hO.ex (E.mono (by decide))⟩))))))))))))
  · -- told
    exact c1 (c2 (wp_b (wp_nn kg (wp_b (sp_told S (c1 (c2 (go z0 (by omega) (m_told hO ⟨rfl, R, hO⟩)))))))))
  · -- number
    exact c1 (c2 (wp_b (wp_nn kg (wp_b (sp_number S (c1 (c2 (go z0 (by omega) (m_number hO ⟨rfl, R, hO⟩)))))))))
  · -- same
    exact c1 (c2 (wp_b (wp_nn kg (wp_b (sp_same S (c1 (c2 (go z0 (by omega) (m_same hO ⟨rfl, R, hO⟩)))))))))
  · -- list
    have ls : ∀ b : Bool, (b = false ↔ xs (7 * i + 1) = 0) → wp (f_L_law_452 L xs rec (some g) (some m) (nI (7 * i)) (some g) (b2i b)) σ Q := by
      intro b hb
      have tw : ∀ {σ1 : gS} {v : Int32}, wp (f_L_law_469 L xs rec (some g) (some m) (nI (7 * i)) v (some m) (b2i b)) σ1 Q → wp (gb (scr L xs (nI (7 * i) + 1)) fun v2 => if v2 = 0 then (f_L_law_469 L xs rec (some g) (some m) (nI (7 * i)) v (some m) 0) else (f_L_law_469 L xs rec (some g) (some m) (nI (7 * i)) v (some m) 1)) σ1 Q := by
        intro σ1 v h
        refine c1 (wp_if (fun z => ?_) (fun z => ?_))
        · rw [hb.mpr z] at h
          exact h
        · rw [show b = true by cases b; exact absurd (hb.mp rfl) z; rfl] at h
          exact h
      unfold f_L_law_452
      refine wp_b (wp_nn kg (wp_b (sp_list S (hB.le (by omega)) (fun c σ1 e S1 hc => tw ?_) (fun k' w ys σ1 e hb' hk S1 => tw ?_) (fun k' w ys σ1 e hb' hn S1 => tw ?_) (fun k' w ys σ1 e hb' hn S1 => tw ?_))))
      · unfold f_L_law_469
        refine go S1 (by omega) (m_list hO (fun c' M' e' h' _ => ?_) (fun _ _ _ M' e' _ _ _ => ?_) (fun _ _ _ M' e' _ _ _ => ?_) (fun _ _ _ M' e' _ _ _ => ?_))
        · rw [e] at e'
          cases e'
          exact ⟨rfl, R, h'⟩
        · rw [e] at e'
          cases e'
        · rw [e] at e'
          cases e'
        · rw [e] at e'
          cases e'
      · unfold f_L_law_469
        refine go S1 (by omega) (m_list hO (fun c' M' e' h' _ => ?_) (fun _ _ _ M' e' _ _ h' => ⟨rfl, R, h'⟩) (fun _ _ _ M' e' hb'' _ _ => ?_) (fun _ _ _ M' e' hb'' _ _ => ?_))
        · rw [e] at e'
          cases e'
        · rw [e] at e'
          cases e'
          exact (hb''.elim (fun z => by rw [hb'] at z; cases z) hk).elim
        · rw [e] at e'
          cases e'
          exact (hb''.elim (fun z => by rw [hb'] at z; cases z) hk).elim
      · unfold f_L_law_469
        refine go S1 (by omega) (m_list hO (fun c' M' e' h' _ => ?_) (fun _ _ _ M' e' hb'' hk'' h' => ?_) (fun _ _ _ M' e' hb'' _ h' => ⟨rfl, R, h'⟩) (fun _ _ _ M' e' hb'' hn' _ => ?_))
        · rw [e] at e'
          cases e'
        · rw [e] at e'
          cases e'
          exact (hb'.elim (fun z => by rw [hb''] at z; cases z) hk'').elim
        · omega
      · unfold f_L_law_469
        refine go S1 (by omega) (m_list hO (fun c' M' e' h' _ => ?_) (fun _ _ _ M' e' hb'' hk'' h' => ?_) (fun _ _ _ M' e' hb'' hn' h' => ?_) (fun _ _ _ M' e' hb'' hn' h' => ?_))
        · rw [e] at e'
          cases e'
        · rw [e] at e'
          cases e'
          exact (hb'.elim (fun z => by rw [hb''] at z; cases z) hk'').elim
        · omega
        · rw [e] at e'
          cases e'
          exact ⟨rfl, R, h'⟩
    exact c1 (wp_if (fun z => ls false ⟨fun _ => z, fun _ => rfl⟩) (fun z => ls true ⟨fun y => (by cases y), fun y => absurd y z⟩))
  · -- resolve
    refine c1 (c2 (c3 (c4 (c5 (wp_b (wp_nn kg (wp_b (sp_resolve S (hB.le (by omega)) (fun z => ?_) (fun c σ1 ha e S1 hc => ?_) (fun k' w ys σ1 ha e hk S1 => ?_) (fun w ys σ1 ha e hn S1 => ?_) (fun w ys σ1 ha e hn S1 => ?_)))))))))
    · exact c1 (c2 (c3 (c4 (c5 (go z0 (by omega) (m_resolve hO (fun _ => ⟨rfl, R, hO⟩) (fun _ _ ha _ _ _ => (z ha).elim) (fun _ _ _ _ ha _ _ _ => (z ha).elim) (fun _ _ _ ha _ _ _ => (z ha).elim) (fun _ _ _ ha _ _ _ => (z ha).elim)))))))
    · refine c1 (c2 (c3 (c4 (c5 (go S1 (by omega) (m_resolve hO (fun z => (z ha).elim) (fun c' M' _ e' h' _ => ?_) (fun _ _ _ _ _ e' _ _ => ?_) (fun _ _ _ _ e' _ _ => ?_) (fun _ _ _ _ e' _ _ => ?_)))))))
      · rw [e] at e'
        cases e'
        exact ⟨rfl, R, h'⟩
      · rw [e] at e'
        cases e'
      · rw [e] at e'
        cases e'
      · rw [e] at e'
        cases e'
    · refine c1 (c2 (c3 (c4 (c5 (go S1 (by omega) (m_resolve hO (fun z => (z ha).elim) (fun c' M' _ e' h' _ => ?_) (fun _ _ _ _ _ e' _ h' => ⟨rfl, R, h'⟩) (fun _ _ _ _ e' _ _ => ?_) (fun _ _ _ _ e' _ _ => ?_)))))))
      · rw [e] at e'
        cases e'
      · rw [e] at e'
        cases e'
        exact absurd rfl hk
      · rw [e] at e'
        cases e'
        exact absurd rfl hk
    · refine c1 (c2 (c3 (c4 (c5 (go S1 (by omega) (m_resolve hO (fun z => (z ha).elim) (fun c' M' _ e' h' _ => ?_) (fun _ _ _ _ _ e' hk' h' => ?_) (fun _ _ _ _ e' _ h' => ⟨rfl, R, h'⟩) (fun _ _ _ _ e' hn' _ => ?_)))))))
      · rw [e] at e'
        cases e'
      · rw [e] at e'
        cases e'
        exact absurd rfl hk'
      · omega
    · refine c1 (c2 (c3 (c4 (c5 (go S1 (by omega) (m_resolve hO (fun z => (z ha).elim) (fun c' M' _ e' h' _ => ?_) (fun _ _ _ _ _ e' hk' h' => ?_) (fun _ _ _ _ e' hn' h' => ?_) (fun _ _ _ _ e' hn' h' => ?_)))))))
      · rw [e] at e'
        cases e'
      · rw [e] at e'
        cases e'
        exact absurd rfl hk'
      · omega
      · rw [e] at e'
        cases e'
        exact ⟨rfl, R, h'⟩
  · -- range
    refine c1 (c2 (c3 (c4 (c5 (c6 (wp_b (wp_nn kg (wp_b (sp_range S (hB.le (by omega)) (fun z => ?_) (fun ha hn => ?_) (fun σ1 ha hn S1 => ?_))))))))))
    · exact c1 (c2 (c3 (c4 (c5 (c6 (go z0 (by omega) (m_range hO (fun _ => ⟨rfl, R, hO⟩) (fun ha _ => (z ha).elim) (fun _ ha _ _ => (z ha).elim))))))))
    · exact c1 (c2 (c3 (c4 (c5 (c6 (go z0 (by omega) (m_range hO (fun z => (z ha).elim) (fun _ _ => ⟨rfl, R, hO⟩) (fun _ _ hn' _ => (by omega)))))))))
    · exact c1 (c2 (c3 (c4 (c5 (c6 (go S1 (by omega) (m_range hO (fun z => (z ha).elim) (fun _ hn' => (by omega)) (fun _ _ _ h' => ⟨rfl, R, h'⟩))))))))
  · -- clear
    exact wp_b (wp_nn kg (wp_b (sp_clear S (fun σ1 S1 => go S1 (by omega) (m_clear hO (fun M' h' => ⟨rfl, R, h'⟩))))))
  · -- pass
    exact c1 (wp_b (wp_nn kg (wp_b (sp_pass S (c1 (go z0 (by omega) (m_pass hO ⟨rfl, R, hO⟩)))))))
  · -- nothing
    exact nx σ T P G ⟨S, M, R, hM, hO⟩ (hB.le (by omega))
theorem law_loop {L : Nat} {xs : Nat → Int32} {g m : Nat} {D : Nat → Nat} (hL : L ≤ 3584) : ∀ (k i f : Nat) (σ : gS) (T : List Int32) (P : Nat → Option UV) (G : GV), L < 7 * (i + k + 1) → 7 * i ≤ 3590 → k < f → St σ g m D T P G → Bud σ (58068 + emS P + 8456 * k) → wp (f_L_law_L18 L xs f (some g) (some m) (nI (7 * i))) σ (fun r _ => r = 1) := by
  have fin : ∀ (i f : Nat) (σ : gS), L < 7 * i + 7 → 7 * i ≤ 3590 → wp (f_L_law_L18 L xs (f + 1) (some g) (some m) (nI (7 * i))) σ (fun r _ => r = 1) := by
    intro i f σ h hi
    rw [f_L_law_L18]
    unfold f_L_law_18
    refine wp_t ?_ (wp_p rfl)
    show nI L - nI 7 < nI (7 * i)
    rw [Int32.lt_iff_toInt_lt, pk_sub_toInt (by omega) (by omega)]
    have e : (nI (7 * i)).toInt = ((7 * i : Nat) : Int) := by
      have := pk_sub_toInt (a := 7 * i) (b := 0) (by omega) (by omega)
      rw [pk_sub (by omega)] at this
      simp at this
      exact this
    rw [e]
    omega
  intro k
  induction k with
  | zero =>
    intro i f σ T P G h1 hi hf _ _
    obtain ⟨f, rfl⟩ : ∃ g, f = g + 1 := ⟨f - 1, by omega⟩
    exact fin i f σ (by omega) hi
  | succ k ih =>
    intro i f σ T P G h1 hi hf S hB
    obtain ⟨f, rfl⟩ : ∃ g, f = g + 1 := ⟨f - 1, by omega⟩
    rcases Nat.lt_or_ge L (7 * i + 7) with z | z
    · exact fin i f σ z hi
    · rw [f_L_law_L18]
      refine law_step hL z S hB (fun σ2 T' P' G' S2 B2 => ?_)
      have : nI (7 * i) + 7 = nI (7 * (i + 1)) := (nI_add _ 7).trans (by rw [show 7 * i + 7 = 7 * (i + 1) by omega])
      rw [this]
      exact ih (i + 1) f σ2 T' P' G' (by omega) (by omega) (by omega) S2 B2
theorem law_ok (N L : Nat) (xs : Nat → Int32) (hL : L ≤ 3584) : ∃ τ, (f_L_law L xs).1 (gs0 N) = some (1, τ) := by
  have W0 := gs0_wf N
  have key : wp (f_L_law L xs) (gs0 N) (fun r _ => r = 1) := by
    unfold f_L_law
    refine un_ugate Int32 (gsz (gs0 N)) (fun _ => False) (gs0 N) _ (cut_self W0.rok) (Nat.le_refl _) W0.rok (gs0_bud N _ (by omega)) _ (fun σ1 X1 => ?_)
    obtain ⟨S1, B1⟩ := st_sys X1
    have W1 := S1.1
    have bud1 : Bud σ1 7201818 := B1 _ (gs0_bud N _ (by omega))
    refine un_model Int32 (gsz σ1) (fun _ => False) σ1 _ (cut_self W1.rok) (Nat.le_refl _) W1.rok (bud1.le (by omega)) _ (fun σ2 X2 => ?_)
    obtain ⟨d2, m2, B2⟩ := st_md W1 X2
    have bud2 : Bud σ2 7117947 := B2 _ (bud1.le (by omega))
    have S2 : Sys σ2 (gsz (gs0 N)) [] P0 G0 := S1.oth d2.1 (m2.mono (fun _ _ _ _ z => z.elim))
    have e0 : emS P0 = 232272 := rfl
    exact law_loop hL 512 0 gF σ2 [] P0 G0 (by omega) (by omega) (by decide) ⟨S2, M0, _, d2, M0_mo⟩ (bud2.le (by rw [e0]; omega))
  obtain ⟨⟨r, τ⟩, h1, h2⟩ := key
  have h2 : r = 1 := h2
  subst h2
  exact ⟨τ, h1⟩
