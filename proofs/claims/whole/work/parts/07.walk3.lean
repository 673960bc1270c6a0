section GROWS3
variable {G : gX} {p : Program} {l : Launch} {e : Env} {R : Room} {s : State} {m : MethodId} {args : Array Value} {below : List Frame} {meth : Method} {c : Code} {H : Heap} {locs : List Loc} {cells slots : Nat} {Q : State → Prop}
variable {cc : ByteArray} {nL pc : Nat} {own : String} {ls : Array Slot} {rest : List Value} {σ : gS} {α β : Type} {y : β × gS}
theorem aL_some {t : Nat} {r : Option Nat} {K : Int32 → gM β} (hf : (gb (aL t r) K).1 σ = some y) : ∃ a, r = some a ∧ gkd σ a = t + 10 ∧ (K (Int32.ofNat (gln σ a))).1 σ = some y := by
  obtain ⟨x, h1, h2⟩ := gb_some hf
  obtain ⟨h3, h4⟩ := gq_some h1
  obtain ⟨x, σ1⟩ := x
  dsimp only at h2 h3 h4
  subst h4
  cases r with
  | none => cases h3
  | some a =>
    dsimp only at h3
    split at h3
    · rename_i hk
      cases h3
      exact ⟨a, rfl, hk, h2⟩
    · cases h3
theorem aI_some {t : Nat} {r : Option Nat} {i : Int32} {K : Int32 → gM β} (hf : (gb (aI t r i) K).1 σ = some y) : ∃ a, r = some a ∧ gkd σ a = t + 10 ∧ vp_in i (gln σ a) ∧ (K (gai σ a i.toNatClampNeg)).1 σ = some y := by
  obtain ⟨x, h1, h2⟩ := gb_some hf
  obtain ⟨h3, h4⟩ := gq_some h1
  obtain ⟨x, σ1⟩ := x
  dsimp only at h2 h3 h4
  subst h4
  cases r with
  | none => cases h3
  | some a =>
    dsimp only at h3
    split at h3
    · rename_i hk
      cases h3
      exact ⟨a, rfl, hk.1, gin_iff.mp hk.2, h2⟩
    · cases h3
theorem aR_some {t : Nat} {r : Option Nat} {i : Int32} {K : Option Nat → gM β} (hf : (gb (aR t r i) K).1 σ = some y) : ∃ a, r = some a ∧ gkd σ a = t + 10 ∧ vp_in i (gln σ a) ∧ (K (gar σ a i.toNatClampNeg)).1 σ = some y := by
  obtain ⟨x, h1, h2⟩ := gb_some hf
  obtain ⟨h3, h4⟩ := gq_some h1
  obtain ⟨x, σ1⟩ := x
  dsimp only at h2 h3 h4
  subst h4
  cases r with
  | none => cases h3
  | some a =>
    dsimp only at h3
    split at h3
    · rename_i hk
      cases h3
      exact ⟨a, rfl, hk.1, gin_iff.mp hk.2, h2⟩
    · cases h3
theorem sI_some {t : Nat} {r : Option Nat} {i v : Int32} {K : Unit → gM β} (hf : (gb (sI t r i v) K).1 σ = some y) : ∃ a, r = some a ∧ gkd σ a = t + 10 ∧ vp_in i (gln σ a) ∧ (K ()).1 (gsA σ a i.toNatClampNeg (gnar t v)) = some y := by
  obtain ⟨x, h1, h2⟩ := gb_some hf
  have h3 := gu_some h1
  cases r with
  | none => cases h3
  | some a =>
    dsimp only at h3
    split at h3
    · rename_i hk
      rw [← Option.some.inj h3] at h2
      exact ⟨a, rfl, hk.1, gin_iff.mp hk.2, h2⟩
    · cases h3
theorem sR_some {t ci : Nat} {r v : Option Nat} {i : Int32} {K : Unit → gM β} (hf : (gb (sR t ci r i v) K).1 σ = some y) : ∃ a b, r = some a ∧ v = some b ∧ gkd σ a = t + 10 ∧ vp_in i (gln σ a) ∧ gkd σ b = ci + 1 ∧ (K ()).1 (gsQ σ a i.toNatClampNeg (some b)) = some y := by
  obtain ⟨x, h1, h2⟩ := gb_some hf
  have h3 := gu_some h1
  cases r with
  | none => cases h3
  | some a =>
    cases v with
    | none => cases h3
    | some b =>
      dsimp only at h3
      split at h3
      · rename_i hk
        rw [← Option.some.inj h3] at h2
        exact ⟨a, b, rfl, rfl, hk.1, gin_iff.mp hk.2.1, hk.2.2, h2⟩
      · cases h3
theorem gw_aL {t : Nat} {ty : FieldType} {r : Option Nat} {K : Int32 → gM β} (C : gC G p s m args meth c cc nL own) (I : gI G R s y.2 σ H locs cells slots) (ht : (gTy G)[t]? = some (gdA G t, ty)) (hdg : decode cc pc = .ok (.arraylength, 1)) (hf : (gb (aL t r) K).1 σ = some y)
    (kk : ∀ x : Int32, (K x).1 σ = some y → W p l e R s m args below meth c H locs cells slots Q (F0 m (pc + 1) ls (.int x :: rest))) : W p l e R s m args below meth c H locs cells slots Q (F0 m pc ls (va_rf r :: rest)) := by
  obtain ⟨a, rfl, hk, hf⟩ := aL_some hf
  obtain ⟨hx, hb, -, hown, hts, -, hG⟩ := C
  by_cases h3 : t < 3
  · exact va_alen (D := gD G) hx hb hG.1 (gW_at I.1 (by rw [hk]; omega) (gcell_i hk h3)) 0 t rfl ht rfl hdg (kk _ hf)
  · exact va_alen (D := gD G) hx hb hG.1 (gW_at I.1 (by rw [hk]; omega) (gcell_q hk (by omega))) 0 t rfl ht rfl hdg (kk _ hf)
theorem gw_bald {r : Option Nat} {i : Int32} {K : Int32 → gM β} (C : gC G p s m args meth c cc nL own) (I : gI G R s y.2 σ H locs cells slots) (hdg : decode cc pc = .ok (.baload, 1)) (hf : (gb (aI 0 r i) K).1 σ = some y)
    (kk : ∀ x : Int32, (K x).1 σ = some y → W p l e R s m args below meth c H locs cells slots Q (F0 m (pc + 1) ls (.int x :: rest))) : W p l e R s m args below meth c H locs cells slots Q (F0 m pc ls (.int i :: va_rf r :: rest)) := by
  obtain ⟨a, rfl, hk, hi, hf⟩ := aI_some hf
  obtain ⟨hx, hb, -, hown, hts, -, hG⟩ := C
  exact va_bald (D := gD G) hx hb hG.1 (gW_at I.1 (by rw [hk]; omega) (gcell_i hk (by omega))) 0 0 rfl rfl hi hdg (kk _ hf)
theorem gw_iald {r : Option Nat} {i : Int32} {K : Int32 → gM β} (C : gC G p s m args meth c cc nL own) (I : gI G R s y.2 σ H locs cells slots) (hdg : decode cc pc = .ok (.iaload, 1)) (hf : (gb (aI 1 r i) K).1 σ = some y)
    (kk : ∀ x : Int32, (K x).1 σ = some y → W p l e R s m args below meth c H locs cells slots Q (F0 m (pc + 1) ls (.int x :: rest))) : W p l e R s m args below meth c H locs cells slots Q (F0 m pc ls (.int i :: va_rf r :: rest)) := by
  obtain ⟨a, rfl, hk, hi, hf⟩ := aI_some hf
  obtain ⟨hx, hb, -, hown, hts, -, hG⟩ := C
  exact va_iald (D := gD G) hx hb hG.1 (gW_at I.1 (by rw [hk]; omega) (gcell_i hk (by omega))) 0 1 rfl rfl hi hdg (kk _ hf)
theorem gw_zald {r : Option Nat} {i : Int32} {K : Int32 → gM β} (C : gC G p s m args meth c cc nL own) (I : gI G R s y.2 σ H locs cells slots) (hdg : decode cc pc = .ok (.baload, 1)) (hf : (gb (aI 2 r i) K).1 σ = some y)
    (kk : ∀ x : Int32, (K x).1 σ = some y → W p l e R s m args below meth c H locs cells slots Q (F0 m (pc + 1) ls (.int x :: rest))) : W p l e R s m args below meth c H locs cells slots Q (F0 m pc ls (.int i :: va_rf r :: rest)) := by
  obtain ⟨a, rfl, hk, hi, hf⟩ := aI_some hf
  obtain ⟨hx, hb, -, hown, hts, -, hG⟩ := C
  exact va_zald (D := gD G) hx hb hG.1 (gW_at I.1 (by rw [hk]; omega) (gcell_i hk (by omega))) 0 2 rfl rfl hi hdg (kk _ hf)
theorem gw_aald {t : Nat} {Cn : String} {r : Option Nat} {i : Int32} {K : Option Nat → gM β} (C : gC G p s m args meth c cc nL own) (I : gI G R s y.2 σ H locs cells slots) (h3 : 3 ≤ t) (ht : (gTy G)[t]? = some (gdA G t, .object Cn)) (hdg : decode cc pc = .ok (.aaload, 1)) (hf : (gb (aR t r i) K).1 σ = some y)
    (kk : ∀ x : Option Nat, (K x).1 σ = some y → W p l e R s m args below meth c H locs cells slots Q (F0 m (pc + 1) ls (va_rf x :: rest))) : W p l e R s m args below meth c H locs cells slots Q (F0 m pc ls (.int i :: va_rf r :: rest)) := by
  obtain ⟨a, rfl, hk, hi, hf⟩ := aR_some hf
  obtain ⟨hx, hb, -, hown, hts, -, hG⟩ := C
  exact va_aldq (D := gD G) hx hb hG.1 (gW_at I.1 (by rw [hk]; omega) (gcell_q hk h3)) 0 t rfl ht hi hdg (kk _ hf)
/-- an array of numbers is written -/
theorem gx_ast {a t i : Nat} {v : Int32} {H1 : Heap} {locs1 : List Loc} {τ : gS} (I : gI G R s τ σ H locs cells slots) (hk : gkd σ a = t + 10) (ht : t < 3) (e1 : H1[a]? = some ((vp_cell (gdA G t) (gln σ a, .inl (gai σ a))).setSlot i (.int v))) (z : H1.size = H.size) (oq : ∀ q : Nat, q ≠ a → H1[q]? = H[q]?) (hl : locs1 = locs ++ [⟨a, i⟩]) : gI G R s τ (gsA σ a i v) H1 locs1 cells slots := by
  have hne : gkd σ a ≠ 0 := by rw [hk]; omega
  have hB := (I.1.2.2 a hne).1
  subst hl
  refine ⟨gW_upd I.1 z oq rfl (fun _ => rfl) (fun b hb => gcell_sA hb) hB ?_, I.2.1.put z oq hB, I.2.2.1, I.2.2.2⟩
  rw [gcell_i (σ := gsA σ a i v) hk ht]
  show H1[a]? = some (vp_cell _ _)
  rw [e1, vp_cell_i, vp_cell_i, arrV_store]
  congr 2
  funext q
  by_cases hq : q = i
  · subst hq
    simp [updV, gsA, gai]
  · simp [updV, gsA, gai, hq]
theorem gw_iast {r : Option Nat} {i v : Int32} {K : Unit → gM β} (C : gC G p s m args meth c cc nL own) (I : gI G R s y.2 σ H locs cells slots) (hdg : decode cc pc = .ok (.iastore, 1)) (hf : (gb (sI 1 r i v) K).1 σ = some y)
    (kk : ∀ (σ1 : gS) (H1 : Heap) (locs1 : List Loc), gI G R s y.2 σ1 H1 locs1 cells slots → (K ()).1 σ1 = some y → W p l e R s m args below meth c H1 locs1 cells slots Q (F0 m (pc + 1) ls rest)) : W p l e R s m args below meth c H locs cells slots Q (F0 m pc ls (.int v :: .int i :: va_rf r :: rest)) := by
  obtain ⟨a, rfl, hk, hi, hf⟩ := sI_some hf
  obtain ⟨hx, hb, -, hown, hts, -, hG⟩ := C
  have hP := gW_at I.1 (by rw [hk]; omega) (gcell_i hk (by omega)) 0 _ rfl
  exact W.iast hx hb hP ((hG.1.2 1 _ rfl).1 _ (fun j => .int (gai σ a j))) (fun q => by cases q) (by show ¬ (i < 0 ∨ (arrV _ _ _).slots.size ≤ _); rw [arrV_size]; exact hi) rfl rfl hdg fun H1 e1 z oq => kk _ H1 _ (gx_ast I hk (by omega) e1 z oq rfl) hf
theorem gw_bast {r : Option Nat} {i v : Int32} {K : Unit → gM β} (C : gC G p s m args meth c cc nL own) (I : gI G R s y.2 σ H locs cells slots) (hdg : decode cc pc = .ok (.bastore, 1)) (hf : (gb (sI 0 r i v) K).1 σ = some y)
    (kk : ∀ (σ1 : gS) (H1 : Heap) (locs1 : List Loc), gI G R s y.2 σ1 H1 locs1 cells slots → (K ()).1 σ1 = some y → W p l e R s m args below meth c H1 locs1 cells slots Q (F0 m (pc + 1) ls rest)) : W p l e R s m args below meth c H locs cells slots Q (F0 m pc ls (.int v :: .int i :: va_rf r :: rest)) := by
  obtain ⟨a, rfl, hk, hi, hf⟩ := sI_some hf
  obtain ⟨hx, hb, -, hown, hts, -, hG⟩ := C
  have hP := gW_at I.1 (by rw [hk]; omega) (gcell_i hk (by omega)) 0 _ rfl
  exact W.bast hx hb hP ((hG.1.2 0 _ rfl).1 _ (fun j => .int (gai σ a j))) (fun q => by cases q) (by show ¬ (i < 0 ∨ (arrV _ _ _).slots.size ≤ _); rw [arrV_size]; exact hi) rfl rfl hdg fun H1 e1 z oq => kk _ H1 _ (gx_ast I hk (by omega) (show H1[a]? = some ((vp_cell (gdA G 0) (gln σ a, .inl (gai σ a))).setSlot _ (.int (vp_nar .byte v))) from e1) z oq rfl) hf
theorem gw_zast {r : Option Nat} {i v : Int32} {K : Unit → gM β} (C : gC G p s m args meth c cc nL own) (I : gI G R s y.2 σ H locs cells slots) (hdg : decode cc pc = .ok (.bastore, 1)) (hf : (gb (sI 2 r i v) K).1 σ = some y)
    (kk : ∀ (σ1 : gS) (H1 : Heap) (locs1 : List Loc), gI G R s y.2 σ1 H1 locs1 cells slots → (K ()).1 σ1 = some y → W p l e R s m args below meth c H1 locs1 cells slots Q (F0 m (pc + 1) ls rest)) : W p l e R s m args below meth c H locs cells slots Q (F0 m pc ls (.int v :: .int i :: va_rf r :: rest)) := by
  obtain ⟨a, rfl, hk, hi, hf⟩ := sI_some hf
  obtain ⟨hx, hb, -, hown, hts, -, hG⟩ := C
  have hP := gW_at I.1 (by rw [hk]; omega) (gcell_i hk (by omega)) 0 _ rfl
  exact W.zast hx hb hP ((hG.1.2 2 _ rfl).1 _ (fun j => .int (gai σ a j))) (fun q => by cases q) (by show ¬ (i < 0 ∨ (arrV _ _ _).slots.size ≤ _); rw [arrV_size]; exact hi) rfl rfl hdg fun H1 e1 z oq => kk _ H1 _ (gx_ast I hk (by omega) (show H1[a]? = some ((vp_cell (gdA G 2) (gln σ a, .inl (gai σ a))).setSlot _ (.int (vp_nar .boolean v))) from e1) z oq rfl) hf
theorem gw_aast {t ci : Nat} {Cn : String} {T : u_T} {N : Nat} {ty : Nat → FieldType} {r v : Option Nat} {i : Int32} {K : Unit → gM β} (C : gC G p s m args meth c cc nL own) (I : gI G R s y.2 σ H locs cells slots) (hc : gCls ci Cn T N ty) (h3 : 3 ≤ t) (ht : (gTy G)[t]? = some (gdA G t, .object Cn)) (hdg : decode cc pc = .ok (.aastore, 1)) (hf : (gb (sR t ci r i v) K).1 σ = some y)
    (kk : ∀ (σ1 : gS) (H1 : Heap) (locs1 : List Loc), gI G R s y.2 σ1 H1 locs1 cells slots → (K ()).1 σ1 = some y → W p l e R s m args below meth c H1 locs1 cells slots Q (F0 m (pc + 1) ls rest)) : W p l e R s m args below meth c H locs cells slots Q (F0 m pc ls (va_rf v :: .int i :: va_rf r :: rest)) := by
  obtain ⟨a, b, rfl, rfl, hk, hi, hkb, hf⟩ := sR_some hf
  obtain ⟨hx, hb, -, hown, hts, -, hG⟩ := C
  have hlt : i.toNatClampNeg < gln σ a := Nat.not_le.mp fun q => hi (Or.inr q)
  have h0 : ¬ i < 0 := fun q => hi (Or.inl q)
  have hne : gkd σ a ≠ 0 := by rw [hk]; omega
  have hB := (I.1.2.2 a hne).1
  have hP := gW_at I.1 hne (gcell_q hk h3) 0 _ rfl
  obtain ⟨r', hr', cellV, g1, g2, g3, -⟩ := gW_at I.1 (by rw [hkb]; omega) (gcell_o hkb hc.2.2.2.1) 0 _ rfl
  have hcls := (hG.1.1 ci _ hc.1).2
  obtain ⟨kA, comp, k1, k2, k3, -⟩ := (hG.1.2 t _ ht).2
  have hcomp : comp = G.1 ci := Option.some.inj (k3.symm.trans hcls.1)
  subst hcomp
  obtain ⟨kC, hkC, -⟩ := hcls.2
  refine W.aast hx hb hP (fun q h => by cases h) (fun h => by cases h) k1 k2 rfl hkC ⟨h0, by show _ < (arrV _ _ _).slots.size; rw [arrV_size]; exact hlt⟩ g1 (fun q h => by rw [g3] at h; cases h) (by rw [g2]; exact hkC) (by rw [g2]; exact va_assign hcls) rfl rfl hdg fun H1 e1 z oq => ?_
  refine kk (gsQ σ a i.toNatClampNeg (some b)) H1 _ ⟨gW_upd I.1 z oq rfl (fun _ => rfl) (fun b' hb' => gcell_sQ hb') hB ?_, I.2.1.put z oq hB, I.2.2.1, I.2.2.2⟩ hf
  rw [gcell_q (σ := gsQ σ a i.toNatClampNeg (some b)) hk h3]
  show H1[a]? = some (vp_cell _ _)
  rw [e1, vp_cell_q, vp_cell_q, arrV_store]
  congr 2
  funext q
  by_cases hq : q = i.toNatClampNeg
  · subst hq
    simp [updV, gsQ, gar, va_rf]
  · simp [updV, gsQ, gar, hq]
/-- what a new object holds -/
def gdef (c : Nat) : List Value := (List.range (gnf c)).map (fun k => if grf c k = true then .null else .int 0)
theorem gcell_N {σ : gS} {d n w b : Nat} (h : b ≠ gsz σ) : gcell G (gsN σ d n w) b = gcell G σ b := by
  have h1 : gkd (gsN σ d n w) b = gkd σ b := by simp [gsN, gkd, h]
  have h2 : ∀ c', gfs (gsN σ d n w) c' b = gfs σ c' b := fun c' => by simp [gfs, gsN, gii, grr, h]
  have h3 : gln (gsN σ d n w) b = gln σ b := by simp [gsN, gln, h]
  have h4 : gai (gsN σ d n w) b = gai σ b := by funext j; simp [gsN, gai, h]
  have h5 : gar (gsN σ d n w) b = gar σ b := by funext j; simp [gsN, gar, h]
  simp only [gcell, h1, h2, h3, h4, h5]
theorem gx_new {σ τ : gS} {d n w : Nat} {H1 : Heap} (I : gI G R s τ σ H locs cells slots) (hc : 1 ≤ gcl σ) (hs : w ≤ gsl σ) (z : H1.size = H.size + 1) (o1 : ∀ q, q < H.size → H1[q]? = H[q]?) (he : va_at (gD G) vwCl (H.size, gcell G (gsN σ d n w) (gsz σ)) H1) : gI G R s τ (gsN σ d n w) H1 locs (cells + 1) (slots + w) := by
  obtain ⟨⟨w1, w2, w3⟩, iS, iC, iL⟩ := I
  refine ⟨⟨?_, ?_, fun b hb => ?_⟩, ⟨Nat.le_trans iS.1 (by omega), fun x h1 h2 => (o1 x (Nat.lt_of_lt_of_le h1 iS.1)).trans (iS.2.1 x h1 h2), iS.2.2⟩, ?_, ?_⟩
  · rw [z, w1]; rfl
  · exact Nat.le_trans w2 (Nat.le_succ _)
  · by_cases e : b = gsz σ
    · subst e
      refine ⟨w2, ?_⟩
      rw [← w1] at he ⊢
      exact he
    · have hb' : gkd σ b ≠ 0 := by
        have h1 : gkd (gsN σ d n w) b = gkd σ b := by simp [gsN, gkd, e]
        rw [h1] at hb
        exact hb
      obtain ⟨g1, g2⟩ := w3 b hb'
      refine ⟨g1, ?_⟩
      rw [gcell_N e]
      exact g2.kept (o1 b g2.lt)
  · show cells + 1 + (gcl σ - 1) ≤ R.cells + gcl τ
    omega
  · show slots + w + (gsl σ - w) ≤ R.slots + gsl τ
    omega
theorem gw_new {ci index : Nat} {Cn : String} {T : u_T} {N : Nat} {ty : Nat → FieldType} {K : Option Nat → gM β} (C : gC G p s m args meth c cc nL own) (I : gI G R s y.2 σ H locs cells slots) (hc : gCls ci Cn T N ty) (hdf : ∀ j, j < N → defaultValue (ty j) = vp_V (gdef ci) j) (hl : Cond.classLink own index Cn ∈ gT) (hdg : decode cc pc = .ok (.new index, 3)) (hf : (gb (nO ci) K).1 σ = some y)
    (kk : ∀ (x : Option Nat) (σ1 : gS) (H1 : Heap) (locs1 : List Loc) (cells1 slots1 : Nat), gI G R s y.2 σ1 H1 locs1 cells1 slots1 → (K x).1 σ1 = some y → W p l e R s m args below meth c H1 locs1 cells1 slots1 Q (F0 m (pc + 3) ls (va_rf x :: rest))) : W p l e R s m args below meth c H locs cells slots Q (F0 m pc ls rest) := by
  obtain ⟨x, h1, h2⟩ := gb_some hf
  have h1 : (if 1 ≤ gcl σ ∧ gnf ci ≤ gsl σ then some (some (gsz σ), gsN σ ci 0 (gnf ci)) else none) = some x := h1
  split at h1
  · rename_i hroom
    have e0 := Option.some.inj h1
    subst e0
    obtain ⟨hx, hb, -, hown, hts, -, hG⟩ := C
    obtain ⟨g1, g2, g3, g4, g5, g6, g7, g8⟩ := hc
    have m2 := (K (some (gsz σ))).2 _ y h2
    have m3 : gcl y.2 ≤ gcl σ - 1 ∧ gsl y.2 ≤ gsl σ - gnf ci := m2
    have iC := I.2.2.1
    have iL := I.2.2.2
    have hKn := hG.1.1 ci _ g1
    refine W.newcK hx hb hown (hts _ hl) (hts _ g7) (hts _ g8) rfl hdg (by omega) (by omega) hKn.2.1 I.1.1 fun H1 kC hkC e1 z1 o1 => ?_
    rw [← I.1.1] at e1 z1 o1
    rw [← g3]
    have hI := gx_new (d := ci) (n := 0) (w := gnf ci) I hroom.1 hroom.2 z1 o1 (by
      have hk : gkd (gsN σ ci 0 (gnf ci)) (gsz σ) = ci + 1 := by simp [gsN, gkd]
      rw [gcell_o hk g4]
      refine ⟨_, g1, ?_⟩
      have e9 : gfs (gsN σ ci 0 (gnf ci)) ci (gsz σ) = gdef ci := by simp [gfs, gdef, gsN, gii, grr, va_rf]
      rw [e9]
      exact (u_born ty hts g2 hKn hkC e1 g5).to hdf)
    exact kk _ _ H1 _ _ _ hI h2
  · cases h1
/-- an array class's number -/
theorem gcA (C : gC G p s m args meth c cc nL own) {t : Nat} {ty : FieldType} (ht : (gTy G)[t]? = some (gdA G t, ty)) {cA : ClassId} (h : s.vm.findClass ("[" ++ ty.toString) = some cA) : cA = gdA G t := by
  have h1 := (C.2.2.2.2.2.2.1.2 t _ ht).2
  cases ty <;> first | exact Option.some.inj (h.symm.trans h1) | exact Option.some.inj (h.symm.trans h1.choose_spec.choose_spec.2.2.2)
theorem nA_some {t : Nat} {n : Int32} {K : Option Nat → gM β} (hf : (gb (nA t n) K).1 σ = some y) : ¬ n < 0 ∧ n.toNatClampNeg ≤ 100000 ∧ 1 ≤ gcl σ ∧ n.toNatClampNeg ≤ gsl σ ∧ (K (some (gsz σ))).1 (gsN σ (t + 9) n.toNatClampNeg n.toNatClampNeg) = some y := by
  obtain ⟨x, h1, h2⟩ := gb_some hf
  have h1 : (if ¬ n < 0 ∧ n.toNatClampNeg ≤ 100000 ∧ 1 ≤ gcl σ ∧ n.toNatClampNeg ≤ gsl σ then some (some (gsz σ), gsN σ (t + 9) n.toNatClampNeg n.toNatClampNeg) else none) = some x := h1
  split at h1
  · rename_i hroom
    have e0 := Option.some.inj h1
    subst e0
    exact ⟨hroom.1, hroom.2.1, hroom.2.2.1, hroom.2.2.2, h2⟩
  · cases h1
theorem gw_newa {t : Nat} {ty : FieldType} {atype : ArrayType} {n : Int32} {K : Option Nat → gM β} (C : gC G p s m args meth c cc nL own) (I : gI G R s y.2 σ H locs cells slots) (h3 : t < 3) (ht : (gTy G)[t]? = some (gdA G t, ty)) (hty : newarray.typeOf atype = ty) (hdv : defaultValue ty = .int 0) (hcb : componentBytes ty ≤ 4) (harr : Cond.arrayClass ty ∈ gT) (hdg : decode cc pc = .ok (.newarray atype, 2)) (hf : (gb (nA t n) K).1 σ = some y)
    (kk : ∀ (x : Option Nat) (σ1 : gS) (H1 : Heap) (locs1 : List Loc) (cells1 slots1 : Nat), gI G R s y.2 σ1 H1 locs1 cells1 slots1 → (K x).1 σ1 = some y → W p l e R s m args below meth c H1 locs1 cells1 slots1 Q (F0 m (pc + 2) ls (va_rf x :: rest))) : W p l e R s m args below meth c H locs cells slots Q (F0 m pc ls (.int n :: rest)) := by
  subst hty
  obtain ⟨hn, hN, hc1, hs1, h2⟩ := nA_some hf
  have m2 := (K (some (gsz σ))).2 _ y h2
  have m3 : gcl y.2 ≤ gcl σ - 1 ∧ gsl y.2 ≤ gsl σ - n.toNatClampNeg := m2
  have iC := I.2.2.1
  have iL := I.2.2.2
  have hx := C.1
  have hb := C.2.1
  have hts := C.2.2.2.2.1
  refine va_newaK hx hb (hts _ harr) rfl hdg rfl hn rfl ?_ (by omega) (by omega) I.1.1 fun H1 cA e1 z1 o1 hAr hNm => ?_
  · have : n.toNatClampNeg * componentBytes (newarray.typeOf atype) ≤ 100000 * 4 := Nat.mul_le_mul hN hcb
    omega
  have hcA := gcA C ht hNm
  subst hcA
  rw [← I.1.1] at e1 z1 o1
  have hI := gx_new (d := t + 9) (n := n.toNatClampNeg) (w := n.toNatClampNeg) I hc1 hs1 z1 o1 (by
    have hk : gkd (gsN σ (t + 9) n.toNatClampNeg n.toNatClampNeg) (gsz σ) = t + 10 := by simp [gsN, gkd]
    rw [gcell_i hk h3]
    show H1[H.size]? = some (vp_cell _ _)
    rw [e1, vp_cell_i, hdv]
    have e8 : gln (gsN σ (t + 9) n.toNatClampNeg n.toNatClampNeg) (gsz σ) = n.toNatClampNeg := by simp [gsN, gln]
    have e9 : gai (gsN σ (t + 9) n.toNatClampNeg n.toNatClampNeg) (gsz σ) = fun _ => 0 := by funext j; simp [gsN, gai]
    rw [e8, e9])
  exact kk _ _ H1 _ _ _ hI h2
theorem gw_newq {t index : Nat} {Cn : String} {n : Int32} {K : Option Nat → gM β} (C : gC G p s m args meth c cc nL own) (I : gI G R s y.2 σ H locs cells slots) (h3 : 3 ≤ t) (ht : (gTy G)[t]? = some (gdA G t, .object Cn)) (hl : Cond.classLink own index Cn ∈ gT) (hAO : Cn ∈ [RX0, RX3, RX5, RX6]) (hdg : decode cc pc = .ok (.anewarray index, 3)) (hf : (gb (nA t n) K).1 σ = some y)
    (kk : ∀ (x : Option Nat) (σ1 : gS) (H1 : Heap) (locs1 : List Loc) (cells1 slots1 : Nat), gI G R s y.2 σ1 H1 locs1 cells1 slots1 → (K x).1 σ1 = some y → W p l e R s m args below meth c H1 locs1 cells1 slots1 Q (F0 m (pc + 3) ls (va_rf x :: rest))) : W p l e R s m args below meth c H locs cells slots Q (F0 m pc ls (.int n :: rest)) := by
  obtain ⟨hn, hN, hc1, hs1, h2⟩ := nA_some hf
  have m2 := (K (some (gsz σ))).2 _ y h2
  have m3 : gcl y.2 ≤ gcl σ - 1 ∧ gsl y.2 ≤ gsl σ - n.toNatClampNeg := m2
  have iC := I.2.2.1
  have iL := I.2.2.2
  obtain ⟨hx, hb, -, hown, hts, -, hG⟩ := id C
  refine W.anew hx hb hown (hts _ hl) (va_AO.use (hG.2.1 Cn hAO)) rfl hdg rfl hn (by omega) (by omega) (by omega) fun cA kA comp f1 f2 f3 f4 => ?_
  have hcA := gcA C ht f1
  subst hcA
  generalize hH1 : H.push ({ cls := gdA G t, slots := Array.replicate n.toNatClampNeg .null, vm := .none } : Cell) = H1
  have z1 : H1.size = H.size + 1 := by rw [← hH1, Array.size_push]
  have e1 : H1[H.size]? = some (arrV (gdA G t) n.toNatClampNeg (fun _ => .null)) := by rw [← hH1, Array.getElem?_push_size, ← arrV_new]
  have o1 : ∀ q : Nat, q < H.size → H1[q]? = H[q]? := fun q hq => by rw [← hH1, Array.getElem?_push, if_neg (Nat.ne_of_lt hq)]
  have hI := gx_new (d := t + 9) (n := n.toNatClampNeg) (w := n.toNatClampNeg) I hc1 hs1 z1 o1 (by
    have hk : gkd (gsN σ (t + 9) n.toNatClampNeg n.toNatClampNeg) (gsz σ) = t + 10 := by simp [gsN, gkd]
    rw [gcell_q hk h3]
    show H1[H.size]? = some (vp_cell _ _)
    rw [e1, vp_cell_q]
    have e8 : gln (gsN σ (t + 9) n.toNatClampNeg n.toNatClampNeg) (gsz σ) = n.toNatClampNeg := by simp [gsN, gln]
    have e9 : gar (gsN σ (t + 9) n.toNatClampNeg n.toNatClampNeg) (gsz σ) = fun _ => none := by funext j; simp [gsN, gar]
    rw [e8, e9]
    rfl)
  rw [show H.size = gsz σ from I.1.1]
  exact kk _ _ H1 _ _ _ hI h2
end GROWS3
