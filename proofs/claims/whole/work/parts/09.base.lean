def gF : Nat := 10000
theorem gcat_i (x : Int32) : (Value.int x).category = 1 := rfl
theorem gcat_l (x : Int64) : (Value.long x).category = 2 := rfl
abbrev gJ {α : Type} (G : gX) (p : Program) (l : Launch) (e : Env) (F Lc mc ms : Nat) (s : State) (m : MethodId) (args : Array Value) (below : List Frame) (meth : Method) (c : Code) (rv : α → Option Value) (y : α × gS) (nL pc : Nat) (lv : List (Nat × Value)) (st : List Value) (f : gM α) : Prop :=
  ∀ (σ : gS) (H : Heap) (locs : List Loc) (cells slots : Nat) (ls : Array Slot), f.1 σ = some y → gI G { frames := F, cells := mc, slots := ms, locals := Lc } s y.2 σ H locs cells slots → lv_has ls nL lv → W p l e { frames := F, cells := mc, slots := ms, locals := Lc } s m args below meth c H locs cells slots (MQ below (gQ G rv y) args s mc ms (gA G)) (F0 m pc ls st)
theorem gentry (m : MethodId) (vs : List Value) (n : Nat) (lv : List (Nat × Value)) (h1 : (lg_sl vs).length ≤ n) (h2 : lv_args 0 vs = lv) : ∃ ls : Array Slot, entryFrame m vs.toArray n = F0 m 0 ls [] ∧ lv_has ls n lv := by
  have hl := lv_entry vs (n := n) h1
  rw [h2] at hl
  exact ⟨_, lg_entry_eq m vs n, hl⟩
theorem gdfj {N : Nat} {ty : Nat → FieldType} {ci : Nat} (h : (List.range N).all (fun j => decide (defaultValue (ty j) = vp_V (gdef ci) j)) = true) : ∀ j, j < N → defaultValue (ty j) = vp_V (gdef ci) j := fun j hj => by simpa using List.all_eq_true.mp h j (List.mem_range.mpr hj)
theorem gdf_0 : ∀ j, j < 2 → defaultValue (tyX0 j) = vp_V (gdef 0) j := gdfj (by decide +kernel)
theorem gdf_1 : ∀ j, j < 9 → defaultValue (tyX2 j) = vp_V (gdef 1) j := gdfj (by decide +kernel)
theorem gdf_2 : ∀ j, j < 2 → defaultValue (tyX3 j) = vp_V (gdef 2) j := gdfj (by decide +kernel)
theorem gdf_3 : ∀ j, j < 3 → defaultValue (tyX4 j) = vp_V (gdef 3) j := gdfj (by decide +kernel)
theorem gdf_4 : ∀ j, j < 2 → defaultValue (tyX5 j) = vp_V (gdef 4) j := gdfj (by decide +kernel)
theorem gdf_5 : ∀ j, j < 12 → defaultValue (tyX6 j) = vp_V (gdef 5) j := gdfj (by decide +kernel)
theorem gdf_6 : ∀ j, j < 4 → defaultValue (tyX7 j) = vp_V (gdef 6) j := gdfj (by decide +kernel)
theorem gdf_7 : ∀ j, j < 8 → defaultValue (tyX8 j) = vp_V (gdef 7) j := gdfj (by decide +kernel)
theorem gdf_8 : ∀ j, j < 35 → defaultValue (tyX9 j) = vp_V (gdef 8) j := gdfj (by decide +kernel)
/-- n numbers of an int array, copied to another's beginning -/
def cp (r q : Option Nat) (n : Int32) : gM Unit := gu (fun σ => match r, q with
  | some a, some b => if gkd σ a = 11 ∧ gkd σ b = 11 ∧ ¬ n < 0 ∧ n.toNatClampNeg ≤ gln σ a ∧ n.toNatClampNeg ≤ gln σ b then some (gsC σ a b n.toNatClampNeg) else none
  | _, _ => none) (fun σ τ h => by
    cases r with
    | none => cases h
    | some a =>
      cases q with
      | none => cases h
      | some b =>
        dsimp only at h
        split at h
        · cases h; exact ⟨rfl, rfl⟩
        · cases h)
theorem gw_copy {G : gX} {p : Program} {l : Launch} {e : Env} {R : Room} {s : State} {m : MethodId} {args : Array Value} {below : List Frame} {meth : Method} {c : Code} {H : Heap} {locs : List Loc} {cells slots : Nat} {Q : State → Prop} {cc : ByteArray} {nL pc : Nat} {own : String} {ls : Array Slot} {rest : List Value} {σ : gS} {β : Type} {y : β × gS} {index : Nat} {r q : Option Nat} {n : Int32} {K : Unit → gM β} (C : gC G p s m args meth c cc nL own) (I : gI G R s y.2 σ H locs cells slots) (hl : ls.size = nL) (hw : Cond.methodLink own index arraycopyName ∈ gT ∧ Cond.native arraycopyName ∈ gT ∧ Cond.static arraycopyName ∈ gT ∧ Cond.initialized "java/lang/System" ∈ gT) (hR : 1 ≤ R.frames ∧ 8 + (nativeFrameWords "java/lang/System" "arraycopy" 5 + 11) ≤ R.locals) (hrest : (rest.map fun v => v.category).sum ≤ 8) (hdg : decode cc pc = .ok (.invokestatic index, 3)) (hf : (gb (cp r q n) K).1 σ = some y)
    (kk : ∀ (σ1 : gS) (H1 : Heap) (locs1 : List Loc), gI G R s y.2 σ1 H1 locs1 cells slots → (K ()).1 σ1 = some y → W p l e R s m args below meth c H1 locs1 cells slots Q (F0 m (pc + 3) ls rest)) : W p l e R s m args below meth c H locs cells slots Q (F0 m pc ls (.int n :: .int 0 :: va_rf q :: .int 0 :: va_rf r :: rest)) := by
  obtain ⟨x, h1, h2⟩ := gb_some hf
  have h3 := gu_some h1
  cases r with
  | none => cases h3
  | some a =>
  cases q with
  | none => cases h3
  | some b =>
  dsimp only at h3
  split at h3
  · rename_i hk
    obtain ⟨ka, kb, hn, la, lb⟩ := hk
    rw [← Option.some.inj h3] at h2
    obtain ⟨hx, hb, hml, hown, hts, -, hG⟩ := id C
    have hna : gkd σ a ≠ 0 := by rw [ka]; omega
    have hnb : gkd σ b ≠ 0 := by rw [kb]; omega
    have hBb := (I.1.2.2 b hnb).1
    have hc0 : H[a]? = some (vp_cell (gdA G 1) (gln σ a, .inl (gai σ a))) := gW_at I.1 hna (gcell_i (t := 1) ka (by omega)) 0 _ rfl
    have hc1 : H[b]? = some (vp_cell (gdA G 1) (gln σ b, .inl (gai σ b))) := gW_at I.1 hnb (gcell_i (t := 1) kb (by omega)) 0 _ rfl
    have nn : n.toInt = (n.toNatClampNeg : Int) := by
      have hz0 : (0 : Int) ≤ n.toInt := by
        have := Int32.not_lt.mp hn
        simpa using Int32.le_iff_toInt_le.mp this
      show n.toInt = ((n.toInt.toNat : Nat) : Int)
      omega
    intro T hT X
    obtain ⟨-, k0, hk0, cm0, hkk0⟩ := (hG.1.2 1 _ rfl).1 (gln σ a) (fun j => .int (gai σ a j))
    obtain ⟨-, k1, hk1, cm1, hkk1⟩ := (hG.1.2 1 _ rfl).1 (gln σ b) (fun j => .int (gai σ b j))
    obtain ⟨vm', X', step⟩ := X.arraycopy hx hown (hts _ hw.1) (hts _ hw.2.1) (hts _ hw.2.2.1) (hts _ hw.2.2.2) (src := a) (dst := b) (cs := vp_cell (gdA G 1) (gln σ a, .inl (gai σ a))) (cd := vp_cell (gdA G 1) (gln σ b, .inl (gai σ b))) (srcPos := 0) (destPos := 0) (n := n) (by rw [hT]; exact hc0) (by rw [hT]; exact hc1)
      (fun _ h => by cases h) (fun _ h => by cases h) (fun h => by cases h) (fun h => by cases h) hk0 hk1 hkk0 hkk1 (by simp [refKind]) (by decide) (by decide) hn
      (by rw [nn]; show ¬ _ > ((arrV (gdA G 1) (gln σ a) (fun j => .int (gai σ a j))).slots.size : Int); rw [arrV_size]; have : (0 : Int32).toInt = 0 := by decide
          omega)
      (by rw [nn]; show ¬ _ > ((arrV (gdA G 1) (gln σ b) (fun j => .int (gai σ b j))).slots.size : Int); rw [arrV_size]; have : (0 : Int32).toInt = 0 := by decide
          omega)
      (fun vm₁ _ i hi => by
        have e9 : (vp_cell (gdA G 1) (gln σ a, .inl (gai σ a))).slots.getD ((0 : Int32).toNatClampNeg + i) .null = .int (gai σ a ((0 : Int32).toNatClampNeg + i)) := by
          show (arrV (gdA G 1) (gln σ a) (fun j => .int (gai σ a j))).slots.getD _ _ = _
          have z0 : (0 : Int32).toNatClampNeg = 0 := by decide
          rw [Array.getD_eq_getD_getElem?, arrV_read _ _ (by rw [z0]; omega)]
          rfl
        refine ⟨?_, ?_⟩
        · rw [e9]
          rfl
        · rw [e9]
          exact trivial)
      (g := F0 m pc ls (.int n :: .int 0 :: .ref b :: .int 0 :: .ref a :: rest)) rfl (by rw [hml]; exact hl) (rest := rest) rfl (by rw [hb]; exact hdg) hR.1 (by show 2 * 0 + _ + _ ≤ _; have := hR.2; omega)
    have e1 : copied (vp_cell (gdA G 1) (gln σ a, .inl (gai σ a))) (vp_cell (gdA G 1) (gln σ b, .inl (gai σ b))) 0 0 n = vp_cell (gdA G 1) (gln σ b, .inl (va_cpy (gai σ a) (gai σ b) 0 0 n.toNatClampNeg)) := va_copied (fun z => .int z) (gdA G 1) (gdA G 1) (gai σ a) (gai σ b) (by show 0 + _ ≤ _; omega)
    rw [e1] at X' step
    have hlt : b < H.size := (Array.getElem?_eq_some_iff.mp hc1).1
    have hheap : ((T.setVm vm').setCell b (vp_cell (gdA G 1) (gln σ b, .inl (va_cpy (gai σ a) (gai σ b) 0 0 n.toNatClampNeg)))).heap = H.setIfInBounds b (vp_cell (gdA G 1) (gln σ b, .inl (va_cpy (gai σ a) (gai σ b) 0 0 n.toNatClampNeg))) := by rw [← hT]; rfl
    have oq : ∀ q : Nat, q ≠ b → (H.setIfInBounds b (vp_cell (gdA G 1) (gln σ b, .inl (va_cpy (gai σ a) (gai σ b) 0 0 n.toNatClampNeg))))[q]? = H[q]? := fun q hq => by simp [Array.getElem?_setIfInBounds, Ne.symm hq]
    have hai : gai (gsC σ a b n.toNatClampNeg) b = va_cpy (gai σ a) (gai σ b) 0 0 n.toNatClampNeg := by
      funext j
      by_cases hj : j < n.toNatClampNeg <;> simp [gsC, gai, va_cpy, hj]
    obtain ⟨t, a1, b1⟩ := kk (gsC σ a b n.toNatClampNeg) _ _ ⟨gW_upd I.1 (by simp) oq rfl (fun _ => rfl) (fun x hx => by
        have : gai (gsC σ a b n.toNatClampNeg) x = gai σ x := by funext j; simp [gsC, gai, hx]
        simp only [gcell, this]
        rfl) hBb (by
        rw [gcell_i (σ := gsC σ a b n.toNatClampNeg) (t := 1) kb (by omega), hai]
        show (H.setIfInBounds b _)[b]? = some _
        simp [Array.getElem?_setIfInBounds, hlt]
        rfl), ⟨by simp; exact I.2.1.1, fun q g1 g2 => by
        rw [oq q (fun e => g2 (by rw [e]; exact hBb))]
        exact I.2.1.2.1 q g1 g2, fun q hq => by
        rcases List.mem_append.mp hq with h | h
        · exact I.2.1.2.2 q h
        · obtain ⟨z, -, hz⟩ := List.mem_map.mp h
          rw [← hz]
          exact hBb⟩, I.2.2.1, I.2.2.2⟩ h2 _ hheap X'
    exact ⟨t, step t a1, b1⟩
  · cases h3
theorem kc_b_32 : (Int8.ofInt (32)).toInt32 = 32 := by decide
theorem kc_i_0 : Int32.ofInt (0) = 0 := by decide
theorem kc_i_4 : Int32.ofInt (4) = 4 := by decide
theorem kc_b_8 : (Int8.ofInt (8)).toInt32 = 8 := by decide
theorem kc_b_12 : (Int8.ofInt (12)).toInt32 = 12 := by decide
theorem kc_b_16 : (Int8.ofInt (16)).toInt32 = 16 := by decide
theorem kc_i_m1 : Int32.ofInt (-1) = (-1) := by decide
theorem kc_s_4096 : (Int16.ofInt (4096)).toInt32 = 4096 := by decide
theorem kc_i_2 : Int32.ofInt (2) = 2 := by decide
theorem kc_i_1 : Int32.ofInt (1) = 1 := by decide
theorem kc_b_m2 : (Int8.ofInt (-2)).toInt32 = (-2) := by decide
theorem kc_s_300 : (Int16.ofInt (300)).toInt32 = 300 := by decide
theorem kc_b_m3 : (Int8.ofInt (-3)).toInt32 = (-3) := by decide
theorem kc_s_255 : (Int16.ofInt (255)).toInt32 = 255 := by decide
theorem kc_b_9 : (Int8.ofInt (9)).toInt32 = 9 := by decide
theorem kc_b_10 : (Int8.ofInt (10)).toInt32 = 10 := by decide
theorem kc_b_13 : (Int8.ofInt (13)).toInt32 = 13 := by decide
theorem kc_b_97 : (Int8.ofInt (97)).toInt32 = 97 := by decide
theorem kc_b_122 : (Int8.ofInt (122)).toInt32 = 122 := by decide
theorem kc_b_65 : (Int8.ofInt (65)).toInt32 = 65 := by decide
theorem kc_b_90 : (Int8.ofInt (90)).toInt32 = 90 := by decide
theorem kc_b_48 : (Int8.ofInt (48)).toInt32 = 48 := by decide
theorem kc_b_57 : (Int8.ofInt (57)).toInt32 = 57 := by decide
theorem kc_b_43 : (Int8.ofInt (43)).toInt32 = 43 := by decide
theorem kc_b_45 : (Int8.ofInt (45)).toInt32 = 45 := by decide
theorem kc_b_46 : (Int8.ofInt (46)).toInt32 = 46 := by decide
theorem kc_b_58 : (Int8.ofInt (58)).toInt32 = 58 := by decide
theorem kc_i_5 : Int32.ofInt (5) = 5 := by decide
theorem kc_b_m12 : (Int8.ofInt (-12)).toInt32 = (-12) := by decide
theorem kc_b_m11 : (Int8.ofInt (-11)).toInt32 = (-11) := by decide
theorem kc_b_47 : (Int8.ofInt (47)).toInt32 = 47 := by decide
theorem kc_b_92 : (Int8.ofInt (92)).toInt32 = 92 := by decide
theorem kc_b_6 : (Int8.ofInt (6)).toInt32 = 6 := by decide
theorem kc_i_3 : Int32.ofInt (3) = 3 := by decide
theorem kc_b_63 : (Int8.ofInt (63)).toInt32 = 63 := by decide
theorem kc_b_35 : (Int8.ofInt (35)).toInt32 = 35 := by decide
theorem kc_b_126 : (Int8.ofInt (126)).toInt32 = 126 := by decide
theorem kc_b_37 : (Int8.ofInt (37)).toInt32 = 37 := by decide
theorem kc_b_15 : (Int8.ofInt (15)).toInt32 = 15 := by decide
theorem kc_b_91 : (Int8.ofInt (91)).toInt32 = 91 := by decide
theorem kc_b_93 : (Int8.ofInt (93)).toInt32 = 93 := by decide
theorem kc_b_64 : (Int8.ofInt (64)).toInt32 = 64 := by decide
theorem kc_b_m13 : (Int8.ofInt (-13)).toInt32 = (-13) := by decide
theorem kc_b_102 : (Int8.ofInt (102)).toInt32 = 102 := by decide
theorem kc_b_70 : (Int8.ofInt (70)).toInt32 = 70 := by decide
theorem kc_b_7 : (Int8.ofInt (7)).toInt32 = 7 := by decide
theorem kc_b_m16 : (Int8.ofInt (-16)).toInt32 = (-16) := by decide
theorem kc_s_10000 : (Int16.ofInt (10000)).toInt32 = 10000 := by decide
theorem kc_b_24 : (Int8.ofInt (24)).toInt32 = 24 := by decide
theorem kc_b_m15 : (Int8.ofInt (-15)).toInt32 = (-15) := by decide
theorem kc_b_m14 : (Int8.ofInt (-14)).toInt32 = (-14) := by decide
theorem kc_b_80 : (Int8.ofInt (80)).toInt32 = 80 := by decide
theorem kc_s_443 : (Int16.ofInt (443)).toInt32 = 443 := by decide
theorem kc_b_21 : (Int8.ofInt (21)).toInt32 = 21 := by decide
theorem kc_b_m17 : (Int8.ofInt (-17)).toInt32 = (-17) := by decide
theorem kc_s_1000 : (Int16.ofInt (1000)).toInt32 = 1000 := by decide
theorem kc_s_128 : (Int16.ofInt (128)).toInt32 = 128 := by decide
theorem kc_b_40 : (Int8.ofInt (40)).toInt32 = 40 := by decide
theorem kc_b_30 : (Int8.ofInt (30)).toInt32 = 30 := by decide
theorem kc_s_400 : (Int16.ofInt (400)).toInt32 = 400 := by decide
theorem kc_s_3600 : (Int16.ofInt (3600)).toInt32 = 3600 := by decide
theorem kc_b_96 : (Int8.ofInt (96)).toInt32 = 96 := by decide
theorem kc_s_4800 : (Int16.ofInt (4800)).toInt32 = 4800 := by decide
theorem kc_s_2400 : (Int16.ofInt (2400)).toInt32 = 2400 := by decide
theorem kc_b_34 : (Int8.ofInt (34)).toInt32 = 34 := by decide
theorem kc_b_60 : (Int8.ofInt (60)).toInt32 = 60 := by decide
theorem kc_b_62 : (Int8.ofInt (62)).toInt32 = 62 := by decide
theorem kc_b_94 : (Int8.ofInt (94)).toInt32 = 94 := by decide
theorem kc_b_123 : (Int8.ofInt (123)).toInt32 = 123 := by decide
theorem kc_b_125 : (Int8.ofInt (125)).toInt32 = 125 := by decide
theorem kc_b_39 : (Int8.ofInt (39)).toInt32 = 39 := by decide
theorem kc_b_59 : (Int8.ofInt (59)).toInt32 = 59 := by decide
theorem kc_b_61 : (Int8.ofInt (61)).toInt32 = 61 := by decide
theorem kc_b_124 : (Int8.ofInt (124)).toInt32 = 124 := by decide
theorem kc_b_127 : (Int8.ofInt (127)).toInt32 = 127 := by decide
theorem kc_b_120 : (Int8.ofInt (120)).toInt32 = 120 := by decide
theorem kc_b_110 : (Int8.ofInt (110)).toInt32 = 110 := by decide
theorem kc_b_50 : (Int8.ofInt (50)).toInt32 = 50 := by decide
theorem kc_b_101 : (Int8.ofInt (101)).toInt32 = 101 := by decide
theorem kc_b_27 : (Int8.ofInt (27)).toInt32 = 27 := by decide
theorem kc_s_9999 : (Int16.ofInt (9999)).toInt32 = 9999 := by decide
theorem kc_s_999 : (Int16.ofInt (999)).toInt32 = 999 := by decide
theorem kc_b_99 : (Int8.ofInt (99)).toInt32 = 99 := by decide
theorem kc_b_31 : (Int8.ofInt (31)).toInt32 = 31 := by decide
