theorem gift {α : Type} {c : Prop} [Decidable c] {A B : gM α} {σ : gS} {y : α × gS} (h : c) (hf : (if c then A else B).1 σ = some y) : A.1 σ = some y := by rw [if_pos h] at hf; exact hf
theorem giff {α : Type} {c : Prop} [Decidable c] {A B : gM α} {σ : gS} {y : α × gS} (h : ¬ c) (hf : (if c then A else B).1 σ = some y) : B.1 σ = some y := by rw [if_neg h] at hf; exact hf
/-- String constants by their places: there, a char, the first place of a char -/
def tk (i : Nat) : gM Unit := if i < 24 then gp () else gno
def tA (i : Nat) (k : Int32) : gM Int32 := if i < 24 ∧ gin k (gLen.getD i 0) = true then gp ((gByt.getD i []).getD k.toNatClampNeg 0) else gno
/-- a char's, a byte's end -/
def gch (x : Int32) : gM Int32 := if narrow .char (.int x) = .int x then gp x else gno
def gby (x : Int32) : gM Int32 := if narrow .byte (.int x) = .int x then gp x else gno
abbrev grt (G : gX) : Nat → Option Value := fun i => some (va_rf (some (gK G i)))
theorem tk_some {i : Nat} {β : Type} {K : Unit → gM β} {σ : gS} {y : β × gS} (hf : (gb (tk i) K).1 σ = some y) : i < 24 ∧ (K ()).1 σ = some y := by
  obtain ⟨x, h1, h2⟩ := gb_some hf
  unfold tk at h1
  split at h1
  · rename_i h
    cases gp_some h1
    exact ⟨h, h2⟩
  · exact (gno_some h1).elim
theorem tA_some {i : Nat} {k : Int32} {β : Type} {K : Int32 → gM β} {σ : gS} {y : β × gS} (hf : (gb (tA i k) K).1 σ = some y) : i < 24 ∧ vp_in k (gLen.getD i 0) ∧ (K ((gByt.getD i []).getD k.toNatClampNeg 0)).1 σ = some y := by
  obtain ⟨x, h1, h2⟩ := gb_some hf
  unfold tA at h1
  split at h1
  · rename_i h
    cases gp_some h1
    exact ⟨h.1, gin_iff.mp h.2, h2⟩
  · exact (gno_some h1).elim
section GROWS4
variable {G : gX} {p : Program} {l : Launch} {e : Env} {R : Room} {s : State} {m : MethodId} {args : Array Value} {below : List Frame} {meth : Method} {c : Code} {H : Heap} {locs : List Loc} {cells slots : Nat} {Q : State → Prop}
variable {cc : ByteArray} {nL pc : Nat} {own : String} {ls : Array Slot} {rest : List Value} {σ : gS} {α β : Type} {y : β × gS}
theorem gw_aload_n (hexec : p.tables.exec = Jvm.exec) (hb : c.code = cc) {k : Fin 4} {i : Nat} {r : Option Nat} (hdg : decode cc pc = .ok (.aload_n k, 1)) (hi : (k : Nat) = i) (hl : ls[i]? = some (.val (va_rf r)))
    (kk : W p l e R s m args below meth c H locs cells slots Q (F0 m (pc + 1) ls (va_rf r :: rest))) : W p l e R s m args below meth c H locs cells slots Q (F0 m pc ls rest) := by
  cases r with
  | none => exact lv_aload_nN hexec hb hdg hi hl kk
  | some a => exact lv_aload_n hexec hb hdg hi hl kk
theorem gw_aload (hexec : p.tables.exec = Jvm.exec) (hb : c.code = cc) {i : Nat} {r : Option Nat} (hdg : decode cc pc = .ok (.aload i, 2)) (hl : ls[i]? = some (.val (va_rf r)))
    (kk : W p l e R s m args below meth c H locs cells slots Q (F0 m (pc + 2) ls (va_rf r :: rest))) : W p l e R s m args below meth c H locs cells slots Q (F0 m pc ls rest) := by
  cases r with
  | none => exact lv_aloadN hexec hb hdg hl kk
  | some a => exact lv_aload hexec hb hdg hl kk
theorem gw_astore_n (hexec : p.tables.exec = Jvm.exec) (hb : c.code = cc) {k : Fin 4} {i nL : Nat} {r : Option Nat} {lv lv' : List (Nat × Value)} (hdg : decode cc pc = .ok (.astore_n k, 1)) (hi : (k : Nat) = i) (h : lv_has ls nL lv) (hn : i < nL) (hl : (i, va_rf r) :: lv.filter (fun q => !(q.1 == i) && !(q.1 + 1 == i && q.2.category == 2)) = lv')
    (kk : ∀ ls' : Array Slot, lv_has ls' nL lv' → W p l e R s m args below meth c H locs cells slots Q (F0 m (pc + 1) ls' rest)) : W p l e R s m args below meth c H locs cells slots Q (F0 m pc ls (va_rf r :: rest)) := by
  cases r with
  | none => exact lv_astore_nN hexec hb hdg hi h hn hl kk
  | some a => exact lv_astore_n hexec hb hdg hi h hn hl kk
theorem gw_astore (hexec : p.tables.exec = Jvm.exec) (hb : c.code = cc) {i nL : Nat} {r : Option Nat} {lv lv' : List (Nat × Value)} (hdg : decode cc pc = .ok (.astore i, 2)) (h : lv_has ls nL lv) (hn : i < nL) (hl : (i, va_rf r) :: lv.filter (fun q => !(q.1 == i) && !(q.1 + 1 == i && q.2.category == 2)) = lv')
    (kk : ∀ ls' : Array Slot, lv_has ls' nL lv' → W p l e R s m args below meth c H locs cells slots Q (F0 m (pc + 2) ls' rest)) : W p l e R s m args below meth c H locs cells slots Q (F0 m pc ls (va_rf r :: rest)) := by
  cases r with
  | none => exact lv_astoreN hexec hb hdg h hn hl kk
  | some a => exact lv_astore hexec hb hdg h hn hl kk
theorem gw_null (hexec : p.tables.exec = Jvm.exec) (hb : c.code = cc) (hdg : decode cc pc = .ok (.aconst_null, 1)) (kk : W p l e R s m args below meth c H locs cells slots Q (F0 m (pc + 1) ls (va_rf none :: rest))) : W p l e R s m args below meth c H locs cells slots Q (F0 m pc ls rest) := lv_null hexec hb hdg kk
theorem gw_ifnull (hexec : p.tables.exec = Jvm.exec) (hb : c.code = cc) {off : Int} {tgt : Nat} {r : Option Nat} (hdg : decode cc pc = .ok (.ifnull off, 3)) (ht : (pc : Int) + off = (tgt : Int)) (kt : r = none → W p l e R s m args below meth c H locs cells slots Q (F0 m tgt ls rest)) (kf : ¬ r = none → W p l e R s m args below meth c H locs cells slots Q (F0 m (pc + 3) ls rest)) : W p l e R s m args below meth c H locs cells slots Q (F0 m pc ls (va_rf r :: rest)) := by
  cases r with
  | none => exact lv_ifnullN hexec hb hdg ht (kt rfl)
  | some a => exact lv_ifnull hexec hb hdg (kf (fun h => by cases h))
theorem gw_ifnonnull (hexec : p.tables.exec = Jvm.exec) (hb : c.code = cc) {off : Int} {tgt : Nat} {r : Option Nat} (hdg : decode cc pc = .ok (.ifnonnull off, 3)) (ht : (pc : Int) + off = (tgt : Int)) (kt : ¬ r = none → W p l e R s m args below meth c H locs cells slots Q (F0 m tgt ls rest)) (kf : r = none → W p l e R s m args below meth c H locs cells slots Q (F0 m (pc + 3) ls rest)) : W p l e R s m args below meth c H locs cells slots Q (F0 m pc ls (va_rf r :: rest)) := by
  cases r with
  | none => exact lv_ifnonnullN hexec hb hdg (kf rfl)
  | some a => exact lv_ifnonnull hexec hb hdg ht (kt (fun h => by cases h))
theorem gw_sw (hexec : p.tables.exec = Jvm.exec) (hb : c.code = cc) {dflt lo hi : Int} {offs : Array Int} {len : Nat} {x k : Int32} {off : Int} {tgt : Nat} (hdg : decode cc pc = .ok (.tableswitch dflt lo hi offs, len)) (hk : x = k) (h1 : ¬ k.toInt < lo) (h2 : ¬ hi < k.toInt) (ho : offs[(k.toInt - lo).toNat]? = some off) (ht : (pc : Int) + off = (tgt : Int))
    (kk : W p l e R s m args below meth c H locs cells slots Q (F0 m tgt ls rest)) : W p l e R s m args below meth c H locs cells slots Q (F0 m pc ls (.int x :: rest)) := by
  subst hk
  exact lv_tableIn hexec hb hdg h1 h2 ho ht kk
theorem gw_idiv {K : gM β} (hexec : p.tables.exec = Jvm.exec) (hb : c.code = cc) {a b : Int32} (hdg : decode cc pc = .ok (.idiv, 1)) (hf : (gb (nz b) fun _ => K).1 σ = some y) (kk : K.1 σ = some y → W p l e R s m args below meth c H locs cells slots Q (F0 m (pc + 1) ls (.int (a / b) :: rest))) : W p l e R s m args below meth c H locs cells slots Q (F0 m pc ls (.int b :: .int a :: rest)) := by
  obtain ⟨x, h1, h2⟩ := gb_some hf
  unfold nz at h1
  split at h1
  · exact (gno_some h1).elim
  · rename_i h
    cases gp_some h1
    exact lv_idiv hexec hb hdg h (kk h2)
theorem gw_irem {K : gM β} (hexec : p.tables.exec = Jvm.exec) (hb : c.code = cc) {a b : Int32} (hdg : decode cc pc = .ok (.irem, 1)) (hf : (gb (nz b) fun _ => K).1 σ = some y) (kk : K.1 σ = some y → W p l e R s m args below meth c H locs cells slots Q (F0 m (pc + 1) ls (.int (a - a / b * b) :: rest))) : W p l e R s m args below meth c H locs cells slots Q (F0 m pc ls (.int b :: .int a :: rest)) := by
  obtain ⟨x, h1, h2⟩ := gb_some hf
  unfold nz at h1
  split at h1
  · exact (gno_some h1).elim
  · rename_i h
    cases gp_some h1
    exact lv_irem hexec hb hdg h (kk h2)
/-- Math.max and its like -/
theorem gw_mmax {K : gM β} (C : gC G p s m args meth c cc nL own) (I : gI G R s y.2 σ H locs cells slots) (hl : ls.size = nL) {index : Nat} {a b : Int32} (hw : Cond.methodLink own index Lib.Math.max.name ∈ gT ∧ Cond.static Lib.Math.max.name ∈ gT ∧ Cond.initialized "java/lang/Math" ∈ gT ∧ Cond.code Lib.Math.max.name Lib.Math.max.code 2 (some .int) ∈ gT) (hR : 1 ≤ R.frames ∧ 21 ≤ R.locals) (hrest : (rest.map fun v => v.category).sum ≤ 8) (hdg : decode cc pc = .ok (.invokestatic index, 3)) (hf : K.1 σ = some y)
    (kk : W p l e R s m args below meth c H locs cells slots Q (F0 m (pc + 3) ls (.int (if a < b then b else a) :: rest))) : W p l e R s m args below meth c H locs cells slots Q (F0 m pc ls (.int b :: .int a :: rest)) := by
  obtain ⟨hx, hb, hml, hown, hts, -, hG⟩ := C
  have hm := K.2 σ y hf
  have iC := I.2.2.1
  have iL := I.2.2.2
  exact va_mmax hx hb (hml.trans hl.symm) hown (hts _ hw.1) (hts _ hw.2.1) (hts _ hw.2.2.1) (hts _ hw.2.2.2) hR.1 (by omega) (by omega) (by omega) hdg kk
theorem gw_mmin {K : gM β} (C : gC G p s m args meth c cc nL own) (I : gI G R s y.2 σ H locs cells slots) (hl : ls.size = nL) {index : Nat} {a b : Int32} (hw : Cond.methodLink own index Lib.Math.min.name ∈ gT ∧ Cond.static Lib.Math.min.name ∈ gT ∧ Cond.initialized "java/lang/Math" ∈ gT ∧ Cond.code Lib.Math.min.name Lib.Math.min.code 2 (some .int) ∈ gT) (hR : 1 ≤ R.frames ∧ 21 ≤ R.locals) (hrest : (rest.map fun v => v.category).sum ≤ 8) (hdg : decode cc pc = .ok (.invokestatic index, 3)) (hf : K.1 σ = some y)
    (kk : W p l e R s m args below meth c H locs cells slots Q (F0 m (pc + 3) ls (.int (if b < a then b else a) :: rest))) : W p l e R s m args below meth c H locs cells slots Q (F0 m pc ls (.int b :: .int a :: rest)) := by
  obtain ⟨hx, hb, hml, hown, hts, -, hG⟩ := C
  have hm := K.2 σ y hf
  have iC := I.2.2.1
  have iL := I.2.2.2
  exact va_mmin hx hb (hml.trans hl.symm) hown (hts _ hw.1) (hts _ hw.2.1) (hts _ hw.2.2.1) (hts _ hw.2.2.2) hR.1 (by omega) (by omega) (by omega) hdg kk
theorem gw_mminl {K : gM β} (C : gC G p s m args meth c cc nL own) (I : gI G R s y.2 σ H locs cells slots) (hl : ls.size = nL) {index : Nat} {a b : Int64} (hw : Cond.methodLink own index Lib.MathLoose.min_long.x ∈ gT ∧ Cond.static Lib.MathLoose.min_long.x ∈ gT ∧ Cond.initialized "java/lang/Math" ∈ gT ∧ Cond.code Lib.MathLoose.min_long.x Lib.MathLoose.min_long.code 4 (some .long) ∈ gT) (hR : 1 ≤ R.frames ∧ 23 ≤ R.locals) (hrest : (rest.map fun v => v.category).sum ≤ 8) (hdg : decode cc pc = .ok (.invokestatic index, 3)) (hf : K.1 σ = some y)
    (kk : W p l e R s m args below meth c H locs cells slots Q (F0 m (pc + 3) ls (.long (if b < a then b else a) :: rest))) : W p l e R s m args below meth c H locs cells slots Q (F0 m pc ls (.long b :: .long a :: rest)) := by
  obtain ⟨hx, hb, hml, hown, hts, -, hG⟩ := C
  have hm := K.2 σ y hf
  have iC := I.2.2.1
  have iL := I.2.2.2
  exact va_mmin_long hx hb (hml.trans hl.symm) hown (hts _ hw.1) (hts _ hw.2.1) (hts _ hw.2.2.1) (hts _ hw.2.2.2) hR.1 (by omega) (by omega) (by omega) hdg kk
/-- Object's constructor -/
theorem gw_obj (C : gC G p s m args meth c cc nL own) (hl : ls.size = nL) {index : Nat} {r : Option Nat} {K : gM β} (hw : Cond.methodLink own index objectInit ∈ gT ∧ Cond.instanceMethod objectInit ∈ gT ∧ Cond.code objectInit ⟨#[0xb1]⟩ 1 none ∈ gT) (hR : 1 ≤ R.frames ∧ 20 ≤ R.locals) (hrest : (rest.map fun v => v.category).sum ≤ 8) (hdg : decode cc pc = .ok (.invokespecial index, 3)) (hf : (if r = none then gno else K).1 σ = some y)
    (kk : K.1 σ = some y → W p l e R s m args below meth c H locs cells slots Q (F0 m (pc + 3) ls rest)) : W p l e R s m args below meth c H locs cells slots Q (F0 m pc ls (va_rf r :: rest)) := by
  obtain ⟨hx, hb, hml, hown, hts, -, hG⟩ := C
  cases r with
  | none => exact (gno_some hf).elim
  | some a => exact W.objInit hx hb hown (hts _ hw.1) (hts _ hw.2.1) (hts _ hw.2.2) rfl (hl.trans hml.symm) rfl hdg hR.1 (by show 2 * 0 + _ + 12 ≤ _; omega) (kk hf)
/-- constants -/
theorem gw_ldc (C : gC G p s m args meth c cc nL own) {index : Nat} {v : Int32} (hw : Cond.constant own index v ∈ gT) (hdg : decode cc pc = .ok (.ldc index, 2)) (kk : W p l e R s m args below meth c H locs cells slots Q (F0 m (pc + 2) ls (.int v :: rest))) : W p l e R s m args below meth c H locs cells slots Q (F0 m pc ls rest) := lv_ldc C.1 C.2.1 C.2.2.2.1 (C.2.2.2.2.1 _ hw) hdg kk
theorem gw_ldc2 (C : gC G p s m args meth c cc nL own) {index : Nat} {v : Int64} (hw : Cond.constantLong own index v ∈ gT) (hdg : decode cc pc = .ok (.ldc2_w index, 3)) (kk : W p l e R s m args below meth c H locs cells slots Q (F0 m (pc + 3) ls (.long v :: rest))) : W p l e R s m args below meth c H locs cells slots Q (F0 m pc ls rest) := lv_ldc2 C.1 C.2.1 C.2.2.2.1 (C.2.2.2.2.1 _ hw) hdg kk
theorem gw_ldcs (C : gC G p s m args meth c cc nL own) (i : Nat) {index : Nat} {tx : String} (hq : gStr[i]? = some (own, index, tx)) (hdg : decode cc pc = .ok (.ldc index, 2)) (kk : W p l e R s m args below meth c H locs cells slots Q (F0 m (pc + 2) ls (va_rf (some (gK G i)) :: rest))) : W p l e R s m args below meth c H locs cells slots Q (F0 m pc ls rest) := va_ldcS C.1 C.2.1 C.2.2.2.1 (C.2.2.2.2.2.2.2.2.2.1 i _ hq) hdg kk
/-- a String constant's fields and bytes, and the statics of String -/
theorem gw_tval {i index : Nat} {K : gM β} (C : gC G p s m args meth c cc nL own) (I : gI G R s y.2 σ H locs cells slots) (hw : Cond.fieldLink own index "java/lang/String" "value" "[B" ∈ gT) (hdg : decode cc pc = .ok (.getfield index, 3)) (hf : (gb (tk i) fun _ => K).1 σ = some y) (kk : K.1 σ = some y → W p l e R s m args below meth c H locs cells slots Q (F0 m (pc + 3) ls (va_rf (some (gV G i)) :: rest))) : W p l e R s m args below meth c H locs cells slots Q (F0 m pc ls (va_rf (some (gK G i)) :: rest)) := by
  obtain ⟨hi, hf⟩ := tk_some hf
  obtain ⟨cf, k, fi, f, cell, h1, h2, h3, h4, h5, h6⟩ := ((C.2.2.2.2.2.2.2.2.2.2.1 i hi).2.2.1).kept I.2.1.2.1
  exact W.getf C.1 C.2.1 C.2.2.2.1 (C.2.2.2.2.1 _ hw) h1 h2 h3 h4 h5 rfl rfl hdg (kk hf)
theorem gw_tcod {i index : Nat} {K : gM β} (C : gC G p s m args meth c cc nL own) (I : gI G R s y.2 σ H locs cells slots) (hw : Cond.fieldLink own index "java/lang/String" "coder" "B" ∈ gT) (hdg : decode cc pc = .ok (.getfield index, 3)) (hf : (gb (tk i) fun _ => K).1 σ = some y) (kk : K.1 σ = some y → W p l e R s m args below meth c H locs cells slots Q (F0 m (pc + 3) ls (.int 0 :: rest))) : W p l e R s m args below meth c H locs cells slots Q (F0 m pc ls (va_rf (some (gK G i)) :: rest)) := by
  obtain ⟨hi, hf⟩ := tk_some hf
  obtain ⟨cf, k, fi, f, cell, h1, h2, h3, h4, h5, h6⟩ := ((C.2.2.2.2.2.2.2.2.2.2.1 i hi).2.1).kept I.2.1.2.1
  exact W.getf C.1 C.2.1 C.2.2.2.1 (C.2.2.2.2.1 _ hw) h1 h2 h3 h4 h5 rfl rfl hdg (kk hf)
theorem gw_tlen {i : Nat} {K : gM β} (C : gC G p s m args meth c cc nL own) (I : gI G R s y.2 σ H locs cells slots) (hdg : decode cc pc = .ok (.arraylength, 1)) (hf : (gb (tk i) fun _ => K).1 σ = some y) (kk : K.1 σ = some y → W p l e R s m args below meth c H locs cells slots Q (F0 m (pc + 1) ls (.int (Int32.ofNat (gLen.getD i 0)) :: rest))) : W p l e R s m args below meth c H locs cells slots Q (F0 m pc ls (va_rf (some (gV G i)) :: rest)) := by
  obtain ⟨hi, hf⟩ := tk_some hf
  exact va_tlen C.1 C.2.1 (C.2.2.2.2.2.2.2.2.2.2.1 i hi).2.2.2 I.2.1 rfl hdg (kk hf)
theorem gw_tald {i : Nat} {k : Int32} {K : Int32 → gM β} (C : gC G p s m args meth c cc nL own) (I : gI G R s y.2 σ H locs cells slots) (hdg : decode cc pc = .ok (.baload, 1)) (hf : (gb (tA i k) K).1 σ = some y) (kk : ∀ x : Int32, (K x).1 σ = some y → W p l e R s m args below meth c H locs cells slots Q (F0 m (pc + 1) ls (.int x :: rest))) : W p l e R s m args below meth c H locs cells slots Q (F0 m pc ls (.int k :: va_rf (some (gV G i)) :: rest)) := by
  obtain ⟨hi, hk, hf⟩ := tA_some hf
  exact va_tb C.1 C.2.1 (C.2.2.2.2.2.2.2.2.2.2.1 i hi).2.2.2 I.2.1 hk rfl hdg (kk _ hf)
theorem gw_compact {index : Nat} (C : gC G p s m args meth c cc nL own) (I : gI G R s y.2 σ H locs cells slots) (hw : Cond.fieldLink own index "java/lang/String" "COMPACT_STRINGS" "Z" ∈ gT) (hdg : decode cc pc = .ok (.getstatic index, 3)) (kk : W p l e R s m args below meth c H locs cells slots Q (F0 m (pc + 3) ls (.int 1 :: rest))) : W p l e R s m args below meth c H locs cells slots Q (F0 m pc ls rest) :=
  va_gets C.1 C.2.1 C.2.2.2.2.2.2.2.2.2.2.2.1 I.2.1 C.2.2.2.1 (C.2.2.2.2.1 _ hw) (fun _ h => h) hdg kk
theorem gw_sioobe {index : Nat} (C : gC G p s m args meth c cc nL own) (I : gI G R s y.2 σ H locs cells slots) (hw : Cond.fieldLink own index "jdk/internal/util/Preconditions" "SIOOBE_FORMATTER" "Ljava/util/function/BiFunction;" ∈ gT) (hdg : decode cc pc = .ok (.getstatic index, 3)) (kk : ∀ w : Option Nat, W p l e R s m args below meth c H locs cells slots Q (F0 m (pc + 3) ls (va_rf w :: rest))) : W p l e R s m args below meth c H locs cells slots Q (F0 m pc ls rest) := by
  rcases C.2.2.2.2.2.2.2.2.2.2.2.2 with hz | ⟨t, hz⟩
  · exact va_gets C.1 C.2.1 hz I.2.1 C.2.2.2.1 (C.2.2.2.2.1 _ hw) (fun _ h => h) hdg (kk none)
  · exact va_gets C.1 C.2.1 hz I.2.1 C.2.2.2.1 (C.2.2.2.2.1 _ hw) (fun _ h => h) hdg (kk (some t))
/-- a String constant's method is called -/
theorem gw_callT {rv : α → Option Value} {f : gM α} {K : α → gM β} {yn : MethodName} {cc' : ByteArray} {i nL' n index F Lc : Nat} {ret : Option FieldType} {As st0 : List Value} (C : gC G p s m args meth c cc nL own) (I : gI G R s y.2 σ H locs cells slots) (hl : ls.size = nL) (hM : gMet G l yn cc' nL' ret F Lc (va_rf (some (gK G i)) :: As) rv f) (h : gLink own index yn cc' nL' n ret) (hin : Cond.instanceMethod yn ∈ gT ∧ Cond.selects "java/lang/String" yn yn ∈ gT) (hR : F + 1 ≤ R.frames ∧ 8 + (nL' + 11) + Lc ≤ R.locals) (hn : As.length = n) (hrest : (rest.map fun v => v.category).sum ≤ 8) (hst : st0 = As.reverse ++ va_rf (some (gK G i)) :: rest) (hdg : decode cc pc = .ok (.invokevirtual index, 3)) (hf : (gb (tk i) fun _ => gb f K).1 σ = some y)
    (kk : ∀ (x : α) (σ1 : gS) (H1 : Heap) (locs1 : List Loc) (cells1 slots1 : Nat), gI G R s y.2 σ1 H1 locs1 cells1 slots1 → (K x).1 σ1 = some y → W p l e R s m args below meth c H1 locs1 cells1 slots1 Q (F0 m (pc + 3) ls ((rv x).toList ++ rest))) : W p l e R s m args below meth c H locs cells slots Q (F0 m pc ls st0) := by
  obtain ⟨hi, hf⟩ := tk_some hf
  refine gw_run (rv := rv) (a := (Value.ref (gK G i) :: As).toArray) I hf (fun y1 h1 hroom => ?_) kk
  obtain ⟨hx, hb, hml, hown, hts, -, hG⟩ := id C
  have hO : ∃ cell : Cell, H[gK G i]? = some cell ∧ cell.vm.isStatics = false ∧ s.vm.findClass "java/lang/String" = some cell.cls := by
    obtain ⟨cell, h1, h2, h3, -⟩ := ((hG.2.2.2.2.1 i hi).1).kept I.2.1.2.1
    exact ⟨cell, h1, h2, h3⟩
  refine va_runV (b := gK G i) (As := As) (rest := rest) ⟨hx, hb, hml, hown, hts⟩ (hM σ y1 h1) ⟨gLink.B (Ts := Cond.static yn) h hts hR, hts _ hin.1, hts _ hin.2⟩ ⟨gPc_blind, hO, (gw_pre C I).2⟩ rfl hn hl hst ?_ hdg hroom
  exact lv_room hrest
theorem gw_cret {x : Int32} {ty : FieldType} {mc ms : Nat} {F Lc : Nat} {y : Int32 × gS} (C : gC G p s m args meth c cc nL own) (I : gI G { frames := F, cells := mc, slots := ms, locals := Lc } s y.2 σ H locs cells slots) (hr : meth.sig.returnType = some ty) (hdg : decode cc pc = .ok (.ireturn, 1)) (hf : (if narrow ty (.int x) = .int x then gp x else gno : gM Int32).1 σ = some y) : W p l e { frames := F, cells := mc, slots := ms, locals := Lc } s m args below meth c H locs cells slots (MQ below (gQ G gri y) args s mc ms (gA G)) (F0 m pc ls [.int x]) := by
  split at hf
  · rename_i hv
    have hy := gp_some hf
    subst hy
    obtain ⟨hx, hb, -, -, -, hlocks, -⟩ := C
    obtain ⟨iW, iS, iC, iL⟩ := I
    refine W.widen (k := mc) (n := ms) (Nat.le_of_add_le_add_right iC) (Nat.le_of_add_le_add_right iL) ?_
    exact W.zret hx hb hr hv (fun t ht hW => ⟨rfl, by rw [ht]; exact iW, iS.F ht⟩) iS.2.2 hdg hlocks
  · exact (gno_some hf).elim
theorem gw_tret {x : Nat} {rt : FieldType} {mc ms : Nat} {F Lc : Nat} {y : Nat × gS} (C : gC G p s m args meth c cc nL own) (I : gI G { frames := F, cells := mc, slots := ms, locals := Lc } s y.2 σ H locs cells slots) (hr : meth.sig.returnType = some rt) (hrt : (∃ n, rt = .object n) ∨ ∃ t, rt = .array t) (hdg : decode cc pc = .ok (.areturn, 1)) (hf : (gp x).1 σ = some y) : W p l e { frames := F, cells := mc, slots := ms, locals := Lc } s m args below meth c H locs cells slots (MQ below (gQ G (grt G) y) args s mc ms (gA G)) (F0 m pc ls [va_rf (some (gK G x))]) := by
  have hy := gp_some hf
  subst hy
  obtain ⟨hx, hb, -, -, -, hlocks, -⟩ := C
  obtain ⟨iW, iS, iC, iL⟩ := I
  refine W.widen (k := mc) (n := ms) (Nat.le_of_add_le_add_right iC) (Nat.le_of_add_le_add_right iL) ?_
  exact W.aret hx hb hr hrt (Or.inr ⟨_, rfl⟩) (fun t ht hW => ⟨rfl, by rw [ht]; exact iW, iS.F ht⟩) iS.2.2 hdg hlocks
end GROWS4
