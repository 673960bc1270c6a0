theorem grc (r : Option Nat) : (va_rf r).category = 1 := by cases r <;> rfl
theorem gcats : ∀ (l : List Value), (l.map fun v => v.category).sum ≤ 2 * l.length
  | [] => Nat.le_refl _
  | v :: l => by
    have h := gcats l
    have h1 := lv_cat v
    simp only [List.map_cons, List.sum_cons, List.length_cons]
    omega
theorem gc4 {l : List Value} (h : l.length ≤ 4) : (l.map fun v => v.category).sum ≤ 8 := by have := gcats l; omega
/-- a method's answer as the machine has it -/
abbrev gri : Int32 → Option Value := fun x => some (.int x)
abbrev grl : Int64 → Option Value := fun x => some (.long x)
abbrev grq : Option Nat → Option Value := fun x => some (va_rf x)
abbrev grv : Unit → Option Value := fun _ => none
def gQ {α : Type} (G : gX) (rv : α → Option Value) (y : α × gS) : Array Value → State → Outcome → State → Prop := fun _ st oc t => oc = .returned (rv y.1) ∧ gW G y.2 t.heap ∧ va_F (gA G) st t
def gPc (G : gX) (av : List Value) (σ : gS) : Array Value → State → Prop := va_Pc av (fun U => gW G σ U.heap ∧ gG G U U.heap)
/-- a method's contract: it does what the program f does -/
def gMet {α : Type} (G : gX) (l : Launch) (yn : MethodName) (cc : ByteArray) (nL : Nat) (ret : Option FieldType) (F Lc : Nat) (av : List Value) (rv : α → Option Value) (f : gM α) : Prop :=
  ∀ (σ : gS) (y : α × gS), f.1 σ = some y → Met l yn (.code yn cc nL ret :: gT) { frames := F, cells := gcl σ - gcl y.2, slots := gsl σ - gsl y.2, locals := Lc } (gPc G av σ) (gQ G rv y) (gcl σ - gcl y.2) (gsl σ - gsl y.2) (gA G)
theorem gPc_blind {G : gX} {av : List Value} {σ : gS} : FrameBlind (gPc G av σ) := fun a U g mk h => ⟨h.1, h.2.1, gG.same (u := U) (U := U.calling g mk a) rfl h.2.2⟩
theorem gMet_of {α : Type} {G : gX} {l : Launch} {yn : MethodName} {cc : ByteArray} {nL : Nat} {ret : Option FieldType} {F Lc : Nat} {av : List Value} {rv : α → Option Value} {f : gM α} (hy : plainName yn.cls = true)
    (body : ∀ (σ : gS) (y : α × gS) (p : Program) (e : Env) (s : State) (m : MethodId) (below : List Frame) (meth : Method) (c : Code) (mc ms : Nat), f.1 σ = some y → gC G p s m av.toArray meth c cc nL yn.cls → meth.sig.returnType = ret → meth.name = yn.name → gI G { frames := F, cells := mc, slots := ms, locals := Lc } s y.2 σ s.heap [] 0 0 → W p l e { frames := F, cells := mc, slots := ms, locals := Lc } s m av.toArray below meth c s.heap [] 0 0 (MQ below (gQ G rv y) av.toArray s mc ms (gA G)) (entryFrame m av.toArray nL)) : gMet G l yn cc nL ret F Lc av rv f := by
  intro σ y hf
  refine Met.ofW (cc := cc) (maxL := nL) (ret := ret) hy rfl ?_
  intro p e s m args below meth c s₁ B hml hv
  obtain ⟨rfl, hW, hG⟩ := hv
  have hts := atoms_spec (ws := .code yn cc nL ret :: gT) B.pre
  have hmono := f.2 σ y hf
  refine body σ y p e s m below meth c _ _ hf ⟨B.exec, B.bytes, hml, findClass_of_methodNamed B.named, fun w h => hts w (List.mem_cons_of_mem _ h), B.notSynchronized, hG⟩ B.returns (name_of_methodNamed B.named B.method).1 ⟨hW, va_S.rf, ?_, ?_⟩
  · show 0 + gcl σ ≤ (gcl σ - gcl y.2) + gcl y.2
    have := hmono.1
    omega
  · show 0 + gsl σ ≤ (gsl σ - gsl y.2) + gsl y.2
    have := hmono.2
    omega
section GROWS2
variable {G : gX} {p : Program} {l : Launch} {e : Env} {R : Room} {s : State} {m : MethodId} {args : Array Value} {below : List Frame} {meth : Method} {c : Code} {H : Heap} {locs : List Loc} {cells slots : Nat} {Q : State → Prop}
variable {cc : ByteArray} {nL pc : Nat} {own : String} {ls : Array Slot} {rest : List Value} {σ : gS} {α β : Type} {y : β × gS}
/-- the law's own environment, at the heap as it is now -/
theorem gG_now (C : gC G p s m args meth c cc nL own) (hS : va_S (gA G) s.heap H locs) : gG G s H := C.2.2.2.2.2.2.kept (fun a h1 h2 => hS.2.1 a h1 h2)
theorem gw_run {rv : α → Option Value} {f : gM α} {K : α → gM β} {st0 : List Value} {a : Array Value} (I : gI G R s y.2 σ H locs cells slots) (hf : (gb f K).1 σ = some y) (hr : ∀ y1, f.1 σ = some y1 → cells + (gcl σ - gcl y1.2) ≤ R.cells ∧ slots + (gsl σ - gsl y1.2) ≤ R.slots → va_Run p l e R s m args below meth c H locs cells slots (gcl σ - gcl y1.2) (gsl σ - gsl y1.2) (F0 m pc ls st0) rest (gQ G rv y1 a) (gA G))
    (kk : ∀ (x : α) (σ1 : gS) (H1 : Heap) (locs1 : List Loc) (cells1 slots1 : Nat), gI G R s y.2 σ1 H1 locs1 cells1 slots1 → (K x).1 σ1 = some y → W p l e R s m args below meth c H1 locs1 cells1 slots1 Q (F0 m (pc + 3) ls ((rv x).toList ++ rest))) : W p l e R s m args below meth c H locs cells slots Q (F0 m pc ls st0) := by
  obtain ⟨y1, h1, h2⟩ := gb_some hf
  have m1 := f.2 σ y1 h1
  have m2 := (K y1.1).2 y1.2 y h2
  obtain ⟨iW, iS, iC, iL⟩ := I
  have hr := hr y1 h1 ⟨by omega, by omega⟩
  intro T hT X
  obtain ⟨v, st₀, t, T', L, h0, X', hL, e1, e2, ⟨hv, hb, hz, hk⟩, st⟩ := hr T hT X
  cases hv
  rw [h0] at hz hk
  obtain ⟨t2, a1, b1⟩ := kk y1.1 y1.2 T'.heap (locs ++ L) _ _ ⟨by rw [e1]; exact hb, ⟨Nat.le_trans iS.1 (by rw [e1]; exact hz), fun q q1 q2 => by rw [e1, hk q (Nat.lt_of_lt_of_le q1 iS.1) q2]; exact iS.2.1 q q1 q2, fun q hq => by
      rcases List.mem_append.mp hq with h | h
      · exact iS.2.2 q h
      · exact hL q h⟩, by omega, by omega⟩ h2 T' rfl X'
  exact ⟨t2, st t2 a1, b1⟩
theorem nn_some {ci : Nat} {r : Option Nat} {K : Unit → gM β} {σ : gS} {y : β × gS} (hf : (gb (nn ci r) K).1 σ = some y) : ∃ a, r = some a ∧ gkd σ a = ci + 1 ∧ (K ()).1 σ = some y := by
  obtain ⟨x, h1, h2⟩ := gb_some hf
  obtain ⟨h3, h4⟩ := gq_some h1
  cases r with
  | none => cases h3
  | some a =>
    dsimp only at h3
    split at h3
    · rename_i hk
      rw [h4] at h2
      exact ⟨a, rfl, hk, h2⟩
    · cases h3
theorem gw_pre (C : gC G p s m args meth c cc nL own) (I : gI G R s y.2 σ H locs cells slots) {av : List Value} : PreS s H (gPc G av σ) av := ⟨gPc_blind, fun U hU hW => ⟨rfl, by rw [hU]; exact I.1, by rw [hU]; exact (gG_now C I.2.1).warm hW⟩⟩
theorem gw_recv (C : gC G p s m args meth c cc nL own) (I : gI G R s y.2 σ H locs cells slots) {ci a N : Nat} {Cn : String} {T : u_T} {ty : Nat → FieldType} (hc : gCls ci Cn T N ty) (hk : gkd σ a = ci + 1) : ∃ cell : Cell, H[a]? = some cell ∧ cell.vm.isStatics = false ∧ s.vm.findClass Cn = some cell.cls := by
  have hP := gW_at I.1 (by rw [hk]; omega) (gcell_o hk hc.2.2.2.1)
  exact va_recv C.2.2.2.2.2.2.1 hP hc.1 (q0 := 0) rfl
/-- what a call wants of the tables -/
def gLink (own : String) (index : Nat) (yn : MethodName) (cc : ByteArray) (nL n : Nat) (ret : Option FieldType) : Prop := Cond.methodLink own index yn ∈ gT ∧ Cond.code yn cc nL ret ∈ gT ∧ Cond.initialized yn.cls ∈ gT ∧ yn.cls ≠ "java/lang/invoke/MethodHandle" ∧ yn.cls ≠ "java/lang/invoke/VarHandle" ∧ (parseMethodDescriptor yn.desc).map (fun d => d.parameters.length) = some n
theorem gLink.B {Ts : Cond} {yn : MethodName} {cc' : ByteArray} {nL' n index F Lc mc ms : Nat} {ret : Option FieldType} (h : gLink own index yn cc' nL' n ret) (hts : ∀ w ∈ gT, w.before args s = true) (hR : F + 1 ≤ R.frames ∧ 8 + (nL' + 11) + Lc ≤ R.locals) : CallB R s args own index yn cc' nL' ret (.code yn cc' nL' ret :: gT) { frames := F, cells := mc, slots := ms, locals := Lc } mc ms n := by
  obtain ⟨h1, h2, h3, h4, h5, h6⟩ := h
  refine ⟨rfl, rfl, hR.1, hR.2, pay_in (big := gT) hts ?_, List.mem_cons_self, hts _ h2, hts _ h3, ⟨h4, h5⟩, fun sig hs => ?_, hts _ h1⟩
  · intro w hw
    rcases List.mem_cons.mp hw with rfl | hw
    · exact ⟨h2, good_of_word (List.mem_filter.mp h2).2⟩
    · exact ⟨hw, good_of_word (List.mem_filter.mp hw).2⟩
  · rw [hs] at h6
    exact (Option.some.inj h6).symm
theorem gw_callV {rv : α → Option Value} {f : gM α} {K : α → gM β} {ci N : Nat} {Cn : String} {T : u_T} {ty : Nat → FieldType} {yn : MethodName} {cc' : ByteArray} {nL' n index F Lc : Nat} {ret : Option FieldType} {r : Option Nat} {As st0 : List Value} (C : gC G p s m args meth c cc nL own) (I : gI G R s y.2 σ H locs cells slots) (hl : ls.size = nL) (hc : gCls ci Cn T N ty) (hM : gMet G l yn cc' nL' ret F Lc (va_rf r :: As) rv f) (h : gLink own index yn cc' nL' n ret) (hin : Cond.instanceMethod yn ∈ gT ∧ Cond.selects Cn yn yn ∈ gT) (hR : F + 1 ≤ R.frames ∧ 8 + (nL' + 11) + Lc ≤ R.locals) (hn : As.length = n) (hrest : (rest.map fun v => v.category).sum ≤ 8) (hst : st0 = As.reverse ++ va_rf r :: rest) (hdg : decode cc pc = .ok (.invokevirtual index, 3)) (hf : (gb (nn ci r) fun _ => gb f K).1 σ = some y)
    (kk : ∀ (x : α) (σ1 : gS) (H1 : Heap) (locs1 : List Loc) (cells1 slots1 : Nat), gI G R s y.2 σ1 H1 locs1 cells1 slots1 → (K x).1 σ1 = some y → W p l e R s m args below meth c H1 locs1 cells1 slots1 Q (F0 m (pc + 3) ls ((rv x).toList ++ rest))) : W p l e R s m args below meth c H locs cells slots Q (F0 m pc ls st0) := by
  obtain ⟨a, rfl, hk, hf⟩ := nn_some hf
  refine gw_run (rv := rv) (a := (Value.ref a :: As).toArray) I hf (fun y1 h1 hroom => ?_) kk
  obtain ⟨hx, hb, hml, hown, hts, -, hG⟩ := id C
  refine va_runV (b := a) (As := As) (rest := rest) ⟨hx, hb, hml, hown, hts⟩ (hM σ y1 h1) ⟨gLink.B (Ts := Cond.static yn) h hts hR, hts _ hin.1, hts _ hin.2⟩ ⟨gPc_blind, gw_recv C I hc hk, (gw_pre C I).2⟩ rfl hn hl hst ?_ hdg hroom
  exact lv_room hrest
theorem gw_callS {rv : α → Option Value} {f : gM α} {K : α → gM β} {yn : MethodName} {cc' : ByteArray} {nL' n index F Lc : Nat} {ret : Option FieldType} {As st0 : List Value} (C : gC G p s m args meth c cc nL own) (I : gI G R s y.2 σ H locs cells slots) (hl : ls.size = nL) (hM : gMet G l yn cc' nL' ret F Lc As rv f) (h : gLink own index yn cc' nL' n ret) (hin : Cond.static yn ∈ gT) (hR : F + 1 ≤ R.frames ∧ 8 + (nL' + 11) + Lc ≤ R.locals) (hn : As.length = n) (hrest : (rest.map fun v => v.category).sum ≤ 8) (hst : st0 = As.reverse ++ rest) (hdg : decode cc pc = .ok (.invokestatic index, 3)) (hf : (gb f K).1 σ = some y)
    (kk : ∀ (x : α) (σ1 : gS) (H1 : Heap) (locs1 : List Loc) (cells1 slots1 : Nat), gI G R s y.2 σ1 H1 locs1 cells1 slots1 → (K x).1 σ1 = some y → W p l e R s m args below meth c H1 locs1 cells1 slots1 Q (F0 m (pc + 3) ls ((rv x).toList ++ rest))) : W p l e R s m args below meth c H locs cells slots Q (F0 m pc ls st0) := by
  refine gw_run (rv := rv) (a := As.toArray) I hf (fun y1 h1 hroom => ?_) kk
  obtain ⟨hx, hb, hml, hown, hts, -, hG⟩ := id C
  refine va_runS (As := As) (rest := rest) ⟨hx, hb, hml, hown, hts⟩ (hM σ y1 h1) ⟨gLink.B (Ts := Cond.static yn) h hts hR, hts _ hin⟩ (gw_pre C I) rfl hn hl hst ?_ hdg hroom
  exact lv_room hrest
/-- a constructor of the class itself or one that the tables link as any other method -/
theorem gw_callI {f : gM Unit} {K : Unit → gM β} {yn : MethodName} {cc' : ByteArray} {nL' n index F Lc : Nat} {r : Option Nat} {As st0 : List Value} (C : gC G p s m args meth c cc nL own) (I : gI G R s y.2 σ H locs cells slots) (hl : ls.size = nL) (hM : gMet G l yn cc' nL' none F Lc (va_rf r :: As) grv f) (h : gLink own index yn cc' nL' n none) (hin : yn.name = "<init>" ∧ Cond.instanceMethod yn ∈ gT) (hR : F + 1 ≤ R.frames ∧ 8 + (nL' + 11) + Lc ≤ R.locals) (hn : As.length = n) (hrest : (rest.map fun v => v.category).sum ≤ 8) (hst : st0 = As.reverse ++ va_rf r :: rest) (hdg : decode cc pc = .ok (.invokespecial index, 3)) {ci : Nat} (hf : (gb (nn ci r) fun _ => gb f K).1 σ = some y)
    (kk : ∀ (x : Unit) (σ1 : gS) (H1 : Heap) (locs1 : List Loc) (cells1 slots1 : Nat), gI G R s y.2 σ1 H1 locs1 cells1 slots1 → (K x).1 σ1 = some y → W p l e R s m args below meth c H1 locs1 cells1 slots1 Q (F0 m (pc + 3) ls rest)) : W p l e R s m args below meth c H locs cells slots Q (F0 m pc ls st0) := by
  obtain ⟨a, rfl, hk, hf⟩ := nn_some hf
  refine gw_run (rv := grv) (a := (Value.ref a :: As).toArray) I hf (fun y1 h1 hroom => ?_) kk
  obtain ⟨hx, hb, hml, hown, hts, -, hG⟩ := id C
  refine va_runI (b := a) (As := As) (rest := rest) ⟨hx, hb, hml, hown, hts⟩ (hM σ y1 h1) ⟨gLink.B (Ts := Cond.static yn) h hts hR, hin.1, hts _ hin.2⟩ (gw_pre C I) rfl hn hl hst ?_ hdg hroom
  exact lv_room hrest
/-- a nest mate's private constructor -/
theorem gw_callN {f : gM Unit} {K : Unit → gM β} {yn : MethodName} {host : String} {cc' : ByteArray} {nL' n index F Lc : Nat} {r : Option Nat} {As st0 : List Value} (C : gC G p s m args meth c cc nL own) (I : gI G R s y.2 σ H locs cells slots) (hl : ls.size = nL) (hM : gMet G l yn cc' nL' none F Lc (va_rf r :: As) grv f) (hnest : (own, index, yn, host) ∈ gNest) (hcode : Cond.code yn cc' nL' none ∈ gT ∧ Cond.initialized yn.cls ∈ gT) (hd : yn.cls ≠ "java/lang/invoke/MethodHandle" ∧ yn.cls ≠ "java/lang/invoke/VarHandle" ∧ (parseMethodDescriptor yn.desc).map (fun d => d.parameters.length) = some n) (hin : yn.name = "<init>" ∧ Cond.instanceMethod yn ∈ gT) (hR : F + 1 ≤ R.frames ∧ 8 + (nL' + 11) + Lc ≤ R.locals) (hn : As.length = n) (hrest : (rest.map fun v => v.category).sum ≤ 8) (hst : st0 = As.reverse ++ va_rf r :: rest) (hdg : decode cc pc = .ok (.invokespecial index, 3)) {ci : Nat} (hf : (gb (nn ci r) fun _ => gb f K).1 σ = some y)
    (kk : ∀ (x : Unit) (σ1 : gS) (H1 : Heap) (locs1 : List Loc) (cells1 slots1 : Nat), gI G R s y.2 σ1 H1 locs1 cells1 slots1 → (K x).1 σ1 = some y → W p l e R s m args below meth c H1 locs1 cells1 slots1 Q (F0 m (pc + 3) ls rest)) : W p l e R s m args below meth c H locs cells slots Q (F0 m pc ls st0) := by
  obtain ⟨a, rfl, hk, hf⟩ := nn_some hf
  refine gw_run (rv := grv) (a := (Value.ref a :: As).toArray) I hf (fun y1 h1 hroom => ?_) kk
  obtain ⟨hx, hb, hml, hown, hts, -, hG⟩ := id C
  refine va_runIN (b := a) (As := As) (rest := rest) (host := host) (bytes := cc') (maxL := nL') (n := n) ⟨hx, hb, hml, hown, hts⟩ (hM σ y1 h1) ⟨⟨⟨rfl, rfl, hR.1, hR.2, pay_in (big := gT) hts ?_, List.mem_cons_self⟩, hts _ hcode.1, hts _ hcode.2, ⟨hd.1, hd.2.1⟩, fun sig hs => ?_, va_Nw.use rfl (hG.2.2.1 _ hnest)⟩, hin.1, hts _ hin.2⟩ (gw_pre C I) rfl hn hl hst ?_ hdg hroom
  · intro w hw
    rcases List.mem_cons.mp hw with rfl | hw
    · exact ⟨hcode.1, good_of_word (List.mem_filter.mp hcode.1).2⟩
    · exact ⟨hw, good_of_word (List.mem_filter.mp hw).2⟩
  · have h6 := hd.2.2
    rw [hs] at h6
    exact (Option.some.inj h6).symm
  · exact lv_room hrest
/-- the ends -/
theorem gw_iret {x : Int32} {mc ms : Nat} {F Lc : Nat} {y : Int32 × gS} (C : gC G p s m args meth c cc nL own) (I : gI G { frames := F, cells := mc, slots := ms, locals := Lc } s y.2 σ H locs cells slots) (hr : meth.sig.returnType = some .int) (hdg : decode cc pc = .ok (.ireturn, 1)) (hf : (gp x).1 σ = some y) : W p l e { frames := F, cells := mc, slots := ms, locals := Lc } s m args below meth c H locs cells slots (MQ below (gQ G gri y) args s mc ms (gA G)) (F0 m pc ls [.int x]) := by
  have hy := gp_some hf
  subst hy
  obtain ⟨hx, hb, -, -, -, hlocks, -⟩ := C
  obtain ⟨iW, iS, iC, iL⟩ := I
  refine W.widen (k := mc) (n := ms) (Nat.le_of_add_le_add_right iC) (Nat.le_of_add_le_add_right iL) ?_
  exact W.iret hx hb hr (fun t ht hW => ⟨rfl, by rw [ht]; exact iW, iS.F ht⟩) iS.2.2 hdg hlocks
/-- a boolean's end: 0 or 1 alone -/
def gz (x : Int32) : gM Int32 := if x = 0 ∨ x = 1 then gp x else gno
theorem gw_zret {x : Int32} {mc ms : Nat} {F Lc : Nat} {y : Int32 × gS} (C : gC G p s m args meth c cc nL own) (I : gI G { frames := F, cells := mc, slots := ms, locals := Lc } s y.2 σ H locs cells slots) (hr : meth.sig.returnType = some .boolean) (hdg : decode cc pc = .ok (.ireturn, 1)) (hf : (gz x).1 σ = some y) : W p l e { frames := F, cells := mc, slots := ms, locals := Lc } s m args below meth c H locs cells slots (MQ below (gQ G gri y) args s mc ms (gA G)) (F0 m pc ls [.int x]) := by
  unfold gz at hf
  split at hf
  · rename_i hv
    have hy := gp_some hf
    subst hy
    obtain ⟨hx, hb, -, -, -, hlocks, -⟩ := C
    obtain ⟨iW, iS, iC, iL⟩ := I
    refine W.widen (k := mc) (n := ms) (Nat.le_of_add_le_add_right iC) (Nat.le_of_add_le_add_right iL) ?_
    exact W.zret hx hb hr (by rcases hv with rfl | rfl <;> decide) (fun t ht hW => ⟨rfl, by rw [ht]; exact iW, iS.F ht⟩) iS.2.2 hdg hlocks
  · exact (gno_some hf).elim
theorem gw_lret {x : Int64} {mc ms : Nat} {F Lc : Nat} {y : Int64 × gS} (C : gC G p s m args meth c cc nL own) (I : gI G { frames := F, cells := mc, slots := ms, locals := Lc } s y.2 σ H locs cells slots) (hr : meth.sig.returnType = some .long) (hdg : decode cc pc = .ok (.lreturn, 1)) (hf : (gp x).1 σ = some y) : W p l e { frames := F, cells := mc, slots := ms, locals := Lc } s m args below meth c H locs cells slots (MQ below (gQ G grl y) args s mc ms (gA G)) (F0 m pc ls [.long x]) := by
  have hy := gp_some hf
  subst hy
  obtain ⟨hx, hb, -, -, -, hlocks, -⟩ := C
  obtain ⟨iW, iS, iC, iL⟩ := I
  refine W.widen (k := mc) (n := ms) (Nat.le_of_add_le_add_right iC) (Nat.le_of_add_le_add_right iL) ?_
  exact W.lret hx hb hr (fun t ht hW => ⟨rfl, by rw [ht]; exact iW, iS.F ht⟩) iS.2.2 hdg hlocks
theorem gw_vret {mc ms : Nat} {F Lc : Nat} {y : Unit × gS} (C : gC G p s m args meth c cc nL own) (I : gI G { frames := F, cells := mc, slots := ms, locals := Lc } s y.2 σ H locs cells slots) (hr : meth.sig.returnType = none) (hdg : decode cc pc = .ok (.return_, 1)) (hf : (gp ()).1 σ = some y) : W p l e { frames := F, cells := mc, slots := ms, locals := Lc } s m args below meth c H locs cells slots (MQ below (gQ G grv y) args s mc ms (gA G)) (F0 m pc ls []) := by
  have hy := gp_some hf
  subst hy
  obtain ⟨hx, hb, -, -, -, hlocks, -⟩ := C
  obtain ⟨iW, iS, iC, iL⟩ := I
  refine W.widen (k := mc) (n := ms) (Nat.le_of_add_le_add_right iC) (Nat.le_of_add_le_add_right iL) ?_
  exact W.vret hx hb hr (fun t ht hW => ⟨rfl, by rw [ht]; exact iW, iS.F ht⟩) iS.2.2 hdg hlocks
theorem gw_aret {x : Option Nat} {rt : FieldType} {mc ms : Nat} {F Lc : Nat} {y : Option Nat × gS} (C : gC G p s m args meth c cc nL own) (I : gI G { frames := F, cells := mc, slots := ms, locals := Lc } s y.2 σ H locs cells slots) (hr : meth.sig.returnType = some rt) (hrt : (∃ n, rt = .object n) ∨ ∃ t, rt = .array t) (hdg : decode cc pc = .ok (.areturn, 1)) (hf : (gp x).1 σ = some y) : W p l e { frames := F, cells := mc, slots := ms, locals := Lc } s m args below meth c H locs cells slots (MQ below (gQ G grq y) args s mc ms (gA G)) (F0 m pc ls [va_rf x]) := by
  have hy := gp_some hf
  subst hy
  obtain ⟨hx, hb, -, -, -, hlocks, -⟩ := C
  obtain ⟨iW, iS, iC, iL⟩ := I
  refine W.widen (k := mc) (n := ms) (Nat.le_of_add_le_add_right iC) (Nat.le_of_add_le_add_right iL) ?_
  exact W.aret hx hb hr hrt (by cases x; exact Or.inl rfl; exact Or.inr ⟨_, rfl⟩) (fun t ht hW => ⟨rfl, by rw [ht]; exact iW, iS.F ht⟩) iS.2.2 hdg hlocks
end GROWS2
