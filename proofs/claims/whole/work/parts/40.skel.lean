/-! THE CLAIM OUT OF ONE WALK OF THE LAW'S BODY. Your part is whole_start (and what it stands on); all else here is the same for every law, but numbers. -/
def R_law : String := "UrlGateLaw"
def lw_P (b : Addr) (xs : List Int32) (args : Array Value) (s : State) : Prop := args = #[.ref b] ∧ s.IntsAt b xs ∧ xs.length ≤ 3584 ∧ (Jvm.Cond.and given_1 narrow_1).before args s = true
def lw_Q (_ : Array Value) (s : State) (o : Outcome) (t : State) : Prop := o = .returned (some (.int 1)) ∧ Framed s o t [] 600000 7302250
def lw_Z (below : List Frame) (a : Array Value) (s : State) : State → Prop := fun t => ∃ o, t.status = .running ∧ Ended t below o ∧ lw_Q a s o t
/-- the law's own end, with 1 on the stack, nothing written that was there before, its room as the claim has it -/
theorem lw_ret {p : Program} {l : Launch} {e : Env} {s : State} {m : MethodId} {below : List Frame} {meth : Method} {c : Code} {b : Nat} (hx : p.tables.exec = Jvm.exec) (hb : c.code = code) (hr : meth.sig.returnType = ret) (hlocks : meth.locks = false) {pc : Nat} {H : Heap} {ls : Array Slot} (hdg : decode code pc = .ok (.ireturn, 1)) : W p l e room_1 s m #[Value.ref b] below meth c H [] 600000 7302250 (lw_Z below #[Value.ref b] s) (F0 m pc ls [.int 1]) := by
  intro T hT X
  obtain ⟨fs, hret, hrun, hended, hW, hframe⟩ := X.leave (v := some (.int 1)) (hlocks := hlocks) (fun h => by rw [hr] at h; cases h)
  have hmeth' : T.vm.method? m = some meth := X.method'
  refine ⟨T.setFrames fs, ?_, .returned (some (.int 1)), hrun, hended, rfl, ⟨_, rfl⟩, hW, hframe⟩
  jvm_step X.here [X.here.top, hx, hb, hdg, hmeth', hr, ret, narrow_b1]
  (try refine ⟨rfl, ?_⟩); (try refine ⟨rfl, ?_⟩)
  first | (intro acts; rw [hret _ acts rfl rfl rfl]) | rw [hret _ _ rfl rfl rfl]
  exact Steps.refl _
/-- what holds at the law's entry: the machine, the code, the tables' words (any of lw_tbl by 'hts w (by decide +kernel)'), the script of L ints xs at the cell b, what the Statement gives of the start (any of its parts by flat_of_before) -/
def lw_At (p : Program) (s : State) (m : MethodId) (meth : Method) (c : Code) (b L : Nat) (xs : Nat → Int32) : Prop :=
  p.tables.exec = Jvm.exec ∧ c.code = code ∧ meth.sig.returnType = ret ∧ c.maxLocals = 4 ∧ s.vm.findClass R_law = some m.cls ∧ (∀ w ∈ lw_tbl, w.before #[Value.ref b] s = true) ∧ va_X b L xs s s.heap ∧ b < s.heap.size ∧ meth.locks = false ∧ (Jvm.Cond.and given_1 narrow_1).before #[Value.ref b] s = true
/-- the law's script -/
def scr (L : Nat) (xs : Nat → Int32) (i : Int32) : gM Int32 := if gin i L = true then gp (xs i.toNatClampNeg) else gno
abbrev gJL (G : gX) (p : Program) (l : Launch) (e : Env) (s : State) (m : MethodId) (b : Nat) (below : List Frame) (meth : Method) (c : Code) (y : Int32 × gS) (pc : Nat) (lv : List (Nat × Value)) (st : List Value) (f : gM Int32) : Prop :=
  ∀ (σ : gS) (H : Heap) (locs : List Loc) (cells slots : Nat) (ls : Array Slot), f.1 σ = some y → gI G room_1 s y.2 σ H locs cells slots → lv_has ls 4 lv → W p l e room_1 s m #[Value.ref b] below meth c H locs cells slots (lw_Z below #[Value.ref b] s) (F0 m pc ls st)
section GLAW
variable {G : gX} {p : Program} {l : Launch} {e : Env} {R : Room} {s : State} {m : MethodId} {args : Array Value} {below : List Frame} {meth : Method} {c : Code} {H : Heap} {locs : List Loc} {cells slots : Nat} {Q : State → Prop}
variable {cc : ByteArray} {nL pc : Nat} {own : String} {ls : Array Slot} {rest : List Value} {σ : gS} {β : Type} {y : β × gS}
theorem gw_scr {b L : Nat} {xs : Nat → Int32} {i : Int32} {K : Int32 → gM β} (hX : va_X b L xs s s.heap) (hbl : b < s.heap.size) (hbB : ¬ gA G b) (C : gC G p s m args meth c cc nL own) (I : gI G R s y.2 σ H locs cells slots) (hdg : decode cc pc = .ok (.iaload, 1)) (hf : (gb (scr L xs i) K).1 σ = some y) (kk : ∀ x : Int32, (K x).1 σ = some y → W p l e R s m args below meth c H locs cells slots Q (F0 m (pc + 1) ls (.int x :: rest))) : W p l e R s m args below meth c H locs cells slots Q (F0 m pc ls (.int i :: va_rf (some b) :: rest)) := by
  obtain ⟨x, h1, h2⟩ := gb_some hf
  unfold scr at h1
  split at h1
  · rename_i h
    cases gp_some h1
    exact va_sld C.1 C.2.1 hX hbl hbB I.2.1 (gin_iff.mp h) hdg (kk _ h2)
  · exact (gno_some h1).elim
theorem gw_lawr {b : Nat} {x : Int32} {y : Int32 × gS} (C : gC G p s m #[Value.ref b] meth c code 4 RL) (I : gI G room_1 s y.2 σ H locs cells slots) (hr : meth.sig.returnType = ret) (hB : gB G = s.heap.size) (hy : y.1 = 1) (hdg : decode code pc = .ok (.ireturn, 1)) (hf : (gp x).1 σ = some y) : W p l e room_1 s m #[Value.ref b] below meth c H locs cells slots (lw_Z below #[Value.ref b] s) (F0 m pc ls [.int x]) := by
  have h0 := gp_some hf
  subst h0
  have hy : x = 1 := hy
  subst hy
  obtain ⟨iW, iS, iC, iL⟩ := I
  refine va_forget (fun q hq => by rw [← hB]; exact iS.2.2 q hq) ?_
  refine W.widen (k := 600000) (n := 7302250) (Nat.le_of_add_le_add_right iC) (Nat.le_of_add_le_add_right iL) ?_
  exact lw_ret C.1 C.2.1 hr C.2.2.2.2.2.1 hdg
end GLAW
