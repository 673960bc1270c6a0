def gNest : List (String × Nat × MethodName × String) := [("UrlGate", 9, ⟨"UrlGate$Row", "<init>", "()V"⟩, "UrlGate"), ("UrlGate", 27, ⟨"UrlGate$Host", "<init>", "()V"⟩, "UrlGate"), ("UrlGate$Host", 9, ⟨"UrlGate$Address", "<init>", "()V"⟩, "UrlGate"), ("UrlGate$Host", 18, ⟨"UrlGate$Row", "<init>", "()V"⟩, "UrlGate"), ("UrlGate", 34, ⟨"UrlGate$HostReader", "<init>", "()V"⟩, "UrlGate"), ("UrlGate$HostReader", 11, ⟨"UrlGate$Row", "<init>", "()V"⟩, "UrlGate"), ("UrlGate", 41, ⟨"UrlGate$UrlReader", "<init>", "()V"⟩, "UrlGate"), ("UrlGate$UrlReader", 11, ⟨"UrlGate$Row", "<init>", "()V"⟩, "UrlGate"), ("UrlGate", 48, ⟨"UrlGate$Gate", "<init>", "()V"⟩, "UrlGate"), ("UrlGate", 53, ⟨"UrlGate$Url", "<init>", "()V"⟩, "UrlGate"), ("UrlGate$Url", 17, ⟨"UrlGate$Row", "<init>", "()V"⟩, "UrlGate"), ("UrlGate$Url", 30, ⟨"UrlGate$Host", "<init>", "()V"⟩, "UrlGate"), ("UrlGate$Gate", 50, ⟨"UrlGate$Host", "<init>", "()V"⟩, "UrlGate"), ("UrlGate$Gate", 55, ⟨"UrlGate$Row", "<init>", "()V"⟩, "UrlGate"), ("UrlGate$Gate", 59, ⟨"UrlGate$Address", "<init>", "()V"⟩, "UrlGate")]
def gStr : List (String × Nat × String) := [("UrlGate$Url", 57, "http"), ("UrlGate$Url", 59, "ws"), ("UrlGate$Url", 61, "https"), ("UrlGate$Url", 63, "wss"), ("UrlGate$Url", 65, "ftp"), ("UrlGate$UrlReader", 104, "//"), ("UrlGate$UrlReader", 166, " \"#<>?^`{}/:;=\x40[\\]|"), ("UrlGate$Row", 48, "0123456789ABCDEF"), ("UrlGate$Host", 60, "::"), ("UrlGate$Row", 50, "0123456789abcdef"), ("UrlGate$Bytes", 15, "#%/:<>?\x40[\\]^|"), ("UrlGate$HostReader", 84, "xn--"), ("UrlGate$HostReader", 96, "0x"), ("UrlGate$UrlReader", 199, "%2e"), ("UrlGate$UrlReader", 201, "%2E"), ("UrlGate$UrlReader", 197, " \"#<>?^`{}"), ("UrlGate$UrlReader", 210, " \"#<>'"), ("UrlGate$UrlReader", 218, " \"<>`"), ("UrlGate$Url", 110, "://"), ("UrlGateModel", 132, "http"), ("UrlGateModel", 134, "ws"), ("UrlGateModel", 136, "https"), ("UrlGateModel", 138, "wss"), ("UrlGateModel", 140, "ftp")]
def gLen : List Nat := [4, 2, 5, 3, 3, 2, 19, 16, 2, 16, 13, 4, 2, 3, 3, 10, 6, 5, 3, 4, 2, 5, 3, 3]
def gByt : List (List Int32) := [[104, 116, 116, 112], [119, 115], [104, 116, 116, 112, 115], [119, 115, 115], [102, 116, 112], [47, 47], [32, 34, 35, 60, 62, 63, 94, 96, 123, 125, 47, 58, 59, 61, 64, 91, 92, 93, 124], [48, 49, 50, 51, 52, 53, 54, 55, 56, 57, 65, 66, 67, 68, 69, 70], [58, 58], [48, 49, 50, 51, 52, 53, 54, 55, 56, 57, 97, 98, 99, 100, 101, 102], [35, 37, 47, 58, 60, 62, 63, 64, 91, 92, 93, 94, 124], [120, 110, 45, 45], [48, 120], [37, 50, 101], [37, 50, 69], [32, 34, 35, 60, 62, 63, 94, 96, 123, 125], [32, 34, 35, 60, 62, 39], [32, 34, 60, 62, 96], [58, 47, 47], [104, 116, 116, 112], [119, 115], [104, 116, 116, 112, 115], [119, 115, 115], [102, 116, 112]]
def gSt (G : gX) (U : State) (H : Heap) (i : Nat) : Prop := va_O "java/lang/String" (gK G i) (gA G) U H ∧ va_OF "java/lang/String" "coder" "B" (.int 0) (gK G i) (gA G) U H ∧ va_OF "java/lang/String" "value" "[B" (.ref (gV G i)) (gK G i) (gA G) U H ∧ va_T .byte (gV G i) (gLen.getD i 0) (fun j => .int ((gByt.getD i []).getD j 0)) (gA G) U H
/-- what holds of the machine's tables and of what lies below the system's cells -/
def gG (G : gX) (U : State) (H : Heap) : Prop := va_K (gD G) vwCl (gTy G) U ∧ (∀ C ∈ [RX0, RX3, RX5, RX6], va_AO C U) ∧ (∀ q ∈ gNest, va_Nw (.methodLinkNest q.1 q.2.1 q.2.2.1 q.2.2.2) U) ∧ (∀ (i : Nat) (q : String × Nat × String), gStr[i]? = some q → vk_R q.1 q.2.1 q.2.2 (gK G i) U) ∧ (∀ i : Nat, i < 24 → gSt G U H i) ∧ va_Z "java/lang/String" "COMPACT_STRINGS" "Z" (.int 1) (gA G) U H ∧ va_Zq "jdk/internal/util/Preconditions" "SIOOBE_FORMATTER" "Ljava/util/function/BiFunction;" (gA G) U H
theorem gG.warm {G : gX} {s U : State} {H : Heap} (hW : s.WarmedH U.vm) (h : gG G s H) : gG G U H := by
  obtain ⟨h1, h2, h3, h4, h5, h6, h7⟩ := h
  refine ⟨va_K.moved hW.alike h1, fun C hC => va_AO.moved hW.alike (h2 C hC), fun q hq => va_Nw.warmM hW (h3 q hq), fun i q hq => vk_R.warm hW (h4 i q hq), fun i hi => ?_, va_Z.moved hW.alike h6, va_Zq.moved hW.alike h7⟩
  obtain ⟨g1, g2, g3, g4⟩ := h5 i hi
  exact ⟨va_O.moved hW.alike g1, va_OF.moved hW.alike g2, va_OF.moved hW.alike g3, va_T.moved hW.alike g4⟩
theorem gG.same {G : gX} {u U : State} {H : Heap} (hv : u.vm = U.vm) (h : gG G u H) : gG G U H := by
  have ha : u.vm.Alike U.vm := by rw [hv]; exact Vm.Alike.refl _
  obtain ⟨h1, h2, h3, h4, h5, h6, h7⟩ := h
  refine ⟨va_K.moved ha h1, fun C hC => va_AO.moved ha (h2 C hC), fun q hq => va_Nw.same rfl hv (h3 q hq), fun i q hq => vk_R.same hv.symm (h4 i q hq), fun i hi => ?_, va_Z.moved ha h6, va_Zq.moved ha h7⟩
  obtain ⟨g1, g2, g3, g4⟩ := h5 i hi
  exact ⟨va_O.moved ha g1, va_OF.moved ha g2, va_OF.moved ha g3, va_T.moved ha g4⟩
theorem gG.kept {G : gX} {U : State} {H H1 : Heap} (h : gG G U H) (hq : ∀ a : Nat, a < H.size → ¬ gA G a → H1[a]? = H[a]?) : gG G U H1 := by
  obtain ⟨h1, h2, h3, h4, h5, h6, h7⟩ := h
  refine ⟨h1, h2, h3, h4, fun i hi => ?_, h6.kept hq, h7.kept hq⟩
  obtain ⟨g1, g2, g3, g4⟩ := h5 i hi
  exact ⟨g1.kept hq, g2.kept hq, g3.kept hq, g4.kept hq⟩
/-- the walk's fixed part -/
def gC (G : gX) (p : Program) (s : State) (m : MethodId) (args : Array Value) (meth : Method) (c : Code) (cc : ByteArray) (nL : Nat) (own : String) : Prop := p.tables.exec = Jvm.exec ∧ c.code = cc ∧ c.maxLocals = nL ∧ s.vm.findClass own = some m.cls ∧ (∀ w ∈ gT, w.before args s = true) ∧ meth.locks = false ∧ gG G s s.heap
/-- the walk's moving part: the state σ now, τ at the method's end -/
def gI (G : gX) (R : Room) (s : State) (τ σ : gS) (H : Heap) (locs : List Loc) (cells slots : Nat) : Prop := gW G σ H ∧ va_S (gA G) s.heap H locs ∧ cells + gcl σ ≤ R.cells + gcl τ ∧ slots + gsl σ ≤ R.slots + gsl τ
section GROWS
variable {G : gX} {p : Program} {l : Launch} {e : Env} {R : Room} {s : State} {m : MethodId} {args : Array Value} {below : List Frame} {meth : Method} {c : Code} {H : Heap} {locs : List Loc} {cells slots : Nat} {Q : State → Prop}
variable {cc : ByteArray} {nL pc : Nat} {own : String} {ls : Array Slot} {rest : List Value} {σ : gS} {β : Type} {y : β × gS}
theorem gW_at {G : gX} {σ : gS} {H : Heap} (h : gW G σ H) {a : Nat} {e : va_E} (ha : gkd σ a ≠ 0) (hc : gcell G σ a = e) : va_P (gD G) vwCl [(a, e)] H := by
  intro k q hk
  have hz : k < 1 := (List.getElem?_eq_some_iff.mp hk).1
  rw [show k = 0 by omega] at hk
  cases hk
  rw [← hc]
  exact (h.2.2 a ha).2
theorem gw_geti {ci k index : Nat} {Cn : String} {T : u_T} {N : Nat} {ty : Nat → FieldType} {r : Option Nat} {K : Int32 → gM β} (C : gC G p s m args meth c cc nL own) (I : gI G R s y.2 σ H locs cells slots) (hc : gCls ci Cn T N ty) (hk : k < N) (hr : grf ci k = false) (hl : Cond.fieldLink own index (T k).1 (T k).2.1 (T k).2.2.1 ∈ gT) (hdg : decode cc pc = .ok (.getfield index, 3)) (hf : (gb (rI ci k r) K).1 σ = some y)
    (kk : ∀ x : Int32, (K x).1 σ = some y → W p l e R s m args below meth c H locs cells slots Q (F0 m (pc + 3) ls (.int x :: rest))) : W p l e R s m args below meth c H locs cells slots Q (F0 m pc ls (va_rf r :: rest)) := by
  obtain ⟨x, h1, h2⟩ := gb_some hf
  obtain ⟨h3, h4⟩ := gq_some h1
  obtain ⟨x, σ1⟩ := x
  dsimp only at h2 h3 h4
  subst h4
  cases r with
  | none => cases h3
  | some a =>
    dsimp only at h3
    split at h3
    · rename_i hka
      cases h3
      obtain ⟨hx, hb, -, hown, hts, -, hG⟩ := C
      obtain ⟨g1, g2, g3, g4, g5, g6, -⟩ := hc
      have hP := gW_at I.1 (by rw [hka]; omega) (gcell_o hka g4)
      exact va_get (D := gD G) (ws := [(a, .inr (ci, gfs σ1 ci a))]) (ci := ci) (C := Cn) (T := T) (N := N) hx hb hts g2 hown hG.1 hP 0 rfl g1 k hk (hts _ hl) (fun _ h => h) (gfs_i (by rw [g3]; exact hk) hr) hdg (kk _ h2)
    · cases h3
theorem gw_getr {ci k index : Nat} {Cn : String} {T : u_T} {N : Nat} {ty : Nat → FieldType} {r : Option Nat} {K : Option Nat → gM β} (C : gC G p s m args meth c cc nL own) (I : gI G R s y.2 σ H locs cells slots) (hc : gCls ci Cn T N ty) (hk : k < N) (hr : grf ci k = true) (hl : Cond.fieldLink own index (T k).1 (T k).2.1 (T k).2.2.1 ∈ gT) (hdg : decode cc pc = .ok (.getfield index, 3)) (hf : (gb (rR ci k r) K).1 σ = some y)
    (kk : ∀ x : Option Nat, (K x).1 σ = some y → W p l e R s m args below meth c H locs cells slots Q (F0 m (pc + 3) ls (va_rf x :: rest))) : W p l e R s m args below meth c H locs cells slots Q (F0 m pc ls (va_rf r :: rest)) := by
  obtain ⟨x, h1, h2⟩ := gb_some hf
  obtain ⟨h3, h4⟩ := gq_some h1
  obtain ⟨x, σ1⟩ := x
  dsimp only at h2 h3 h4
  subst h4
  cases r with
  | none => cases h3
  | some a =>
    dsimp only at h3
    split at h3
    · rename_i hka
      cases h3
      obtain ⟨hx, hb, -, hown, hts, -, hG⟩ := C
      obtain ⟨g1, g2, g3, g4, g5, g6, -⟩ := hc
      have hP := gW_at I.1 (by rw [hka]; omega) (gcell_o hka g4)
      exact va_get (D := gD G) (ws := [(a, .inr (ci, gfs σ1 ci a))]) (ci := ci) (C := Cn) (T := T) (N := N) hx hb hts g2 hown hG.1 hP 0 rfl g1 k hk (hts _ hl) (fun _ h => h) (gfs_r (by rw [g3]; exact hk) hr) hdg (kk _ h2)
    · cases h3
/-- a field is written, of whatever type -/
theorem gx_put {a ci k index : Nat} {Cn : String} {T : u_T} {N : Nat} {ty0 : Nat → FieldType} {ty : FieldType} {v : Value} {fs : List Value} (C : gC G p s m args meth c cc nL own) (hS0 : va_S (gA G) s.heap H locs) (ha : gB G ≤ a) (hc : gCls ci Cn T N ty0) (hk : k < N) (hl : Cond.fieldLink own index (T k).1 (T k).2.1 (T k).2.2.1 ∈ gT) (hfin : (T k).2.2.2 = false ∨ ((T k).2.2.2 = true ∧ meth.name = "<init>" ∧ (T k).1 = own)) (hd : parseFieldDescriptor (T k).2.2.1 = some ty) (hn : narrow ty v = v) (hfit : fits ty v = true) (hlen : k < fs.length) (hP : va_at (gD G) vwCl (a, .inr (ci, fs)) H) (hdg : decode cc pc = .ok (.putfield index, 3))
    (kk : ∀ (H1 : Heap) (locs1 : List Loc), H1.size = H.size → (∀ q : Nat, q ≠ a → H1[q]? = H[q]?) → va_at (gD G) vwCl (a, .inr (ci, fs.set k v)) H1 → va_S (gA G) s.heap H1 locs1 → W p l e R s m args below meth c H1 locs1 cells slots Q (F0 m (pc + 3) ls rest)) : W p l e R s m args below meth c H locs cells slots Q (F0 m pc ls (v :: .ref a :: rest)) := by
  obtain ⟨hx, hb, -, hown, hts, -, hG⟩ := C
  obtain ⟨g1, g2, g3, g4, g5, g6, -⟩ := hc
  have hap := va_apart (own := own) hts g2 ty0 g5 g6 hG.1 g1
  obtain ⟨r, h1, cell, q1, q2, q3, q4⟩ := hP
  have hr : r = (Cn, T, N) := Option.some.inj (h1.symm.trans g1)
  subst hr
  obtain ⟨hSl, hfc, kC, hkC, hkind⟩ := hG.1.1 ci _ g1
  obtain ⟨cf, kf, fi, f, hi, hsl⟩ := hSl k hk
  have hlay := hts _ (g2 _ (u_in_lay hk))
  have hst := (u_facts hfc hkC (u_lays hts g2 hk) hi).1
  have fin : ∀ H' : Heap, H'[a]? = some (cell.setSlot f.slot v) → H'.size = H.size → (∀ q : Nat, q ≠ a → H'[q]? = H[q]?) → W p l e R s m args below meth c H' (locs ++ [⟨a, f.slot⟩]) cells slots Q (F0 m (pc + 3) ls rest) := by
    intro H' e1 e2 e3
    rw [hsl] at e1 ⊢
    exact kk H' _ e2 e3 ⟨_, g1, t_OB.to (V := updV (vp_V fs) k v) ⟨_, e1, q2, q3, t_set q4 hap hk v⟩ (fun j _ => vp_updV_set hlen v j)⟩ (hS0.put e2 e3 ha)
  unfold u_lay at hlay
  rcases hfin with hfin | ⟨hfin, hin2, hdecl⟩
  · rw [if_neg (by rw [hfin]; decide)] at hlay
    have h6 := u_store hfc hkC hkind hlay hi hd hn hfit
    exact W.putK hx hb (f := f) ⟨hown, hts _ hl, ⟨_, _, _, hi⟩, hst⟩ (by rw [q2]; exact h6) q1 q3 (by rw [hsl]; exact k2_hasslot (q4 k hk)) rfl rfl hdg fin
  · rw [if_pos hfin] at hlay
    have hcf : m.cls = cf := by
      obtain ⟨_, _, c', _, _, _, -, -, hf', -, -, -, hown2, -⟩ := Cond.laysFinal_spec hlay
      have e1 : c' = cf := by have := hi.symm.trans hf'; simp at this; exact this.1.symm
      rw [hdecl] at hown2
      rw [← e1]; exact Option.some.inj (hown.symm.trans hown2)
    have h6 := u_fits hfc hkC hkind (Or.inr hlay) hi hd hn hfit
    exact W.putFinK hx hb hown (hts _ hl) hi hst hcf hin2 (by rw [q2]; exact h6) q1 q3 (by rw [hsl]; exact k2_hasslot (q4 k hk)) rfl rfl hdg fin
/-- an int field; the kinds of field that hold an int as it is -/
theorem gw_puti {ci k index : Nat} {Cn : String} {T : u_T} {N : Nat} {ty0 : Nat → FieldType} {r : Option Nat} {v : Int32} {K : Unit → gM β} (C : gC G p s m args meth c cc nL own) (I : gI G R s y.2 σ H locs cells slots) (hc : gCls ci Cn T N ty0) (hk : k < N) (hr : grf ci k = false) (hl : Cond.fieldLink own index (T k).1 (T k).2.1 (T k).2.2.1 ∈ gT) (hfin : (T k).2.2.2 = false ∨ ((T k).2.2.2 = true ∧ meth.name = "<init>" ∧ (T k).1 = own)) (hd : parseFieldDescriptor (T k).2.2.1 = some .int) (hdg : decode cc pc = .ok (.putfield index, 3)) (hf : (gb (wI ci k r v) K).1 σ = some y)
    (kk : ∀ (σ1 : gS) (H1 : Heap) (locs1 : List Loc), gI G R s y.2 σ1 H1 locs1 cells slots → (K ()).1 σ1 = some y → W p l e R s m args below meth c H1 locs1 cells slots Q (F0 m (pc + 3) ls rest)) : W p l e R s m args below meth c H locs cells slots Q (F0 m pc ls (.int v :: va_rf r :: rest)) := by
  obtain ⟨x, h1, h2⟩ := gb_some hf
  have h3 := gu_some h1
  cases r with
  | none => cases h3
  | some a =>
    dsimp only at h3
    split at h3
    · rename_i hka
      have h3 := Option.some.inj h3
      have hg := hc
      obtain ⟨g1, g2, g3, g4, g5, g6, -⟩ := hg
      have hne : gkd σ a ≠ 0 := by rw [hka]; omega
      have hP := (I.1.2.2 a hne).2
      rw [gcell_o hka g4] at hP
      refine gx_put (v := .int v) C I.2.1 (I.1.2.2 a hne).1 hc hk hl hfin hd rfl rfl (by rw [gfs_len, g3]; exact hk) hP hdg fun H1 locs1 e1 e2 e3 hS => ?_
      rw [gfs_setI hr] at e3
      rw [← h3] at h2
      refine kk (gsI σ ci k a v) H1 locs1 ⟨gW_upd I.1 e1 e2 rfl (fun _ => rfl) (fun b hb => gcell_sI hb) (I.1.2.2 a hne).1 ?_, hS, I.2.2.1, I.2.2.2⟩ h2
      rw [gcell_o (σ := gsI σ ci k a v) hka g4]
      exact e3
    · cases h3
theorem gw_putz {ci k index : Nat} {Cn : String} {T : u_T} {N : Nat} {ty0 : Nat → FieldType} {r : Option Nat} {v : Int32} {K : Unit → gM β} (C : gC G p s m args meth c cc nL own) (I : gI G R s y.2 σ H locs cells slots) (hc : gCls ci Cn T N ty0) (hk : k < N) (hr : grf ci k = false) (hl : Cond.fieldLink own index (T k).1 (T k).2.1 (T k).2.2.1 ∈ gT) (hfin : (T k).2.2.2 = false ∨ ((T k).2.2.2 = true ∧ meth.name = "<init>" ∧ (T k).1 = own)) (hd : parseFieldDescriptor (T k).2.2.1 = some .boolean) (hdg : decode cc pc = .ok (.putfield index, 3)) (hf : (gb (wZ ci k r v) K).1 σ = some y)
    (kk : ∀ (σ1 : gS) (H1 : Heap) (locs1 : List Loc), gI G R s y.2 σ1 H1 locs1 cells slots → (K ()).1 σ1 = some y → W p l e R s m args below meth c H1 locs1 cells slots Q (F0 m (pc + 3) ls rest)) : W p l e R s m args below meth c H locs cells slots Q (F0 m pc ls (.int v :: va_rf r :: rest)) := by
  obtain ⟨x, h1, h2⟩ := gb_some hf
  have h3 := gu_some h1
  cases r with
  | none => cases h3
  | some a =>
    dsimp only at h3
    split at h3
    · rename_i hka
      obtain ⟨hka, hv⟩ := hka
      have h3 := Option.some.inj h3
      have hg := hc
      obtain ⟨g1, g2, g3, g4, g5, g6, -⟩ := hg
      have hne : gkd σ a ≠ 0 := by rw [hka]; omega
      have hP := (I.1.2.2 a hne).2
      rw [gcell_o hka g4] at hP
      refine gx_put (v := .int v) C I.2.1 (I.1.2.2 a hne).1 hc hk hl hfin hd (by rcases hv with rfl | rfl <;> decide) (by rcases hv with rfl | rfl <;> decide) (by rw [gfs_len, g3]; exact hk) hP hdg fun H1 locs1 e1 e2 e3 hS => ?_
      rw [gfs_setI hr] at e3
      rw [← h3] at h2
      refine kk (gsI σ ci k a v) H1 locs1 ⟨gW_upd I.1 e1 e2 rfl (fun _ => rfl) (fun b hb => gcell_sI hb) (I.1.2.2 a hne).1 ?_, hS, I.2.2.1, I.2.2.2⟩ h2
      rw [gcell_o (σ := gsI σ ci k a v) hka g4]
      exact e3
    · cases h3
theorem gw_putr {ci k index : Nat} {Cn : String} {T : u_T} {N : Nat} {ty0 : Nat → FieldType} {ty : FieldType} {r v : Option Nat} {K : Unit → gM β} (C : gC G p s m args meth c cc nL own) (I : gI G R s y.2 σ H locs cells slots) (hc : gCls ci Cn T N ty0) (hk : k < N) (hr : grf ci k = true) (hl : Cond.fieldLink own index (T k).1 (T k).2.1 (T k).2.2.1 ∈ gT) (hfin : (T k).2.2.2 = false ∨ ((T k).2.2.2 = true ∧ meth.name = "<init>" ∧ (T k).1 = own)) (hd : parseFieldDescriptor (T k).2.2.1 = some ty) (hty : ∀ v : Option Nat, narrow ty (va_rf v) = va_rf v ∧ fits ty (va_rf v) = true) (hdg : decode cc pc = .ok (.putfield index, 3)) (hf : (gb (wR ci k r v) K).1 σ = some y)
    (kk : ∀ (σ1 : gS) (H1 : Heap) (locs1 : List Loc), gI G R s y.2 σ1 H1 locs1 cells slots → (K ()).1 σ1 = some y → W p l e R s m args below meth c H1 locs1 cells slots Q (F0 m (pc + 3) ls rest)) : W p l e R s m args below meth c H locs cells slots Q (F0 m pc ls (va_rf v :: va_rf r :: rest)) := by
  obtain ⟨x, h1, h2⟩ := gb_some hf
  have h3 := gu_some h1
  cases r with
  | none => cases h3
  | some a =>
    dsimp only at h3
    split at h3
    · rename_i hka
      have h3 := Option.some.inj h3
      have hg := hc
      obtain ⟨g1, g2, g3, g4, g5, g6, -⟩ := hg
      have hne : gkd σ a ≠ 0 := by rw [hka]; omega
      have hP := (I.1.2.2 a hne).2
      rw [gcell_o hka g4] at hP
      refine gx_put (v := va_rf v) C I.2.1 (I.1.2.2 a hne).1 hc hk hl hfin hd (hty v).1 (hty v).2 (by rw [gfs_len, g3]; exact hk) hP hdg fun H1 locs1 e1 e2 e3 hS => ?_
      rw [gfs_setR hr] at e3
      rw [← h3] at h2
      refine kk (gsR σ ci k a v) H1 locs1 ⟨gW_upd I.1 e1 e2 rfl (fun _ => rfl) (fun b hb => gcell_sR hb) (I.1.2.2 a hne).1 ?_, hS, I.2.2.1, I.2.2.2⟩ h2
      rw [gcell_o (σ := gsR σ ci k a v) hka g4]
      exact e3
    · cases h3
theorem gty_o (C : String) : ∀ v : Option Nat, narrow (.object C) (va_rf v) = va_rf v ∧ fits (.object C) (va_rf v) = true := by intro v; cases v <;> exact ⟨rfl, rfl⟩
theorem gty_a (t : FieldType) : ∀ v : Option Nat, narrow (.array t) (va_rf v) = va_rf v ∧ fits (.array t) (va_rf v) = true := by intro v; cases v <;> exact ⟨rfl, rfl⟩
end GROWS
