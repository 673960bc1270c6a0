/-! THE LAW'S START: what the Statement gives there makes the walk's environment -/
def gs0 (N : Nat) : gS := (fun _ => 0, fun _ _ _ => 0, fun _ _ _ => none, fun _ => 0, fun _ _ => 0, fun _ _ => none, N, 600000, 7302250)
def gStC (i : Nat) : List Cond := [.exactly (.string (gStr.getD i ("", 0, "")).1 (gStr.getD i ("", 0, "")).2.1) "java/lang/String", .eq (.field (.string (gStr.getD i ("", 0, "")).1 (gStr.getD i ("", 0, "")).2.1) "java/lang/String" "coder" "B") (.int 0), .arrayOf (.field (.string (gStr.getD i ("", 0, "")).1 (gStr.getD i ("", 0, "")).2.1) "java/lang/String" "value" "[B") .byte, .eq (.length (.field (.string (gStr.getD i ("", 0, "")).1 (gStr.getD i ("", 0, "")).2.1) "java/lang/String" "value" "[B")) (.int (Int32.ofNat (gLen.getD i 0)))] ++ (List.range (gLen.getD i 0)).map (fun j => .eq (.elem (.field (.string (gStr.getD i ("", 0, "")).1 (gStr.getD i ("", 0, "")).2.1) "java/lang/String" "value" "[B") (.int (Int32.ofNat j))) (.int ((gByt.getD i []).getD j 0)))
theorem gStC_0 : ((gStC 0).all fun c => decide (c ∈ flatC (Jvm.Cond.and given_1 narrow_1))) = true := by decide +kernel
theorem gStC_1 : ((gStC 1).all fun c => decide (c ∈ flatC (Jvm.Cond.and given_1 narrow_1))) = true := by decide +kernel
theorem gStC_2 : ((gStC 2).all fun c => decide (c ∈ flatC (Jvm.Cond.and given_1 narrow_1))) = true := by decide +kernel
theorem gStC_3 : ((gStC 3).all fun c => decide (c ∈ flatC (Jvm.Cond.and given_1 narrow_1))) = true := by decide +kernel
theorem gStC_4 : ((gStC 4).all fun c => decide (c ∈ flatC (Jvm.Cond.and given_1 narrow_1))) = true := by decide +kernel
theorem gStC_5 : ((gStC 5).all fun c => decide (c ∈ flatC (Jvm.Cond.and given_1 narrow_1))) = true := by decide +kernel
theorem gStC_6 : ((gStC 6).all fun c => decide (c ∈ flatC (Jvm.Cond.and given_1 narrow_1))) = true := by decide +kernel
theorem gStC_7 : ((gStC 7).all fun c => decide (c ∈ flatC (Jvm.Cond.and given_1 narrow_1))) = true := by decide +kernel
theorem gStC_8 : ((gStC 8).all fun c => decide (c ∈ flatC (Jvm.Cond.and given_1 narrow_1))) = true := by decide +kernel
theorem gStC_9 : ((gStC 9).all fun c => decide (c ∈ flatC (Jvm.Cond.and given_1 narrow_1))) = true := by decide +kernel
theorem gStC_10 : ((gStC 10).all fun c => decide (c ∈ flatC (Jvm.Cond.and given_1 narrow_1))) = true := by decide +kernel
theorem gStC_11 : ((gStC 11).all fun c => decide (c ∈ flatC (Jvm.Cond.and given_1 narrow_1))) = true := by decide +kernel
theorem gStC_12 : ((gStC 12).all fun c => decide (c ∈ flatC (Jvm.Cond.and given_1 narrow_1))) = true := by decide +kernel
theorem gStC_13 : ((gStC 13).all fun c => decide (c ∈ flatC (Jvm.Cond.and given_1 narrow_1))) = true := by decide +kernel
theorem gStC_14 : ((gStC 14).all fun c => decide (c ∈ flatC (Jvm.Cond.and given_1 narrow_1))) = true := by decide +kernel
theorem gStC_15 : ((gStC 15).all fun c => decide (c ∈ flatC (Jvm.Cond.and given_1 narrow_1))) = true := by decide +kernel
theorem gStC_16 : ((gStC 16).all fun c => decide (c ∈ flatC (Jvm.Cond.and given_1 narrow_1))) = true := by decide +kernel
theorem gStC_17 : ((gStC 17).all fun c => decide (c ∈ flatC (Jvm.Cond.and given_1 narrow_1))) = true := by decide +kernel
theorem gStC_18 : ((gStC 18).all fun c => decide (c ∈ flatC (Jvm.Cond.and given_1 narrow_1))) = true := by decide +kernel
theorem gStC_19 : ((gStC 19).all fun c => decide (c ∈ flatC (Jvm.Cond.and given_1 narrow_1))) = true := by decide +kernel
theorem gStC_20 : ((gStC 20).all fun c => decide (c ∈ flatC (Jvm.Cond.and given_1 narrow_1))) = true := by decide +kernel
theorem gStC_21 : ((gStC 21).all fun c => decide (c ∈ flatC (Jvm.Cond.and given_1 narrow_1))) = true := by decide +kernel
theorem gStC_22 : ((gStC 22).all fun c => decide (c ∈ flatC (Jvm.Cond.and given_1 narrow_1))) = true := by decide +kernel
theorem gStC_23 : ((gStC 23).all fun c => decide (c ∈ flatC (Jvm.Cond.and given_1 narrow_1))) = true := by decide +kernel
theorem gStC_ok (i : Nat) (hi : i < 24) : ((gStC i).all fun c => decide (c ∈ flatC (Jvm.Cond.and given_1 narrow_1))) = true := by
  match i, hi with
  | 0, _ => exact gStC_0
  | 1, _ => exact gStC_1
  | 2, _ => exact gStC_2
  | 3, _ => exact gStC_3
  | 4, _ => exact gStC_4
  | 5, _ => exact gStC_5
  | 6, _ => exact gStC_6
  | 7, _ => exact gStC_7
  | 8, _ => exact gStC_8
  | 9, _ => exact gStC_9
  | 10, _ => exact gStC_10
  | 11, _ => exact gStC_11
  | 12, _ => exact gStC_12
  | 13, _ => exact gStC_13
  | 14, _ => exact gStC_14
  | 15, _ => exact gStC_15
  | 16, _ => exact gStC_16
  | 17, _ => exact gStC_17
  | 18, _ => exact gStC_18
  | 19, _ => exact gStC_19
  | 20, _ => exact gStC_20
  | 21, _ => exact gStC_21
  | 22, _ => exact gStC_22
  | 23, _ => exact gStC_23
  | i + 24, hi => exact absurd hi (by omega)
theorem gStR_ok : ((List.range 24).all fun i => decide (Cond.stringRef (gStr.getD i ("", 0, "")).1 (gStr.getD i ("", 0, "")).2.1 (gStr.getD i ("", 0, "")).2.2 ∈ lw_tbl)) = true := by decide +kernel
theorem gLen_ok : ((List.range 24).all fun i => decide (gLen.getD i 0 < 2 ^ 31)) = true := by decide +kernel
theorem gNest_ok : ∀ q ∈ gNest, Cond.methodLinkNest q.1 q.2.1 q.2.2.1 q.2.2.2 ∈ lw_tbl := by decide +kernel
theorem gOver_ok : ∀ C ∈ [RX0, RX3, RX5, RX6], Cond.arrayOver (.object C) ∈ lw_tbl := by decide +kernel
theorem gArr_ok : ∀ t ∈ [FieldType.byte, FieldType.int, FieldType.boolean], Cond.arrayClass t ∈ lw_tbl := by decide +kernel
theorem gStr_24 : gStr.length = 24 := rfl
theorem gArrP {s : State} {args : Array Value} {t : FieldType} (h : (Cond.arrayClass t).before args s = true) (ht : ∀ C, t ≠ .object C) : ∃ cA : ClassId, ArrOfT s cA t ∧ va_RA s cA t := by
  obtain ⟨cA, kA, comp, h1, h2, h3⟩ := Cond.arrayClass_spec h
  refine ⟨cA, fun n z => ⟨(fun k h => by cases h), kA, h2, comp, h3⟩, ?_⟩
  cases t <;> first | exact h1 | exact absurd rfl (ht _)
theorem gArrO {s : State} {args : Array Value} {C : String} (h : (Cond.arrayOver (.object C)).before args s = true) : ∃ cA : ClassId, ArrOfT s cA (.object C) ∧ va_RA s cA (.object C) := by
  obtain ⟨comp, cA, kA, h1, -, h3, h4, h5⟩ := Cond.arrayOver_spec h
  exact ⟨cA, fun n z => ⟨(fun k h => by cases h), kA, h3, comp, h4⟩, kA, comp, h3, h4, h1, h5⟩
theorem gStart {s : State} {args : Array Value} (hts : ∀ w ∈ lw_tbl, w.before args s = true) (hgv : (Jvm.Cond.and given_1 narrow_1).before args s = true) : ∃ G : gX, gB G = s.heap.size ∧ gG G s s.heap := by
  have htsT : ∀ w ∈ gT, w.before args s = true := fun w h => hts w (List.mem_filter.mp h).1
  have hs := flat_of_before _ hgv
  obtain ⟨c0, i0, k0⟩ := u_known (C := RX0) (T := TX0) (N := 2) (n := 2) htsT gcls_0.2.1 (htsT _ gcls_0.2.2.2.2.2.2.1)
  obtain ⟨c1, i1, k1⟩ := u_known (C := RX2) (T := TX2) (N := 9) (n := 9) htsT gcls_1.2.1 (htsT _ gcls_1.2.2.2.2.2.2.1)
  obtain ⟨c2, i2, k2⟩ := u_known (C := RX3) (T := TX3) (N := 2) (n := 2) htsT gcls_2.2.1 (htsT _ gcls_2.2.2.2.2.2.2.1)
  obtain ⟨c3, i3, k3⟩ := u_known (C := RX4) (T := TX4) (N := 3) (n := 3) htsT gcls_3.2.1 (htsT _ gcls_3.2.2.2.2.2.2.1)
  obtain ⟨c4, i4, k4⟩ := u_known (C := RX5) (T := TX5) (N := 2) (n := 2) htsT gcls_4.2.1 (htsT _ gcls_4.2.2.2.2.2.2.1)
  obtain ⟨c5, i5, k5⟩ := u_known (C := RX6) (T := TX6) (N := 12) (n := 12) htsT gcls_5.2.1 (htsT _ gcls_5.2.2.2.2.2.2.1)
  obtain ⟨c6, i6, k6⟩ := u_known (C := RX7) (T := TX7) (N := 4) (n := 4) htsT gcls_6.2.1 (htsT _ gcls_6.2.2.2.2.2.2.1)
  obtain ⟨c7, i7, k7⟩ := u_known (C := RX8) (T := TX8) (N := 8) (n := 8) htsT gcls_7.2.1 (htsT _ gcls_7.2.2.2.2.2.2.1)
  obtain ⟨c8, i8, k8⟩ := u_known (C := RX9) (T := TX9) (N := 35) (n := 35) htsT gcls_8.2.1 (htsT _ gcls_8.2.2.2.2.2.2.1)
  obtain ⟨d0, e0⟩ := gArrP (hts _ (gArr_ok .byte (by decide))) (fun C h => by cases h)
  obtain ⟨d1, e1⟩ := gArrP (hts _ (gArr_ok .int (by decide))) (fun C h => by cases h)
  obtain ⟨d2, e2⟩ := gArrP (hts _ (gArr_ok .boolean (by decide))) (fun C h => by cases h)
  obtain ⟨d3, e3⟩ := gArrO (hts _ (gOver_ok RX0 (by decide)))
  obtain ⟨d4, e4⟩ := gArrO (hts _ (gOver_ok RX3 (by decide)))
  obtain ⟨d5, e5⟩ := gArrO (hts _ (gOver_ok RX5 (by decide)))
  obtain ⟨d6, e6⟩ := gArrO (hts _ (gOver_ok RX6 (by decide)))
  have hA : ∀ a : Nat, a < s.heap.size → ¬ (s.heap.size ≤ a) := fun a h => by omega
  have hstr : ∀ i : Nat, ∃ q : Nat × Nat, i < 24 → (Term.string (gStr.getD i ("", 0, "")).1 (gStr.getD i ("", 0, "")).2.1).eval args s none [] s = some (.ref q.1) ∧ va_O "java/lang/String" q.1 (fun q => s.heap.size ≤ q) s s.heap ∧ va_OF "java/lang/String" "coder" "B" (.int 0) q.1 (fun q => s.heap.size ≤ q) s s.heap ∧ va_OF "java/lang/String" "value" "[B" (.ref q.2) q.1 (fun q => s.heap.size ≤ q) s s.heap ∧ va_T .byte q.2 (gLen.getD i 0) (fun j => .int ((gByt.getD i []).getD j 0)) (fun q => s.heap.size ≤ q) s s.heap := by
    intro i
    by_cases hi : i < 24
    · have hc : ∀ c ∈ gStC i, c.before args s = true := fun c hc => hs c (by simpa using List.all_eq_true.mp (gStC_ok i hi) c hc)
      have hlen : gLen.getD i 0 < 2 ^ 31 := by simpa using List.all_eq_true.mp gLen_ok i (List.mem_range.mpr hi)
      obtain ⟨adK, adV, hS, he⟩ := vk_Sof (args := args) (s := s) (N := 1) (tm := fun _ => Term.string (gStr.getD i ("", 0, "")).1 (gStr.getD i ("", 0, "")).2.1) (len := [gLen.getD i 0]) (byt := [gByt.getD i []]) (A := fun q => s.heap.size ≤ q)
        (fun j hj => by rw [show j = 0 by omega]; exact hlen)
        (fun j hj => hc _ (by simp [gStC]))
        (fun j hj => hc _ (by simp [gStC]))
        (fun j hj => hc _ (by simp [gStC]))
        (fun j hj => by rw [show j = 0 by omega]; exact hc _ (by simp [gStC]))
        (fun j hj k hk => by
          rw [show j = 0 by omega] at hk ⊢
          exact hc _ (List.mem_append_right _ (List.mem_map.mpr ⟨k, List.mem_range.mpr hk, rfl⟩)))
        (fun j k hj hk hjk => absurd (show j = k by omega) hjk) hA
      obtain ⟨g1, g2, g3, g4⟩ := hS.1 0 (by omega)
      exact ⟨(adK 0, adV 0), fun _ => ⟨he 0 (by omega), g1, g2, g3, g4⟩⟩
    · exact ⟨(0, 0), fun h => absurd h hi⟩
  obtain ⟨ad, had⟩ := Classical.axiomOfChoice hstr
  refine ⟨(fun k => [c0, c1, c2, c3, c4, c5, c6, c7, c8].getD k c0, fun k => [i0, i1, i2, i3, i4, i5, i6, i7, i8].getD k i0, fun k => [d0, d1, d2, d3, d4, d5, d6].getD k d0, fun i => (ad i).1, fun i => (ad i).2, s.heap.size), rfl, ⟨?_, ?_⟩, ?_, ?_, ?_, ?_, ?_, ?_⟩
  · intro k q hq
    match k, hq with
    | 0, hq => cases hq; exact k0
    | 1, hq => cases hq; exact k1
    | 2, hq => cases hq; exact k2
    | 3, hq => cases hq; exact k3
    | 4, hq => cases hq; exact k4
    | 5, hq => cases hq; exact k5
    | 6, hq => cases hq; exact k6
    | 7, hq => cases hq; exact k7
    | 8, hq => cases hq; exact k8
    | k + 9, hq => simp [vwCl] at hq
  · intro k q hq
    match k, hq with
    | 0, hq => cases hq; exact e0
    | 1, hq => cases hq; exact e1
    | 2, hq => cases hq; exact e2
    | 3, hq => cases hq; exact e3
    | 4, hq => cases hq; exact e4
    | 5, hq => cases hq; exact e5
    | 6, hq => cases hq; exact e6
    | k + 7, hq => simp [gTy] at hq
  · intro C hC
    exact va_AO.of (hts _ (gOver_ok C hC))
  · intro q hq
    exact va_Nw.of rfl (hts _ (gNest_ok q hq))
  · intro i q hq
    have hi : i < 24 := by
      have := (List.getElem?_eq_some_iff.mp hq).1
      rw [gStr_24] at this
      exact this
    have hg : gStr.getD i ("", 0, "") = q := by rw [List.getD_eq_getElem?_getD, hq]; rfl
    have h1 : Cond.stringRef (gStr.getD i ("", 0, "")).1 (gStr.getD i ("", 0, "")).2.1 (gStr.getD i ("", 0, "")).2.2 ∈ lw_tbl := by simpa using List.all_eq_true.mp gStR_ok i (List.mem_range.mpr hi)
    have h2 := (had i hi).1
    rw [hg] at h1 h2
    have h3 := hts _ h1
    exact ⟨by first | exact va_tabs rfl rfl h3 | (simp only [Cond.before, Cond.holds, Cond.value, State.names, State.poolOf?, State.resolvedAt?] at h3 ⊢; exact h3), by rw [Term.string_eval_of_vm (args := #[]) (rfl : s.vm = s.vm)] at *; first | exact h2 | (rw [← h2]; rfl)⟩
  · intro i hi
    exact (had i hi).2
  · exact va_Zof (hts (.laysStatic "java/lang/String" "COMPACT_STRINGS" "Z") (by decide +kernel)) (hts (.initialized "java/lang/String") (by decide +kernel)) (va_eqi (hs (.eq (.static "java/lang/String" "COMPACT_STRINGS" "Z") (.int 1)) (by decide +kernel))) hA
  · exact va_Zqof (hts (.laysStatic "jdk/internal/util/Preconditions" "SIOOBE_FORMATTER" "Ljava/util/function/BiFunction;") (by decide +kernel)) (hts (.initialized "jdk/internal/util/Preconditions") (by decide +kernel)) (hs (.isRef (.static "jdk/internal/util/Preconditions" "SIOOBE_FORMATTER" "Ljava/util/function/BiFunction;")) (by decide +kernel)) hA
/-- the law out of its program: what is left is that the program answers 1 -/
theorem whole_of {p : Program} {e : Env} {s : State} {m : MethodId} {below : List Frame} {meth : Method} {c : Code} (l : Launch) {b L : Nat} {xs : Nat → Int32} (C0 : lw_At p s m meth c b L xs) (hpure : ∃ τ, (f_L_law L xs).1 (gs0 s.heap.size) = some (1, τ)) : W p l e room_1 s m #[Value.ref b] below meth c s.heap [] 0 0 (lw_Z below #[Value.ref b] s) (entryFrame m ([Value.ref b] : List Value).toArray 4) := by
  obtain ⟨hx, hb, hr, hml, hown, hts, hX, hbl, hlocks, hgv⟩ := id C0
  obtain ⟨τ, hf⟩ := hpure
  obtain ⟨G, hB, hG⟩ := gStart hts hgv
  have C : gC G p s m #[Value.ref b] meth c cL_law 4 RL := ⟨hx, hb, hml, hown, fun w h => hts w (List.mem_filter.mp h).1, hlocks, hG⟩
  obtain ⟨ls, e1, hl⟩ := gentry m [va_rf (some b)] 4 [(0, va_rf (some b))] (by simp [lg_sl, grc]) (by simp [lv_args, grc])
  have e2 : entryFrame m ([Value.ref b] : List Value).toArray 4 = F0 m 0 ls [] := e1
  rw [e2]
  refine w_L_law_0 (y := (1, τ)) C hr hX hbl (by show ¬ gB G ≤ b; rw [hB]; omega) hB rfl _ _ _ _ _ _ hf ⟨⟨?_, ?_, ?_⟩, va_S.rf, ?_, ?_⟩ hl
  · rfl
  · show gB G ≤ s.heap.size
    rw [hB]
    exact Nat.le_refl _
  · intro a ha
    exact absurd rfl ha
  · show 0 + 600000 ≤ 600000 + gcl τ
    omega
  · show 0 + 7302250 ≤ 7302250 + gsl τ
    omega
