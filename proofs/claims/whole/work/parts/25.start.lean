/-! the law from its entry, for any invariant that all calls keep -/
theorem arr_int {s : State} {args : Array Value} (h : (Cond.arrayClass .int).before args s = true) : ∃ cI : ClassId, ArrOfT s cI .int ∧ va_RA s cI .int := by
  obtain ⟨cA, kA, comp, h1, h2, h3⟩ := Cond.arrayClass_spec h
  exact ⟨cA, fun n z => ⟨fun k h => (by cases h), kA, h2, comp, h3⟩, h1⟩
theorem arr_obj {s : State} {args : Array Value} {C : String} (h : (Cond.arrayOver (.object C)).before args s = true) : ∃ cA : ClassId, ArrOfT s cA (.object C) ∧ va_RA s cA (.object C) := by
  obtain ⟨comp, cA, kA, f4, _, f2, f3, f1⟩ := Cond.arrayOver_spec h
  exact ⟨cA, fun n z => ⟨fun k h => (by cases h), kA, f2, comp, f3⟩, kA, comp, f2, f3, f4, f1⟩
theorem law_gK {p : Program} {s : State} {m : MethodId} {meth : Method} {c : Code} {b L : Nat} {xs : Nat → Int32} (C0 : lw_At p s m meth c b L xs) : ∃ (D : va_G) (cI cB cS : ClassId), gK D cI cB cS s := by
  obtain ⟨hx, hb, hr, hml, hown, hts0, hX, hbl, hlocks, hgv⟩ := C0
  have hts : ∀ w ∈ lw_g, w.before #[Value.ref b] s = true := fun w hw => hts0 w (List.mem_filter.mp hw).1
  obtain ⟨c0, i0, hK0⟩ := u_known (C := RX0) (T := TX0) (N := 13) (n := 13) hts inX0 (hts (.instantiable "DeafAuction$Bidding" 13) tg_88)
  obtain ⟨c1, i1, hK1⟩ := u_known (C := RX1) (T := TX1) (N := 4) (n := 4) hts inX1 (hts (.instantiable "DeafAuction$Buyer" 4) tg_274)
  obtain ⟨c2, i2, hK2⟩ := u_known (C := RX2) (T := TX2) (N := 3) (n := 3) hts inX2 (hts (.instantiable "DeafAuction$Clerk" 3) tg_140)
  obtain ⟨c3, i3, hK3⟩ := u_known (C := RX3) (T := TX3) (N := 4) (n := 4) hts inX3 (hts (.instantiable "DeafAuction$Hatted" 4) tg_266)
  obtain ⟨c4, i4, hK4⟩ := u_known (C := RX4) (T := TX4) (N := 4) (n := 4) hts inX4 (hts (.instantiable "DeafAuction$Nervous" 4) tg_233)
  obtain ⟨c5, i5, hK5⟩ := u_known (C := RX5) (T := TX5) (N := 7) (n := 7) hts inX5 (hts (.instantiable "DeafAuction$Room" 7) tg_53)
  obtain ⟨c6, i6, hK6⟩ := u_known (C := RX6) (T := TX6) (N := 3) (n := 3) hts inX6 (hts (.instantiable "DeafAuction$Sheet" 3) tg_23)
  obtain ⟨c7, i7, hK7⟩ := u_known (C := RX7) (T := TX7) (N := 1) (n := 1) hts inX7 (hts (.instantiable "DeafAuction$Trail" 1) tg_42)
  obtain ⟨c8, i8, hK8⟩ := u_known (C := RX8) (T := TX8) (N := 6) (n := 6) hts inX8 (hts (.instantiable "DeafAuction" 6) tg_14)
  obtain ⟨c9, i9, hK9⟩ := u_known (C := RX9) (T := TX9) (N := 32) (n := 32) hts inX9 (hts (.instantiable "DeafAuctionModel" 32) tg_634)
  obtain ⟨cI, ai1, ai2⟩ := arr_int (hts _ tg_40)
  have mcB : Cond.arrayOver (.object "DeafAuction$Buyer") ∈ lw_tbl := List.mem_append_right _ (List.mem_of_getElem? (i := 59) (by decide +kernel))
  obtain ⟨cB, acB1, acB2⟩ := arr_obj (hts0 _ mcB)
  have mcS : Cond.arrayOver (.object "DeafAuction$Sheet") ∈ lw_tbl := List.mem_append_right _ (List.mem_of_getElem? (i := 22) (by decide +kernel))
  obtain ⟨cS, acS1, acS2⟩ := arr_obj (hts0 _ mcS)
  refine ⟨(fun k => if k = 0 then c0 else if k = 1 then c1 else if k = 2 then c2 else if k = 3 then c3 else if k = 4 then c4 else if k = 5 then c5 else if k = 6 then c6 else if k = 7 then c7 else if k = 8 then c8 else c9, fun k => if k = 0 then i0 else if k = 1 then i1 else if k = 2 then i2 else if k = 3 then i3 else if k = 4 then i4 else if k = 5 then i5 else if k = 6 then i6 else if k = 7 then i7 else if k = 8 then i8 else i9), cI, cB, cS, ⟨?_, ?_⟩, ?_, ⟨?_, ?_, ?_⟩, ?_, ?_, ?_, ?_, ?_⟩
  · intro k q hq
    match k, hq with
    | 0, hq => cases hq; exact hK0
    | 1, hq => cases hq; exact hK1
    | 2, hq => cases hq; exact hK2
    | 3, hq => cases hq; exact hK3
    | 4, hq => cases hq; exact hK4
    | 5, hq => cases hq; exact hK5
    | 6, hq => cases hq; exact hK6
    | 7, hq => cases hq; exact hK7
    | 8, hq => cases hq; exact hK8
    | 9, hq => cases hq; exact hK9
    | k + 10, hq => simp [vwCl] at hq
  · intro k q hq
    match k, hq with
    | 0, hq => cases hq; exact ⟨ai1, ai2⟩
    | 1, hq => cases hq; exact ⟨acB1, acB2⟩
    | 2, hq => cases hq; exact ⟨acS1, acS2⟩
    | k + 3, hq => simp [tyl] at hq
  · intro w hw
    have h0 := hts0 w (List.mem_append_right _ (List.mem_filter.mp hw).1)
    have hn : nestB w = true := (List.mem_filter.mp hw).2
    cases w <;> first | (simp [nestB] at hn; done) | exact va_Nw.of rfl h0
  · exact va_Nc.of (flat_of_before _ hgv (Cond.not (.castable "DeafAuction$Buyer" "DeafAuction$Hatted")) (by decide +kernel))
  · exact va_Nc.of (flat_of_before _ hgv (Cond.not (.castable "DeafAuction$Buyer" "DeafAuction$Nervous")) (by decide +kernel))
  · exact va_Nc.of (flat_of_before _ hgv (Cond.not (.castable "DeafAuction$Hatted" "DeafAuction$Nervous")) (by decide +kernel))
  · exact va_Nw.of rfl (hts0 (.castable "DeafAuction$Nervous" "DeafAuction$Hatted") (List.mem_append_right _ (List.mem_of_getElem? (i := 994) (by decide +kernel))))
  · exact va_AO.of (hts0 _ mcS)
  · exact va_AO.of (hts0 _ mcB)
  · exact va_Nw.of rfl (hts0 (.castable "DeafAuction$Nervous" "DeafAuction$Buyer") (List.mem_append_right _ (List.mem_of_getElem? (i := 995) (by decide +kernel))))
  · exact va_Nw.of rfl (hts0 (.castable "DeafAuction$Hatted" "DeafAuction$Buyer") (List.mem_append_right _ (List.mem_of_getElem? (i := 996) (by decide +kernel))))
set_option maxHeartbeats 8000000 in
theorem whole_gen {Inv : Nat → MS → MS → Prop} (hI : opsOk Inv) (h0 : Inv 0 S0 M0) {p : Program} {e : Env} {s : State} {m : MethodId} {below : List Frame} {meth : Method} {c : Code} (l : Launch) {b L : Nat} {xs : Nat → Int32} (hL : L ≤ 3072) (C0 : lw_At p s m meth c b L xs) : W p l e room_1 s m #[Value.ref b] below meth c s.heap [] 0 0 (lw_Z below #[Value.ref b] s) (entryFrame m ([Value.ref b] : List Value).toArray 4) := by
  obtain ⟨D, cI, cB, cS, hgK⟩ := law_gK C0
  have C := law_cx C0 hgK
  have D0 := C0
  obtain ⟨hx, hb, hr, hml, hown, hts, hX, hbl, hlocks, hgv⟩ := C0
  have hA : ∀ q : Nat, s.heap.size ≤ q → (fun q : Nat => s.heap.size ≤ q) q := fun _ h => h
  have hP : va_P D vwCl [] s.heap := fun k q h => by simp at h
  have hD : va_D (fun q : Nat => s.heap.size ≤ q) [] := ⟨fun i j p q h => by simp at h, fun k q h => by simp at h⟩
  have hw : wd D (fun q : Nat => s.heap.size ≤ q) s.heap [] s.heap [] := ⟨hP, hD, va_S.rf⟩
  have hl := lv_entry ([.ref b]) (n := 4) (Nat.le_of_ble_eq_true rfl)
  rw [lg_entry_eq]
  generalize (lg_sl ([.ref b]) ++ List.replicate (4 - (lg_sl ([.ref b])).length) Slot.unset).toArray = ls at hl ⊢
  have hl : lv_has ls 4 [(0, .ref b)] := hl
  refine va_new (ci := 8) (fs := [.null, .null, .null, .null, .null, .int 0]) (C := RX8) (T := TX8) (N := 6) hx hb C.2.2.2.2.1 inX8 tyX8 tyX8_ok C.2.2.2.1 (C.2.2.2.2.1 _ tg_13) (C.2.2.2.2.1 _ tg_14) (C.2.2.2.2.1 _ tg_1) C.2.2.2.2.2.1 hw.1 hw.2.1 hw.2.2 hA rfl (fun j hj => by rcases (show j = 0 ∨ j = 1 ∨ j = 2 ∨ j = 3 ∨ j = 4 ∨ j = 5 by omega) with rfl | rfl | rfl | rfl | rfl | rfl <;> rfl) (Nat.le_of_ble_eq_true rfl) (Nat.le_of_ble_eq_true rfl) dL_law_0 (fun xD H h1 h2 h3 => ?_)
  have hw : wd D (fun q : Nat => s.heap.size ≤ q) s.heap ([(xD, .inr (8, [.null, .null, .null, .null, .null, .int 0]))]) H _ := ⟨h1, h2, h3⟩
  refine lv_dup hx hb dL_law_3 rfl ?_
  refine ctA_I (As := []) (rest := [.ref xD]) C hw hA (kX8_init l D cI cB cS xD) cfX8_init tg_15 tg_16 rfl ⟨(Nat.le_of_ble_eq_true rfl), (Nat.le_of_ble_eq_true rfl)⟩ ⟨(Nat.le_of_ble_eq_true rfl), (Nat.le_of_ble_eq_true rfl)⟩ rfl hl.1 rfl (Nat.le_of_ble_eq_true rfl) dL_law_4 (fun v ws1 H locs hp hw => ?_)
  obtain ⟨rfl, ad, rfl, had⟩ := hp
  refine lv_astore_n (lv' := [(1, .ref xD), (0, .ref b)]) hx hb dL_law_7 rfl hl (by decide) rfl (fun ls hl => ?_)
  refine va_new (ci := 9) (fs := [.int 0, .int 0, .int 0, .int 0, .null, .null, .null, .null, .int 0, .int 0, .int 0, .int 0, .int 0, .null, .null, .null, .int 0, .int 0, .int 0, .null, .null, .null, .null, .null, .int 0, .null, .null, .null, .null, .null, .null, .int 0]) (C := RX9) (T := TX9) (N := 32) hx hb C.2.2.2.2.1 inX9 tyX9 tyX9_ok C.2.2.2.1 (C.2.2.2.2.1 _ tg_633) (C.2.2.2.2.1 _ tg_634) (C.2.2.2.2.1 _ tg_7) C.2.2.2.2.2.1 hw.1 hw.2.1 hw.2.2 hA rfl (fun j hj => by rcases (show j = 0 ∨ j = 1 ∨ j = 2 ∨ j = 3 ∨ j = 4 ∨ j = 5 ∨ j = 6 ∨ j = 7 ∨ j = 8 ∨ j = 9 ∨ j = 10 ∨ j = 11 ∨ j = 12 ∨ j = 13 ∨ j = 14 ∨ j = 15 ∨ j = 16 ∨ j = 17 ∨ j = 18 ∨ j = 19 ∨ j = 20 ∨ j = 21 ∨ j = 22 ∨ j = 23 ∨ j = 24 ∨ j = 25 ∨ j = 26 ∨ j = 27 ∨ j = 28 ∨ j = 29 ∨ j = 30 ∨ j = 31 by omega) with rfl | rfl | rfl | rfl | rfl | rfl | rfl | rfl | rfl | rfl | rfl | rfl | rfl | rfl | rfl | rfl | rfl | rfl | rfl | rfl | rfl | rfl | rfl | rfl | rfl | rfl | rfl | rfl | rfl | rfl | rfl | rfl <;> rfl) (Nat.le_of_ble_eq_true rfl) (Nat.le_of_ble_eq_true rfl) dL_law_8 (fun xM H h1 h2 h3 => ?_)
  have hw : wd D (fun q : Nat => s.heap.size ≤ q) s.heap (cW cI cB cS 0 ad (fun _ => none) S0 ++ [(xM, .inr (9, [.int 0, .int 0, .int 0, .int 0, .null, .null, .null, .null, .int 0, .int 0, .int 0, .int 0, .int 0, .null, .null, .null, .int 0, .int 0, .int 0, .null, .null, .null, .null, .null, .int 0, .null, .null, .null, .null, .null, .null, .int 0]))]) H _ := ⟨h1, h2, h3⟩
  refine lv_dup hx hb dL_law_11 rfl ?_
  refine ctA_I (As := []) (rest := [.ref xM]) C hw hA ((kX9_init l D cI cB cS xM).frame _) cfX9_init tg_635 tg_636 rfl ⟨(Nat.le_of_ble_eq_true rfl), (Nat.le_of_ble_eq_true rfl)⟩ ⟨(Nat.le_of_ble_eq_true rfl), (Nat.le_of_ble_eq_true rfl)⟩ rfl hl.1 rfl (Nat.le_of_ble_eq_true rfl) dL_law_12 (fun v ws1 H locs hp hw => ?_)
  obtain ⟨w1, rfl, rfl, am, rfl⟩ := hp
  have hw := hw.swap
  refine lv_astore_n (lv' := [(2, .ref xM), (1, .ref xD), (0, .ref b)]) hx hb dL_law_15 rfl hl (by decide) rfl (fun ls hl => ?_)
  refine lv_iconst (v := 0) hx hb dL_law_16 ic_0 ?_
  refine lv_istore_n (lv' := [(3, .int 0), (2, .ref xM), (1, .ref xD), (0, .ref b)]) hx hb dL_law_17 rfl hl (by decide) rfl (fun ls hl => ?_)
  refine W.widen (k := 200 + 2 * 0) (n := 2000 + 8 * 0) (Nat.le_of_ble_eq_true rfl) (Nat.le_of_ble_eq_true rfl) ?_
  exact law_loop hL D0 hgK hI (L + 7) 0 0 ad (fun _ => none) S0 M0 _ _ ls (Nat.zero_le _) (by omega) h0 ⟨Nat.zero_le _, fun j hj => absurd hj (Nat.not_lt_zero _)⟩ had hw (lv_sub hl [3, 2, 1, 0] rfl)
