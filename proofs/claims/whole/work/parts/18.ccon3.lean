theorem cfX8_ring : cf yX8_ring cX8_ring 3 (some .int) 2 := ⟨tg_481, by decide +kernel, tg_1⟩
set_option maxHeartbeats 4000000 in
theorem kX8_ring (l : Launch) (D : va_G) (cI cB cS : ClassId) (n : Nat) (ad : Nat → Nat) (bf : Nat → Option Nat) (hcg : bok n ad bf) {p1 : Int32} {p2 : Int32} {M : MS} {q : (Int32 × MS)} (hf : fX8_ring n p1 p2 M = some q) : Ct l D cI cB cS yX8_ring cX8_ring 3 (some .int) 4 87 [.ref (ad 0), .int p1, .int p2] (cW cI cB cS n ad bf M) (some (.int q.1)) (cW cI cB cS n ad bf q.2) := by
  refine Ct.ofW (by decide) (Nat.le_of_ble_eq_true rfl) ?_
  intro p e s m args below meth c ls C hr hlocks _ hw hl
  have hx := C.1
  have hb := C.2.1
  have hA : ∀ q, s.heap.size ≤ q → va_A (cW cI cB cS n ad bf M) s.heap.size q := fun q h => Or.inr h
  have hl : lv_has ls 3 [(0, .ref (ad 0)), (1, .int p1), (2, .int p2)] := hl
  unfold fX8_ring at hf
  refine lv_iload_n hx hb dX8_ring_0 rfl (lv_at hl 2 rfl) ?_
  refine ct_S1 (rest := []) C hw hA (kX8_isLot l D cI cB cS _ _) cfX8_isLot tg_331 tg_332 ⟨(Nat.le_of_ble_eq_true rfl), (Nat.le_of_ble_eq_true rfl)⟩ ⟨(Nat.le_of_ble_eq_true rfl), (Nat.le_of_ble_eq_true rfl)⟩ rfl hl.1 rfl (Nat.le_of_ble_eq_true rfl) dX8_ring_1 (fun H locs hw => ?_)
  refine lv_if_ne (tgt := 9) hx hb dX8_ring_4 (by decide) (fun h1 => ?_) (fun h1 => ?_)
  · have hf := it_f h1 hf
    refine lv_iload_n hx hb dX8_ring_9 rfl (lv_at hl 1 rfl) ?_
    refine lv_aload_n hx hb dX8_ring_10 rfl (lv_at hl 0 rfl) ?_
    refine cg_8_28 C hw dX8_ring_11 ?_
    refine ct_V1 (q0 := 11) (ci := 5) (rest := [.int p1]) C hw hA (kX5_setOfAll l D cI cB cS n ad bf hcg _) cfX5_setOfAll tg_482 tg_483 tg_484 ⟨(Nat.le_of_ble_eq_true rfl), (Nat.le_of_ble_eq_true rfl)⟩ ⟨(Nat.le_of_ble_eq_true rfl), (Nat.le_of_ble_eq_true rfl)⟩ rfl rfl rfl rfl hl.1 rfl (Nat.le_of_ble_eq_true rfl) dX8_ring_14 (fun H locs hw => ?_)
    refine lv_iconst (v := (-1)) hx hb dX8_ring_17 ic_m1 ?_
    refine lv_ixor hx hb dX8_ring_18 ?_
    refine lv_iand hx hb dX8_ring_19 ?_
    refine lv_if_eq (tgt := 26) hx hb dX8_ring_20 (by decide) (fun h2 => ?_) (fun h2 => ?_)
    · have hf := it_t h2 hf
      refine lv_aload_n hx hb dX8_ring_26 rfl (lv_at hl 0 rfl) ?_
      refine cg_8_28 C hw dX8_ring_27 ?_
      refine ct_V1 (q0 := 11) (ci := 5) (rest := []) C hw hA (kX5_isThere l D cI cB cS n ad bf hcg _) cfX5_isThere tg_363 tg_364 tg_365 ⟨(Nat.le_of_ble_eq_true rfl), (Nat.le_of_ble_eq_true rfl)⟩ ⟨(Nat.le_of_ble_eq_true rfl), (Nat.le_of_ble_eq_true rfl)⟩ rfl rfl rfl rfl hl.1 rfl (Nat.le_of_ble_eq_true rfl) dX8_ring_30 (fun H locs hw => ?_)
      refine lv_if_ne (tgt := 39) hx hb dX8_ring_33 (by decide) (fun h3 => ?_) (fun h3 => ?_)
      · have hf := it_f h3 hf
        refine lv_aload_n hx hb dX8_ring_39 rfl (lv_at hl 0 rfl) ?_
        refine cg_8_37 C hw dX8_ring_40 ?_
        refine lv_bipush (v := 63) hx hb dX8_ring_43 ib_63 ?_
        obtain ⟨r4, e5, hf⟩ := bd hf
        refine ct_V0 (q0 := 13) (ci := 0) (rest := []) C hw hA (kX0_gather l D cI cB cS n ad bf hcg e5) cfX0_gather tg_375 tg_376 tg_377 ⟨(Nat.le_of_ble_eq_true rfl), (Nat.le_of_ble_eq_true rfl)⟩ ⟨(Nat.le_of_ble_eq_true rfl), (Nat.le_of_ble_eq_true rfl)⟩ rfl rfl rfl rfl hl.1 rfl (Nat.le_of_ble_eq_true rfl) dX8_ring_45 (fun H locs hw => ?_)
        refine lv_aload_n hx hb dX8_ring_48 rfl (lv_at hl 0 rfl) ?_
        refine cg_8_37 C hw dX8_ring_49 ?_
        refine lv_iload_n hx hb dX8_ring_52 rfl (lv_at hl 2 rfl) ?_
        obtain ⟨r6, e7, hf⟩ := bd hf
        refine ct_V0 (q0 := 13) (ci := 0) (rest := []) C hw hA (kX0_offer l D cI cB cS n ad bf hcg e7) cfX0_offer tg_384 tg_385 tg_386 ⟨(Nat.le_of_ble_eq_true rfl), (Nat.le_of_ble_eq_true rfl)⟩ ⟨(Nat.le_of_ble_eq_true rfl), (Nat.le_of_ble_eq_true rfl)⟩ rfl rfl rfl rfl hl.1 rfl (Nat.le_of_ble_eq_true rfl) dX8_ring_53 (fun H locs hw => ?_)
        refine lv_aload_n hx hb dX8_ring_56 rfl (lv_at hl 0 rfl) ?_
        refine cg_8_37 C hw dX8_ring_57 ?_
        refine lv_iload_n hx hb dX8_ring_60 rfl (lv_at hl 1 rfl) ?_
        obtain ⟨r8, e9, hf⟩ := bd hf
        refine ct_V0 (q0 := 13) (ci := 0) (rest := []) C hw hA (kX0_silenceAllButFirst l D cI cB cS n ad bf hcg e9) cfX0_silenceAllButFirst tg_486 tg_487 tg_488 ⟨(Nat.le_of_ble_eq_true rfl), (Nat.le_of_ble_eq_true rfl)⟩ ⟨(Nat.le_of_ble_eq_true rfl), (Nat.le_of_ble_eq_true rfl)⟩ rfl rfl rfl rfl hl.1 rfl (Nat.le_of_ble_eq_true rfl) dX8_ring_61 (fun H locs hw => ?_)
        refine lv_aload_n hx hb dX8_ring_64 rfl (lv_at hl 0 rfl) ?_
        refine cg_8_37 C hw dX8_ring_65 ?_
        obtain ⟨r10, e11, hf⟩ := bd hf
        refine ct_V0 (q0 := 13) (ci := 0) (rest := []) C hw hA (kX0_hold l D cI cB cS n ad bf hcg e11) cfX0_hold tg_390 tg_391 tg_392 ⟨(Nat.le_of_ble_eq_true rfl), (Nat.le_of_ble_eq_true rfl)⟩ ⟨(Nat.le_of_ble_eq_true rfl), (Nat.le_of_ble_eq_true rfl)⟩ rfl rfl rfl rfl hl.1 rfl (Nat.le_of_ble_eq_true rfl) dX8_ring_68 (fun H locs hw => ?_)
        refine lv_aload_n hx hb dX8_ring_71 rfl (lv_at hl 0 rfl) ?_
        refine cg_8_37 C hw dX8_ring_72 ?_
        refine cg_8_136 C hw dX8_ring_75 ?_
        obtain rfl := Option.some.inj hf
        exact qt_i C hr hlocks hw dX8_ring_78
      · have hf := it_t h3 hf
        refine lv_bipush (v := (-3)) hx hb dX8_ring_36 ib_m3 ?_
        obtain rfl := Option.some.inj hf
        exact qt_i C hr hlocks hw dX8_ring_38
    · have hf := it_f h2 hf
      refine lv_bipush (v := (-2)) hx hb dX8_ring_23 ib_m2 ?_
      obtain rfl := Option.some.inj hf
      exact qt_i C hr hlocks hw dX8_ring_25
  · have hf := it_t h1 hf
    refine lv_iconst (v := (-1)) hx hb dX8_ring_7 ic_m1 ?_
    obtain rfl := Option.some.inj hf
    exact qt_i C hr hlocks hw dX8_ring_8
theorem cfX8_mean : cf yX8_mean cX8_mean 8 (some .long) 2 := ⟨tg_493, by decide +kernel, tg_1⟩
set_option maxHeartbeats 4000000 in
theorem wX8_mean_43 {p : Program} {l : Launch} {e : Env} {s : State} {m : MethodId} {args : Array Value} {below : List Frame} {meth : Method} {c : Code} {D : va_G} {cI cB cS : ClassId} {n : Nat} {ad : Nat → Nat} {bf : Nat → Option Nat} {ws0 : va_W} {v1 : Int32} {v2 : Int32} {v3 : Int32} (C : cx p c cX8_mean 8 s args m RX8 D cI cB cS) (hr : meth.sig.returnType = (some .long)) (hlocks : meth.locks = false) (hA : ∀ q, s.heap.size ≤ q → va_A ws0 s.heap.size q) {k : Int64 → MS → Option (Int64 × MS)} {q : (Int64 × MS)}
    (hcg : bok n ad bf) : ∀ (fu : Nat) (v4 : Int64) (v6 : Int32) (M : MS) (H : Heap) (locs : List Loc) (ls : Array Slot), wd D (va_A ws0 s.heap.size) s.heap (cW cI cB cS n ad bf M) H locs → lv_has ls 8 [(0, .ref (ad 0)), (1, .int v1), (2, .int v2), (3, .int v3), (4, .long v4), (6, .int v6)] → fX8_mean_43 n fu k v1 v3 v4 v6 M = some q →
    (∀ (x4 : Int64) (M1 : MS) (H : Heap) (locs : List Loc) (ls : Array Slot), wd D (va_A ws0 s.heap.size) s.heap (cW cI cB cS n ad bf M1) H locs → lv_has ls 8 [(2, .int v2), (3, .int v3), (4, .long x4)] → k x4 M1 = some q → W p l e { frames := 5, cells := 0, slots := 0, locals := 109 } s m args below meth c H locs 0 0 (Qt D below args s ws0 (some (.long q.1)) (cW cI cB cS n ad bf q.2)) (F0 m 75 ls [])) →
    W p l e { frames := 5, cells := 0, slots := 0, locals := 109 } s m args below meth c H locs 0 0 (Qt D below args s ws0 (some (.long q.1)) (cW cI cB cS n ad bf q.2)) (F0 m 43 ls []) := by
  have hx := C.1
  have hb := C.2.1
  intro fu
  induction fu with
  | zero => intro v4 v6 M H locs ls hw hl hf hk; rw [fX8_mean_43] at hf; cases hf
  | succ fu ih =>
      intro v4 v6 M H locs ls hw hl hf hk
      rw [fX8_mean_43] at hf
      refine lv_iload hx hb dX8_mean_43 (lv_at hl 5 rfl) ?_
      refine lv_iload_n hx hb dX8_mean_45 rfl (lv_at hl 3 rfl) ?_
      refine lv_icmp_gt (tgt := 75) hx hb dX8_mean_46 (by decide) (fun h4 => ?_) (fun h4 => ?_)
      · have hf := it_t h4 hf
        exact hk _ _ _ _ _ hw (lv_sub hl [2, 3, 4] rfl) hf
      · have hf := it_f h4 hf
        refine lv_aload_n hx hb dX8_mean_49 rfl (lv_at hl 0 rfl) ?_
        refine lv_iload hx hb dX8_mean_50 (lv_at hl 5 rfl) ?_
        refine lv_iload_n hx hb dX8_mean_52 rfl (lv_at hl 1 rfl) ?_
        obtain ⟨r5, e6, hf⟩ := bd hf
        refine ct_V0 (q0 := 0) (ci := 8) (rest := []) C hw hA (kX8_sellTo l D cI cB cS n ad bf hcg e6) cfX8_sellTo tg_371 tg_373 ts_yX8_sellTo ⟨(Nat.le_of_ble_eq_true rfl), (Nat.le_of_ble_eq_true rfl)⟩ ⟨(Nat.le_of_ble_eq_true rfl), (Nat.le_of_ble_eq_true rfl)⟩ rfl rfl rfl rfl hl.1 rfl (Nat.le_of_ble_eq_true rfl) dX8_mean_53 (fun H locs hw => ?_)
        refine lv_lload hx hb dX8_mean_56 (lv_at hl 4 rfl) ?_
        refine lv_aload_n hx hb dX8_mean_58 rfl (lv_at hl 0 rfl) ?_
        refine cg_8_37 C hw dX8_mean_59 ?_
        refine cg_8_136 C hw dX8_mean_62 ?_
        refine lv_i2l (v := ((r5 11 4).toInt64)) hx hb dX8_mean_65 rfl ?_
        refine lv_ladd hx hb dX8_mean_66 ?_
        refine lv_lstore (lv' := [(4, .long (v4 + ((r5 11 4).toInt64))), (0, .ref (ad 0)), (1, .int v1), (2, .int v2), (3, .int v3), (6, .int v6)]) hx hb dX8_mean_67 hl (by decide) rfl (fun ls hl => ?_)
        refine lv_iinc (v := (v6 + 1)) (lv' := [(6, .int (v6 + 1)), (4, .long (v4 + ((r5 11 4).toInt64))), (0, .ref (ad 0)), (1, .int v1), (2, .int v2), (3, .int v3)]) hx hb dX8_mean_69 hl (k := 5) rfl (iv_1 _) (by decide) rfl (fun ls hl => ?_)
        refine lv_goto (tgt := 43) hx hb dX8_mean_72 (by decide) ?_
        exact ih _ _ _ _ _ _ hw (lv_sub hl [2, 3, 4, 5, 1, 0] rfl) hf hk
set_option maxHeartbeats 4000000 in
theorem wX8_mean_81 {p : Program} {l : Launch} {e : Env} {s : State} {m : MethodId} {args : Array Value} {below : List Frame} {meth : Method} {c : Code} {D : va_G} {cI cB cS : ClassId} {n : Nat} {ad : Nat → Nat} {bf : Nat → Option Nat} {ws0 : va_W} {v2 : Int32} (C : cx p c cX8_mean 8 s args m RX8 D cI cB cS) (hr : meth.sig.returnType = (some .long)) (hlocks : meth.locks = false) (hA : ∀ q, s.heap.size ≤ q → va_A ws0 s.heap.size q) {k : Int64 → Int64 → MS → Option (Int64 × MS)} {q : (Int64 × MS)}
    (hcg : bok n ad bf) : ∀ (fu : Nat) (v4 : Int64) (v6 : Int64) (M : MS) (H : Heap) (locs : List Loc) (ls : Array Slot), wd D (va_A ws0 s.heap.size) s.heap (cW cI cB cS n ad bf M) H locs → lv_has ls 8 [(2, .int v2), (4, .long v4), (6, .long v6)] → fX8_mean_81 n fu k v4 v6 M = some q →
    (∀ (x4 : Int64) (x6 : Int64) (M1 : MS) (H : Heap) (locs : List Loc) (ls : Array Slot), wd D (va_A ws0 s.heap.size) s.heap (cW cI cB cS n ad bf M1) H locs → lv_has ls 8 [(2, .int v2), (4, .long x4), (6, .long x6)] → k x4 x6 M1 = some q → W p l e { frames := 5, cells := 0, slots := 0, locals := 109 } s m args below meth c H locs 0 0 (Qt D below args s ws0 (some (.long q.1)) (cW cI cB cS n ad bf q.2)) (F0 m 112 ls [])) →
    W p l e { frames := 5, cells := 0, slots := 0, locals := 109 } s m args below meth c H locs 0 0 (Qt D below args s ws0 (some (.long q.1)) (cW cI cB cS n ad bf q.2)) (F0 m 81 ls []) := by
  have hx := C.1
  have hb := C.2.1
  intro fu
  induction fu with
  | zero => intro v4 v6 M H locs ls hw hl hf hk; rw [fX8_mean_81] at hf; cases hf
  | succ fu ih =>
      intro v4 v6 M H locs ls hw hl hf hk
      rw [fX8_mean_81] at hf
      refine lv_lload hx hb dX8_mean_81 (lv_at hl 2 rfl) ?_
      refine lv_lconst (v := 1) hx hb dX8_mean_83 rfl ?_
      refine W.lcmp hx hb dX8_mean_84 ?_
      refine lv_if_le (tgt := 112) hx hb dX8_mean_85 (by decide) (fun h9 => ?_) (fun h9 => ?_)
      · have hf := it_t h9 hf
        exact hk _ _ _ _ _ _ hw (lv_sub hl [0, 1, 2] rfl) hf
      · have hf := it_f h9 hf
        refine lv_lload hx hb dX8_mean_88 (lv_at hl 1 rfl) ?_
        refine lv_lconst (v := 1) hx hb dX8_mean_90 rfl ?_
        refine lv_land hx hb dX8_mean_91 ?_
        refine lv_lconst (v := 0) hx hb dX8_mean_92 rfl ?_
        refine W.lcmp hx hb dX8_mean_93 ?_
        refine lv_if_ne (tgt := 112) hx hb dX8_mean_94 (by decide) (fun h10 => ?_) (fun h10 => ?_)
        · have hf := it_f h10 hf
          exact hk _ _ _ _ _ _ hw (lv_sub hl [0, 1, 2] rfl) hf
        · have hf := it_t h10 hf
          refine lv_lload hx hb dX8_mean_97 (lv_at hl 2 rfl) ?_
          refine lv_iconst (v := 1) hx hb dX8_mean_99 ic_1 ?_
          refine lv_lshr (v := (v6 >>> ((1 : Int32).toInt64 &&& 63))) hx hb dX8_mean_100 rfl ?_
          refine lv_lstore (lv' := [(6, .long (v6 >>> ((1 : Int32).toInt64 &&& 63))), (2, .int v2), (4, .long v4)]) hx hb dX8_mean_101 hl (by decide) rfl (fun ls hl => ?_)
          refine lv_lload hx hb dX8_mean_103 (lv_at hl 2 rfl) ?_
          refine lv_iconst (v := 1) hx hb dX8_mean_105 ic_1 ?_
          refine lv_lshr (v := (v4 >>> ((1 : Int32).toInt64 &&& 63))) hx hb dX8_mean_106 rfl ?_
          refine lv_lstore (lv' := [(4, .long (v4 >>> ((1 : Int32).toInt64 &&& 63))), (6, .long (v6 >>> ((1 : Int32).toInt64 &&& 63))), (2, .int v2)]) hx hb dX8_mean_107 hl (by decide) rfl (fun ls hl => ?_)
          refine lv_goto (tgt := 81) hx hb dX8_mean_109 (by decide) ?_
          exact ih _ _ _ _ _ _ hw (lv_sub hl [2, 0, 1] rfl) hf hk
set_option maxHeartbeats 4000000 in
theorem kX8_mean (l : Launch) (D : va_G) (cI cB cS : ClassId) (n : Nat) (ad : Nat → Nat) (bf : Nat → Option Nat) (hcg : bok n ad bf) {p1 : Int32} {p2 : Int32} {M : MS} {q : (Int64 × MS)} (hf : fX8_mean n p1 p2 M = some q) : Ct l D cI cB cS yX8_mean cX8_mean 8 (some .long) 5 109 [.ref (ad 0), .int p1, .int p2] (cW cI cB cS n ad bf M) (some (.long q.1)) (cW cI cB cS n ad bf q.2) := by
  refine Ct.ofW (by decide) (Nat.le_of_ble_eq_true rfl) ?_
  intro p e s m args below meth c ls C hr hlocks _ hw hl
  have hx := C.1
  have hb := C.2.1
  have hA : ∀ q, s.heap.size ≤ q → va_A (cW cI cB cS n ad bf M) s.heap.size q := fun q h => Or.inr h
  have hl : lv_has ls 8 [(0, .ref (ad 0)), (1, .int p1), (2, .int p2)] := hl
  unfold fX8_mean at hf
  refine lv_iload_n hx hb dX8_mean_0 rfl (lv_at hl 1 rfl) ?_
  refine ct_S1 (rest := []) C hw hA (kX8_isLot l D cI cB cS _ _) cfX8_isLot tg_331 tg_332 ⟨(Nat.le_of_ble_eq_true rfl), (Nat.le_of_ble_eq_true rfl)⟩ ⟨(Nat.le_of_ble_eq_true rfl), (Nat.le_of_ble_eq_true rfl)⟩ rfl hl.1 rfl (Nat.le_of_ble_eq_true rfl) dX8_mean_1 (fun H locs hw => ?_)
  refine lv_if_eq (tgt := 25) hx hb dX8_mean_4 (by decide) (fun h1 => ?_) (fun h1 => ?_)
  · have hf := it_t h1 hf
    refine lv_ldc2 (v := (-9223372036854775808 : Int64)) hx hb C.2.2.2.1 (C.2.2.2.2.1 _ tg_494) dX8_mean_25 ?_
    obtain rfl := Option.some.inj hf
    exact qt_l C hr hlocks hw dX8_mean_28
  · have hf := it_f h1 hf
    refine lv_iload_n hx hb dX8_mean_7 rfl (lv_at hl 2 rfl) ?_
    refine lv_iconst (v := 2) hx hb dX8_mean_8 ic_2 ?_
    refine ct_S1 (rest := []) C hw hA (kX8_isBelow l D cI cB cS _ _ _) cfX8_isBelow tg_183 tg_184 ⟨(Nat.le_of_ble_eq_true rfl), (Nat.le_of_ble_eq_true rfl)⟩ ⟨(Nat.le_of_ble_eq_true rfl), (Nat.le_of_ble_eq_true rfl)⟩ rfl hl.1 rfl (Nat.le_of_ble_eq_true rfl) dX8_mean_9 (fun H locs hw => ?_)
    refine lv_if_eq (tgt := 25) hx hb dX8_mean_12 (by decide) (fun h2 => ?_) (fun h2 => ?_)
    · have hf := it_t h2 hf
      refine lv_ldc2 (v := (-9223372036854775808 : Int64)) hx hb C.2.2.2.1 (C.2.2.2.2.1 _ tg_494) dX8_mean_25 ?_
      obtain rfl := Option.some.inj hf
      exact qt_l C hr hlocks hw dX8_mean_28
    · have hf := it_f h2 hf
      refine lv_aload_n hx hb dX8_mean_15 rfl (lv_at hl 0 rfl) ?_
      refine cg_8_28 C hw dX8_mean_16 ?_
      refine ct_V1 (q0 := 11) (ci := 5) (rest := []) C hw hA (kX5_isThere l D cI cB cS n ad bf hcg _) cfX5_isThere tg_363 tg_364 tg_365 ⟨(Nat.le_of_ble_eq_true rfl), (Nat.le_of_ble_eq_true rfl)⟩ ⟨(Nat.le_of_ble_eq_true rfl), (Nat.le_of_ble_eq_true rfl)⟩ rfl rfl rfl rfl hl.1 rfl (Nat.le_of_ble_eq_true rfl) dX8_mean_19 (fun H locs hw => ?_)
      refine lv_if_ne (tgt := 29) hx hb dX8_mean_22 (by decide) (fun h3 => ?_) (fun h3 => ?_)
      · have hf := it_f h3 hf
        refine lv_aload_n hx hb dX8_mean_29 rfl (lv_at hl 0 rfl) ?_
        refine cg_8_28 C hw dX8_mean_30 ?_
        refine ct_V1 (q0 := 11) (ci := 5) (rest := []) C hw hA (kX5_setOfAll l D cI cB cS n ad bf hcg _) cfX5_setOfAll tg_482 tg_483 tg_484 ⟨(Nat.le_of_ble_eq_true rfl), (Nat.le_of_ble_eq_true rfl)⟩ ⟨(Nat.le_of_ble_eq_true rfl), (Nat.le_of_ble_eq_true rfl)⟩ rfl rfl rfl rfl hl.1 rfl (Nat.le_of_ble_eq_true rfl) dX8_mean_33 (fun H locs hw => ?_)
        refine lv_istore_n (lv' := [(3, .int (fX5_setOfAll n M)), (0, .ref (ad 0)), (1, .int p1), (2, .int p2)]) hx hb dX8_mean_36 rfl hl (by decide) rfl (fun ls hl => ?_)
        refine lv_lconst (v := 0) hx hb dX8_mean_37 rfl ?_
        refine lv_lstore (lv' := [(4, .long 0), (3, .int (fX5_setOfAll n M)), (0, .ref (ad 0)), (1, .int p1), (2, .int p2)]) hx hb dX8_mean_38 hl (by decide) rfl (fun ls hl => ?_)
        refine lv_iconst (v := 0) hx hb dX8_mean_40 ic_0 ?_
        refine lv_istore (lv' := [(6, .int 0), (4, .long 0), (3, .int (fX5_setOfAll n M)), (0, .ref (ad 0)), (1, .int p1), (2, .int p2)]) hx hb dX8_mean_41 hl (by decide) rfl (fun ls hl => ?_)
        refine wX8_mean_43 C hr hlocks hA hcg 300 _ _ _ _ _ _ hw (lv_sub hl [3, 4, 5, 2, 1, 0] rfl) hf (fun x7 M8 H locs ls hw hl hf => ?_)
        refine lv_iload_n hx hb dX8_mean_75 rfl (lv_at hl 1 rfl) ?_
        refine lv_i2l (v := ((fX5_setOfAll n M).toInt64)) hx hb dX8_mean_76 rfl ?_
        refine lv_lconst (v := 1) hx hb dX8_mean_77 rfl ?_
        refine lv_ladd hx hb dX8_mean_78 ?_
        refine lv_lstore (lv' := [(6, .long (((fX5_setOfAll n M).toInt64) + 1)), (2, .int p2), (3, .int (fX5_setOfAll n M)), (4, .long x7)]) hx hb dX8_mean_79 hl (by decide) rfl (fun ls hl => ?_)
        refine wX8_mean_81 C hr hlocks hA hcg 300 _ _ _ _ _ _ hw (lv_sub hl [1, 3, 0] rfl) hf (fun x11 x12 M13 H locs ls hw hl hf => ?_)
        refine lv_iload_n hx hb dX8_mean_112 rfl (lv_at hl 0 rfl) ?_
        refine lv_if_ne (tgt := 121) hx hb dX8_mean_113 (by decide) (fun h14 => ?_) (fun h14 => ?_)
        · have hf := it_f h14 hf
          refine lv_lload hx hb dX8_mean_121 (lv_at hl 2 rfl) ?_
          obtain rfl := Option.some.inj hf
          exact qt_l C hr hlocks hw dX8_mean_123
        · have hf := it_t h14 hf
          refine lv_lload hx hb dX8_mean_116 (lv_at hl 1 rfl) ?_
          refine lv_goto (tgt := 123) hx hb dX8_mean_118 (by decide) ?_
          obtain rfl := Option.some.inj hf
          exact qt_l C hr hlocks hw dX8_mean_123
      · have hf := it_t h3 hf
        refine lv_ldc2 (v := (-9223372036854775808 : Int64)) hx hb C.2.2.2.1 (C.2.2.2.2.1 _ tg_494) dX8_mean_25 ?_
        obtain rfl := Option.some.inj hf
        exact qt_l C hr hlocks hw dX8_mean_28
theorem cfX8_hangs : cf yX8_hangs cX8_hangs 5 (some .int) 1 := ⟨tg_498, by decide +kernel, tg_1⟩
set_option maxHeartbeats 4000000 in
theorem wX8_hangs_42 {p : Program} {l : Launch} {e : Env} {s : State} {m : MethodId} {args : Array Value} {below : List Frame} {meth : Method} {c : Code} {D : va_G} {cI cB cS : ClassId} {n : Nat} {ad : Nat → Nat} {bf : Nat → Option Nat} {ws0 : va_W} {v1 : Int32} {v2 : Int32} (C : cx p c cX8_hangs 5 s args m RX8 D cI cB cS) (hr : meth.sig.returnType = (some .int)) (hlocks : meth.locks = false) (hA : ∀ q, s.heap.size ≤ q → va_A ws0 s.heap.size q) {k : Int32 → MS → Option (Int32 × MS)} {q : (Int32 × MS)}
    (hcg : bok n ad bf) : ∀ (fu : Nat) (v3 : Int32) (v4 : Int32) (M : MS) (H : Heap) (locs : List Loc) (ls : Array Slot), wd D (va_A ws0 s.heap.size) s.heap (cW cI cB cS n ad bf M) H locs → lv_has ls 5 [(0, .ref (ad 0)), (1, .int v1), (2, .int v2), (3, .int v3), (4, .int v4)] → fX8_hangs_42 n fu k v1 v2 v3 v4 M = some q →
    (∀ (x3 : Int32) (M1 : MS) (H : Heap) (locs : List Loc) (ls : Array Slot), wd D (va_A ws0 s.heap.size) s.heap (cW cI cB cS n ad bf M1) H locs → lv_has ls 5 [(3, .int x3)] → k x3 M1 = some q → W p l e { frames := 5, cells := 0, slots := 0, locals := 109 } s m args below meth c H locs 0 0 (Qt D below args s ws0 (some (.int q.1)) (cW cI cB cS n ad bf q.2)) (F0 m 92 ls [])) →
    W p l e { frames := 5, cells := 0, slots := 0, locals := 109 } s m args below meth c H locs 0 0 (Qt D below args s ws0 (some (.int q.1)) (cW cI cB cS n ad bf q.2)) (F0 m 42 ls []) := by
  have hx := C.1
  have hb := C.2.1
  intro fu
  induction fu with
  | zero => intro v3 v4 M H locs ls hw hl hf hk; rw [fX8_hangs_42] at hf; cases hf
  | succ fu ih =>
      intro v3 v4 M H locs ls hw hl hf hk
      rw [fX8_hangs_42] at hf
      refine lv_iload hx hb dX8_hangs_42 (lv_at hl 4 rfl) ?_
      refine lv_aload_n hx hb dX8_hangs_44 rfl (lv_at hl 0 rfl) ?_
      refine cg_8_28 C hw dX8_hangs_45 ?_
      refine cg_8_80 C hw dX8_hangs_48 ?_
      refine lv_icmp_ge (tgt := 92) hx hb dX8_hangs_51 (by decide) (fun h5 => ?_) (fun h5 => ?_)
      · have hf := it_t h5 hf
        exact hk _ _ _ _ _ hw (lv_sub hl [3] rfl) hf
      · have hf := it_f h5 hf
        refine lv_aload_n hx hb dX8_hangs_54 rfl (lv_at hl 0 rfl) ?_
        refine lv_bipush (v := 63) hx hb dX8_hangs_55 ib_63 ?_
        refine lv_iconst (v := 1) hx hb dX8_hangs_57 ic_1 ?_
        refine lv_iload hx hb dX8_hangs_58 (lv_at hl 4 rfl) ?_
        refine lv_ishl hx hb dX8_hangs_60 ?_
        refine lv_iconst (v := (-1)) hx hb dX8_hangs_61 ic_m1 ?_
        refine lv_ixor hx hb dX8_hangs_62 ?_
        refine lv_iand hx hb dX8_hangs_63 ?_
        refine lv_iload_n hx hb dX8_hangs_64 rfl (lv_at hl 1 rfl) ?_
        obtain ⟨r6, e7, hf⟩ := bd hf
        refine ct_V0 (q0 := 0) (ci := 8) (rest := []) C hw hA (kX8_sellTo l D cI cB cS n ad bf hcg e7) cfX8_sellTo tg_371 tg_373 ts_yX8_sellTo ⟨(Nat.le_of_ble_eq_true rfl), (Nat.le_of_ble_eq_true rfl)⟩ ⟨(Nat.le_of_ble_eq_true rfl), (Nat.le_of_ble_eq_true rfl)⟩ rfl rfl rfl rfl hl.1 rfl (Nat.le_of_ble_eq_true rfl) dX8_hangs_65 (fun H locs hw => ?_)
        refine lv_aload_n hx hb dX8_hangs_68 rfl (lv_at hl 0 rfl) ?_
        refine cg_8_37 C hw dX8_hangs_69 ?_
        refine cg_8_139 C hw dX8_hangs_72 ?_
        refine lv_iload_n hx hb dX8_hangs_75 rfl (lv_at hl 2 rfl) ?_
        refine lv_icmp_eq (tgt := 86) hx hb dX8_hangs_76 (by decide) (fun h8 => ?_) (fun h8 => ?_)
        · have hf := it_t h8 hf
          refine lv_iinc (v := (v4 + 1)) (lv' := [(4, .int (v4 + 1)), (0, .ref (ad 0)), (1, .int v1), (2, .int v2), (3, .int v3)]) hx hb dX8_hangs_86 hl (k := 4) rfl (iv_1 _) (by decide) rfl (fun ls hl => ?_)
          refine lv_goto (tgt := 42) hx hb dX8_hangs_89 (by decide) ?_
          exact ih _ _ _ _ _ _ hw (lv_sub hl [1, 2, 3, 4, 0] rfl) hf hk
        · have hf := it_f h8 hf
          refine lv_iload_n hx hb dX8_hangs_79 rfl (lv_at hl 3 rfl) ?_
          refine lv_iconst (v := 1) hx hb dX8_hangs_80 ic_1 ?_
          refine lv_iload hx hb dX8_hangs_81 (lv_at hl 4 rfl) ?_
          refine lv_ishl hx hb dX8_hangs_83 ?_
          refine lv_ior hx hb dX8_hangs_84 ?_
          refine lv_istore_n (lv' := [(3, .int (v3 ||| ((1 : Int32) <<< (v4 &&& 31)))), (0, .ref (ad 0)), (1, .int v1), (2, .int v2), (4, .int v4)]) hx hb dX8_hangs_85 rfl hl (by decide) rfl (fun ls hl => ?_)
          refine lv_iinc (v := (v4 + 1)) (lv' := [(4, .int (v4 + 1)), (3, .int (v3 ||| ((1 : Int32) <<< (v4 &&& 31)))), (0, .ref (ad 0)), (1, .int v1), (2, .int v2)]) hx hb dX8_hangs_86 hl (k := 4) rfl (iv_1 _) (by decide) rfl (fun ls hl => ?_)
          refine lv_goto (tgt := 42) hx hb dX8_hangs_89 (by decide) ?_
          exact ih _ _ _ _ _ _ hw (lv_sub hl [2, 3, 4, 1, 0] rfl) hf hk
set_option maxHeartbeats 4000000 in
theorem kX8_hangs (l : Launch) (D : va_G) (cI cB cS : ClassId) (n : Nat) (ad : Nat → Nat) (bf : Nat → Option Nat) (hcg : bok n ad bf) {p1 : Int32} {M : MS} {q : (Int32 × MS)} (hf : fX8_hangs n p1 M = some q) : Ct l D cI cB cS yX8_hangs cX8_hangs 5 (some .int) 5 109 [.ref (ad 0), .int p1] (cW cI cB cS n ad bf M) (some (.int q.1)) (cW cI cB cS n ad bf q.2) := by
  refine Ct.ofW (by decide) (Nat.le_of_ble_eq_true rfl) ?_
  intro p e s m args below meth c ls C hr hlocks _ hw hl
  have hx := C.1
  have hb := C.2.1
  have hA : ∀ q, s.heap.size ≤ q → va_A (cW cI cB cS n ad bf M) s.heap.size q := fun q h => Or.inr h
  have hl : lv_has ls 5 [(0, .ref (ad 0)), (1, .int p1)] := hl
  unfold fX8_hangs at hf
  refine lv_iload_n hx hb dX8_hangs_0 rfl (lv_at hl 1 rfl) ?_
  refine ct_S1 (rest := []) C hw hA (kX8_isLot l D cI cB cS _ _) cfX8_isLot tg_331 tg_332 ⟨(Nat.le_of_ble_eq_true rfl), (Nat.le_of_ble_eq_true rfl)⟩ ⟨(Nat.le_of_ble_eq_true rfl), (Nat.le_of_ble_eq_true rfl)⟩ rfl hl.1 rfl (Nat.le_of_ble_eq_true rfl) dX8_hangs_1 (fun H locs hw => ?_)
  refine lv_if_ne (tgt := 9) hx hb dX8_hangs_4 (by decide) (fun h1 => ?_) (fun h1 => ?_)
  · have hf := it_f h1 hf
    refine lv_aload_n hx hb dX8_hangs_9 rfl (lv_at hl 0 rfl) ?_
    refine cg_8_28 C hw dX8_hangs_10 ?_
    refine ct_V1 (q0 := 11) (ci := 5) (rest := []) C hw hA (kX5_isThere l D cI cB cS n ad bf hcg _) cfX5_isThere tg_363 tg_364 tg_365 ⟨(Nat.le_of_ble_eq_true rfl), (Nat.le_of_ble_eq_true rfl)⟩ ⟨(Nat.le_of_ble_eq_true rfl), (Nat.le_of_ble_eq_true rfl)⟩ rfl rfl rfl rfl hl.1 rfl (Nat.le_of_ble_eq_true rfl) dX8_hangs_13 (fun H locs hw => ?_)
    refine lv_if_ne (tgt := 22) hx hb dX8_hangs_16 (by decide) (fun h2 => ?_) (fun h2 => ?_)
    · have hf := it_f h2 hf
      refine lv_aload_n hx hb dX8_hangs_22 rfl (lv_at hl 0 rfl) ?_
      refine lv_bipush (v := 63) hx hb dX8_hangs_23 ib_63 ?_
      refine lv_iload_n hx hb dX8_hangs_25 rfl (lv_at hl 1 rfl) ?_
      obtain ⟨r3, e4, hf⟩ := bd hf
      refine ct_V0 (q0 := 0) (ci := 8) (rest := []) C hw hA (kX8_sellTo l D cI cB cS n ad bf hcg e4) cfX8_sellTo tg_371 tg_373 ts_yX8_sellTo ⟨(Nat.le_of_ble_eq_true rfl), (Nat.le_of_ble_eq_true rfl)⟩ ⟨(Nat.le_of_ble_eq_true rfl), (Nat.le_of_ble_eq_true rfl)⟩ rfl rfl rfl rfl hl.1 rfl (Nat.le_of_ble_eq_true rfl) dX8_hangs_26 (fun H locs hw => ?_)
      refine lv_aload_n hx hb dX8_hangs_29 rfl (lv_at hl 0 rfl) ?_
      refine cg_8_37 C hw dX8_hangs_30 ?_
      refine cg_8_139 C hw dX8_hangs_33 ?_
      refine lv_istore_n (lv' := [(2, .int (r3 11 5)), (0, .ref (ad 0)), (1, .int p1)]) hx hb dX8_hangs_36 rfl hl (by decide) rfl (fun ls hl => ?_)
      refine lv_iconst (v := 0) hx hb dX8_hangs_37 ic_0 ?_
      refine lv_istore_n (lv' := [(3, .int 0), (2, .int (r3 11 5)), (0, .ref (ad 0)), (1, .int p1)]) hx hb dX8_hangs_38 rfl hl (by decide) rfl (fun ls hl => ?_)
      refine lv_iconst (v := 0) hx hb dX8_hangs_39 ic_0 ?_
      refine lv_istore (lv' := [(4, .int 0), (3, .int 0), (2, .int (r3 11 5)), (0, .ref (ad 0)), (1, .int p1)]) hx hb dX8_hangs_40 hl (by decide) rfl (fun ls hl => ?_)
      refine wX8_hangs_42 C hr hlocks hA hcg 300 _ _ _ _ _ _ hw (lv_sub hl [3, 4, 2, 1, 0] rfl) hf (fun x9 M10 H locs ls hw hl hf => ?_)
      refine lv_iload_n hx hb dX8_hangs_92 rfl (lv_at hl 0 rfl) ?_
      obtain rfl := Option.some.inj hf
      exact qt_i C hr hlocks hw dX8_hangs_93
    · have hf := it_t h2 hf
      refine lv_bipush (v := (-3)) hx hb dX8_hangs_19 ib_m3 ?_
      obtain rfl := Option.some.inj hf
      exact qt_i C hr hlocks hw dX8_hangs_21
  · have hf := it_t h1 hf
    refine lv_iconst (v := (-1)) hx hb dX8_hangs_7 ic_m1 ?_
    obtain rfl := Option.some.inj hf
    exact qt_i C hr hlocks hw dX8_hangs_8
theorem cfX8_reading : cf yX8_reading cX8_reading 3 (some .int) 2 := ⟨tg_502, by decide +kernel, tg_1⟩
set_option maxHeartbeats 4000000 in
theorem kX8_reading (l : Launch) (D : va_G) (cI cB cS : ClassId) (n : Nat) (ad : Nat → Nat) (bf : Nat → Option Nat) (hcg : bok n ad bf) {p1 : Int32} {p2 : Int32} {M : MS} {q : (Int32 × MS)} (hf : fX8_reading n p1 p2 M = some q) : Ct l D cI cB cS yX8_reading cX8_reading 3 (some .int) 2 41 [.ref (ad 0), .int p1, .int p2] (cW cI cB cS n ad bf M) (some (.int q.1)) (cW cI cB cS n ad bf q.2) := by
  refine Ct.ofW (by decide) (Nat.le_of_ble_eq_true rfl) ?_
  intro p e s m args below meth c ls C hr hlocks _ hw hl
  have hx := C.1
  have hb := C.2.1
  have hA : ∀ q, s.heap.size ≤ q → va_A (cW cI cB cS n ad bf M) s.heap.size q := fun q h => Or.inr h
  have hl : lv_has ls 3 [(0, .ref (ad 0)), (1, .int p1), (2, .int p2)] := hl
  unfold fX8_reading at hf
  refine lv_iload_n hx hb dX8_reading_0 rfl (lv_at hl 1 rfl) ?_
  refine ct_S1 (rest := []) C hw hA (kX8_isLot l D cI cB cS _ _) cfX8_isLot tg_331 tg_332 ⟨(Nat.le_of_ble_eq_true rfl), (Nat.le_of_ble_eq_true rfl)⟩ ⟨(Nat.le_of_ble_eq_true rfl), (Nat.le_of_ble_eq_true rfl)⟩ rfl hl.1 rfl (Nat.le_of_ble_eq_true rfl) dX8_reading_1 (fun H locs hw => ?_)
  refine lv_if_ne (tgt := 9) hx hb dX8_reading_4 (by decide) (fun h1 => ?_) (fun h1 => ?_)
  · have hf := it_f h1 hf
    refine lv_iload_n hx hb dX8_reading_9 rfl (lv_at hl 2 rfl) ?_
    refine lv_if_lt (tgt := 19) hx hb dX8_reading_10 (by decide) (fun h2 => ?_) (fun h2 => ?_)
    · have hf := it_t h2 hf
      refine lv_bipush (v := (-2)) hx hb dX8_reading_19 ib_m2 ?_
      obtain rfl := Option.some.inj hf
      exact qt_i C hr hlocks hw dX8_reading_21
    · have hf := it_f h2 hf
      refine lv_iload_n hx hb dX8_reading_13 rfl (lv_at hl 2 rfl) ?_
      refine lv_bipush (v := 99) hx hb dX8_reading_14 ib_99 ?_
      refine lv_icmp_le (tgt := 22) hx hb dX8_reading_16 (by decide) (fun h3 => ?_) (fun h3 => ?_)
      · have hf := it_t h3 hf
        refine lv_aload_n hx hb dX8_reading_22 rfl (lv_at hl 0 rfl) ?_
        refine cg_8_28 C hw dX8_reading_23 ?_
        refine ct_V1 (q0 := 11) (ci := 5) (rest := []) C hw hA (kX5_isThere l D cI cB cS n ad bf hcg _) cfX5_isThere tg_363 tg_364 tg_365 ⟨(Nat.le_of_ble_eq_true rfl), (Nat.le_of_ble_eq_true rfl)⟩ ⟨(Nat.le_of_ble_eq_true rfl), (Nat.le_of_ble_eq_true rfl)⟩ rfl rfl rfl rfl hl.1 rfl (Nat.le_of_ble_eq_true rfl) dX8_reading_26 (fun H locs hw => ?_)
        refine lv_if_ne (tgt := 35) hx hb dX8_reading_29 (by decide) (fun h4 => ?_) (fun h4 => ?_)
        · have hf := it_f h4 hf
          refine lv_aload_n hx hb dX8_reading_35 rfl (lv_at hl 0 rfl) ?_
          refine cg_8_44 C hw dX8_reading_36 ?_
          refine cg_8_191 C hw dX8_reading_39 ?_
          refine lv_bipush (v := 6) hx hb dX8_reading_42 ib_6 ?_
          refine lv_icmp_lt (tgt := 50) hx hb dX8_reading_44 (by decide) (fun h5 => ?_) (fun h5 => ?_)
          · have hf := it_t h5 hf
            refine lv_aload_n hx hb dX8_reading_50 rfl (lv_at hl 0 rfl) ?_
            refine cg_8_44 C hw dX8_reading_51 ?_
            refine lv_iload_n hx hb dX8_reading_54 rfl (lv_at hl 1 rfl) ?_
            refine lv_iload_n hx hb dX8_reading_55 rfl (lv_at hl 2 rfl) ?_
            obtain ⟨r6, e7, hf⟩ := bd hf
            refine ct_V0 (q0 := 19) (ci := 2) (rest := []) C hw hA (kX2_write l D cI cB cS n ad bf hcg e7) cfX2_write tg_503 tg_504 tg_505 ⟨(Nat.le_of_ble_eq_true rfl), (Nat.le_of_ble_eq_true rfl)⟩ ⟨(Nat.le_of_ble_eq_true rfl), (Nat.le_of_ble_eq_true rfl)⟩ rfl rfl rfl rfl hl.1 rfl (Nat.le_of_ble_eq_true rfl) dX8_reading_56 (fun H locs hw => ?_)
            refine lv_aload_n hx hb dX8_reading_59 rfl (lv_at hl 0 rfl) ?_
            refine cg_8_44 C hw dX8_reading_60 ?_
            refine cg_8_191 C hw dX8_reading_63 ?_
            refine lv_iconst (v := 1) hx hb dX8_reading_66 ic_1 ?_
            refine lv_isub hx hb dX8_reading_67 ?_
            obtain rfl := Option.some.inj hf
            exact qt_i C hr hlocks hw dX8_reading_68
          · have hf := it_f h5 hf
            refine lv_bipush (v := (-4)) hx hb dX8_reading_47 ib_m4 ?_
            obtain rfl := Option.some.inj hf
            exact qt_i C hr hlocks hw dX8_reading_49
        · have hf := it_t h4 hf
          refine lv_bipush (v := (-3)) hx hb dX8_reading_32 ib_m3 ?_
          obtain rfl := Option.some.inj hf
          exact qt_i C hr hlocks hw dX8_reading_34
      · have hf := it_f h3 hf
        refine lv_bipush (v := (-2)) hx hb dX8_reading_19 ib_m2 ?_
        obtain rfl := Option.some.inj hf
        exact qt_i C hr hlocks hw dX8_reading_21
  · have hf := it_t h1 hf
    refine lv_iconst (v := (-1)) hx hb dX8_reading_7 ic_m1 ?_
    obtain rfl := Option.some.inj hf
    exact qt_i C hr hlocks hw dX8_reading_8
theorem cfX8_back : cf yX8_back cX8_back 2 (some .int) 1 := ⟨tg_510, by decide +kernel, tg_1⟩
set_option maxHeartbeats 4000000 in
theorem kX8_back (l : Launch) (D : va_G) (cI cB cS : ClassId) (n : Nat) (ad : Nat → Nat) (bf : Nat → Option Nat) (hcg : bok n ad bf) (p1 : Int32) (M : MS) : Ct l D cI cB cS yX8_back cX8_back 2 (some .int) 1 21 [.ref (ad 0), .int p1] (cW cI cB cS n ad bf M) (some (.int (fX8_back n p1 M).1)) (cW cI cB cS n ad bf (fX8_back n p1 M).2) := by
  obtain ⟨q, hf⟩ : ∃ q, fX8_back n p1 M = q := ⟨_, rfl⟩
  rw [hf]
  refine Ct.ofW (by decide) (Nat.le_of_ble_eq_true rfl) ?_
  intro p e s m args below meth c ls C hr hlocks _ hw hl
  have hx := C.1
  have hb := C.2.1
  have hA : ∀ q, s.heap.size ≤ q → va_A (cW cI cB cS n ad bf M) s.heap.size q := fun q h => Or.inr h
  have hl : lv_has ls 2 [(0, .ref (ad 0)), (1, .int p1)] := hl
  unfold fX8_back at hf
  refine lv_iload_n hx hb dX8_back_0 rfl (lv_at hl 1 rfl) ?_
  refine lv_if_lt (tgt := 15) hx hb dX8_back_1 (by decide) (fun h1 => ?_) (fun h1 => ?_)
  · have hf := it_t h1 hf
    refine lv_bipush (v := (-2)) hx hb dX8_back_15 ib_m2 ?_
    subst hf
    exact qt_i C hr hlocks hw dX8_back_17
  · have hf := it_f h1 hf
    refine lv_iload_n hx hb dX8_back_4 rfl (lv_at hl 1 rfl) ?_
    refine lv_aload_n hx hb dX8_back_5 rfl (lv_at hl 0 rfl) ?_
    refine cg_8_44 C hw dX8_back_6 ?_
    refine cg_8_191 C hw dX8_back_9 ?_
    refine lv_icmp_le (tgt := 18) hx hb dX8_back_12 (by decide) (fun h2 => ?_) (fun h2 => ?_)
    · have hf := it_t h2 hf
      refine lv_aload_n hx hb dX8_back_18 rfl (lv_at hl 0 rfl) ?_
      refine cg_8_44 C hw dX8_back_19 ?_
      refine lv_aload_n hx hb dX8_back_22 rfl (lv_at hl 0 rfl) ?_
      refine cg_8_44 C hw dX8_back_23 ?_
      refine cg_8_191 C hw dX8_back_26 ?_
      refine lv_iload_n hx hb dX8_back_29 rfl (lv_at hl 1 rfl) ?_
      refine lv_isub hx hb dX8_back_30 ?_
      refine ct_V0 (q0 := 19) (ci := 2) (rest := []) C hw hA (kX2_keepOnly l D cI cB cS n ad bf hcg _ _) cfX2_keepOnly tg_285 tg_286 tg_287 ⟨(Nat.le_of_ble_eq_true rfl), (Nat.le_of_ble_eq_true rfl)⟩ ⟨(Nat.le_of_ble_eq_true rfl), (Nat.le_of_ble_eq_true rfl)⟩ rfl rfl rfl rfl hl.1 rfl (Nat.le_of_ble_eq_true rfl) dX8_back_31 (fun H locs hw => ?_)
      refine lv_aload_n hx hb dX8_back_34 rfl (lv_at hl 0 rfl) ?_
      refine cg_8_44 C hw dX8_back_35 ?_
      refine cg_8_191 C hw dX8_back_38 ?_
      subst hf
      exact qt_i C hr hlocks hw dX8_back_41
    · have hf := it_f h2 hf
      refine lv_bipush (v := (-2)) hx hb dX8_back_15 ib_m2 ?_
      subst hf
      exact qt_i C hr hlocks hw dX8_back_17
theorem cfX8_areReadingsSo : cf yX8_areReadingsSo cX8_areReadingsSo 5 (some .boolean) 3 := ⟨tg_518, by decide +kernel, tg_1⟩
set_option maxHeartbeats 4000000 in
theorem wX8_areReadingsSo_3 {p : Program} {l : Launch} {e : Env} {s : State} {m : MethodId} {args : Array Value} {below : List Frame} {meth : Method} {c : Code} {D : va_G} {cI cB cS : ClassId} {n : Nat} {ad : Nat → Nat} {bf : Nat → Option Nat} {ws0 : va_W} {v1 : Int32} {v2 : Int32} {v3 : Int32} (C : cx p c cX8_areReadingsSo 5 s args m RX8 D cI cB cS) (hr : meth.sig.returnType = (some .boolean)) (hlocks : meth.locks = false) (hA : ∀ q, s.heap.size ≤ q → va_A ws0 s.heap.size q) {k : MS → Option (Int32 × MS)} {q : (Int32 × MS)}
    (hcg : bok n ad bf) : ∀ (fu : Nat) (v4 : Int32) (M : MS) (H : Heap) (locs : List Loc) (ls : Array Slot), wd D (va_A ws0 s.heap.size) s.heap (cW cI cB cS n ad bf M) H locs → lv_has ls 5 [(0, .ref (ad 0)), (1, .int v1), (2, .int v2), (3, .int v3), (4, .int v4)] → fX8_areReadingsSo_3 n fu k v1 v2 v3 v4 M = some q →
    (∀  (M1 : MS) (H : Heap) (locs : List Loc) (ls : Array Slot), wd D (va_A ws0 s.heap.size) s.heap (cW cI cB cS n ad bf M1) H locs → lv_has ls 5 [] → k  M1 = some q → W p l e { frames := 5, cells := 0, slots := 0, locals := 110 } s m args below meth c H locs 0 0 (Qt D below args s ws0 (some (.int q.1)) (cW cI cB cS n ad bf q.2)) (F0 m 65 ls [])) →
    W p l e { frames := 5, cells := 0, slots := 0, locals := 110 } s m args below meth c H locs 0 0 (Qt D below args s ws0 (some (.int q.1)) (cW cI cB cS n ad bf q.2)) (F0 m 3 ls []) := by
  have hx := C.1
  have hb := C.2.1
  intro fu
  induction fu with
  | zero => intro v4 M H locs ls hw hl hf hk; rw [fX8_areReadingsSo_3] at hf; cases hf
  | succ fu ih =>
      intro v4 M H locs ls hw hl hf hk
      rw [fX8_areReadingsSo_3] at hf
      refine lv_iload hx hb dX8_areReadingsSo_3 (lv_at hl 4 rfl) ?_
      refine lv_iconst (v := 4) hx hb dX8_areReadingsSo_5 ic_4 ?_
      refine lv_icmp_ge (tgt := 65) hx hb dX8_areReadingsSo_6 (by decide) (fun h1 => ?_) (fun h1 => ?_)
      · have hf := it_t h1 hf
        exact hk _ _ _ _ hw (lv_sub hl [] rfl) hf
      · have hf := it_f h1 hf
        refine lv_iload hx hb dX8_areReadingsSo_9 (lv_at hl 4 rfl) ?_
        refine lv_iload_n hx hb dX8_areReadingsSo_11 rfl (lv_at hl 3 rfl) ?_
        refine lv_icmp_eq (tgt := 59) hx hb dX8_areReadingsSo_12 (by decide) (fun h2 => ?_) (fun h2 => ?_)
        · have hf := it_t h2 hf
          refine lv_iinc (v := (v4 + 1)) (lv' := [(4, .int (v4 + 1)), (0, .ref (ad 0)), (1, .int v1), (2, .int v2), (3, .int v3)]) hx hb dX8_areReadingsSo_59 hl (k := 4) rfl (iv_1 _) (by decide) rfl (fun ls hl => ?_)
          refine lv_goto (tgt := 3) hx hb dX8_areReadingsSo_62 (by decide) ?_
          exact ih _ _ _ _ _ hw (lv_sub hl [1, 2, 3, 4, 0] rfl) hf hk
        · have hf := it_f h2 hf
          refine lv_aload_n hx hb dX8_areReadingsSo_15 rfl (lv_at hl 0 rfl) ?_
          refine cg_8_44 C hw dX8_areReadingsSo_16 ?_
          refine lv_iload hx hb dX8_areReadingsSo_19 (lv_at hl 4 rfl) ?_
          obtain ⟨r3, e4, hf⟩ := bd hf
          refine ct_V1 (q0 := 19) (ci := 2) (rest := []) C hw hA (kX2_hasOf l D cI cB cS n ad bf hcg e4) cfX2_hasOf tg_519 tg_520 tg_521 ⟨(Nat.le_of_ble_eq_true rfl), (Nat.le_of_ble_eq_true rfl)⟩ ⟨(Nat.le_of_ble_eq_true rfl), (Nat.le_of_ble_eq_true rfl)⟩ rfl rfl rfl rfl hl.1 rfl (Nat.le_of_ble_eq_true rfl) dX8_areReadingsSo_21 (fun H locs hw => ?_)
          refine lv_if_ne (tgt := 30) hx hb dX8_areReadingsSo_24 (by decide) (fun h5 => ?_) (fun h5 => ?_)
          · have hf := it_f h5 hf
            refine lv_aload_n hx hb dX8_areReadingsSo_30 rfl (lv_at hl 0 rfl) ?_
            refine lv_iload_n hx hb dX8_areReadingsSo_31 rfl (lv_at hl 1 rfl) ?_
            refine lv_iload_n hx hb dX8_areReadingsSo_32 rfl (lv_at hl 2 rfl) ?_
            refine lv_iload hx hb dX8_areReadingsSo_33 (lv_at hl 4 rfl) ?_
            obtain ⟨r6, e7, hf⟩ := bd hf
            refine ct_V0 (q0 := 0) (ci := 8) (rest := []) C hw hA (kX8_sellFrom l D cI cB cS n ad bf hcg e7) cfX8_sellFrom tg_456 tg_458 ts_yX8_sellFrom ⟨(Nat.le_of_ble_eq_true rfl), (Nat.le_of_ble_eq_true rfl)⟩ ⟨(Nat.le_of_ble_eq_true rfl), (Nat.le_of_ble_eq_true rfl)⟩ rfl rfl rfl rfl hl.1 rfl (Nat.le_of_ble_eq_true rfl) dX8_areReadingsSo_35 (fun H locs hw => ?_)
            refine lv_aload_n hx hb dX8_areReadingsSo_38 rfl (lv_at hl 0 rfl) ?_
            refine cg_8_44 C hw dX8_areReadingsSo_39 ?_
            refine lv_iload hx hb dX8_areReadingsSo_42 (lv_at hl 4 rfl) ?_
            refine lv_aload_n hx hb dX8_areReadingsSo_44 rfl (lv_at hl 0 rfl) ?_
            refine cg_8_37 C hw dX8_areReadingsSo_45 ?_
            refine cg_8_136 C hw dX8_areReadingsSo_48 ?_
            obtain ⟨r8, e9, hf⟩ := bd hf
            refine ct_V1 (q0 := 19) (ci := 2) (rest := []) C hw hA (kX2_agrees l D cI cB cS n ad bf hcg e9) cfX2_agrees tg_523 tg_524 tg_525 ⟨(Nat.le_of_ble_eq_true rfl), (Nat.le_of_ble_eq_true rfl)⟩ ⟨(Nat.le_of_ble_eq_true rfl), (Nat.le_of_ble_eq_true rfl)⟩ rfl rfl rfl rfl hl.1 rfl (Nat.le_of_ble_eq_true rfl) dX8_areReadingsSo_51 (fun H locs hw => ?_)
            refine lv_if_ne (tgt := 59) hx hb dX8_areReadingsSo_54 (by decide) (fun h10 => ?_) (fun h10 => ?_)
            · have hf := it_f h10 hf
              refine lv_iinc (v := (v4 + 1)) (lv' := [(4, .int (v4 + 1)), (0, .ref (ad 0)), (1, .int v1), (2, .int v2), (3, .int v3)]) hx hb dX8_areReadingsSo_59 hl (k := 4) rfl (iv_1 _) (by decide) rfl (fun ls hl => ?_)
              refine lv_goto (tgt := 3) hx hb dX8_areReadingsSo_62 (by decide) ?_
              exact ih _ _ _ _ _ hw (lv_sub hl [1, 2, 3, 4, 0] rfl) hf hk
            · have hf := it_t h10 hf
              refine lv_iconst (v := 0) hx hb dX8_areReadingsSo_57 ic_0 ?_
              obtain rfl := Option.some.inj hf
              exact qt_z C hr hlocks (Or.inl rfl) hw dX8_areReadingsSo_58
          · have hf := it_t h5 hf
            refine lv_goto (tgt := 59) hx hb dX8_areReadingsSo_27 (by decide) ?_
            refine lv_iinc (v := (v4 + 1)) (lv' := [(4, .int (v4 + 1)), (0, .ref (ad 0)), (1, .int v1), (2, .int v2), (3, .int v3)]) hx hb dX8_areReadingsSo_59 hl (k := 4) rfl (iv_1 _) (by decide) rfl (fun ls hl => ?_)
            refine lv_goto (tgt := 3) hx hb dX8_areReadingsSo_62 (by decide) ?_
            exact ih _ _ _ _ _ hw (lv_sub hl [1, 2, 3, 4, 0] rfl) hf hk
set_option maxHeartbeats 4000000 in
theorem kX8_areReadingsSo (l : Launch) (D : va_G) (cI cB cS : ClassId) (n : Nat) (ad : Nat → Nat) (bf : Nat → Option Nat) (hcg : bok n ad bf) {p1 : Int32} {p2 : Int32} {p3 : Int32} {M : MS} {q : (Int32 × MS)} (hf : fX8_areReadingsSo n p1 p2 p3 M = some q) : Ct l D cI cB cS yX8_areReadingsSo cX8_areReadingsSo 5 (some .boolean) 5 110 [.ref (ad 0), .int p1, .int p2, .int p3] (cW cI cB cS n ad bf M) (some (.int q.1)) (cW cI cB cS n ad bf q.2) := by
  refine Ct.ofW (by decide) (Nat.le_of_ble_eq_true rfl) ?_
  intro p e s m args below meth c ls C hr hlocks _ hw hl
  have hx := C.1
  have hb := C.2.1
  have hA : ∀ q, s.heap.size ≤ q → va_A (cW cI cB cS n ad bf M) s.heap.size q := fun q h => Or.inr h
  have hl : lv_has ls 5 [(0, .ref (ad 0)), (1, .int p1), (2, .int p2), (3, .int p3)] := hl
  unfold fX8_areReadingsSo at hf
  refine lv_iconst (v := 0) hx hb dX8_areReadingsSo_0 ic_0 ?_
  refine lv_istore (lv' := [(4, .int 0), (0, .ref (ad 0)), (1, .int p1), (2, .int p2), (3, .int p3)]) hx hb dX8_areReadingsSo_1 hl (by decide) rfl (fun ls hl => ?_)
  refine wX8_areReadingsSo_3 C hr hlocks hA hcg 300 _ _ _ _ _ hw (lv_sub hl [1, 2, 3, 4, 0] rfl) hf (fun M11 H locs ls hw hl hf => ?_)
  refine lv_iconst (v := 1) hx hb dX8_areReadingsSo_65 ic_1 ?_
  obtain rfl := Option.some.inj hf
  exact qt_z C hr hlocks (Or.inr rfl) hw dX8_areReadingsSo_66
theorem cfX8_isReadingSo : cf yX8_isReadingSo cX8_isReadingSo 4 (some .boolean) 3 := ⟨tg_530, by decide +kernel, tg_1⟩
set_option maxHeartbeats 4000000 in
theorem kX8_isReadingSo (l : Launch) (D : va_G) (cI cB cS : ClassId) (n : Nat) (ad : Nat → Nat) (bf : Nat → Option Nat) (hcg : bok n ad bf) {p1 : Int32} {p2 : Int32} {p3 : Int32} {M : MS} {q : (Int32 × MS)} (hf : fX8_isReadingSo n p1 p2 p3 M = some q) : Ct l D cI cB cS yX8_isReadingSo cX8_isReadingSo 4 (some .boolean) 4 87 [.ref (ad 0), .int p1, .int p2, .int p3] (cW cI cB cS n ad bf M) (some (.int q.1)) (cW cI cB cS n ad bf q.2) := by
  refine Ct.ofW (by decide) (Nat.le_of_ble_eq_true rfl) ?_
  intro p e s m args below meth c ls C hr hlocks _ hw hl
  have hx := C.1
  have hb := C.2.1
  have hA : ∀ q, s.heap.size ≤ q → va_A (cW cI cB cS n ad bf M) s.heap.size q := fun q h => Or.inr h
  have hl : lv_has ls 4 [(0, .ref (ad 0)), (1, .int p1), (2, .int p2), (3, .int p3)] := hl
  unfold fX8_isReadingSo at hf
  refine lv_aload_n hx hb dX8_isReadingSo_0 rfl (lv_at hl 0 rfl) ?_
  refine cg_8_44 C hw dX8_isReadingSo_1 ?_
  refine lv_iload_n hx hb dX8_isReadingSo_4 rfl (lv_at hl 2 rfl) ?_
  obtain ⟨r1, e2, hf⟩ := bd hf
  refine ct_V1 (q0 := 19) (ci := 2) (rest := []) C hw hA (kX2_hasOf l D cI cB cS n ad bf hcg e2) cfX2_hasOf tg_519 tg_520 tg_521 ⟨(Nat.le_of_ble_eq_true rfl), (Nat.le_of_ble_eq_true rfl)⟩ ⟨(Nat.le_of_ble_eq_true rfl), (Nat.le_of_ble_eq_true rfl)⟩ rfl rfl rfl rfl hl.1 rfl (Nat.le_of_ble_eq_true rfl) dX8_isReadingSo_5 (fun H locs hw => ?_)
  refine lv_if_ne (tgt := 13) hx hb dX8_isReadingSo_8 (by decide) (fun h3 => ?_) (fun h3 => ?_)
  · have hf := it_f h3 hf
    refine lv_aload_n hx hb dX8_isReadingSo_13 rfl (lv_at hl 0 rfl) ?_
    refine cg_8_37 C hw dX8_isReadingSo_14 ?_
    refine lv_bipush (v := 63) hx hb dX8_isReadingSo_17 ib_63 ?_
    obtain ⟨r4, e5, hf⟩ := bd hf
    refine ct_V0 (q0 := 13) (ci := 0) (rest := []) C hw hA (kX0_gather l D cI cB cS n ad bf hcg e5) cfX0_gather tg_375 tg_376 tg_377 ⟨(Nat.le_of_ble_eq_true rfl), (Nat.le_of_ble_eq_true rfl)⟩ ⟨(Nat.le_of_ble_eq_true rfl), (Nat.le_of_ble_eq_true rfl)⟩ rfl rfl rfl rfl hl.1 rfl (Nat.le_of_ble_eq_true rfl) dX8_isReadingSo_19 (fun H locs hw => ?_)
    refine lv_aload_n hx hb dX8_isReadingSo_22 rfl (lv_at hl 0 rfl) ?_
    refine cg_8_37 C hw dX8_isReadingSo_23 ?_
    refine lv_iload_n hx hb dX8_isReadingSo_26 rfl (lv_at hl 2 rfl) ?_
    obtain ⟨r6, e7, hf⟩ := bd hf
    refine ct_V0 (q0 := 13) (ci := 0) (rest := []) C hw hA (kX0_offer l D cI cB cS n ad bf hcg e7) cfX0_offer tg_384 tg_385 tg_386 ⟨(Nat.le_of_ble_eq_true rfl), (Nat.le_of_ble_eq_true rfl)⟩ ⟨(Nat.le_of_ble_eq_true rfl), (Nat.le_of_ble_eq_true rfl)⟩ rfl rfl rfl rfl hl.1 rfl (Nat.le_of_ble_eq_true rfl) dX8_isReadingSo_27 (fun H locs hw => ?_)
    refine lv_aload_n hx hb dX8_isReadingSo_30 rfl (lv_at hl 0 rfl) ?_
    refine cg_8_37 C hw dX8_isReadingSo_31 ?_
    refine cg_8_283 C hw dX8_isReadingSo_34 ?_
    refine lv_iload_n hx hb dX8_isReadingSo_37 rfl (lv_at hl 1 rfl) ?_
    refine lv_iload_n hx hb dX8_isReadingSo_38 rfl (lv_at hl 3 rfl) ?_
    obtain ⟨g8, hf⟩ := gd_inv hf
    refine cs_14 C hw g8 dX8_isReadingSo_39 (fun H locs hw => ?_)
    refine lv_aload_n hx hb dX8_isReadingSo_40 rfl (lv_at hl 0 rfl) ?_
    refine cg_8_37 C hw dX8_isReadingSo_41 ?_
    obtain ⟨r9, e10, hf⟩ := bd hf
    refine ct_V0 (q0 := 13) (ci := 0) (rest := []) C hw hA (kX0_hold l D cI cB cS n ad bf hcg e10) cfX0_hold tg_390 tg_391 tg_392 ⟨(Nat.le_of_ble_eq_true rfl), (Nat.le_of_ble_eq_true rfl)⟩ ⟨(Nat.le_of_ble_eq_true rfl), (Nat.le_of_ble_eq_true rfl)⟩ rfl rfl rfl rfl hl.1 rfl (Nat.le_of_ble_eq_true rfl) dX8_isReadingSo_44 (fun H locs hw => ?_)
    refine lv_aload_n hx hb dX8_isReadingSo_47 rfl (lv_at hl 0 rfl) ?_
    refine cg_8_44 C hw dX8_isReadingSo_48 ?_
    refine lv_iload_n hx hb dX8_isReadingSo_51 rfl (lv_at hl 2 rfl) ?_
    refine lv_aload_n hx hb dX8_isReadingSo_52 rfl (lv_at hl 0 rfl) ?_
    refine cg_8_37 C hw dX8_isReadingSo_53 ?_
    refine cg_8_136 C hw dX8_isReadingSo_56 ?_
    obtain ⟨r11, e12, hf⟩ := bd hf
    refine ct_V1 (q0 := 19) (ci := 2) (rest := []) C hw hA (kX2_agrees l D cI cB cS n ad bf hcg e12) cfX2_agrees tg_523 tg_524 tg_525 ⟨(Nat.le_of_ble_eq_true rfl), (Nat.le_of_ble_eq_true rfl)⟩ ⟨(Nat.le_of_ble_eq_true rfl), (Nat.le_of_ble_eq_true rfl)⟩ rfl rfl rfl rfl hl.1 rfl (Nat.le_of_ble_eq_true rfl) dX8_isReadingSo_59 (fun H locs hw => ?_)
    obtain ⟨z13, hf⟩ := zb_inv hf
    obtain rfl := Option.some.inj hf
    exact qt_z C hr hlocks z13 hw dX8_isReadingSo_62
  · have hf := it_t h3 hf
    refine lv_iconst (v := 1) hx hb dX8_isReadingSo_11 ic_1 ?_
    obtain rfl := Option.some.inj hf
    exact qt_z C hr hlocks (Or.inr rfl) hw dX8_isReadingSo_12
theorem cfX8_values : cf yX8_values cX8_values 11 (some .int) 3 := ⟨tg_514, by decide +kernel, tg_1⟩
set_option maxHeartbeats 4000000 in
theorem wX8_values_55 {p : Program} {l : Launch} {e : Env} {s : State} {m : MethodId} {args : Array Value} {below : List Frame} {meth : Method} {c : Code} {D : va_G} {cI cB cS : ClassId} {n : Nat} {ad : Nat → Nat} {bf : Nat → Option Nat} {ws0 : va_W} {v1 : Int32} {v2 : Int32} {v3 : Int32} {v4 : Nat} {v8 : Int32} (C : cx p c cX8_values 11 s args m RX8 D cI cB cS) (hr : meth.sig.returnType = (some .int)) (hlocks : meth.locks = false) (hA : ∀ q, s.heap.size ≤ q → va_A ws0 s.heap.size q) (hv4 : v4 < n) {k : Int32 → MS → Option (Int32 × MS)} {q : (Int32 × MS)}
    (hcg : bok n ad bf) : ∀ (fu : Nat) (v5 : Int32) (v6 : Int32) (v7 : Int32) (v9 : Int32) (M : MS) (H : Heap) (locs : List Loc) (ls : Array Slot), wd D (va_A ws0 s.heap.size) s.heap (cW cI cB cS n ad bf M) H locs → lv_has ls 11 [(0, .ref (ad 0)), (1, .int v1), (2, .int v2), (3, .int v3), (4, .ref (ad (30 + v4))), (5, .int v5), (6, .int v6), (7, .int v7), (8, .int v8), (9, .int v9)] → fX8_values_55 n fu k v1 v2 v3 v4 v5 v6 v7 v8 v9 M = some q →
    (∀ (x5 : Int32) (M1 : MS) (H : Heap) (locs : List Loc) (ls : Array Slot), wd D (va_A ws0 s.heap.size) s.heap (cW cI cB cS n ad bf M1) H locs → lv_has ls 11 [(3, .int v3), (5, .int x5)] → k x5 M1 = some q → W p l e { frames := 6, cells := 0, slots := 0, locals := 134 } s m args below meth c H locs 0 0 (Qt D below args s ws0 (some (.int q.1)) (cW cI cB cS n ad bf q.2)) (F0 m 137 ls [])) →
    W p l e { frames := 6, cells := 0, slots := 0, locals := 134 } s m args below meth c H locs 0 0 (Qt D below args s ws0 (some (.int q.1)) (cW cI cB cS n ad bf q.2)) (F0 m 55 ls []) := by
  have hx := C.1
  have hb := C.2.1
  intro fu
  induction fu with
  | zero => intro v5 v6 v7 v9 M H locs ls hw hl hf hk; rw [fX8_values_55] at hf; cases hf
  | succ fu ih =>
      intro v5 v6 v7 v9 M H locs ls hw hl hf hk
      rw [fX8_values_55] at hf
      refine lv_iload hx hb dX8_values_55 (lv_at hl 8 rfl) ?_
      refine lv_if_eq (tgt := 137) hx hb dX8_values_57 (by decide) (fun h7 => ?_) (fun h7 => ?_)
      · have hf := it_t h7 hf
        exact hk _ _ _ _ _ hw (lv_sub hl [3, 5] rfl) hf
      · have hf := it_f h7 hf
        refine lv_iload hx hb dX8_values_60 (lv_at hl 9 rfl) ?_
        refine lv_bipush (v := 99) hx hb dX8_values_62 ib_99 ?_
        refine lv_icmp_gt (tgt := 137) hx hb dX8_values_64 (by decide) (fun h8 => ?_) (fun h8 => ?_)
        · have hf := it_t h8 hf
          exact hk _ _ _ _ _ hw (lv_sub hl [3, 5] rfl) hf
        · have hf := it_f h8 hf
          refine lv_aload hx hb dX8_values_67 (lv_at hl 4 rfl) ?_
          refine lv_iload hx hb dX8_values_69 (lv_at hl 9 rfl) ?_
          refine lv_aload hx hb dX8_values_71 (lv_at hl 4 rfl) ?_
          refine cg_8_96 hv4 C hw dX8_values_73 ?_
          refine cb_vlim (rest := []) hv4 C hw hA tg_338 ⟨(Nat.le_of_ble_eq_true rfl), (Nat.le_of_ble_eq_true rfl)⟩ ⟨(Nat.le_of_ble_eq_true rfl), (Nat.le_of_ble_eq_true rfl)⟩ hl.1 (Nat.le_of_ble_eq_true rfl) dX8_values_76 (fun H locs hw => ?_)
          refine lv_istore (lv' := [(10, .int (vlim (M 20 v4) v9 (M 21 v4))), (0, .ref (ad 0)), (1, .int v1), (2, .int v2), (3, .int v3), (4, .ref (ad (30 + v4))), (5, .int v5), (6, .int v6), (7, .int v7), (8, .int v8), (9, .int v9)]) hx hb dX8_values_79 hl (by decide) rfl (fun ls hl => ?_)
          refine lv_iload hx hb dX8_values_81 (lv_at hl 0 rfl) ?_
          refine lv_iload hx hb dX8_values_83 (lv_at hl 7 rfl) ?_
          refine lv_icmp_eq (tgt := 102) hx hb dX8_values_85 (by decide) (fun h9 => ?_) (fun h9 => ?_)
          · have hf := it_t h9 hf
            refine lv_iload hx hb dX8_values_102 (lv_at hl 8 rfl) ?_
            refine lv_if_eq (tgt := 116) hx hb dX8_values_104 (by decide) (fun h10 => ?_) (fun h10 => ?_)
            · have hf := it_t h10 hf
              refine lv_iload hx hb dX8_values_116 (lv_at hl 6 rfl) ?_
              refine lv_iload hx hb dX8_values_118 (lv_at hl 8 rfl) ?_
              refine lv_if_eq (tgt := 127) hx hb dX8_values_120 (by decide) (fun h11 => ?_) (fun h11 => ?_)
              · have hf := it_t h11 hf
                refine lv_iconst (v := 0) hx hb dX8_values_127 ic_0 ?_
                refine lv_iadd hx hb dX8_values_128 ?_
                refine lv_istore (lv' := [(5, .int (v5 + 0)), (10, .int (vlim (M 20 v4) v9 (M 21 v4))), (0, .ref (ad 0)), (1, .int v1), (2, .int v2), (3, .int v3), (4, .ref (ad (30 + v4))), (6, .int v6), (7, .int v7), (8, .int v8), (9, .int v9)]) hx hb dX8_values_129 hl (by decide) rfl (fun ls hl => ?_)
                refine lv_iinc (v := (v9 + 1)) (lv' := [(9, .int (v9 + 1)), (5, .int (v5 + 0)), (10, .int (vlim (M 20 v4) v9 (M 21 v4))), (0, .ref (ad 0)), (1, .int v1), (2, .int v2), (3, .int v3), (4, .ref (ad (30 + v4))), (6, .int v6), (7, .int v7), (8, .int v8)]) hx hb dX8_values_131 hl (k := 10) rfl (iv_1 _) (by decide) rfl (fun ls hl => ?_)
                refine lv_goto (tgt := 55) hx hb dX8_values_134 (by decide) ?_
                exact ih _ _ _ _ _ _ _ _ hw (lv_sub hl [3, 4, 5, 6, 7, 1, 8, 9, 10, 0] rfl) hf hk
              · have hf := it_f h11 hf
                refine lv_iconst (v := 1) hx hb dX8_values_123 ic_1 ?_
                refine lv_goto (tgt := 128) hx hb dX8_values_124 (by decide) ?_
                refine lv_iadd hx hb dX8_values_128 ?_
                refine lv_istore (lv' := [(5, .int (v5 + 1)), (10, .int (vlim (M 20 v4) v9 (M 21 v4))), (0, .ref (ad 0)), (1, .int v1), (2, .int v2), (3, .int v3), (4, .ref (ad (30 + v4))), (6, .int v6), (7, .int v7), (8, .int v8), (9, .int v9)]) hx hb dX8_values_129 hl (by decide) rfl (fun ls hl => ?_)
                refine lv_iinc (v := (v9 + 1)) (lv' := [(9, .int (v9 + 1)), (5, .int (v5 + 1)), (10, .int (vlim (M 20 v4) v9 (M 21 v4))), (0, .ref (ad 0)), (1, .int v1), (2, .int v2), (3, .int v3), (4, .ref (ad (30 + v4))), (6, .int v6), (7, .int v7), (8, .int v8)]) hx hb dX8_values_131 hl (k := 10) rfl (iv_1 _) (by decide) rfl (fun ls hl => ?_)
                refine lv_goto (tgt := 55) hx hb dX8_values_134 (by decide) ?_
                exact ih _ _ _ _ _ _ _ _ hw (lv_sub hl [3, 4, 5, 6, 7, 1, 8, 9, 10, 0] rfl) hf hk
            · have hf := it_f h10 hf
              refine lv_iload hx hb dX8_values_107 (lv_at hl 6 rfl) ?_
              refine lv_iload_n hx hb dX8_values_109 rfl (lv_at hl 4 rfl) ?_
              refine lv_icmp_ne (tgt := 116) hx hb dX8_values_110 (by decide) (fun h12 => ?_) (fun h12 => ?_)
              · have hf := it_f h12 hf
                refine lv_iload hx hb dX8_values_116 (lv_at hl 6 rfl) ?_
                refine lv_iload hx hb dX8_values_118 (lv_at hl 8 rfl) ?_
                refine lv_if_eq (tgt := 127) hx hb dX8_values_120 (by decide) (fun h13 => ?_) (fun h13 => ?_)
                · have hf := it_t h13 hf
                  refine lv_iconst (v := 0) hx hb dX8_values_127 ic_0 ?_
                  refine lv_iadd hx hb dX8_values_128 ?_
                  refine lv_istore (lv' := [(5, .int (v5 + 0)), (10, .int (vlim (M 20 v4) v9 (M 21 v4))), (0, .ref (ad 0)), (1, .int v1), (2, .int v2), (3, .int v3), (4, .ref (ad (30 + v4))), (6, .int v6), (7, .int v7), (8, .int v8), (9, .int v9)]) hx hb dX8_values_129 hl (by decide) rfl (fun ls hl => ?_)
                  refine lv_iinc (v := (v9 + 1)) (lv' := [(9, .int (v9 + 1)), (5, .int (v5 + 0)), (10, .int (vlim (M 20 v4) v9 (M 21 v4))), (0, .ref (ad 0)), (1, .int v1), (2, .int v2), (3, .int v3), (4, .ref (ad (30 + v4))), (6, .int v6), (7, .int v7), (8, .int v8)]) hx hb dX8_values_131 hl (k := 10) rfl (iv_1 _) (by decide) rfl (fun ls hl => ?_)
                  refine lv_goto (tgt := 55) hx hb dX8_values_134 (by decide) ?_
                  exact ih _ _ _ _ _ _ _ _ hw (lv_sub hl [3, 4, 5, 6, 7, 1, 8, 9, 10, 0] rfl) hf hk
                · have hf := it_f h13 hf
                  refine lv_iconst (v := 1) hx hb dX8_values_123 ic_1 ?_
                  refine lv_goto (tgt := 128) hx hb dX8_values_124 (by decide) ?_
                  refine lv_iadd hx hb dX8_values_128 ?_
                  refine lv_istore (lv' := [(5, .int (v5 + 1)), (10, .int (vlim (M 20 v4) v9 (M 21 v4))), (0, .ref (ad 0)), (1, .int v1), (2, .int v2), (3, .int v3), (4, .ref (ad (30 + v4))), (6, .int v6), (7, .int v7), (8, .int v8), (9, .int v9)]) hx hb dX8_values_129 hl (by decide) rfl (fun ls hl => ?_)
                  refine lv_iinc (v := (v9 + 1)) (lv' := [(9, .int (v9 + 1)), (5, .int (v5 + 1)), (10, .int (vlim (M 20 v4) v9 (M 21 v4))), (0, .ref (ad 0)), (1, .int v1), (2, .int v2), (3, .int v3), (4, .ref (ad (30 + v4))), (6, .int v6), (7, .int v7), (8, .int v8)]) hx hb dX8_values_131 hl (k := 10) rfl (iv_1 _) (by decide) rfl (fun ls hl => ?_)
                  refine lv_goto (tgt := 55) hx hb dX8_values_134 (by decide) ?_
                  exact ih _ _ _ _ _ _ _ _ hw (lv_sub hl [3, 4, 5, 6, 7, 1, 8, 9, 10, 0] rfl) hf hk
              · have hf := it_t h12 hf
                refine lv_iload hx hb dX8_values_113 (lv_at hl 10 rfl) ?_
                obtain rfl := Option.some.inj hf
                exact qt_i C hr hlocks hw dX8_values_115
          · have hf := it_f h9 hf
            refine lv_iload hx hb dX8_values_88 (lv_at hl 0 rfl) ?_
            refine lv_istore (lv' := [(6, .int (vlim (M 20 v4) v9 (M 21 v4))), (10, .int (vlim (M 20 v4) v9 (M 21 v4))), (0, .ref (ad 0)), (1, .int v1), (2, .int v2), (3, .int v3), (4, .ref (ad (30 + v4))), (5, .int v5), (7, .int v7), (8, .int v8), (9, .int v9)]) hx hb dX8_values_90 hl (by decide) rfl (fun ls hl => ?_)
            refine lv_aload_n hx hb dX8_values_92 rfl (lv_at hl 2 rfl) ?_
            refine lv_iload_n hx hb dX8_values_93 rfl (lv_at hl 3 rfl) ?_
            refine lv_iload_n hx hb dX8_values_94 rfl (lv_at hl 4 rfl) ?_
            refine lv_iload hx hb dX8_values_95 (lv_at hl 0 rfl) ?_
            obtain ⟨r14, e15, hf⟩ := bd hf
            refine ct_V1 (q0 := 0) (ci := 8) (rest := []) C hw hA (kX8_isReadingSo l D cI cB cS n ad bf hcg e15) cfX8_isReadingSo tg_527 tg_529 ts_yX8_isReadingSo ⟨(Nat.le_of_ble_eq_true rfl), (Nat.le_of_ble_eq_true rfl)⟩ ⟨(Nat.le_of_ble_eq_true rfl), (Nat.le_of_ble_eq_true rfl)⟩ rfl rfl rfl rfl hl.1 rfl (Nat.le_of_ble_eq_true rfl) dX8_values_97 (fun H locs hw => ?_)
            refine lv_istore (lv' := [(7, .int r14.1), (6, .int (vlim (M 20 v4) v9 (M 21 v4))), (10, .int (vlim (M 20 v4) v9 (M 21 v4))), (0, .ref (ad 0)), (1, .int v1), (2, .int v2), (3, .int v3), (4, .ref (ad (30 + v4))), (5, .int v5), (8, .int v8), (9, .int v9)]) hx hb dX8_values_100 hl (by decide) rfl (fun ls hl => ?_)
            refine lv_iload hx hb dX8_values_102 (lv_at hl 0 rfl) ?_
            refine lv_if_eq (tgt := 116) hx hb dX8_values_104 (by decide) (fun h16 => ?_) (fun h16 => ?_)
            · have hf := it_t h16 hf
              refine lv_iload hx hb dX8_values_116 (lv_at hl 8 rfl) ?_
              refine lv_iload hx hb dX8_values_118 (lv_at hl 0 rfl) ?_
              refine lv_if_eq (tgt := 127) hx hb dX8_values_120 (by decide) (fun h17 => ?_) (fun h17 => ?_)
              · have hf := it_t h17 hf
                refine lv_iconst (v := 0) hx hb dX8_values_127 ic_0 ?_
                refine lv_iadd hx hb dX8_values_128 ?_
                refine lv_istore (lv' := [(5, .int (v5 + 0)), (7, .int r14.1), (6, .int (vlim (M 20 v4) v9 (M 21 v4))), (10, .int (vlim (M 20 v4) v9 (M 21 v4))), (0, .ref (ad 0)), (1, .int v1), (2, .int v2), (3, .int v3), (4, .ref (ad (30 + v4))), (8, .int v8), (9, .int v9)]) hx hb dX8_values_129 hl (by decide) rfl (fun ls hl => ?_)
                refine lv_iinc (v := (v9 + 1)) (lv' := [(9, .int (v9 + 1)), (5, .int (v5 + 0)), (7, .int r14.1), (6, .int (vlim (M 20 v4) v9 (M 21 v4))), (10, .int (vlim (M 20 v4) v9 (M 21 v4))), (0, .ref (ad 0)), (1, .int v1), (2, .int v2), (3, .int v3), (4, .ref (ad (30 + v4))), (8, .int v8)]) hx hb dX8_values_131 hl (k := 10) rfl (iv_1 _) (by decide) rfl (fun ls hl => ?_)
                refine lv_goto (tgt := 55) hx hb dX8_values_134 (by decide) ?_
                exact ih _ _ _ _ _ _ _ _ hw (lv_sub hl [5, 6, 7, 8, 9, 1, 3, 2, 10, 0] rfl) hf hk
              · have hf := it_f h17 hf
                refine lv_iconst (v := 1) hx hb dX8_values_123 ic_1 ?_
                refine lv_goto (tgt := 128) hx hb dX8_values_124 (by decide) ?_
                refine lv_iadd hx hb dX8_values_128 ?_
                refine lv_istore (lv' := [(5, .int (v5 + 1)), (7, .int r14.1), (6, .int (vlim (M 20 v4) v9 (M 21 v4))), (10, .int (vlim (M 20 v4) v9 (M 21 v4))), (0, .ref (ad 0)), (1, .int v1), (2, .int v2), (3, .int v3), (4, .ref (ad (30 + v4))), (8, .int v8), (9, .int v9)]) hx hb dX8_values_129 hl (by decide) rfl (fun ls hl => ?_)
                refine lv_iinc (v := (v9 + 1)) (lv' := [(9, .int (v9 + 1)), (5, .int (v5 + 1)), (7, .int r14.1), (6, .int (vlim (M 20 v4) v9 (M 21 v4))), (10, .int (vlim (M 20 v4) v9 (M 21 v4))), (0, .ref (ad 0)), (1, .int v1), (2, .int v2), (3, .int v3), (4, .ref (ad (30 + v4))), (8, .int v8)]) hx hb dX8_values_131 hl (k := 10) rfl (iv_1 _) (by decide) rfl (fun ls hl => ?_)
                refine lv_goto (tgt := 55) hx hb dX8_values_134 (by decide) ?_
                exact ih _ _ _ _ _ _ _ _ hw (lv_sub hl [5, 6, 7, 8, 9, 1, 3, 2, 10, 0] rfl) hf hk
            · have hf := it_f h16 hf
              refine lv_iload hx hb dX8_values_107 (lv_at hl 8 rfl) ?_
              refine lv_iload_n hx hb dX8_values_109 rfl (lv_at hl 6 rfl) ?_
              refine lv_icmp_ne (tgt := 116) hx hb dX8_values_110 (by decide) (fun h18 => ?_) (fun h18 => ?_)
              · have hf := it_f h18 hf
                refine lv_iload hx hb dX8_values_116 (lv_at hl 8 rfl) ?_
                refine lv_iload hx hb dX8_values_118 (lv_at hl 0 rfl) ?_
                refine lv_if_eq (tgt := 127) hx hb dX8_values_120 (by decide) (fun h19 => ?_) (fun h19 => ?_)
                · have hf := it_t h19 hf
                  refine lv_iconst (v := 0) hx hb dX8_values_127 ic_0 ?_
                  refine lv_iadd hx hb dX8_values_128 ?_
                  refine lv_istore (lv' := [(5, .int (v5 + 0)), (7, .int r14.1), (6, .int (vlim (M 20 v4) v9 (M 21 v4))), (10, .int (vlim (M 20 v4) v9 (M 21 v4))), (0, .ref (ad 0)), (1, .int v1), (2, .int v2), (3, .int v3), (4, .ref (ad (30 + v4))), (8, .int v8), (9, .int v9)]) hx hb dX8_values_129 hl (by decide) rfl (fun ls hl => ?_)
                  refine lv_iinc (v := (v9 + 1)) (lv' := [(9, .int (v9 + 1)), (5, .int (v5 + 0)), (7, .int r14.1), (6, .int (vlim (M 20 v4) v9 (M 21 v4))), (10, .int (vlim (M 20 v4) v9 (M 21 v4))), (0, .ref (ad 0)), (1, .int v1), (2, .int v2), (3, .int v3), (4, .ref (ad (30 + v4))), (8, .int v8)]) hx hb dX8_values_131 hl (k := 10) rfl (iv_1 _) (by decide) rfl (fun ls hl => ?_)
                  refine lv_goto (tgt := 55) hx hb dX8_values_134 (by decide) ?_
                  exact ih _ _ _ _ _ _ _ _ hw (lv_sub hl [5, 6, 7, 8, 9, 1, 3, 2, 10, 0] rfl) hf hk
                · have hf := it_f h19 hf
                  refine lv_iconst (v := 1) hx hb dX8_values_123 ic_1 ?_
                  refine lv_goto (tgt := 128) hx hb dX8_values_124 (by decide) ?_
                  refine lv_iadd hx hb dX8_values_128 ?_
                  refine lv_istore (lv' := [(5, .int (v5 + 1)), (7, .int r14.1), (6, .int (vlim (M 20 v4) v9 (M 21 v4))), (10, .int (vlim (M 20 v4) v9 (M 21 v4))), (0, .ref (ad 0)), (1, .int v1), (2, .int v2), (3, .int v3), (4, .ref (ad (30 + v4))), (8, .int v8), (9, .int v9)]) hx hb dX8_values_129 hl (by decide) rfl (fun ls hl => ?_)
                  refine lv_iinc (v := (v9 + 1)) (lv' := [(9, .int (v9 + 1)), (5, .int (v5 + 1)), (7, .int r14.1), (6, .int (vlim (M 20 v4) v9 (M 21 v4))), (10, .int (vlim (M 20 v4) v9 (M 21 v4))), (0, .ref (ad 0)), (1, .int v1), (2, .int v2), (3, .int v3), (4, .ref (ad (30 + v4))), (8, .int v8)]) hx hb dX8_values_131 hl (k := 10) rfl (iv_1 _) (by decide) rfl (fun ls hl => ?_)
                  refine lv_goto (tgt := 55) hx hb dX8_values_134 (by decide) ?_
                  exact ih _ _ _ _ _ _ _ _ hw (lv_sub hl [5, 6, 7, 8, 9, 1, 3, 2, 10, 0] rfl) hf hk
              · have hf := it_t h18 hf
                refine lv_iload hx hb dX8_values_113 (lv_at hl 10 rfl) ?_
                obtain rfl := Option.some.inj hf
                exact qt_i C hr hlocks hw dX8_values_115
set_option maxHeartbeats 4000000 in
theorem kX8_values (l : Launch) (D : va_G) (cI cB cS : ClassId) (n : Nat) (ad : Nat → Nat) (bf : Nat → Option Nat) (hcg : bok n ad bf) {p1 : Int32} {p2 : Int32} {p3 : Int32} {M : MS} {q : (Int32 × MS)} (hf : fX8_values n p1 p2 p3 M = some q) : Ct l D cI cB cS yX8_values cX8_values 11 (some .int) 6 134 [.ref (ad 0), .int p1, .int p2, .int p3] (cW cI cB cS n ad bf M) (some (.int q.1)) (cW cI cB cS n ad bf q.2) := by
  refine Ct.ofW (by decide) (Nat.le_of_ble_eq_true rfl) ?_
  intro p e s m args below meth c ls C hr hlocks _ hw hl
  have hx := C.1
  have hb := C.2.1
  have hA : ∀ q, s.heap.size ≤ q → va_A (cW cI cB cS n ad bf M) s.heap.size q := fun q h => Or.inr h
  have hl : lv_has ls 11 [(0, .ref (ad 0)), (1, .int p1), (2, .int p2), (3, .int p3)] := hl
  unfold fX8_values at hf
  refine lv_aload_n hx hb dX8_values_0 rfl (lv_at hl 0 rfl) ?_
  refine cg_8_28 C hw dX8_values_1 ?_
  refine lv_iload_n hx hb dX8_values_4 rfl (lv_at hl 1 rfl) ?_
  refine ct_V1 (q0 := 11) (ci := 5) (rest := []) C hw hA (kX5_buyerOf l D cI cB cS n ad bf hcg _ _) cfX5_buyerOf tg_293 tg_294 tg_295 ⟨(Nat.le_of_ble_eq_true rfl), (Nat.le_of_ble_eq_true rfl)⟩ ⟨(Nat.le_of_ble_eq_true rfl), (Nat.le_of_ble_eq_true rfl)⟩ rfl rfl rfl rfl hl.1 rfl (Nat.le_of_ble_eq_true rfl) dX8_values_5 (fun H locs hw => ?_)
  rcases em_o (fX5_buyerOf n p1) with h1 | ⟨j2, h1⟩
  · rw [h1]
    have hf := om_n h1 hf
    refine lv_astoreN (lv' := [(4, .null), (0, .ref (ad 0)), (1, .int p1), (2, .int p2), (3, .int p3)]) hx hb dX8_values_8 hl (by decide) rfl (fun ls hl => ?_)
    refine lv_aloadN hx hb dX8_values_10 (lv_at hl 0 rfl) ?_
    refine lv_ifnullN (tgt := 27) hx hb dX8_values_12 (by decide) ?_
    refine lv_iconst (v := (-1)) hx hb dX8_values_27 ic_m1 ?_
    obtain rfl := Option.some.inj hf
    exact qt_i C hr hlocks hw dX8_values_28
  · rw [h1]
    have hf := om_s h1 hf
    have hj2 := buyerOf_lt hcg.1 h1
    refine lv_astore (lv' := [(4, .ref (ad (30 + j2))), (0, .ref (ad 0)), (1, .int p1), (2, .int p2), (3, .int p3)]) hx hb dX8_values_8 hl (by decide) rfl (fun ls hl => ?_)
    refine lv_aload hx hb dX8_values_10 (lv_at hl 0 rfl) ?_
    refine lv_ifnull hx hb dX8_values_12 ?_
    refine lv_iload_n hx hb dX8_values_15 rfl (lv_at hl 3 rfl) ?_
    refine ct_S1 (rest := []) C hw hA (kX8_isLot l D cI cB cS _ _) cfX8_isLot tg_331 tg_332 ⟨(Nat.le_of_ble_eq_true rfl), (Nat.le_of_ble_eq_true rfl)⟩ ⟨(Nat.le_of_ble_eq_true rfl), (Nat.le_of_ble_eq_true rfl)⟩ rfl hl.1 rfl (Nat.le_of_ble_eq_true rfl) dX8_values_16 (fun H locs hw => ?_)
    refine lv_if_eq (tgt := 27) hx hb dX8_values_19 (by decide) (fun h3 => ?_) (fun h3 => ?_)
    · have hf := it_t h3 hf
      refine lv_iconst (v := (-1)) hx hb dX8_values_27 ic_m1 ?_
      obtain rfl := Option.some.inj hf
      exact qt_i C hr hlocks hw dX8_values_28
    · have hf := it_f h3 hf
      refine lv_iload_n hx hb dX8_values_22 rfl (lv_at hl 4 rfl) ?_
      refine lv_iconst (v := (-1)) hx hb dX8_values_23 ic_m1 ?_
      refine lv_icmp_ge (tgt := 29) hx hb dX8_values_24 (by decide) (fun h4 => ?_) (fun h4 => ?_)
      · have hf := it_t h4 hf
        refine lv_iconst (v := 0) hx hb dX8_values_29 ic_0 ?_
        refine lv_istore (lv' := [(5, .int 0), (4, .ref (ad (30 + j2))), (0, .ref (ad 0)), (1, .int p1), (2, .int p2), (3, .int p3)]) hx hb dX8_values_30 hl (by decide) rfl (fun ls hl => ?_)
        refine lv_bipush (v := (-9)) hx hb dX8_values_32 ib_m9 ?_
        refine lv_istore (lv' := [(6, .int (-9)), (5, .int 0), (4, .ref (ad (30 + j2))), (0, .ref (ad 0)), (1, .int p1), (2, .int p2), (3, .int p3)]) hx hb dX8_values_34 hl (by decide) rfl (fun ls hl => ?_)
        refine lv_iconst (v := 0) hx hb dX8_values_36 ic_0 ?_
        refine lv_istore (lv' := [(7, .int 0), (6, .int (-9)), (5, .int 0), (4, .ref (ad (30 + j2))), (0, .ref (ad 0)), (1, .int p1), (2, .int p2), (3, .int p3)]) hx hb dX8_values_37 hl (by decide) rfl (fun ls hl => ?_)
        refine lv_aload_n hx hb dX8_values_39 rfl (lv_at hl 4 rfl) ?_
        refine lv_iload_n hx hb dX8_values_40 rfl (lv_at hl 5 rfl) ?_
        refine lv_aload hx hb dX8_values_41 (lv_at hl 3 rfl) ?_
        refine cg_8_93 hj2 C hw dX8_values_43 ?_
        refine lv_iload_n hx hb dX8_values_46 rfl (lv_at hl 6 rfl) ?_
        obtain ⟨r5, e6, hf⟩ := bd hf
        refine ct_V1 (q0 := 0) (ci := 8) (rest := []) C hw hA (kX8_areReadingsSo l D cI cB cS n ad bf hcg e6) cfX8_areReadingsSo tg_515 tg_517 ts_yX8_areReadingsSo ⟨(Nat.le_of_ble_eq_true rfl), (Nat.le_of_ble_eq_true rfl)⟩ ⟨(Nat.le_of_ble_eq_true rfl), (Nat.le_of_ble_eq_true rfl)⟩ rfl rfl rfl rfl hl.1 rfl (Nat.le_of_ble_eq_true rfl) dX8_values_47 (fun H locs hw => ?_)
        refine lv_istore (lv' := [(8, .int r5.1), (7, .int 0), (6, .int (-9)), (5, .int 0), (4, .ref (ad (30 + j2))), (0, .ref (ad 0)), (1, .int p1), (2, .int p2), (3, .int p3)]) hx hb dX8_values_50 hl (by decide) rfl (fun ls hl => ?_)
        refine lv_iconst (v := 0) hx hb dX8_values_52 ic_0 ?_
        refine lv_istore (lv' := [(9, .int 0), (8, .int r5.1), (7, .int 0), (6, .int (-9)), (5, .int 0), (4, .ref (ad (30 + j2))), (0, .ref (ad 0)), (1, .int p1), (2, .int p2), (3, .int p3)]) hx hb dX8_values_53 hl (by decide) rfl (fun ls hl => ?_)
        refine wX8_values_55 C hr hlocks hA hj2 hcg 300 _ _ _ _ _ _ _ _ hw (lv_sub hl [6, 7, 8, 9, 5, 4, 3, 2, 1, 0] rfl) hf (fun x20 M21 H locs ls hw hl hf => ?_)
        refine lv_iload_n hx hb dX8_values_137 rfl (lv_at hl 0 rfl) ?_
        refine lv_iconst (v := (-1)) hx hb dX8_values_138 ic_m1 ?_
        refine lv_icmp_ne (tgt := 147) hx hb dX8_values_139 (by decide) (fun h22 => ?_) (fun h22 => ?_)
        · have hf := it_f h22 hf
          refine lv_bipush (v := (-9)) hx hb dX8_values_147 ib_m9 ?_
          obtain rfl := Option.some.inj hf
          exact qt_i C hr hlocks hw dX8_values_149
        · have hf := it_t h22 hf
          refine lv_iload hx hb dX8_values_142 (lv_at hl 1 rfl) ?_
          refine lv_goto (tgt := 149) hx hb dX8_values_144 (by decide) ?_
          obtain rfl := Option.some.inj hf
          exact qt_i C hr hlocks hw dX8_values_149
      · have hf := it_f h4 hf
        refine lv_iconst (v := (-1)) hx hb dX8_values_27 ic_m1 ?_
        obtain rfl := Option.some.inj hf
        exact qt_i C hr hlocks hw dX8_values_28
theorem cfX8_places : cf yX8_places cX8_places 5 (some .int) 1 := ⟨tg_534, by decide +kernel, tg_1⟩
set_option maxHeartbeats 4000000 in
theorem wX8_places_20 {p : Program} {l : Launch} {e : Env} {s : State} {m : MethodId} {args : Array Value} {below : List Frame} {meth : Method} {c : Code} {D : va_G} {cI cB cS : ClassId} {n : Nat} {ad : Nat → Nat} {bf : Nat → Option Nat} {ws0 : va_W} {v1 : Int32} {v2 : Nat} (C : cx p c cX8_places 5 s args m RX8 D cI cB cS) (hr : meth.sig.returnType = (some .int)) (hlocks : meth.locks = false) (hA : ∀ q, s.heap.size ≤ q → va_A ws0 s.heap.size q) (hv2 : v2 < n) {k : Int32 → MS → Option (Int32 × MS)} {q : (Int32 × MS)}
    (hcg : bok n ad bf) : ∀ (fu : Nat) (v3 : Int32) (v4 : Int32) (M : MS) (H : Heap) (locs : List Loc) (ls : Array Slot), wd D (va_A ws0 s.heap.size) s.heap (cW cI cB cS n ad bf M) H locs → lv_has ls 5 [(0, .ref (ad 0)), (1, .int v1), (2, .ref (ad (30 + v2))), (3, .int v3), (4, .int v4)] → fX8_places_20 n fu k v1 v2 v3 v4 M = some q →
    (∀ (x3 : Int32) (M1 : MS) (H : Heap) (locs : List Loc) (ls : Array Slot), wd D (va_A ws0 s.heap.size) s.heap (cW cI cB cS n ad bf M1) H locs → lv_has ls 5 [(3, .int x3)] → k x3 M1 = some q → W p l e { frames := 6, cells := 0, slots := 0, locals := 134 } s m args below meth c H locs 0 0 (Qt D below args s ws0 (some (.int q.1)) (cW cI cB cS n ad bf q.2)) (F0 m 70 ls [])) →
    W p l e { frames := 6, cells := 0, slots := 0, locals := 134 } s m args below meth c H locs 0 0 (Qt D below args s ws0 (some (.int q.1)) (cW cI cB cS n ad bf q.2)) (F0 m 20 ls []) := by
  have hx := C.1
  have hb := C.2.1
  intro fu
  induction fu with
  | zero => intro v3 v4 M H locs ls hw hl hf hk; rw [fX8_places_20] at hf; cases hf
  | succ fu ih =>
      intro v3 v4 M H locs ls hw hl hf hk
      rw [fX8_places_20] at hf
      refine lv_iload hx hb dX8_places_20 (lv_at hl 4 rfl) ?_
      refine lv_aload_n hx hb dX8_places_22 rfl (lv_at hl 0 rfl) ?_
      refine cg_8_28 C hw dX8_places_23 ?_
      refine cg_8_114 C hw dX8_places_26 ?_
      refine lv_icmp_ge (tgt := 70) hx hb dX8_places_29 (by decide) (fun h3 => ?_) (fun h3 => ?_)
      · have hf := it_t h3 hf
        exact hk _ _ _ _ _ hw (lv_sub hl [3] rfl) hf
      · have hf := it_f h3 hf
        refine lv_aload_n hx hb dX8_places_32 rfl (lv_at hl 0 rfl) ?_
        refine cg_8_28 C hw dX8_places_33 ?_
        refine lv_aload_n hx hb dX8_places_36 rfl (lv_at hl 2 rfl) ?_
        refine lv_iload hx hb dX8_places_37 (lv_at hl 4 rfl) ?_
        obtain ⟨r4, e5, hf⟩ := bd hf
        refine ct_V1 (q0 := 11) (ci := 5) (rest := []) C hw hA (kX5_isFreeFor l D cI cB cS n ad bf hcg hv2 e5) cfX5_isFreeFor tg_358 tg_323 tg_324 ⟨(Nat.le_of_ble_eq_true rfl), (Nat.le_of_ble_eq_true rfl)⟩ ⟨(Nat.le_of_ble_eq_true rfl), (Nat.le_of_ble_eq_true rfl)⟩ rfl rfl rfl rfl hl.1 rfl (Nat.le_of_ble_eq_true rfl) dX8_places_39 (fun H locs hw => ?_)
        refine lv_if_eq (tgt := 64) hx hb dX8_places_42 (by decide) (fun h6 => ?_) (fun h6 => ?_)
        · have hf := it_t h6 hf
          refine lv_iinc (v := (v4 + 1)) (lv' := [(4, .int (v4 + 1)), (0, .ref (ad 0)), (1, .int v1), (2, .ref (ad (30 + v2))), (3, .int v3)]) hx hb dX8_places_64 hl (k := 4) rfl (iv_1 _) (by decide) rfl (fun ls hl => ?_)
          refine lv_goto (tgt := 20) hx hb dX8_places_67 (by decide) ?_
          exact ih _ _ _ _ _ _ hw (lv_sub hl [1, 2, 3, 4, 0] rfl) hf hk
        · have hf := it_f h6 hf
          refine lv_aload_n hx hb dX8_places_45 rfl (lv_at hl 0 rfl) ?_
          refine lv_iload_n hx hb dX8_places_46 rfl (lv_at hl 1 rfl) ?_
          refine lv_iload hx hb dX8_places_47 (lv_at hl 4 rfl) ?_
          refine lv_bipush (v := (-9)) hx hb dX8_places_49 ib_m9 ?_
          obtain ⟨r7, e8, hf⟩ := bd hf
          refine ct_V1 (q0 := 0) (ci := 8) (rest := []) C hw hA (kX8_areReadingsSo l D cI cB cS n ad bf hcg e8) cfX8_areReadingsSo tg_515 tg_517 ts_yX8_areReadingsSo ⟨(Nat.le_of_ble_eq_true rfl), (Nat.le_of_ble_eq_true rfl)⟩ ⟨(Nat.le_of_ble_eq_true rfl), (Nat.le_of_ble_eq_true rfl)⟩ rfl rfl rfl rfl hl.1 rfl (Nat.le_of_ble_eq_true rfl) dX8_places_51 (fun H locs hw => ?_)
          refine lv_if_eq (tgt := 64) hx hb dX8_places_54 (by decide) (fun h9 => ?_) (fun h9 => ?_)
          · have hf := it_t h9 hf
            refine lv_iinc (v := (v4 + 1)) (lv' := [(4, .int (v4 + 1)), (0, .ref (ad 0)), (1, .int v1), (2, .ref (ad (30 + v2))), (3, .int v3)]) hx hb dX8_places_64 hl (k := 4) rfl (iv_1 _) (by decide) rfl (fun ls hl => ?_)
            refine lv_goto (tgt := 20) hx hb dX8_places_67 (by decide) ?_
            exact ih _ _ _ _ _ _ hw (lv_sub hl [1, 2, 3, 4, 0] rfl) hf hk
          · have hf := it_f h9 hf
            refine lv_iload_n hx hb dX8_places_57 rfl (lv_at hl 3 rfl) ?_
            refine lv_iconst (v := 1) hx hb dX8_places_58 ic_1 ?_
            refine lv_iload hx hb dX8_places_59 (lv_at hl 4 rfl) ?_
            refine lv_ishl hx hb dX8_places_61 ?_
            refine lv_ior hx hb dX8_places_62 ?_
            refine lv_istore_n (lv' := [(3, .int (v3 ||| ((1 : Int32) <<< (v4 &&& 31)))), (0, .ref (ad 0)), (1, .int v1), (2, .ref (ad (30 + v2))), (4, .int v4)]) hx hb dX8_places_63 rfl hl (by decide) rfl (fun ls hl => ?_)
            refine lv_iinc (v := (v4 + 1)) (lv' := [(4, .int (v4 + 1)), (3, .int (v3 ||| ((1 : Int32) <<< (v4 &&& 31)))), (0, .ref (ad 0)), (1, .int v1), (2, .ref (ad (30 + v2)))]) hx hb dX8_places_64 hl (k := 4) rfl (iv_1 _) (by decide) rfl (fun ls hl => ?_)
            refine lv_goto (tgt := 20) hx hb dX8_places_67 (by decide) ?_
            exact ih _ _ _ _ _ _ hw (lv_sub hl [2, 3, 4, 1, 0] rfl) hf hk
set_option maxHeartbeats 4000000 in
theorem kX8_places (l : Launch) (D : va_G) (cI cB cS : ClassId) (n : Nat) (ad : Nat → Nat) (bf : Nat → Option Nat) (hcg : bok n ad bf) {p1 : Int32} {M : MS} {q : (Int32 × MS)} (hf : fX8_places n p1 M = some q) : Ct l D cI cB cS yX8_places cX8_places 5 (some .int) 6 134 [.ref (ad 0), .int p1] (cW cI cB cS n ad bf M) (some (.int q.1)) (cW cI cB cS n ad bf q.2) := by
  refine Ct.ofW (by decide) (Nat.le_of_ble_eq_true rfl) ?_
  intro p e s m args below meth c ls C hr hlocks _ hw hl
  have hx := C.1
  have hb := C.2.1
  have hA : ∀ q, s.heap.size ≤ q → va_A (cW cI cB cS n ad bf M) s.heap.size q := fun q h => Or.inr h
  have hl : lv_has ls 5 [(0, .ref (ad 0)), (1, .int p1)] := hl
  unfold fX8_places at hf
  refine lv_aload_n hx hb dX8_places_0 rfl (lv_at hl 0 rfl) ?_
  refine cg_8_28 C hw dX8_places_1 ?_
  refine lv_iload_n hx hb dX8_places_4 rfl (lv_at hl 1 rfl) ?_
  refine ct_V1 (q0 := 11) (ci := 5) (rest := []) C hw hA (kX5_buyerOf l D cI cB cS n ad bf hcg _ _) cfX5_buyerOf tg_293 tg_294 tg_295 ⟨(Nat.le_of_ble_eq_true rfl), (Nat.le_of_ble_eq_true rfl)⟩ ⟨(Nat.le_of_ble_eq_true rfl), (Nat.le_of_ble_eq_true rfl)⟩ rfl rfl rfl rfl hl.1 rfl (Nat.le_of_ble_eq_true rfl) dX8_places_5 (fun H locs hw => ?_)
  rcases em_o (fX5_buyerOf n p1) with h1 | ⟨j2, h1⟩
  · rw [h1]
    have hf := om_n h1 hf
    refine lv_astore_nN (lv' := [(2, .null), (0, .ref (ad 0)), (1, .int p1)]) hx hb dX8_places_8 rfl hl (by decide) rfl (fun ls hl => ?_)
    refine lv_aload_nN hx hb dX8_places_9 rfl (lv_at hl 0 rfl) ?_
    refine lv_ifnonnullN hx hb dX8_places_10 ?_
    refine lv_iconst (v := (-1)) hx hb dX8_places_13 ic_m1 ?_
    obtain rfl := Option.some.inj hf
    exact qt_i C hr hlocks hw dX8_places_14
  · rw [h1]
    have hf := om_s h1 hf
    have hj2 := buyerOf_lt hcg.1 h1
    refine lv_astore_n (lv' := [(2, .ref (ad (30 + j2))), (0, .ref (ad 0)), (1, .int p1)]) hx hb dX8_places_8 rfl hl (by decide) rfl (fun ls hl => ?_)
    refine lv_aload_n hx hb dX8_places_9 rfl (lv_at hl 0 rfl) ?_
    refine lv_ifnonnull (tgt := 15) hx hb dX8_places_10 (by decide) ?_
    refine lv_iconst (v := 0) hx hb dX8_places_15 ic_0 ?_
    refine lv_istore_n (lv' := [(3, .int 0), (2, .ref (ad (30 + j2))), (0, .ref (ad 0)), (1, .int p1)]) hx hb dX8_places_16 rfl hl (by decide) rfl (fun ls hl => ?_)
    refine lv_iconst (v := 0) hx hb dX8_places_17 ic_0 ?_
    refine lv_istore (lv' := [(4, .int 0), (3, .int 0), (2, .ref (ad (30 + j2))), (0, .ref (ad 0)), (1, .int p1)]) hx hb dX8_places_18 hl (by decide) rfl (fun ls hl => ?_)
    refine wX8_places_20 C hr hlocks hA hj2 hcg 300 _ _ _ _ _ _ hw (lv_sub hl [3, 4, 2, 1, 0] rfl) hf (fun x10 M11 H locs ls hw hl hf => ?_)
    refine lv_iload_n hx hb dX8_places_70 rfl (lv_at hl 0 rfl) ?_
    obtain rfl := Option.some.inj hf
    exact qt_i C hr hlocks hw dX8_places_71
theorem cfX8_sheet : cf yX8_sheet cX8_sheet 5 (some .int) 3 := ⟨tg_538, by decide +kernel, tg_1⟩
set_option maxHeartbeats 4000000 in
theorem kX8_sheet (l : Launch) (D : va_G) (cI cB cS : ClassId) (n : Nat) (ad : Nat → Nat) (bf : Nat → Option Nat) (hcg : bok n ad bf) {p1 : Int32} {p2 : Int32} {p3 : Int32} {M : MS} {q : (Int32 × MS)} (hf : fX8_sheet n p1 p2 p3 M = some q) : Ct l D cI cB cS yX8_sheet cX8_sheet 5 (some .int) 2 42 [.ref (ad 0), .int p1, .int p2, .int p3] (cW cI cB cS n ad bf M) (some (.int q.1)) (cW cI cB cS n ad bf q.2) := by
  refine Ct.ofW (by decide) (Nat.le_of_ble_eq_true rfl) ?_
  intro p e s m args below meth c ls C hr hlocks _ hw hl
  have hx := C.1
  have hb := C.2.1
  have hA : ∀ q, s.heap.size ≤ q → va_A (cW cI cB cS n ad bf M) s.heap.size q := fun q h => Or.inr h
  have hl : lv_has ls 5 [(0, .ref (ad 0)), (1, .int p1), (2, .int p2), (3, .int p3)] := hl
  unfold fX8_sheet at hf
  refine lv_aload_n hx hb dX8_sheet_0 rfl (lv_at hl 0 rfl) ?_
  refine lv_iconst (v := 0) hx hb dX8_sheet_1 ic_0 ?_
  refine cp_8_48 C hw dX8_sheet_2 (fun H locs hw => ?_)
  refine lv_aload_n hx hb dX8_sheet_5 rfl (lv_at hl 0 rfl) ?_
  refine lv_iload_n hx hb dX8_sheet_6 rfl (lv_at hl 1 rfl) ?_
  refine ct_V1 (q0 := 0) (ci := 8) (rest := []) C hw hA (kX8_sheetOf l D cI cB cS n ad bf hcg _ _) cfX8_sheetOf tg_179 tg_181 ts_yX8_sheetOf ⟨(Nat.le_of_ble_eq_true rfl), (Nat.le_of_ble_eq_true rfl)⟩ ⟨(Nat.le_of_ble_eq_true rfl), (Nat.le_of_ble_eq_true rfl)⟩ rfl rfl rfl rfl hl.1 rfl (Nat.le_of_ble_eq_true rfl) dX8_sheet_7 (fun H locs hw => ?_)
  rcases em_o (fX8_sheetOf p1) with h1 | ⟨j2, h1⟩
  · rw [h1]
    have hf := om_n h1 hf
    refine lv_astoreN (lv' := [(4, .null), (0, .ref (ad 0)), (1, .int p1), (2, .int p2), (3, .int p3)]) hx hb dX8_sheet_10 hl (by decide) rfl (fun ls hl => ?_)
    refine lv_aloadN hx hb dX8_sheet_12 (lv_at hl 0 rfl) ?_
    refine lv_ifnonnullN hx hb dX8_sheet_14 ?_
    refine lv_iconst (v := (-1)) hx hb dX8_sheet_17 ic_m1 ?_
    obtain rfl := Option.some.inj hf
    exact qt_i C hr hlocks hw dX8_sheet_18
  · rw [h1]
    have hf := om_s h1 hf
    have hj2 := sheetOf_lt h1
    refine lv_astore (lv' := [(4, .ref (ad (2 + j2))), (0, .ref (ad 0)), (1, .int p1), (2, .int p2), (3, .int p3)]) hx hb dX8_sheet_10 hl (by decide) rfl (fun ls hl => ?_)
    refine lv_aload hx hb dX8_sheet_12 (lv_at hl 0 rfl) ?_
    refine lv_ifnonnull (tgt := 19) hx hb dX8_sheet_14 (by decide) ?_
    refine lv_iload_n hx hb dX8_sheet_19 rfl (lv_at hl 3 rfl) ?_
    refine ct_S1 (rest := []) C hw hA (kX8_isLane l D cI cB cS _ _) cfX8_isLane tg_186 tg_187 ⟨(Nat.le_of_ble_eq_true rfl), (Nat.le_of_ble_eq_true rfl)⟩ ⟨(Nat.le_of_ble_eq_true rfl), (Nat.le_of_ble_eq_true rfl)⟩ rfl hl.1 rfl (Nat.le_of_ble_eq_true rfl) dX8_sheet_20 (fun H locs hw => ?_)
    refine lv_if_eq (tgt := 32) hx hb dX8_sheet_23 (by decide) (fun h3 => ?_) (fun h3 => ?_)
    · have hf := it_t h3 hf
      refine lv_bipush (v := (-2)) hx hb dX8_sheet_32 ib_m2 ?_
      obtain rfl := Option.some.inj hf
      exact qt_i C hr hlocks hw dX8_sheet_34
    · have hf := it_f h3 hf
      refine lv_iload_n hx hb dX8_sheet_26 rfl (lv_at hl 4 rfl) ?_
      refine lv_bipush (v := 60) hx hb dX8_sheet_27 ib_60 ?_
      refine lv_icmp_le (tgt := 35) hx hb dX8_sheet_29 (by decide) (fun h4 => ?_) (fun h4 => ?_)
      · have hf := it_t h4 hf
        refine lv_iload_n hx hb dX8_sheet_35 rfl (lv_at hl 4 rfl) ?_
        refine lv_if_ge (tgt := 45) hx hb dX8_sheet_36 (by decide) (fun h5 => ?_) (fun h5 => ?_)
        · have hf := it_t h5 hf
          refine lv_aload hx hb dX8_sheet_45 (lv_at hl 0 rfl) ?_
          refine lv_iload_n hx hb dX8_sheet_47 rfl (lv_at hl 3 rfl) ?_
          refine lv_iload_n hx hb dX8_sheet_48 rfl (lv_at hl 4 rfl) ?_
          obtain ⟨r6, e7, hf⟩ := bd hf
          refine ct_V0 (q0 := 2 + j2) (ci := 6) (rest := []) C hw hA (kX6_lay l D cI cB cS n ad bf hcg hj2 e7) cfX6_lay tg_539 tg_540 tg_541 ⟨(Nat.le_of_ble_eq_true rfl), (Nat.le_of_ble_eq_true rfl)⟩ ⟨(Nat.le_of_ble_eq_true rfl), (Nat.le_of_ble_eq_true rfl)⟩ rfl rfl rfl (cW_sh hj2) hl.1 rfl (Nat.le_of_ble_eq_true rfl) dX8_sheet_49 (fun H locs hw => ?_)
          refine lv_iconst (v := 1) hx hb dX8_sheet_52 ic_1 ?_
          obtain rfl := Option.some.inj hf
          exact qt_i C hr hlocks hw dX8_sheet_53
        · have hf := it_f h5 hf
          refine lv_aload_n hx hb dX8_sheet_39 rfl (lv_at hl 1 rfl) ?_
          refine lv_iconst (v := 4) hx hb dX8_sheet_40 ic_4 ?_
          refine ct_V1 (q0 := 0) (ci := 8) (rest := []) C hw hA (kX8_meet l D cI cB cS n ad bf hcg _ _) cfX8_meet tg_197 tg_199 ts_yX8_meet ⟨(Nat.le_of_ble_eq_true rfl), (Nat.le_of_ble_eq_true rfl)⟩ ⟨(Nat.le_of_ble_eq_true rfl), (Nat.le_of_ble_eq_true rfl)⟩ rfl rfl rfl rfl hl.1 rfl (Nat.le_of_ble_eq_true rfl) dX8_sheet_41 (fun H locs hw => ?_)
          obtain rfl := Option.some.inj hf
          exact qt_i C hr hlocks hw dX8_sheet_44
      · have hf := it_f h4 hf
        refine lv_bipush (v := (-2)) hx hb dX8_sheet_32 ib_m2 ?_
        obtain rfl := Option.some.inj hf
        exact qt_i C hr hlocks hw dX8_sheet_34
theorem cfX8_lose : cf yX8_lose cX8_lose 3 (some .int) 1 := ⟨tg_546, by decide +kernel, tg_1⟩
set_option maxHeartbeats 4000000 in
theorem kX8_lose (l : Launch) (D : va_G) (cI cB cS : ClassId) (n : Nat) (ad : Nat → Nat) (bf : Nat → Option Nat) (hcg : bok n ad bf) {p1 : Int32} {M : MS} {q : (Int32 × MS)} (hf : fX8_lose n p1 M = some q) : Ct l D cI cB cS yX8_lose cX8_lose 3 (some .int) 2 42 [.ref (ad 0), .int p1] (cW cI cB cS n ad bf M) (some (.int q.1)) (cW cI cB cS n ad bf q.2) := by
  refine Ct.ofW (by decide) (Nat.le_of_ble_eq_true rfl) ?_
  intro p e s m args below meth c ls C hr hlocks _ hw hl
  have hx := C.1
  have hb := C.2.1
  have hA : ∀ q, s.heap.size ≤ q → va_A (cW cI cB cS n ad bf M) s.heap.size q := fun q h => Or.inr h
  have hl : lv_has ls 3 [(0, .ref (ad 0)), (1, .int p1)] := hl
  unfold fX8_lose at hf
  refine lv_aload_n hx hb dX8_lose_0 rfl (lv_at hl 0 rfl) ?_
  refine lv_iload_n hx hb dX8_lose_1 rfl (lv_at hl 1 rfl) ?_
  refine ct_V1 (q0 := 0) (ci := 8) (rest := []) C hw hA (kX8_sheetOf l D cI cB cS n ad bf hcg _ _) cfX8_sheetOf tg_179 tg_181 ts_yX8_sheetOf ⟨(Nat.le_of_ble_eq_true rfl), (Nat.le_of_ble_eq_true rfl)⟩ ⟨(Nat.le_of_ble_eq_true rfl), (Nat.le_of_ble_eq_true rfl)⟩ rfl rfl rfl rfl hl.1 rfl (Nat.le_of_ble_eq_true rfl) dX8_lose_2 (fun H locs hw => ?_)
  rcases em_o (fX8_sheetOf p1) with h1 | ⟨j2, h1⟩
  · rw [h1]
    have hf := om_n h1 hf
    refine lv_astore_nN (lv' := [(2, .null), (0, .ref (ad 0)), (1, .int p1)]) hx hb dX8_lose_5 rfl hl (by decide) rfl (fun ls hl => ?_)
    refine lv_aload_nN hx hb dX8_lose_6 rfl (lv_at hl 0 rfl) ?_
    refine lv_ifnonnullN hx hb dX8_lose_7 ?_
    refine lv_iconst (v := (-1)) hx hb dX8_lose_10 ic_m1 ?_
    obtain rfl := Option.some.inj hf
    exact qt_i C hr hlocks hw dX8_lose_11
  · rw [h1]
    have hf := om_s h1 hf
    have hj2 := sheetOf_lt h1
    refine lv_astore_n (lv' := [(2, .ref (ad (2 + j2))), (0, .ref (ad 0)), (1, .int p1)]) hx hb dX8_lose_5 rfl hl (by decide) rfl (fun ls hl => ?_)
    refine lv_aload_n hx hb dX8_lose_6 rfl (lv_at hl 0 rfl) ?_
    refine lv_ifnonnull (tgt := 12) hx hb dX8_lose_7 (by decide) ?_
    refine lv_aload_n hx hb dX8_lose_12 rfl (lv_at hl 0 rfl) ?_
    refine cg_8_205 hj2 C hw dX8_lose_13 ?_
    refine lv_iconst (v := (-1)) hx hb dX8_lose_16 ic_m1 ?_
    refine lv_icmp_ne (tgt := 22) hx hb dX8_lose_17 (by decide) (fun h3 => ?_) (fun h3 => ?_)
    · have hf := it_f h3 hf
      refine lv_aload_n hx hb dX8_lose_22 rfl (lv_at hl 0 rfl) ?_
      refine lv_iconst (v := (-1)) hx hb dX8_lose_23 ic_m1 ?_
      refine lv_iconst (v := 0) hx hb dX8_lose_24 ic_0 ?_
      obtain ⟨r4, e5, hf⟩ := bd hf
      refine ct_V0 (q0 := 2 + j2) (ci := 6) (rest := []) C hw hA (kX6_lay l D cI cB cS n ad bf hcg hj2 e5) cfX6_lay tg_539 tg_540 tg_541 ⟨(Nat.le_of_ble_eq_true rfl), (Nat.le_of_ble_eq_true rfl)⟩ ⟨(Nat.le_of_ble_eq_true rfl), (Nat.le_of_ble_eq_true rfl)⟩ rfl rfl rfl (cW_sh hj2) hl.1 rfl (Nat.le_of_ble_eq_true rfl) dX8_lose_25 (fun H locs hw => ?_)
      refine lv_iconst (v := 1) hx hb dX8_lose_28 ic_1 ?_
      obtain rfl := Option.some.inj hf
      exact qt_i C hr hlocks hw dX8_lose_29
    · have hf := it_t h3 hf
      refine lv_iconst (v := 0) hx hb dX8_lose_20 ic_0 ?_
      obtain rfl := Option.some.inj hf
      exact qt_i C hr hlocks hw dX8_lose_21
theorem cfX8_put : cf yX8_put cX8_put 6 (some .int) 3 := ⟨tg_550, by decide +kernel, tg_1⟩
set_option maxHeartbeats 4000000 in
theorem kX8_put (l : Launch) (D : va_G) (cI cB cS : ClassId) (n : Nat) (ad : Nat → Nat) (bf : Nat → Option Nat) (hcg : bok n ad bf) {p1 : Int32} {p2 : Int32} {p3 : Int32} {M : MS} {q : (Int32 × MS)} (hf : fX8_put n p1 p2 p3 M = some q) : Ct l D cI cB cS yX8_put cX8_put 6 (some .int) 2 45 [.ref (ad 0), .int p1, .int p2, .int p3] (cW cI cB cS n ad bf M) (some (.int q.1)) (cW cI cB cS n ad bf q.2) := by
  refine Ct.ofW (by decide) (Nat.le_of_ble_eq_true rfl) ?_
  intro p e s m args below meth c ls C hr hlocks _ hw hl
  have hx := C.1
  have hb := C.2.1
  have hA : ∀ q, s.heap.size ≤ q → va_A (cW cI cB cS n ad bf M) s.heap.size q := fun q h => Or.inr h
  have hl : lv_has ls 6 [(0, .ref (ad 0)), (1, .int p1), (2, .int p2), (3, .int p3)] := hl
  unfold fX8_put at hf
  refine lv_aload_n hx hb dX8_put_0 rfl (lv_at hl 0 rfl) ?_
  refine lv_iconst (v := 0) hx hb dX8_put_1 ic_0 ?_
  refine cp_8_48 C hw dX8_put_2 (fun H locs hw => ?_)
  refine lv_aload_n hx hb dX8_put_5 rfl (lv_at hl 0 rfl) ?_
  refine lv_iload_n hx hb dX8_put_6 rfl (lv_at hl 1 rfl) ?_
  refine ct_V1 (q0 := 0) (ci := 8) (rest := []) C hw hA (kX8_sheetOf l D cI cB cS n ad bf hcg _ _) cfX8_sheetOf tg_179 tg_181 ts_yX8_sheetOf ⟨(Nat.le_of_ble_eq_true rfl), (Nat.le_of_ble_eq_true rfl)⟩ ⟨(Nat.le_of_ble_eq_true rfl), (Nat.le_of_ble_eq_true rfl)⟩ rfl rfl rfl rfl hl.1 rfl (Nat.le_of_ble_eq_true rfl) dX8_put_7 (fun H locs hw => ?_)
  rcases em_o (fX8_sheetOf p1) with h1 | ⟨j2, h1⟩
  · rw [h1]
    have hf := om_n h1 hf
    refine lv_astoreN (lv' := [(4, .null), (0, .ref (ad 0)), (1, .int p1), (2, .int p2), (3, .int p3)]) hx hb dX8_put_10 hl (by decide) rfl (fun ls hl => ?_)
    refine lv_aloadN hx hb dX8_put_12 (lv_at hl 0 rfl) ?_
    refine lv_ifnonnullN hx hb dX8_put_14 ?_
    refine lv_iconst (v := (-1)) hx hb dX8_put_17 ic_m1 ?_
    obtain rfl := Option.some.inj hf
    exact qt_i C hr hlocks hw dX8_put_18
  · rw [h1]
    have hf := om_s h1 hf
    have hj2 := sheetOf_lt h1
    refine lv_astore (lv' := [(4, .ref (ad (2 + j2))), (0, .ref (ad 0)), (1, .int p1), (2, .int p2), (3, .int p3)]) hx hb dX8_put_10 hl (by decide) rfl (fun ls hl => ?_)
    refine lv_aload hx hb dX8_put_12 (lv_at hl 0 rfl) ?_
    refine lv_ifnonnull (tgt := 19) hx hb dX8_put_14 (by decide) ?_
    refine lv_aload hx hb dX8_put_19 (lv_at hl 0 rfl) ?_
    refine lv_aload hx hb dX8_put_21 (lv_at hl 0 rfl) ?_
    refine cg_8_205 hj2 C hw dX8_put_23 ?_
    refine lv_iload_n hx hb dX8_put_26 rfl (lv_at hl 3 rfl) ?_
    refine lv_iconst (v := 1) hx hb dX8_put_27 ic_1 ?_
    refine ct_V1 (q0 := 2 + j2) (ci := 6) (rest := []) C hw hA (kX6_faultOfTaking l D cI cB cS n ad bf hcg hj2 _ _ _ _) cfX6_faultOfTaking tg_189 tg_190 tg_191 ⟨(Nat.le_of_ble_eq_true rfl), (Nat.le_of_ble_eq_true rfl)⟩ ⟨(Nat.le_of_ble_eq_true rfl), (Nat.le_of_ble_eq_true rfl)⟩ rfl rfl rfl (cW_sh hj2) hl.1 rfl (Nat.le_of_ble_eq_true rfl) dX8_put_28 (fun H locs hw => ?_)
    refine lv_istore (lv' := [(5, .int (fX6_faultOfTaking n j2 ((u2 M 0 0 0) (1 + j2) 0) p2 (1 : Int32) (u2 M 0 0 0))), (4, .ref (ad (2 + j2))), (0, .ref (ad 0)), (1, .int p1), (2, .int p2), (3, .int p3)]) hx hb dX8_put_31 hl (by decide) rfl (fun ls hl => ?_)
    refine lv_iload hx hb dX8_put_33 (lv_at hl 0 rfl) ?_
    refine lv_if_eq (tgt := 45) hx hb dX8_put_35 (by decide) (fun h3 => ?_) (fun h3 => ?_)
    · have hf := it_t h3 hf
      refine lv_aload hx hb dX8_put_45 (lv_at hl 1 rfl) ?_
      refine lv_iload_n hx hb dX8_put_47 rfl (lv_at hl 4 rfl) ?_
      refine lv_iload_n hx hb dX8_put_48 rfl (lv_at hl 5 rfl) ?_
      obtain ⟨r4, e5, hf⟩ := bd hf
      refine ct_V0 (q0 := 2 + j2) (ci := 6) (rest := []) C hw hA (kX6_write l D cI cB cS n ad bf hcg hj2 e5) cfX6_write tg_551 tg_552 tg_553 ⟨(Nat.le_of_ble_eq_true rfl), (Nat.le_of_ble_eq_true rfl)⟩ ⟨(Nat.le_of_ble_eq_true rfl), (Nat.le_of_ble_eq_true rfl)⟩ rfl rfl rfl (cW_sh hj2) hl.1 rfl (Nat.le_of_ble_eq_true rfl) dX8_put_49 (fun H locs hw => ?_)
      refine lv_iconst (v := 1) hx hb dX8_put_52 ic_1 ?_
      obtain rfl := Option.some.inj hf
      exact qt_i C hr hlocks hw dX8_put_53
    · have hf := it_f h3 hf
      refine lv_aload_n hx hb dX8_put_38 rfl (lv_at hl 2 rfl) ?_
      refine lv_iload hx hb dX8_put_39 (lv_at hl 0 rfl) ?_
      refine ct_V1 (q0 := 0) (ci := 8) (rest := []) C hw hA (kX8_meet l D cI cB cS n ad bf hcg _ _) cfX8_meet tg_197 tg_199 ts_yX8_meet ⟨(Nat.le_of_ble_eq_true rfl), (Nat.le_of_ble_eq_true rfl)⟩ ⟨(Nat.le_of_ble_eq_true rfl), (Nat.le_of_ble_eq_true rfl)⟩ rfl rfl rfl rfl hl.1 rfl (Nat.le_of_ble_eq_true rfl) dX8_put_41 (fun H locs hw => ?_)
      obtain rfl := Option.some.inj hf
      exact qt_i C hr hlocks hw dX8_put_44
theorem cfX8_cell : cf yX8_cell cX8_cell 6 (some .long) 3 := ⟨tg_562, by decide +kernel, tg_1⟩
set_option maxHeartbeats 4000000 in
theorem kX8_cell (l : Launch) (D : va_G) (cI cB cS : ClassId) (n : Nat) (ad : Nat → Nat) (bf : Nat → Option Nat) (hcg : bok n ad bf) {p1 : Int32} {p2 : Int32} {p3 : Int32} {M : MS} {q : (Int64 × MS)} (hf : fX8_cell n p1 p2 p3 M = some q) : Ct l D cI cB cS yX8_cell cX8_cell 6 (some .long) 2 45 [.ref (ad 0), .int p1, .int p2, .int p3] (cW cI cB cS n ad bf M) (some (.long q.1)) (cW cI cB cS n ad bf q.2) := by
  refine Ct.ofW (by decide) (Nat.le_of_ble_eq_true rfl) ?_
  intro p e s m args below meth c ls C hr hlocks _ hw hl
  have hx := C.1
  have hb := C.2.1
  have hA : ∀ q, s.heap.size ≤ q → va_A (cW cI cB cS n ad bf M) s.heap.size q := fun q h => Or.inr h
  have hl : lv_has ls 6 [(0, .ref (ad 0)), (1, .int p1), (2, .int p2), (3, .int p3)] := hl
  unfold fX8_cell at hf
  refine lv_aload_n hx hb dX8_cell_0 rfl (lv_at hl 0 rfl) ?_
  refine lv_iconst (v := 0) hx hb dX8_cell_1 ic_0 ?_
  refine cp_8_48 C hw dX8_cell_2 (fun H locs hw => ?_)
  refine lv_aload_n hx hb dX8_cell_5 rfl (lv_at hl 0 rfl) ?_
  refine lv_iload_n hx hb dX8_cell_6 rfl (lv_at hl 1 rfl) ?_
  refine ct_V1 (q0 := 0) (ci := 8) (rest := []) C hw hA (kX8_sheetOf l D cI cB cS n ad bf hcg _ _) cfX8_sheetOf tg_179 tg_181 ts_yX8_sheetOf ⟨(Nat.le_of_ble_eq_true rfl), (Nat.le_of_ble_eq_true rfl)⟩ ⟨(Nat.le_of_ble_eq_true rfl), (Nat.le_of_ble_eq_true rfl)⟩ rfl rfl rfl rfl hl.1 rfl (Nat.le_of_ble_eq_true rfl) dX8_cell_7 (fun H locs hw => ?_)
  rcases em_o (fX8_sheetOf p1) with h1 | ⟨j2, h1⟩
  · rw [h1]
    have hf := om_n h1 hf
    refine lv_astoreN (lv' := [(4, .null), (0, .ref (ad 0)), (1, .int p1), (2, .int p2), (3, .int p3)]) hx hb dX8_cell_10 hl (by decide) rfl (fun ls hl => ?_)
    refine lv_aloadN hx hb dX8_cell_12 (lv_at hl 0 rfl) ?_
    refine lv_ifnullN (tgt := 24) hx hb dX8_cell_14 (by decide) ?_
    refine lv_ldc2 (v := (-9223372036854775808 : Int64)) hx hb C.2.2.2.1 (C.2.2.2.2.1 _ tg_494) dX8_cell_24 ?_
    obtain rfl := Option.some.inj hf
    exact qt_l C hr hlocks hw dX8_cell_27
  · rw [h1]
    have hf := om_s h1 hf
    have hj2 := sheetOf_lt h1
    refine lv_astore (lv' := [(4, .ref (ad (2 + j2))), (0, .ref (ad 0)), (1, .int p1), (2, .int p2), (3, .int p3)]) hx hb dX8_cell_10 hl (by decide) rfl (fun ls hl => ?_)
    refine lv_aload hx hb dX8_cell_12 (lv_at hl 0 rfl) ?_
    refine lv_ifnull hx hb dX8_cell_14 ?_
    refine lv_iload_n hx hb dX8_cell_17 rfl (lv_at hl 4 rfl) ?_
    refine ct_S1 (rest := []) C hw hA (kX8_isLane l D cI cB cS _ _) cfX8_isLane tg_186 tg_187 ⟨(Nat.le_of_ble_eq_true rfl), (Nat.le_of_ble_eq_true rfl)⟩ ⟨(Nat.le_of_ble_eq_true rfl), (Nat.le_of_ble_eq_true rfl)⟩ rfl hl.1 rfl (Nat.le_of_ble_eq_true rfl) dX8_cell_18 (fun H locs hw => ?_)
    refine lv_if_ne (tgt := 28) hx hb dX8_cell_21 (by decide) (fun h3 => ?_) (fun h3 => ?_)
    · have hf := it_f h3 hf
      refine lv_aload hx hb dX8_cell_28 (lv_at hl 0 rfl) ?_
      refine lv_iload_n hx hb dX8_cell_30 rfl (lv_at hl 4 rfl) ?_
      refine lv_iload_n hx hb dX8_cell_31 rfl (lv_at hl 3 rfl) ?_
      refine lv_iconst (v := 1) hx hb dX8_cell_32 ic_1 ?_
      refine ct_V1 (q0 := 2 + j2) (ci := 6) (rest := []) C hw hA (kX6_faultOfTaking l D cI cB cS n ad bf hcg hj2 _ _ _ _) cfX6_faultOfTaking tg_189 tg_190 tg_191 ⟨(Nat.le_of_ble_eq_true rfl), (Nat.le_of_ble_eq_true rfl)⟩ ⟨(Nat.le_of_ble_eq_true rfl), (Nat.le_of_ble_eq_true rfl)⟩ rfl rfl rfl (cW_sh hj2) hl.1 rfl (Nat.le_of_ble_eq_true rfl) dX8_cell_33 (fun H locs hw => ?_)
      refine lv_istore (lv' := [(5, .int (fX6_faultOfTaking n j2 p3 p2 (1 : Int32) (u2 M 0 0 0))), (4, .ref (ad (2 + j2))), (0, .ref (ad 0)), (1, .int p1), (2, .int p2), (3, .int p3)]) hx hb dX8_cell_36 hl (by decide) rfl (fun ls hl => ?_)
      refine lv_iload hx hb dX8_cell_38 (lv_at hl 0 rfl) ?_
      refine lv_if_eq (tgt := 54) hx hb dX8_cell_40 (by decide) (fun h4 => ?_) (fun h4 => ?_)
      · have hf := it_t h4 hf
        refine lv_aload hx hb dX8_cell_54 (lv_at hl 1 rfl) ?_
        refine lv_iload_n hx hb dX8_cell_56 rfl (lv_at hl 4 rfl) ?_
        obtain ⟨r5, e6, hf⟩ := bd hf
        refine ct_V1 (q0 := 2 + j2) (ci := 6) (rest := []) C hw hA (kX6_at l D cI cB cS n ad bf hcg hj2 e6) cfX6_at tg_207 tg_208 tg_209 ⟨(Nat.le_of_ble_eq_true rfl), (Nat.le_of_ble_eq_true rfl)⟩ ⟨(Nat.le_of_ble_eq_true rfl), (Nat.le_of_ble_eq_true rfl)⟩ rfl rfl rfl (cW_sh hj2) hl.1 rfl (Nat.le_of_ble_eq_true rfl) dX8_cell_57 (fun H locs hw => ?_)
        refine lv_i2l (v := (r5.toInt64)) hx hb dX8_cell_60 rfl ?_
        obtain rfl := Option.some.inj hf
        exact qt_l C hr hlocks hw dX8_cell_61
      · have hf := it_f h4 hf
        refine lv_aload_n hx hb dX8_cell_43 rfl (lv_at hl 2 rfl) ?_
        refine lv_iload hx hb dX8_cell_44 (lv_at hl 0 rfl) ?_
        refine ct_V1 (q0 := 0) (ci := 8) (rest := []) C hw hA (kX8_meet l D cI cB cS n ad bf hcg _ _) cfX8_meet tg_197 tg_199 ts_yX8_meet ⟨(Nat.le_of_ble_eq_true rfl), (Nat.le_of_ble_eq_true rfl)⟩ ⟨(Nat.le_of_ble_eq_true rfl), (Nat.le_of_ble_eq_true rfl)⟩ rfl rfl rfl rfl hl.1 rfl (Nat.le_of_ble_eq_true rfl) dX8_cell_46 (fun H locs hw => ?_)
        refine lv_pop hx hb dX8_cell_49 rfl ?_
        refine lv_ldc2 (v := (-9223372036854775808 : Int64)) hx hb C.2.2.2.1 (C.2.2.2.2.1 _ tg_494) dX8_cell_50 ?_
        obtain rfl := Option.some.inj hf
        exact qt_l C hr hlocks hw dX8_cell_53
    · have hf := it_t h3 hf
      refine lv_ldc2 (v := (-9223372036854775808 : Int64)) hx hb C.2.2.2.1 (C.2.2.2.2.1 _ tg_494) dX8_cell_24 ?_
      obtain rfl := Option.some.inj hf
      exact qt_l C hr hlocks hw dX8_cell_27
theorem cfX8_copy : cf yX8_copy cX8_copy 8 (some .int) 5 := ⟨tg_566, by decide +kernel, tg_1⟩
set_option maxHeartbeats 4000000 in
theorem kX8_copy (l : Launch) (D : va_G) (cI cB cS : ClassId) (n : Nat) (ad : Nat → Nat) (bf : Nat → Option Nat) (hcg : bok n ad bf) {p1 : Int32} {p2 : Int32} {p3 : Int32} {p4 : Int32} {p5 : Int32} {M : MS} {q : (Int32 × MS)} (hf : fX8_copy n p1 p2 p3 p4 p5 M = some q) : Ct l D cI cB cS yX8_copy cX8_copy 8 (some .int) 2 42 [.ref (ad 0), .int p1, .int p2, .int p3, .int p4, .int p5] (cW cI cB cS n ad bf M) (some (.int q.1)) (cW cI cB cS n ad bf q.2) := by
  refine Ct.ofW (by decide) (Nat.le_of_ble_eq_true rfl) ?_
  intro p e s m args below meth c ls C hr hlocks _ hw hl
  have hx := C.1
  have hb := C.2.1
  have hA : ∀ q, s.heap.size ≤ q → va_A (cW cI cB cS n ad bf M) s.heap.size q := fun q h => Or.inr h
  have hl : lv_has ls 8 [(0, .ref (ad 0)), (1, .int p1), (2, .int p2), (3, .int p3), (4, .int p4), (5, .int p5)] := hl
  unfold fX8_copy at hf
  refine lv_aload_n hx hb dX8_copy_0 rfl (lv_at hl 0 rfl) ?_
  refine lv_iconst (v := 0) hx hb dX8_copy_1 ic_0 ?_
  refine cp_8_48 C hw dX8_copy_2 (fun H locs hw => ?_)
  refine lv_aload_n hx hb dX8_copy_5 rfl (lv_at hl 0 rfl) ?_
  refine lv_iload_n hx hb dX8_copy_6 rfl (lv_at hl 1 rfl) ?_
  refine ct_V1 (q0 := 0) (ci := 8) (rest := []) C hw hA (kX8_sheetOf l D cI cB cS n ad bf hcg _ _) cfX8_sheetOf tg_179 tg_181 ts_yX8_sheetOf ⟨(Nat.le_of_ble_eq_true rfl), (Nat.le_of_ble_eq_true rfl)⟩ ⟨(Nat.le_of_ble_eq_true rfl), (Nat.le_of_ble_eq_true rfl)⟩ rfl rfl rfl rfl hl.1 rfl (Nat.le_of_ble_eq_true rfl) dX8_copy_7 (fun H locs hw => ?_)
  rcases em_o (fX8_sheetOf p1) with h1 | ⟨j2, h1⟩
  · rw [h1]
    have hf := om_n h1 hf
    refine lv_astoreN (lv' := [(6, .null), (0, .ref (ad 0)), (1, .int p1), (2, .int p2), (3, .int p3), (4, .int p4), (5, .int p5)]) hx hb dX8_copy_10 hl (by decide) rfl (fun ls hl => ?_)
    refine lv_aload_n hx hb dX8_copy_12 rfl (lv_at hl 1 rfl) ?_
    refine lv_iload_n hx hb dX8_copy_13 rfl (lv_at hl 4 rfl) ?_
    refine ct_V1 (q0 := 0) (ci := 8) (rest := []) C hw hA (kX8_sheetOf l D cI cB cS n ad bf hcg _ _) cfX8_sheetOf tg_179 tg_181 ts_yX8_sheetOf ⟨(Nat.le_of_ble_eq_true rfl), (Nat.le_of_ble_eq_true rfl)⟩ ⟨(Nat.le_of_ble_eq_true rfl), (Nat.le_of_ble_eq_true rfl)⟩ rfl rfl rfl rfl hl.1 rfl (Nat.le_of_ble_eq_true rfl) dX8_copy_14 (fun H locs hw => ?_)
    rcases em_o (fX8_sheetOf p3) with h3 | ⟨j4, h3⟩
    · rw [h3]
      have hf := om_n h3 hf
      refine lv_astoreN (lv' := [(7, .null), (6, .null), (0, .ref (ad 0)), (1, .int p1), (2, .int p2), (3, .int p3), (4, .int p4), (5, .int p5)]) hx hb dX8_copy_17 hl (by decide) rfl (fun ls hl => ?_)
      refine lv_aloadN hx hb dX8_copy_19 (lv_at hl 1 rfl) ?_
      refine lv_ifnullN (tgt := 29) hx hb dX8_copy_21 (by decide) ?_
      refine lv_iconst (v := (-1)) hx hb dX8_copy_29 ic_m1 ?_
      obtain rfl := Option.some.inj hf
      exact qt_i C hr hlocks hw dX8_copy_30
    · rw [h3]
      have hf := om_s h3 hf
      have hj4 := sheetOf_lt h3
      refine lv_astore (lv' := [(7, .ref (ad (2 + j4))), (6, .null), (0, .ref (ad 0)), (1, .int p1), (2, .int p2), (3, .int p3), (4, .int p4), (5, .int p5)]) hx hb dX8_copy_17 hl (by decide) rfl (fun ls hl => ?_)
      refine lv_aloadN hx hb dX8_copy_19 (lv_at hl 1 rfl) ?_
      refine lv_ifnullN (tgt := 29) hx hb dX8_copy_21 (by decide) ?_
      refine lv_iconst (v := (-1)) hx hb dX8_copy_29 ic_m1 ?_
      obtain rfl := Option.some.inj hf
      exact qt_i C hr hlocks hw dX8_copy_30
  · rw [h1]
    have hf := om_s h1 hf
    have hj2 := sheetOf_lt h1
    refine lv_astore (lv' := [(6, .ref (ad (2 + j2))), (0, .ref (ad 0)), (1, .int p1), (2, .int p2), (3, .int p3), (4, .int p4), (5, .int p5)]) hx hb dX8_copy_10 hl (by decide) rfl (fun ls hl => ?_)
    refine lv_aload_n hx hb dX8_copy_12 rfl (lv_at hl 1 rfl) ?_
    refine lv_iload_n hx hb dX8_copy_13 rfl (lv_at hl 4 rfl) ?_
    refine ct_V1 (q0 := 0) (ci := 8) (rest := []) C hw hA (kX8_sheetOf l D cI cB cS n ad bf hcg _ _) cfX8_sheetOf tg_179 tg_181 ts_yX8_sheetOf ⟨(Nat.le_of_ble_eq_true rfl), (Nat.le_of_ble_eq_true rfl)⟩ ⟨(Nat.le_of_ble_eq_true rfl), (Nat.le_of_ble_eq_true rfl)⟩ rfl rfl rfl rfl hl.1 rfl (Nat.le_of_ble_eq_true rfl) dX8_copy_14 (fun H locs hw => ?_)
    rcases em_o (fX8_sheetOf p3) with h5 | ⟨j6, h5⟩
    · rw [h5]
      have hf := om_n h5 hf
      refine lv_astoreN (lv' := [(7, .null), (6, .ref (ad (2 + j2))), (0, .ref (ad 0)), (1, .int p1), (2, .int p2), (3, .int p3), (4, .int p4), (5, .int p5)]) hx hb dX8_copy_17 hl (by decide) rfl (fun ls hl => ?_)
      refine lv_aload hx hb dX8_copy_19 (lv_at hl 1 rfl) ?_
      refine lv_ifnull hx hb dX8_copy_21 ?_
      refine lv_aloadN hx hb dX8_copy_24 (lv_at hl 0 rfl) ?_
      refine lv_ifnonnullN hx hb dX8_copy_26 ?_
      refine lv_iconst (v := (-1)) hx hb dX8_copy_29 ic_m1 ?_
      obtain rfl := Option.some.inj hf
      exact qt_i C hr hlocks hw dX8_copy_30
    · rw [h5]
      have hf := om_s h5 hf
      have hj6 := sheetOf_lt h5
      refine lv_astore (lv' := [(7, .ref (ad (2 + j6))), (6, .ref (ad (2 + j2))), (0, .ref (ad 0)), (1, .int p1), (2, .int p2), (3, .int p3), (4, .int p4), (5, .int p5)]) hx hb dX8_copy_17 hl (by decide) rfl (fun ls hl => ?_)
      refine lv_aload hx hb dX8_copy_19 (lv_at hl 1 rfl) ?_
      refine lv_ifnull hx hb dX8_copy_21 ?_
      refine lv_aload hx hb dX8_copy_24 (lv_at hl 0 rfl) ?_
      refine lv_ifnonnull (tgt := 31) hx hb dX8_copy_26 (by decide) ?_
      refine lv_aload hx hb dX8_copy_31 (lv_at hl 1 rfl) ?_
      refine cg_8_205 hj2 C hw dX8_copy_33 ?_
      refine lv_iconst (v := (-1)) hx hb dX8_copy_36 ic_m1 ?_
      refine lv_icmp_eq (tgt := 49) hx hb dX8_copy_37 (by decide) (fun h7 => ?_) (fun h7 => ?_)
      · have hf := it_t h7 hf
        refine lv_aload_n hx hb dX8_copy_49 rfl (lv_at hl 2 rfl) ?_
        refine lv_iconst (v := 1) hx hb dX8_copy_50 ic_1 ?_
        refine ct_V1 (q0 := 0) (ci := 8) (rest := []) C hw hA (kX8_meet l D cI cB cS n ad bf hcg _ _) cfX8_meet tg_197 tg_199 ts_yX8_meet ⟨(Nat.le_of_ble_eq_true rfl), (Nat.le_of_ble_eq_true rfl)⟩ ⟨(Nat.le_of_ble_eq_true rfl), (Nat.le_of_ble_eq_true rfl)⟩ rfl rfl rfl rfl hl.1 rfl (Nat.le_of_ble_eq_true rfl) dX8_copy_51 (fun H locs hw => ?_)
        obtain rfl := Option.some.inj hf
        exact qt_i C hr hlocks hw dX8_copy_54
      · have hf := it_f h7 hf
        refine lv_aload hx hb dX8_copy_40 (lv_at hl 0 rfl) ?_
        refine cg_8_205 hj6 C hw dX8_copy_42 ?_
        refine lv_iconst (v := (-1)) hx hb dX8_copy_45 ic_m1 ?_
        refine lv_icmp_ne (tgt := 55) hx hb dX8_copy_46 (by decide) (fun h8 => ?_) (fun h8 => ?_)
        · have hf := it_f h8 hf
          refine lv_aload hx hb dX8_copy_55 (lv_at hl 1 rfl) ?_
          refine cg_8_205 hj2 C hw dX8_copy_57 ?_
          refine lv_aload hx hb dX8_copy_60 (lv_at hl 0 rfl) ?_
          refine cg_8_205 hj6 C hw dX8_copy_62 ?_
          refine lv_icmp_eq (tgt := 74) hx hb dX8_copy_65 (by decide) (fun h9 => ?_) (fun h9 => ?_)
          · have hf := it_t h9 hf
            refine lv_iload hx hb dX8_copy_74 (lv_at hl 7 rfl) ?_
            refine lv_if_lt (tgt := 102) hx hb dX8_copy_76 (by decide) (fun h10 => ?_) (fun h10 => ?_)
            · have hf := it_t h10 hf
              refine lv_aload_n hx hb dX8_copy_102 rfl (lv_at hl 2 rfl) ?_
              refine lv_iconst (v := 3) hx hb dX8_copy_103 ic_3 ?_
              refine ct_V1 (q0 := 0) (ci := 8) (rest := []) C hw hA (kX8_meet l D cI cB cS n ad bf hcg _ _) cfX8_meet tg_197 tg_199 ts_yX8_meet ⟨(Nat.le_of_ble_eq_true rfl), (Nat.le_of_ble_eq_true rfl)⟩ ⟨(Nat.le_of_ble_eq_true rfl), (Nat.le_of_ble_eq_true rfl)⟩ rfl rfl rfl rfl hl.1 rfl (Nat.le_of_ble_eq_true rfl) dX8_copy_104 (fun H locs hw => ?_)
              obtain rfl := Option.some.inj hf
              exact qt_i C hr hlocks hw dX8_copy_107
            · have hf := it_f h10 hf
              refine lv_aload hx hb dX8_copy_79 (lv_at hl 1 rfl) ?_
              refine lv_iload_n hx hb dX8_copy_81 rfl (lv_at hl 4 rfl) ?_
              refine lv_iload hx hb dX8_copy_82 (lv_at hl 7 rfl) ?_
              refine ct_V1 (q0 := 2 + j2) (ci := 6) (rest := []) C hw hA (kX6_holds l D cI cB cS n ad bf hcg hj2 _ _ _) cfX6_holds tg_567 tg_194 tg_195 ⟨(Nat.le_of_ble_eq_true rfl), (Nat.le_of_ble_eq_true rfl)⟩ ⟨(Nat.le_of_ble_eq_true rfl), (Nat.le_of_ble_eq_true rfl)⟩ rfl rfl rfl (cW_sh hj2) hl.1 rfl (Nat.le_of_ble_eq_true rfl) dX8_copy_84 (fun H locs hw => ?_)
              refine lv_if_eq (tgt := 102) hx hb dX8_copy_87 (by decide) (fun h11 => ?_) (fun h11 => ?_)
              · have hf := it_t h11 hf
                refine lv_aload_n hx hb dX8_copy_102 rfl (lv_at hl 2 rfl) ?_
                refine lv_iconst (v := 3) hx hb dX8_copy_103 ic_3 ?_
                refine ct_V1 (q0 := 0) (ci := 8) (rest := []) C hw hA (kX8_meet l D cI cB cS n ad bf hcg _ _) cfX8_meet tg_197 tg_199 ts_yX8_meet ⟨(Nat.le_of_ble_eq_true rfl), (Nat.le_of_ble_eq_true rfl)⟩ ⟨(Nat.le_of_ble_eq_true rfl), (Nat.le_of_ble_eq_true rfl)⟩ rfl rfl rfl rfl hl.1 rfl (Nat.le_of_ble_eq_true rfl) dX8_copy_104 (fun H locs hw => ?_)
                obtain rfl := Option.some.inj hf
                exact qt_i C hr hlocks hw dX8_copy_107
              · have hf := it_f h11 hf
                refine lv_aload hx hb dX8_copy_90 (lv_at hl 0 rfl) ?_
                refine lv_iload hx hb dX8_copy_92 (lv_at hl 6 rfl) ?_
                refine lv_iload hx hb dX8_copy_94 (lv_at hl 7 rfl) ?_
                refine ct_V1 (q0 := 2 + j6) (ci := 6) (rest := []) C hw hA (kX6_holds l D cI cB cS n ad bf hcg hj6 _ _ _) cfX6_holds tg_567 tg_194 tg_195 ⟨(Nat.le_of_ble_eq_true rfl), (Nat.le_of_ble_eq_true rfl)⟩ ⟨(Nat.le_of_ble_eq_true rfl), (Nat.le_of_ble_eq_true rfl)⟩ rfl rfl rfl (cW_sh hj6) hl.1 rfl (Nat.le_of_ble_eq_true rfl) dX8_copy_96 (fun H locs hw => ?_)
                refine lv_if_ne (tgt := 108) hx hb dX8_copy_99 (by decide) (fun h12 => ?_) (fun h12 => ?_)
                · have hf := it_f h12 hf
                  refine lv_aload hx hb dX8_copy_108 (lv_at hl 1 rfl) ?_
                  refine cg_8_215 hj2 C hw dX8_copy_110 ?_
                  refine lv_iload_n hx hb dX8_copy_113 rfl (lv_at hl 4 rfl) ?_
                  refine lv_aload hx hb dX8_copy_114 (lv_at hl 0 rfl) ?_
                  refine cg_8_215 hj6 C hw dX8_copy_116 ?_
                  refine lv_iload hx hb dX8_copy_119 (lv_at hl 6 rfl) ?_
                  refine lv_iload hx hb dX8_copy_121 (lv_at hl 7 rfl) ?_
                  obtain ⟨g13, hf⟩ := gc_inv hf
                  refine cb_copy hj2 hj6 C hw g13 (Nat.le_of_ble_eq_true rfl) (Nat.le_of_ble_eq_true rfl) hl.1 dX8_copy_123 (fun H locs hw => ?_)
                  refine lv_iload hx hb dX8_copy_126 (lv_at hl 7 rfl) ?_
                  obtain rfl := Option.some.inj hf
                  exact qt_i C hr hlocks hw dX8_copy_128
                · have hf := it_t h12 hf
                  refine lv_aload_n hx hb dX8_copy_102 rfl (lv_at hl 2 rfl) ?_
                  refine lv_iconst (v := 3) hx hb dX8_copy_103 ic_3 ?_
                  refine ct_V1 (q0 := 0) (ci := 8) (rest := []) C hw hA (kX8_meet l D cI cB cS n ad bf hcg _ _) cfX8_meet tg_197 tg_199 ts_yX8_meet ⟨(Nat.le_of_ble_eq_true rfl), (Nat.le_of_ble_eq_true rfl)⟩ ⟨(Nat.le_of_ble_eq_true rfl), (Nat.le_of_ble_eq_true rfl)⟩ rfl rfl rfl rfl hl.1 rfl (Nat.le_of_ble_eq_true rfl) dX8_copy_104 (fun H locs hw => ?_)
                  obtain rfl := Option.some.inj hf
                  exact qt_i C hr hlocks hw dX8_copy_107
          · have hf := it_f h9 hf
            refine lv_aload_n hx hb dX8_copy_68 rfl (lv_at hl 2 rfl) ?_
            refine lv_iconst (v := 2) hx hb dX8_copy_69 ic_2 ?_
            refine ct_V1 (q0 := 0) (ci := 8) (rest := []) C hw hA (kX8_meet l D cI cB cS n ad bf hcg _ _) cfX8_meet tg_197 tg_199 ts_yX8_meet ⟨(Nat.le_of_ble_eq_true rfl), (Nat.le_of_ble_eq_true rfl)⟩ ⟨(Nat.le_of_ble_eq_true rfl), (Nat.le_of_ble_eq_true rfl)⟩ rfl rfl rfl rfl hl.1 rfl (Nat.le_of_ble_eq_true rfl) dX8_copy_70 (fun H locs hw => ?_)
            obtain rfl := Option.some.inj hf
            exact qt_i C hr hlocks hw dX8_copy_73
        · have hf := it_t h8 hf
          refine lv_aload_n hx hb dX8_copy_49 rfl (lv_at hl 2 rfl) ?_
          refine lv_iconst (v := 1) hx hb dX8_copy_50 ic_1 ?_
          refine ct_V1 (q0 := 0) (ci := 8) (rest := []) C hw hA (kX8_meet l D cI cB cS n ad bf hcg _ _) cfX8_meet tg_197 tg_199 ts_yX8_meet ⟨(Nat.le_of_ble_eq_true rfl), (Nat.le_of_ble_eq_true rfl)⟩ ⟨(Nat.le_of_ble_eq_true rfl), (Nat.le_of_ble_eq_true rfl)⟩ rfl rfl rfl rfl hl.1 rfl (Nat.le_of_ble_eq_true rfl) dX8_copy_51 (fun H locs hw => ?_)
          obtain rfl := Option.some.inj hf
          exact qt_i C hr hlocks hw dX8_copy_54
theorem cfX8_tell : cf yX8_tell cX8_tell 3 (some .int) 1 := ⟨tg_574, by decide +kernel, tg_1⟩
set_option maxHeartbeats 4000000 in
theorem kX8_tell (l : Launch) (D : va_G) (cI cB cS : ClassId) (n : Nat) (ad : Nat → Nat) (bf : Nat → Option Nat) (hcg : bok n ad bf) (p1 : Int32) (M : MS) : Ct l D cI cB cS yX8_tell cX8_tell 3 (some .int) 4 85 [.ref (ad 0), .int p1] (cW cI cB cS n ad bf M) (some (.int (fX8_tell n p1 M).1)) (cW cI cB cS n ad bf (fX8_tell n p1 M).2) := by
  obtain ⟨q, hf⟩ : ∃ q, fX8_tell n p1 M = q := ⟨_, rfl⟩
  rw [hf]
  refine Ct.ofW (by decide) (Nat.le_of_ble_eq_true rfl) ?_
  intro p e s m args below meth c ls C hr hlocks _ hw hl
  have hx := C.1
  have hb := C.2.1
  have hA : ∀ q, s.heap.size ≤ q → va_A (cW cI cB cS n ad bf M) s.heap.size q := fun q h => Or.inr h
  have hl : lv_has ls 3 [(0, .ref (ad 0)), (1, .int p1)] := hl
  unfold fX8_tell at hf
  refine lv_aload_n hx hb dX8_tell_0 rfl (lv_at hl 0 rfl) ?_
  refine cg_8_28 C hw dX8_tell_1 ?_
  refine lv_iload_n hx hb dX8_tell_4 rfl (lv_at hl 1 rfl) ?_
  refine ct_V1 (q0 := 11) (ci := 5) (rest := []) C hw hA (kX5_buyerOf l D cI cB cS n ad bf hcg _ _) cfX5_buyerOf tg_293 tg_294 tg_295 ⟨(Nat.le_of_ble_eq_true rfl), (Nat.le_of_ble_eq_true rfl)⟩ ⟨(Nat.le_of_ble_eq_true rfl), (Nat.le_of_ble_eq_true rfl)⟩ rfl rfl rfl rfl hl.1 rfl (Nat.le_of_ble_eq_true rfl) dX8_tell_5 (fun H locs hw => ?_)
  rcases em_o (fX5_buyerOf n p1) with h1 | ⟨j2, h1⟩
  · rw [h1]
    have hf := om_n h1 hf
    refine lv_astore_nN (lv' := [(2, .null), (0, .ref (ad 0)), (1, .int p1)]) hx hb dX8_tell_8 rfl hl (by decide) rfl (fun ls hl => ?_)
    refine lv_aload_nN hx hb dX8_tell_9 rfl (lv_at hl 0 rfl) ?_
    refine lv_ifnonnullN hx hb dX8_tell_10 ?_
    refine lv_iconst (v := (-1)) hx hb dX8_tell_13 ic_m1 ?_
    refine lv_goto (tgt := 25) hx hb dX8_tell_14 (by decide) ?_
    subst hf
    exact qt_i C hr hlocks hw dX8_tell_25
  · rw [h1]
    have hf := om_s h1 hf
    have hj2 := buyerOf_lt hcg.1 h1
    refine lv_astore_n (lv' := [(2, .ref (ad (30 + j2))), (0, .ref (ad 0)), (1, .int p1)]) hx hb dX8_tell_8 rfl hl (by decide) rfl (fun ls hl => ?_)
    refine lv_aload_n hx hb dX8_tell_9 rfl (lv_at hl 0 rfl) ?_
    refine lv_ifnonnull (tgt := 17) hx hb dX8_tell_10 (by decide) ?_
    refine lv_aload_n hx hb dX8_tell_17 rfl (lv_at hl 0 rfl) ?_
    refine lv_aload_n hx hb dX8_tell_18 rfl (lv_at hl 1 rfl) ?_
    refine cg_8_21 C hw dX8_tell_19 ?_
    refine cb_vtell (rest := []) hj2 C hw hA hcg tg_575 ⟨(Nat.le_of_ble_eq_true rfl), (Nat.le_of_ble_eq_true rfl)⟩ ⟨(Nat.le_of_ble_eq_true rfl), (Nat.le_of_ble_eq_true rfl)⟩ hl.1 (Nat.le_of_ble_eq_true rfl) dX8_tell_22 (fun H locs hw => ?_)
    subst hf
    exact qt_i C hr hlocks hw dX8_tell_25
theorem cfX8_nod : cf yX8_nod cX8_nod 3 (some .int) 1 := ⟨tg_607, by decide +kernel, tg_1⟩
set_option maxHeartbeats 4000000 in
theorem kX8_nod (l : Launch) (D : va_G) (cI cB cS : ClassId) (n : Nat) (ad : Nat → Nat) (bf : Nat → Option Nat) (hcg : bok n ad bf) (p1 : Int32) (M : MS) : Ct l D cI cB cS yX8_nod cX8_nod 3 (some .int) 2 42 [.ref (ad 0), .int p1] (cW cI cB cS n ad bf M) (some (.int (fX8_nod n p1 M).1)) (cW cI cB cS n ad bf (fX8_nod n p1 M).2) := by
  obtain ⟨q, hf⟩ : ∃ q, fX8_nod n p1 M = q := ⟨_, rfl⟩
  rw [hf]
  refine Ct.ofW (by decide) (Nat.le_of_ble_eq_true rfl) ?_
  intro p e s m args below meth c ls C hr hlocks _ hw hl
  have hx := C.1
  have hb := C.2.1
  have hA : ∀ q, s.heap.size ≤ q → va_A (cW cI cB cS n ad bf M) s.heap.size q := fun q h => Or.inr h
  have hl : lv_has ls 3 [(0, .ref (ad 0)), (1, .int p1)] := hl
  unfold fX8_nod at hf
  refine lv_aload_n hx hb dX8_nod_0 rfl (lv_at hl 0 rfl) ?_
  refine cg_8_28 C hw dX8_nod_1 ?_
  refine lv_iload_n hx hb dX8_nod_4 rfl (lv_at hl 1 rfl) ?_
  refine ct_V1 (q0 := 11) (ci := 5) (rest := []) C hw hA (kX5_buyerOf l D cI cB cS n ad bf hcg _ _) cfX5_buyerOf tg_293 tg_294 tg_295 ⟨(Nat.le_of_ble_eq_true rfl), (Nat.le_of_ble_eq_true rfl)⟩ ⟨(Nat.le_of_ble_eq_true rfl), (Nat.le_of_ble_eq_true rfl)⟩ rfl rfl rfl rfl hl.1 rfl (Nat.le_of_ble_eq_true rfl) dX8_nod_5 (fun H locs hw => ?_)
  rcases em_o (fX5_buyerOf n p1) with h1 | ⟨j2, h1⟩
  · rw [h1]
    have hf := om_n h1 hf
    refine lv_astore_nN (lv' := [(2, .null), (0, .ref (ad 0)), (1, .int p1)]) hx hb dX8_nod_8 rfl hl (by decide) rfl (fun ls hl => ?_)
    refine lv_aload_nN hx hb dX8_nod_9 rfl (lv_at hl 0 rfl) ?_
    refine lv_ifnonnullN hx hb dX8_nod_10 ?_
    refine lv_iconst (v := (-1)) hx hb dX8_nod_13 ic_m1 ?_
    refine lv_goto (tgt := 25) hx hb dX8_nod_14 (by decide) ?_
    subst hf
    exact qt_i C hr hlocks hw dX8_nod_25
  · rw [h1]
    have hf := om_s h1 hf
    have hj2 := buyerOf_lt hcg.1 h1
    refine lv_astore_n (lv' := [(2, .ref (ad (30 + j2))), (0, .ref (ad 0)), (1, .int p1)]) hx hb dX8_nod_8 rfl hl (by decide) rfl (fun ls hl => ?_)
    refine lv_aload_n hx hb dX8_nod_9 rfl (lv_at hl 0 rfl) ?_
    refine lv_ifnonnull (tgt := 17) hx hb dX8_nod_10 (by decide) ?_
    refine lv_aload_n hx hb dX8_nod_17 rfl (lv_at hl 0 rfl) ?_
    refine lv_aload_n hx hb dX8_nod_18 rfl (lv_at hl 1 rfl) ?_
    refine cg_8_21 C hw dX8_nod_19 ?_
    refine cb_vnod (rest := []) hj2 C hw hA hcg tg_608 ⟨(Nat.le_of_ble_eq_true rfl), (Nat.le_of_ble_eq_true rfl)⟩ ⟨(Nat.le_of_ble_eq_true rfl), (Nat.le_of_ble_eq_true rfl)⟩ hl.1 (Nat.le_of_ble_eq_true rfl) dX8_nod_22 (fun H locs hw => ?_)
    subst hf
    exact qt_i C hr hlocks hw dX8_nod_25
theorem cfX8_as : cf yX8_as cX8_as 5 (some .int) 2 := ⟨tg_620, by decide +kernel, tg_1⟩
set_option maxHeartbeats 4000000 in
theorem kX8_as (l : Launch) (D : va_G) (cI cB cS : ClassId) (n : Nat) (ad : Nat → Nat) (bf : Nat → Option Nat) (hcg : bok n ad bf) (p1 : Int32) (p2 : Int32) (M : MS) : Ct l D cI cB cS yX8_as cX8_as 5 (some .int) 2 42 [.ref (ad 0), .int p1, .int p2] (cW cI cB cS n ad bf M) (some (.int (fX8_as n p1 p2 M).1)) (cW cI cB cS n ad bf (fX8_as n p1 p2 M).2) := by
  obtain ⟨q, hf⟩ : ∃ q, fX8_as n p1 p2 M = q := ⟨_, rfl⟩
  rw [hf]
  refine Ct.ofW (by decide) (Nat.le_of_ble_eq_true rfl) ?_
  intro p e s m args below meth c ls C hr hlocks _ hw hl
  have hx := C.1
  have hb := C.2.1
  have hA : ∀ q, s.heap.size ≤ q → va_A (cW cI cB cS n ad bf M) s.heap.size q := fun q h => Or.inr h
  have hl : lv_has ls 5 [(0, .ref (ad 0)), (1, .int p1), (2, .int p2)] := hl
  unfold fX8_as at hf
  refine lv_aload_n hx hb dX8_as_0 rfl (lv_at hl 0 rfl) ?_
  refine lv_iconst (v := 0) hx hb dX8_as_1 ic_0 ?_
  refine cp_8_48 C hw dX8_as_2 (fun H locs hw => ?_)
  refine lv_aload_n hx hb dX8_as_5 rfl (lv_at hl 0 rfl) ?_
  refine cg_8_28 C hw dX8_as_6 ?_
  refine lv_iload_n hx hb dX8_as_9 rfl (lv_at hl 1 rfl) ?_
  refine ct_V1 (q0 := 11) (ci := 5) (rest := []) C hw hA (kX5_buyerOf l D cI cB cS n ad bf hcg _ _) cfX5_buyerOf tg_293 tg_294 tg_295 ⟨(Nat.le_of_ble_eq_true rfl), (Nat.le_of_ble_eq_true rfl)⟩ ⟨(Nat.le_of_ble_eq_true rfl), (Nat.le_of_ble_eq_true rfl)⟩ rfl rfl rfl rfl hl.1 rfl (Nat.le_of_ble_eq_true rfl) dX8_as_10 (fun H locs hw => ?_)
  rcases em_o (fX5_buyerOf n p1) with h1 | ⟨j2, h1⟩
  · rw [h1]
    have hf := om_n h1 hf
    refine lv_astore_nN (lv' := [(3, .null), (0, .ref (ad 0)), (1, .int p1), (2, .int p2)]) hx hb dX8_as_13 rfl hl (by decide) rfl (fun ls hl => ?_)
    refine lv_aload_nN hx hb dX8_as_14 rfl (lv_at hl 0 rfl) ?_
    refine lv_ifnonnullN hx hb dX8_as_15 ?_
    refine lv_iconst (v := (-1)) hx hb dX8_as_18 ic_m1 ?_
    subst hf
    exact qt_i C hr hlocks hw dX8_as_19
  · rw [h1]
    have hf := om_s h1 hf
    have hj2 := buyerOf_lt hcg.1 h1
    refine lv_astore_n (lv' := [(3, .ref (ad (30 + j2))), (0, .ref (ad 0)), (1, .int p1), (2, .int p2)]) hx hb dX8_as_13 rfl hl (by decide) rfl (fun ls hl => ?_)
    refine lv_aload_n hx hb dX8_as_14 rfl (lv_at hl 0 rfl) ?_
    refine lv_ifnonnull (tgt := 20) hx hb dX8_as_15 (by decide) ?_
    refine lv_iload_n hx hb dX8_as_20 rfl (lv_at hl 3 rfl) ?_
    refine lv_iconst (v := 3) hx hb dX8_as_21 ic_3 ?_
    refine ct_S1 (rest := []) C hw hA (kX8_isBelow l D cI cB cS _ _ _) cfX8_isBelow tg_183 tg_184 ⟨(Nat.le_of_ble_eq_true rfl), (Nat.le_of_ble_eq_true rfl)⟩ ⟨(Nat.le_of_ble_eq_true rfl), (Nat.le_of_ble_eq_true rfl)⟩ rfl hl.1 rfl (Nat.le_of_ble_eq_true rfl) dX8_as_22 (fun H locs hw => ?_)
    refine lv_if_ne (tgt := 31) hx hb dX8_as_25 (by decide) (fun h3 => ?_) (fun h3 => ?_)
    · have hf := it_f h3 hf
      refine lv_iload_n hx hb dX8_as_31 rfl (lv_at hl 3 rfl) ?_
      refine lv_if_eq (tgt := 59) hx hb dX8_as_32 (by decide) (fun h4 => ?_) (fun h4 => ?_)
      · have hf := it_t h4 hf
        refine lv_iconst (v := 1) hx hb dX8_as_59 ic_1 ?_
        refine lv_goto (tgt := 64) hx hb dX8_as_60 (by decide) ?_
        refine lv_istore (lv' := [(4, .int 1), (3, .ref (ad (30 + j2))), (0, .ref (ad 0)), (1, .int p1), (2, .int p2)]) hx hb dX8_as_64 hl (by decide) rfl (fun ls hl => ?_)
        refine lv_iload hx hb dX8_as_66 (lv_at hl 0 rfl) ?_
        refine lv_if_eq (tgt := 75) hx hb dX8_as_68 (by decide) (fun hz => absurd hz (by decide)) (fun _ => ?_)
        refine lv_iconst (v := 1) hx hb dX8_as_71 ic_1 ?_
        refine lv_goto (tgt := 80) hx hb dX8_as_72 (by decide) ?_
        subst hf
        exact qt_i C hr hlocks hw dX8_as_80
      · have hf := it_f h4 hf
        refine lv_iload_n hx hb dX8_as_35 rfl (lv_at hl 3 rfl) ?_
        refine lv_iconst (v := 1) hx hb dX8_as_36 ic_1 ?_
        refine lv_icmp_ne (tgt := 47) hx hb dX8_as_37 (by decide) (fun h5 => ?_) (fun h5 => ?_)
        · have hf := it_f h5 hf
          refine lv_iload_n hx hb dX8_as_47 rfl (lv_at hl 3 rfl) ?_
          refine lv_iconst (v := 2) hx hb dX8_as_48 ic_2 ?_
          refine lv_icmp_ne (tgt := 63) hx hb dX8_as_49 (by decide) (fun h6 => ?_) (fun h6 => ?_)
          · have hf := it_f h6 hf
            refine lv_iconst (v := 0) hx hb dX8_as_63 ic_0 ?_
            refine lv_istore (lv' := [(4, .int 0), (3, .ref (ad (30 + j2))), (0, .ref (ad 0)), (1, .int p1), (2, .int p2)]) hx hb dX8_as_64 hl (by decide) rfl (fun ls hl => ?_)
            refine lv_iload hx hb dX8_as_66 (lv_at hl 0 rfl) ?_
            refine lv_if_eq (tgt := 75) hx hb dX8_as_68 (by decide) (fun _ => ?_) (fun hz => absurd hz (by decide))
            refine lv_aload_n hx hb dX8_as_75 rfl (lv_at hl 2 rfl) ?_
            refine lv_iconst (v := 2) hx hb dX8_as_76 ic_2 ?_
            refine ct_V1 (q0 := 0) (ci := 8) (rest := []) C hw hA (kX8_meet l D cI cB cS n ad bf hcg _ _) cfX8_meet tg_197 tg_199 ts_yX8_meet ⟨(Nat.le_of_ble_eq_true rfl), (Nat.le_of_ble_eq_true rfl)⟩ ⟨(Nat.le_of_ble_eq_true rfl), (Nat.le_of_ble_eq_true rfl)⟩ rfl rfl rfl rfl hl.1 rfl (Nat.le_of_ble_eq_true rfl) dX8_as_77 (fun H locs hw => ?_)
            subst hf
            exact qt_i C hr hlocks hw dX8_as_80
          · have hf := it_t h6 hf
            refine lv_aload_n hx hb dX8_as_52 rfl (lv_at hl 0 rfl) ?_
            refine cb_instNervous hj2 C hw dX8_as_53 ?_
            refine lv_if_eq (tgt := 63) hx hb dX8_as_56 (by decide) (fun h7 => ?_) (fun h7 => ?_)
            · have hf := it_t h7 hf
              refine lv_iconst (v := 0) hx hb dX8_as_63 ic_0 ?_
              refine lv_istore (lv' := [(4, .int 0), (3, .ref (ad (30 + j2))), (0, .ref (ad 0)), (1, .int p1), (2, .int p2)]) hx hb dX8_as_64 hl (by decide) rfl (fun ls hl => ?_)
              refine lv_iload hx hb dX8_as_66 (lv_at hl 0 rfl) ?_
              refine lv_if_eq (tgt := 75) hx hb dX8_as_68 (by decide) (fun _ => ?_) (fun hz => absurd hz (by decide))
              refine lv_aload_n hx hb dX8_as_75 rfl (lv_at hl 2 rfl) ?_
              refine lv_iconst (v := 2) hx hb dX8_as_76 ic_2 ?_
              refine ct_V1 (q0 := 0) (ci := 8) (rest := []) C hw hA (kX8_meet l D cI cB cS n ad bf hcg _ _) cfX8_meet tg_197 tg_199 ts_yX8_meet ⟨(Nat.le_of_ble_eq_true rfl), (Nat.le_of_ble_eq_true rfl)⟩ ⟨(Nat.le_of_ble_eq_true rfl), (Nat.le_of_ble_eq_true rfl)⟩ rfl rfl rfl rfl hl.1 rfl (Nat.le_of_ble_eq_true rfl) dX8_as_77 (fun H locs hw => ?_)
              subst hf
              exact qt_i C hr hlocks hw dX8_as_80
            · have hf := it_f h7 hf
              refine lv_iconst (v := 1) hx hb dX8_as_59 ic_1 ?_
              refine lv_goto (tgt := 64) hx hb dX8_as_60 (by decide) ?_
              refine lv_istore (lv' := [(4, .int 1), (3, .ref (ad (30 + j2))), (0, .ref (ad 0)), (1, .int p1), (2, .int p2)]) hx hb dX8_as_64 hl (by decide) rfl (fun ls hl => ?_)
              refine lv_iload hx hb dX8_as_66 (lv_at hl 0 rfl) ?_
              refine lv_if_eq (tgt := 75) hx hb dX8_as_68 (by decide) (fun hz => absurd hz (by decide)) (fun _ => ?_)
              refine lv_iconst (v := 1) hx hb dX8_as_71 ic_1 ?_
              refine lv_goto (tgt := 80) hx hb dX8_as_72 (by decide) ?_
              subst hf
              exact qt_i C hr hlocks hw dX8_as_80
        · have hf := it_t h5 hf
          refine lv_aload_n hx hb dX8_as_40 rfl (lv_at hl 0 rfl) ?_
          refine cb_instHatted hj2 C hw dX8_as_41 ?_
          refine lv_if_ne (tgt := 59) hx hb dX8_as_44 (by decide) (fun h8 => ?_) (fun h8 => ?_)
          · have hf := it_f h8 hf
            refine lv_iconst (v := 1) hx hb dX8_as_59 ic_1 ?_
            refine lv_goto (tgt := 64) hx hb dX8_as_60 (by decide) ?_
            refine lv_istore (lv' := [(4, .int 1), (3, .ref (ad (30 + j2))), (0, .ref (ad 0)), (1, .int p1), (2, .int p2)]) hx hb dX8_as_64 hl (by decide) rfl (fun ls hl => ?_)
            refine lv_iload hx hb dX8_as_66 (lv_at hl 0 rfl) ?_
            refine lv_if_eq (tgt := 75) hx hb dX8_as_68 (by decide) (fun hz => absurd hz (by decide)) (fun _ => ?_)
            refine lv_iconst (v := 1) hx hb dX8_as_71 ic_1 ?_
            refine lv_goto (tgt := 80) hx hb dX8_as_72 (by decide) ?_
            subst hf
            exact qt_i C hr hlocks hw dX8_as_80
          · have hf := it_t h8 hf
            refine lv_iload_n hx hb dX8_as_47 rfl (lv_at hl 3 rfl) ?_
            refine lv_iconst (v := 2) hx hb dX8_as_48 ic_2 ?_
            refine lv_icmp_ne (tgt := 63) hx hb dX8_as_49 (by decide) (fun h9 => ?_) (fun h9 => ?_)
            · have hf := it_f h9 hf
              refine lv_iconst (v := 0) hx hb dX8_as_63 ic_0 ?_
              refine lv_istore (lv' := [(4, .int 0), (3, .ref (ad (30 + j2))), (0, .ref (ad 0)), (1, .int p1), (2, .int p2)]) hx hb dX8_as_64 hl (by decide) rfl (fun ls hl => ?_)
              refine lv_iload hx hb dX8_as_66 (lv_at hl 0 rfl) ?_
              refine lv_if_eq (tgt := 75) hx hb dX8_as_68 (by decide) (fun _ => ?_) (fun hz => absurd hz (by decide))
              refine lv_aload_n hx hb dX8_as_75 rfl (lv_at hl 2 rfl) ?_
              refine lv_iconst (v := 2) hx hb dX8_as_76 ic_2 ?_
              refine ct_V1 (q0 := 0) (ci := 8) (rest := []) C hw hA (kX8_meet l D cI cB cS n ad bf hcg _ _) cfX8_meet tg_197 tg_199 ts_yX8_meet ⟨(Nat.le_of_ble_eq_true rfl), (Nat.le_of_ble_eq_true rfl)⟩ ⟨(Nat.le_of_ble_eq_true rfl), (Nat.le_of_ble_eq_true rfl)⟩ rfl rfl rfl rfl hl.1 rfl (Nat.le_of_ble_eq_true rfl) dX8_as_77 (fun H locs hw => ?_)
              subst hf
              exact qt_i C hr hlocks hw dX8_as_80
            · have hf := it_t h9 hf
              refine lv_aload_n hx hb dX8_as_52 rfl (lv_at hl 0 rfl) ?_
              refine cb_instNervous hj2 C hw dX8_as_53 ?_
              refine lv_if_eq (tgt := 63) hx hb dX8_as_56 (by decide) (fun h10 => ?_) (fun h10 => ?_)
              · have hf := it_t h10 hf
                refine lv_iconst (v := 0) hx hb dX8_as_63 ic_0 ?_
                refine lv_istore (lv' := [(4, .int 0), (3, .ref (ad (30 + j2))), (0, .ref (ad 0)), (1, .int p1), (2, .int p2)]) hx hb dX8_as_64 hl (by decide) rfl (fun ls hl => ?_)
                refine lv_iload hx hb dX8_as_66 (lv_at hl 0 rfl) ?_
                refine lv_if_eq (tgt := 75) hx hb dX8_as_68 (by decide) (fun _ => ?_) (fun hz => absurd hz (by decide))
                refine lv_aload_n hx hb dX8_as_75 rfl (lv_at hl 2 rfl) ?_
                refine lv_iconst (v := 2) hx hb dX8_as_76 ic_2 ?_
                refine ct_V1 (q0 := 0) (ci := 8) (rest := []) C hw hA (kX8_meet l D cI cB cS n ad bf hcg _ _) cfX8_meet tg_197 tg_199 ts_yX8_meet ⟨(Nat.le_of_ble_eq_true rfl), (Nat.le_of_ble_eq_true rfl)⟩ ⟨(Nat.le_of_ble_eq_true rfl), (Nat.le_of_ble_eq_true rfl)⟩ rfl rfl rfl rfl hl.1 rfl (Nat.le_of_ble_eq_true rfl) dX8_as_77 (fun H locs hw => ?_)
                subst hf
                exact qt_i C hr hlocks hw dX8_as_80
              · have hf := it_f h10 hf
                refine lv_iconst (v := 1) hx hb dX8_as_59 ic_1 ?_
                refine lv_goto (tgt := 64) hx hb dX8_as_60 (by decide) ?_
                refine lv_istore (lv' := [(4, .int 1), (3, .ref (ad (30 + j2))), (0, .ref (ad 0)), (1, .int p1), (2, .int p2)]) hx hb dX8_as_64 hl (by decide) rfl (fun ls hl => ?_)
                refine lv_iload hx hb dX8_as_66 (lv_at hl 0 rfl) ?_
                refine lv_if_eq (tgt := 75) hx hb dX8_as_68 (by decide) (fun hz => absurd hz (by decide)) (fun _ => ?_)
                refine lv_iconst (v := 1) hx hb dX8_as_71 ic_1 ?_
                refine lv_goto (tgt := 80) hx hb dX8_as_72 (by decide) ?_
                subst hf
                exact qt_i C hr hlocks hw dX8_as_80
    · have hf := it_t h3 hf
      refine lv_bipush (v := (-2)) hx hb dX8_as_28 ib_m2 ?_
      subst hf
      exact qt_i C hr hlocks hw dX8_as_30
