theorem cfX9_values : cf yX9_values cX9_values 8 (some .int) 3 := ⟨tg_924, by decide +kernel, tg_7⟩
set_option maxHeartbeats 4000000 in
theorem wX9_values_44 {p : Program} {l : Launch} {e : Env} {s : State} {m : MethodId} {args : Array Value} {below : List Frame} {meth : Method} {c : Code} {D : va_G} {cI cB cS : ClassId} {a0 : Nat} {am : Nat → Nat} {ws0 : va_W} {v1 : Int32} {v2 : Int32} {v3 : Int32} {v4 : Int32} (C : cx p c cX9_values 8 s args m RX9 D cI cB cS) (hr : meth.sig.returnType = (some .int)) (hlocks : meth.locks = false) (hA : ∀ q, s.heap.size ≤ q → va_A ws0 s.heap.size q) {k : Int32 → Int32 → MS → Option (Int32 × MS)} {q : (Int32 × MS)}
    (hcg : True) : ∀ (fu : Nat) (v5 : Int32) (v6 : Int32) (v7 : Int32) (M : MS) (H : Heap) (locs : List Loc) (ls : Array Slot), wd D (va_A ws0 s.heap.size) s.heap (mW cI a0 am M) H locs → lv_has ls 8 [(0, .ref a0), (1, .int v1), (2, .int v2), (3, .int v3), (4, .int v4), (5, .int v5), (6, .int v6), (7, .int v7)] → fX9_values_44 fu k v1 v2 v3 v5 v6 v7 M = some q →
    (∀ (x5 : Int32) (x6 : Int32) (M1 : MS) (H : Heap) (locs : List Loc) (ls : Array Slot), wd D (va_A ws0 s.heap.size) s.heap (mW cI a0 am M1) H locs → lv_has ls 8 [(0, .ref a0), (1, .int v1), (2, .int v2), (3, .int v3), (4, .int v4), (5, .int x5), (6, .int x6)] → k x5 x6 M1 = some q → W p l e { frames := 6, cells := 0, slots := 0, locals := 137 } s m args below meth c H locs 0 0 (Qt D below args s ws0 (some (.int q.1)) (mW cI a0 am q.2)) (F0 m 94 ls [])) →
    W p l e { frames := 6, cells := 0, slots := 0, locals := 137 } s m args below meth c H locs 0 0 (Qt D below args s ws0 (some (.int q.1)) (mW cI a0 am q.2)) (F0 m 44 ls []) := by
  have hx := C.1
  have hb := C.2.1
  intro fu
  induction fu with
  | zero => intro v5 v6 v7 M H locs ls hw hl hf hk; rw [fX9_values_44] at hf; cases hf
  | succ fu ih =>
      intro v5 v6 v7 M H locs ls hw hl hf hk
      rw [fX9_values_44] at hf
      refine lv_iload hx hb dX9_values_44 (lv_at hl 7 rfl) ?_
      refine lv_bipush (v := 99) hx hb dX9_values_46 ib_99 ?_
      refine lv_icmp_gt (tgt := 94) hx hb dX9_values_48 (by decide) (fun h5 => ?_) (fun h5 => ?_)
      · have hf := it_t h5 hf
        exact hk _ _ _ _ _ _ hw (lv_sub hl [0, 1, 2, 3, 4, 5, 6] rfl) hf
      · have hf := it_f h5 hf
        refine lv_aload_n hx hb dX9_values_51 rfl (lv_at hl 0 rfl) ?_
        refine mg_7 C hw dX9_values_52 ?_
        refine lv_iconst (v := 4) hx hb dX9_values_55 ic_4 ?_
        refine lv_iload_n hx hb dX9_values_56 rfl (lv_at hl 1 rfl) ?_
        refine lv_imul hx hb dX9_values_57 ?_
        refine lv_iload_n hx hb dX9_values_58 rfl (lv_at hl 2 rfl) ?_
        refine lv_iadd hx hb dX9_values_59 ?_
        refine lv_iload hx hb dX9_values_60 (lv_at hl 7 rfl) ?_
        obtain ⟨g6, hf⟩ := gd_inv hf
        refine ms_7 C hw g6 dX9_values_62 (fun H locs hw => ?_)
        refine lv_aload_n hx hb dX9_values_63 rfl (lv_at hl 0 rfl) ?_
        obtain ⟨r7, e8, hf⟩ := bd hf
        refine ct_V1 (q0 := 0) (ci := 9) (rest := []) C hw hA (kX9_areSo l D cI cB cS a0 am e8) cfX9_areSo tg_925 tg_927 ts_yX9_areSo ⟨(Nat.le_of_ble_eq_true rfl), (Nat.le_of_ble_eq_true rfl)⟩ ⟨(Nat.le_of_ble_eq_true rfl), (Nat.le_of_ble_eq_true rfl)⟩ rfl rfl rfl rfl hl.1 rfl (Nat.le_of_ble_eq_true rfl) dX9_values_64 (fun H locs hw => ?_)
        refine lv_if_eq (tgt := 88) hx hb dX9_values_67 (by decide) (fun h9 => ?_) (fun h9 => ?_)
        · have hf := it_t h9 hf
          refine lv_iinc (v := (v7 + 1)) (lv' := [(7, .int (v7 + 1)), (0, .ref a0), (1, .int v1), (2, .int v2), (3, .int v3), (4, .int v4), (5, .int v5), (6, .int v6)]) hx hb dX9_values_88 hl (k := 7) rfl (iv_1 _) (by decide) rfl (fun ls hl => ?_)
          refine lv_goto (tgt := 44) hx hb dX9_values_91 (by decide) ?_
          exact ih _ _ _ _ _ _ _ hw (lv_sub hl [1, 2, 3, 4, 5, 6, 7, 0] rfl) hf hk
        · have hf := it_f h9 hf
          refine lv_iload hx hb dX9_values_70 (lv_at hl 5 rfl) ?_
          refine lv_iload_n hx hb dX9_values_72 rfl (lv_at hl 3 rfl) ?_
          refine lv_icmp_ne (tgt := 81) hx hb dX9_values_73 (by decide) (fun h10 => ?_) (fun h10 => ?_)
          · have hf := it_f h10 hf
            refine lv_iload hx hb dX9_values_81 (lv_at hl 6 rfl) ?_
            refine lv_istore (lv' := [(6, .int v6), (0, .ref a0), (1, .int v1), (2, .int v2), (3, .int v3), (4, .int v4), (5, .int v5), (7, .int v7)]) hx hb dX9_values_83 hl (by decide) rfl (fun ls hl => ?_)
            refine lv_iinc (v := (v5 + 1)) (lv' := [(5, .int (v5 + 1)), (6, .int v6), (0, .ref a0), (1, .int v1), (2, .int v2), (3, .int v3), (4, .int v4), (7, .int v7)]) hx hb dX9_values_85 hl (k := 6) rfl (iv_1 _) (by decide) rfl (fun ls hl => ?_)
            refine lv_iinc (v := (v7 + 1)) (lv' := [(7, .int (v7 + 1)), (5, .int (v5 + 1)), (6, .int v6), (0, .ref a0), (1, .int v1), (2, .int v2), (3, .int v3), (4, .int v4)]) hx hb dX9_values_88 hl (k := 7) rfl (iv_1 _) (by decide) rfl (fun ls hl => ?_)
            refine lv_goto (tgt := 44) hx hb dX9_values_91 (by decide) ?_
            exact ih _ _ _ _ _ _ _ hw (lv_sub hl [3, 4, 5, 6, 7, 1, 2, 0] rfl) hf hk
          · have hf := it_t h10 hf
            refine lv_iload hx hb dX9_values_76 (lv_at hl 7 rfl) ?_
            refine lv_goto (tgt := 83) hx hb dX9_values_78 (by decide) ?_
            refine lv_istore (lv' := [(6, .int v7), (0, .ref a0), (1, .int v1), (2, .int v2), (3, .int v3), (4, .int v4), (5, .int v5), (7, .int v7)]) hx hb dX9_values_83 hl (by decide) rfl (fun ls hl => ?_)
            refine lv_iinc (v := (v5 + 1)) (lv' := [(5, .int (v5 + 1)), (6, .int v7), (0, .ref a0), (1, .int v1), (2, .int v2), (3, .int v3), (4, .int v4), (7, .int v7)]) hx hb dX9_values_85 hl (k := 6) rfl (iv_1 _) (by decide) rfl (fun ls hl => ?_)
            refine lv_iinc (v := (v7 + 1)) (lv' := [(7, .int (v7 + 1)), (5, .int (v5 + 1)), (6, .int v7), (0, .ref a0), (1, .int v1), (2, .int v2), (3, .int v3), (4, .int v4)]) hx hb dX9_values_88 hl (k := 7) rfl (iv_1 _) (by decide) rfl (fun ls hl => ?_)
            refine lv_goto (tgt := 44) hx hb dX9_values_91 (by decide) ?_
            exact ih _ _ _ _ _ _ _ hw (lv_sub hl [3, 4, 5, 6, 7, 1, 2, 0] rfl) hf hk
set_option maxHeartbeats 4000000 in
theorem kX9_values (l : Launch) (D : va_G) (cI cB cS : ClassId) (a0 : Nat) (am : Nat → Nat) {p1 : Int32} {p2 : Int32} {p3 : Int32} {M : MS} {q : (Int32 × MS)} (hf : fX9_values p1 p2 p3 M = some q) : Ct l D cI cB cS yX9_values cX9_values 8 (some .int) 6 137 [.ref a0, .int p1, .int p2, .int p3] (mW cI a0 am M) (some (.int q.1)) (mW cI a0 am q.2) := by
  refine Ct.ofW (by decide) (Nat.le_of_ble_eq_true rfl) ?_
  intro p e s m args below meth c ls C hr hlocks _ hw hl
  have hx := C.1
  have hb := C.2.1
  have hA : ∀ q, s.heap.size ≤ q → va_A (mW cI a0 am M) s.heap.size q := fun q h => Or.inr h
  have hcg := trivial
  have hl : lv_has ls 8 [(0, .ref a0), (1, .int p1), (2, .int p2), (3, .int p3)] := hl
  unfold fX9_values at hf
  refine lv_aload_n hx hb dX9_values_0 rfl (lv_at hl 0 rfl) ?_
  refine lv_iload_n hx hb dX9_values_1 rfl (lv_at hl 1 rfl) ?_
  refine ct_V1 (q0 := 0) (ci := 9) (rest := []) C hw hA (kX9_noBuyer l D cI cB cS a0 am _ _) cfX9_noBuyer tg_786 tg_788 ts_yX9_noBuyer ⟨(Nat.le_of_ble_eq_true rfl), (Nat.le_of_ble_eq_true rfl)⟩ ⟨(Nat.le_of_ble_eq_true rfl), (Nat.le_of_ble_eq_true rfl)⟩ rfl rfl rfl rfl hl.1 rfl (Nat.le_of_ble_eq_true rfl) dX9_values_2 (fun H locs hw => ?_)
  refine lv_if_ne (tgt := 20) hx hb dX9_values_5 (by decide) (fun h1 => ?_) (fun h1 => ?_)
  · have hf := it_f h1 hf
    refine lv_iconst (v := (-1)) hx hb dX9_values_20 ic_m1 ?_
    obtain rfl := Option.some.inj hf
    exact qt_i C hr hlocks hw dX9_values_21
  · have hf := it_t h1 hf
    refine lv_iload_n hx hb dX9_values_8 rfl (lv_at hl 2 rfl) ?_
    refine ct_S1 (rest := []) C hw hA (kX9_noLot l D cI cB cS _ _) cfX9_noLot tg_809 tg_810 ⟨(Nat.le_of_ble_eq_true rfl), (Nat.le_of_ble_eq_true rfl)⟩ ⟨(Nat.le_of_ble_eq_true rfl), (Nat.le_of_ble_eq_true rfl)⟩ rfl hl.1 rfl (Nat.le_of_ble_eq_true rfl) dX9_values_9 (fun H locs hw => ?_)
    refine lv_if_ne (tgt := 20) hx hb dX9_values_12 (by decide) (fun h2 => ?_) (fun h2 => ?_)
    · have hf := it_f h2 hf
      refine lv_iconst (v := (-1)) hx hb dX9_values_20 ic_m1 ?_
      obtain rfl := Option.some.inj hf
      exact qt_i C hr hlocks hw dX9_values_21
    · have hf := it_t h2 hf
      refine lv_iload_n hx hb dX9_values_15 rfl (lv_at hl 3 rfl) ?_
      refine lv_iconst (v := (-1)) hx hb dX9_values_16 ic_m1 ?_
      refine lv_icmp_ge (tgt := 22) hx hb dX9_values_17 (by decide) (fun h3 => ?_) (fun h3 => ?_)
      · have hf := it_t h3 hf
        refine lv_aload_n hx hb dX9_values_22 rfl (lv_at hl 0 rfl) ?_
        refine mg_7 C hw dX9_values_23 ?_
        refine lv_iconst (v := 4) hx hb dX9_values_26 ic_4 ?_
        refine lv_iload_n hx hb dX9_values_27 rfl (lv_at hl 1 rfl) ?_
        refine lv_imul hx hb dX9_values_28 ?_
        refine lv_iload_n hx hb dX9_values_29 rfl (lv_at hl 2 rfl) ?_
        refine lv_iadd hx hb dX9_values_30 ?_
        obtain ⟨g4, hf⟩ := gd_inv hf
        refine ml_7 C hw g4 dX9_values_31 ?_
        refine lv_istore (lv' := [(4, .int (M 7 ((4 * p1) + p2).toNatClampNeg)), (0, .ref a0), (1, .int p1), (2, .int p2), (3, .int p3)]) hx hb dX9_values_32 hl (by decide) rfl (fun ls hl => ?_)
        refine lv_iconst (v := 0) hx hb dX9_values_34 ic_0 ?_
        refine lv_istore (lv' := [(5, .int 0), (4, .int (M 7 ((4 * p1) + p2).toNatClampNeg)), (0, .ref a0), (1, .int p1), (2, .int p2), (3, .int p3)]) hx hb dX9_values_35 hl (by decide) rfl (fun ls hl => ?_)
        refine lv_bipush (v := (-9)) hx hb dX9_values_37 ib_m9 ?_
        refine lv_istore (lv' := [(6, .int (-9)), (5, .int 0), (4, .int (M 7 ((4 * p1) + p2).toNatClampNeg)), (0, .ref a0), (1, .int p1), (2, .int p2), (3, .int p3)]) hx hb dX9_values_39 hl (by decide) rfl (fun ls hl => ?_)
        refine lv_iconst (v := 0) hx hb dX9_values_41 ic_0 ?_
        refine lv_istore (lv' := [(7, .int 0), (6, .int (-9)), (5, .int 0), (4, .int (M 7 ((4 * p1) + p2).toNatClampNeg)), (0, .ref a0), (1, .int p1), (2, .int p2), (3, .int p3)]) hx hb dX9_values_42 hl (by decide) rfl (fun ls hl => ?_)
        refine wX9_values_44 C hr hlocks hA hcg 300 _ _ _ _ _ _ _ hw (lv_sub hl [4, 5, 6, 7, 3, 2, 1, 0] rfl) hf (fun x11 x12 M13 H locs ls hw hl hf => ?_)
        refine lv_aload_n hx hb dX9_values_94 rfl (lv_at hl 0 rfl) ?_
        refine mg_7 C hw dX9_values_95 ?_
        refine lv_iconst (v := 4) hx hb dX9_values_98 ic_4 ?_
        refine lv_iload_n hx hb dX9_values_99 rfl (lv_at hl 1 rfl) ?_
        refine lv_imul hx hb dX9_values_100 ?_
        refine lv_iload_n hx hb dX9_values_101 rfl (lv_at hl 2 rfl) ?_
        refine lv_iadd hx hb dX9_values_102 ?_
        refine lv_iload hx hb dX9_values_103 (lv_at hl 4 rfl) ?_
        obtain ⟨g14, hf⟩ := gd_inv hf
        refine ms_7 C hw g14 dX9_values_105 (fun H locs hw => ?_)
        refine lv_iload_n hx hb dX9_values_106 rfl (lv_at hl 3 rfl) ?_
        refine lv_if_ge (tgt := 115) hx hb dX9_values_107 (by decide) (fun h15 => ?_) (fun h15 => ?_)
        · have hf := it_t h15 hf
          refine lv_iload hx hb dX9_values_115 (lv_at hl 6 rfl) ?_
          obtain rfl := Option.some.inj hf
          exact qt_i C hr hlocks hw dX9_values_117
        · have hf := it_f h15 hf
          refine lv_iload hx hb dX9_values_110 (lv_at hl 5 rfl) ?_
          refine lv_goto (tgt := 117) hx hb dX9_values_112 (by decide) ?_
          obtain rfl := Option.some.inj hf
          exact qt_i C hr hlocks hw dX9_values_117
      · have hf := it_f h3 hf
        refine lv_iconst (v := (-1)) hx hb dX9_values_20 ic_m1 ?_
        obtain rfl := Option.some.inj hf
        exact qt_i C hr hlocks hw dX9_values_21
theorem cfX9_places : cf yX9_places cX9_places 6 (some .int) 1 := ⟨tg_932, by decide +kernel, tg_7⟩
set_option maxHeartbeats 4000000 in
theorem wX9_places_22 {p : Program} {l : Launch} {e : Env} {s : State} {m : MethodId} {args : Array Value} {below : List Frame} {meth : Method} {c : Code} {D : va_G} {cI cB cS : ClassId} {a0 : Nat} {am : Nat → Nat} {ws0 : va_W} {v1 : Int32} {v2 : Int32} (C : cx p c cX9_places 6 s args m RX9 D cI cB cS) (hr : meth.sig.returnType = (some .int)) (hlocks : meth.locks = false) (hA : ∀ q, s.heap.size ≤ q → va_A ws0 s.heap.size q) {k : Int32 → MS → Option (Int32 × MS)} {q : (Int32 × MS)}
    (hcg : True) : ∀ (fu : Nat) (v3 : Int32) (v4 : Int32) (M : MS) (H : Heap) (locs : List Loc) (ls : Array Slot), wd D (va_A ws0 s.heap.size) s.heap (mW cI a0 am M) H locs → lv_has ls 6 [(0, .ref a0), (1, .int v1), (2, .int v2), (3, .int v3), (4, .int v4)] → fX9_places_22 fu k v1 v2 v3 v4 M = some q →
    (∀ (x3 : Int32) (M1 : MS) (H : Heap) (locs : List Loc) (ls : Array Slot), wd D (va_A ws0 s.heap.size) s.heap (mW cI a0 am M1) H locs → lv_has ls 6 [(3, .int x3)] → k x3 M1 = some q → W p l e { frames := 6, cells := 0, slots := 0, locals := 137 } s m args below meth c H locs 0 0 (Qt D below args s ws0 (some (.int q.1)) (mW cI a0 am q.2)) (F0 m 94 ls [])) →
    W p l e { frames := 6, cells := 0, slots := 0, locals := 137 } s m args below meth c H locs 0 0 (Qt D below args s ws0 (some (.int q.1)) (mW cI a0 am q.2)) (F0 m 22 ls []) := by
  have hx := C.1
  have hb := C.2.1
  intro fu
  induction fu with
  | zero => intro v3 v4 M H locs ls hw hl hf hk; rw [fX9_places_22] at hf; cases hf
  | succ fu ih =>
      intro v3 v4 M H locs ls hw hl hf hk
      rw [fX9_places_22] at hf
      refine lv_iload hx hb dX9_places_22 (lv_at hl 4 rfl) ?_
      refine lv_aload_n hx hb dX9_places_24 rfl (lv_at hl 0 rfl) ?_
      refine mg_1 C hw dX9_places_25 ?_
      refine lv_aload_n hx hb dX9_places_28 rfl (lv_at hl 0 rfl) ?_
      refine mg_2 C hw dX9_places_29 ?_
      refine lv_imul hx hb dX9_places_32 ?_
      refine lv_icmp_ge (tgt := 94) hx hb dX9_places_33 (by decide) (fun h3 => ?_) (fun h3 => ?_)
      · have hf := it_t h3 hf
        exact hk _ _ _ _ _ hw (lv_sub hl [3] rfl) hf
      · have hf := it_f h3 hf
        refine lv_aload_n hx hb dX9_places_36 rfl (lv_at hl 0 rfl) ?_
        refine lv_iload hx hb dX9_places_37 (lv_at hl 4 rfl) ?_
        obtain ⟨r4, e5, hf⟩ := bd hf
        refine ct_V1 (q0 := 0) (ci := 9) (rest := []) C hw hA (kX9_sitterIn l D cI cB cS a0 am e5) cfX9_sitterIn tg_829 tg_831 ts_yX9_sitterIn ⟨(Nat.le_of_ble_eq_true rfl), (Nat.le_of_ble_eq_true rfl)⟩ ⟨(Nat.le_of_ble_eq_true rfl), (Nat.le_of_ble_eq_true rfl)⟩ rfl rfl rfl rfl hl.1 rfl (Nat.le_of_ble_eq_true rfl) dX9_places_39 (fun H locs hw => ?_)
        refine lv_istore (lv' := [(5, .int r4), (0, .ref a0), (1, .int v1), (2, .int v2), (3, .int v3), (4, .int v4)]) hx hb dX9_places_42 hl (by decide) rfl (fun ls hl => ?_)
        refine lv_iload hx hb dX9_places_44 (lv_at hl 0 rfl) ?_
        refine lv_if_lt (tgt := 55) hx hb dX9_places_46 (by decide) (fun h6 => ?_) (fun h6 => ?_)
        · have hf := it_t h6 hf
          refine lv_aload_n hx hb dX9_places_55 rfl (lv_at hl 1 rfl) ?_
          refine mg_6 C hw dX9_places_56 ?_
          refine lv_iload_n hx hb dX9_places_59 rfl (lv_at hl 2 rfl) ?_
          refine lv_iload hx hb dX9_places_60 (lv_at hl 5 rfl) ?_
          obtain ⟨g7, hf⟩ := gd_inv hf
          refine ms_6 C hw g7 dX9_places_62 (fun H locs hw => ?_)
          refine lv_iload_n hx hb dX9_places_63 rfl (lv_at hl 4 rfl) ?_
          refine lv_aload_n hx hb dX9_places_64 rfl (lv_at hl 1 rfl) ?_
          obtain ⟨r8, e9, hf⟩ := bd hf
          refine ct_V1 (q0 := 0) (ci := 9) (rest := [.int v3]) C hw hA (kX9_areSo l D cI cB cS a0 am e9) cfX9_areSo tg_925 tg_927 ts_yX9_areSo ⟨(Nat.le_of_ble_eq_true rfl), (Nat.le_of_ble_eq_true rfl)⟩ ⟨(Nat.le_of_ble_eq_true rfl), (Nat.le_of_ble_eq_true rfl)⟩ rfl rfl rfl rfl hl.1 rfl (Nat.le_of_ble_eq_true rfl) dX9_places_65 (fun H locs hw => ?_)
          refine lv_if_eq (tgt := 78) hx hb dX9_places_68 (by decide) (fun h10 => ?_) (fun h10 => ?_)
          · have hf := it_t h10 hf
            refine lv_iconst (v := 0) hx hb dX9_places_78 ic_0 ?_
            refine lv_ior hx hb dX9_places_79 ?_
            refine lv_istore_n (lv' := [(3, .int (v3 ||| 0)), (5, .int r4), (0, .ref a0), (1, .int v1), (2, .int v2), (4, .int v4)]) hx hb dX9_places_80 rfl hl (by decide) rfl (fun ls hl => ?_)
            refine lv_aload_n hx hb dX9_places_81 rfl (lv_at hl 2 rfl) ?_
            refine mg_6 C hw dX9_places_82 ?_
            refine lv_iload_n hx hb dX9_places_85 rfl (lv_at hl 3 rfl) ?_
            refine lv_iload_n hx hb dX9_places_86 rfl (lv_at hl 4 rfl) ?_
            obtain ⟨g11, hf⟩ := gd_inv hf
            refine ms_6 C hw g11 dX9_places_87 (fun H locs hw => ?_)
            refine lv_iinc (v := (v4 + 1)) (lv' := [(4, .int (v4 + 1)), (3, .int (v3 ||| 0)), (5, .int r4), (0, .ref a0), (1, .int v1), (2, .int v2)]) hx hb dX9_places_88 hl (k := 5) rfl (iv_1 _) (by decide) rfl (fun ls hl => ?_)
            refine lv_goto (tgt := 22) hx hb dX9_places_91 (by decide) ?_
            exact ih _ _ _ _ _ _ hw (lv_sub hl [3, 4, 5, 1, 0] rfl) hf hk
          · have hf := it_f h10 hf
            refine lv_iconst (v := 1) hx hb dX9_places_71 ic_1 ?_
            refine lv_iload hx hb dX9_places_72 (lv_at hl 5 rfl) ?_
            refine lv_ishl hx hb dX9_places_74 ?_
            refine lv_goto (tgt := 79) hx hb dX9_places_75 (by decide) ?_
            refine lv_ior hx hb dX9_places_79 ?_
            refine lv_istore_n (lv' := [(3, .int (v3 ||| ((1 : Int32) <<< (v4 &&& 31)))), (5, .int r4), (0, .ref a0), (1, .int v1), (2, .int v2), (4, .int v4)]) hx hb dX9_places_80 rfl hl (by decide) rfl (fun ls hl => ?_)
            refine lv_aload_n hx hb dX9_places_81 rfl (lv_at hl 2 rfl) ?_
            refine mg_6 C hw dX9_places_82 ?_
            refine lv_iload_n hx hb dX9_places_85 rfl (lv_at hl 3 rfl) ?_
            refine lv_iload_n hx hb dX9_places_86 rfl (lv_at hl 4 rfl) ?_
            obtain ⟨g12, hf⟩ := gd_inv hf
            refine ms_6 C hw g12 dX9_places_87 (fun H locs hw => ?_)
            refine lv_iinc (v := (v4 + 1)) (lv' := [(4, .int (v4 + 1)), (3, .int (v3 ||| ((1 : Int32) <<< (v4 &&& 31)))), (5, .int r4), (0, .ref a0), (1, .int v1), (2, .int v2)]) hx hb dX9_places_88 hl (k := 5) rfl (iv_1 _) (by decide) rfl (fun ls hl => ?_)
            refine lv_goto (tgt := 22) hx hb dX9_places_91 (by decide) ?_
            exact ih _ _ _ _ _ _ hw (lv_sub hl [3, 4, 5, 1, 0] rfl) hf hk
        · have hf := it_f h6 hf
          refine lv_iload hx hb dX9_places_49 (lv_at hl 0 rfl) ?_
          refine lv_iload_n hx hb dX9_places_51 rfl (lv_at hl 2 rfl) ?_
          refine lv_icmp_ne (tgt := 88) hx hb dX9_places_52 (by decide) (fun h13 => ?_) (fun h13 => ?_)
          · have hf := it_f h13 hf
            refine lv_iinc (v := (v4 + 1)) (lv' := [(4, .int (v4 + 1)), (5, .int r4), (0, .ref a0), (1, .int v1), (2, .int v2), (3, .int v3)]) hx hb dX9_places_88 hl (k := 5) rfl (iv_1 _) (by decide) rfl (fun ls hl => ?_)
            refine lv_goto (tgt := 22) hx hb dX9_places_91 (by decide) ?_
            exact ih _ _ _ _ _ _ hw (lv_sub hl [2, 3, 4, 5, 0] rfl) hf hk
          · have hf := it_t h13 hf
            refine lv_aload_n hx hb dX9_places_55 rfl (lv_at hl 1 rfl) ?_
            refine mg_6 C hw dX9_places_56 ?_
            refine lv_iload_n hx hb dX9_places_59 rfl (lv_at hl 2 rfl) ?_
            refine lv_iload hx hb dX9_places_60 (lv_at hl 5 rfl) ?_
            obtain ⟨g14, hf⟩ := gd_inv hf
            refine ms_6 C hw g14 dX9_places_62 (fun H locs hw => ?_)
            refine lv_iload_n hx hb dX9_places_63 rfl (lv_at hl 4 rfl) ?_
            refine lv_aload_n hx hb dX9_places_64 rfl (lv_at hl 1 rfl) ?_
            obtain ⟨r15, e16, hf⟩ := bd hf
            refine ct_V1 (q0 := 0) (ci := 9) (rest := [.int v3]) C hw hA (kX9_areSo l D cI cB cS a0 am e16) cfX9_areSo tg_925 tg_927 ts_yX9_areSo ⟨(Nat.le_of_ble_eq_true rfl), (Nat.le_of_ble_eq_true rfl)⟩ ⟨(Nat.le_of_ble_eq_true rfl), (Nat.le_of_ble_eq_true rfl)⟩ rfl rfl rfl rfl hl.1 rfl (Nat.le_of_ble_eq_true rfl) dX9_places_65 (fun H locs hw => ?_)
            refine lv_if_eq (tgt := 78) hx hb dX9_places_68 (by decide) (fun h17 => ?_) (fun h17 => ?_)
            · have hf := it_t h17 hf
              refine lv_iconst (v := 0) hx hb dX9_places_78 ic_0 ?_
              refine lv_ior hx hb dX9_places_79 ?_
              refine lv_istore_n (lv' := [(3, .int (v3 ||| 0)), (5, .int r4), (0, .ref a0), (1, .int v1), (2, .int v2), (4, .int v4)]) hx hb dX9_places_80 rfl hl (by decide) rfl (fun ls hl => ?_)
              refine lv_aload_n hx hb dX9_places_81 rfl (lv_at hl 2 rfl) ?_
              refine mg_6 C hw dX9_places_82 ?_
              refine lv_iload_n hx hb dX9_places_85 rfl (lv_at hl 3 rfl) ?_
              refine lv_iload_n hx hb dX9_places_86 rfl (lv_at hl 4 rfl) ?_
              obtain ⟨g18, hf⟩ := gd_inv hf
              refine ms_6 C hw g18 dX9_places_87 (fun H locs hw => ?_)
              refine lv_iinc (v := (v4 + 1)) (lv' := [(4, .int (v4 + 1)), (3, .int (v3 ||| 0)), (5, .int r4), (0, .ref a0), (1, .int v1), (2, .int v2)]) hx hb dX9_places_88 hl (k := 5) rfl (iv_1 _) (by decide) rfl (fun ls hl => ?_)
              refine lv_goto (tgt := 22) hx hb dX9_places_91 (by decide) ?_
              exact ih _ _ _ _ _ _ hw (lv_sub hl [3, 4, 5, 1, 0] rfl) hf hk
            · have hf := it_f h17 hf
              refine lv_iconst (v := 1) hx hb dX9_places_71 ic_1 ?_
              refine lv_iload hx hb dX9_places_72 (lv_at hl 5 rfl) ?_
              refine lv_ishl hx hb dX9_places_74 ?_
              refine lv_goto (tgt := 79) hx hb dX9_places_75 (by decide) ?_
              refine lv_ior hx hb dX9_places_79 ?_
              refine lv_istore_n (lv' := [(3, .int (v3 ||| ((1 : Int32) <<< (v4 &&& 31)))), (5, .int r4), (0, .ref a0), (1, .int v1), (2, .int v2), (4, .int v4)]) hx hb dX9_places_80 rfl hl (by decide) rfl (fun ls hl => ?_)
              refine lv_aload_n hx hb dX9_places_81 rfl (lv_at hl 2 rfl) ?_
              refine mg_6 C hw dX9_places_82 ?_
              refine lv_iload_n hx hb dX9_places_85 rfl (lv_at hl 3 rfl) ?_
              refine lv_iload_n hx hb dX9_places_86 rfl (lv_at hl 4 rfl) ?_
              obtain ⟨g19, hf⟩ := gd_inv hf
              refine ms_6 C hw g19 dX9_places_87 (fun H locs hw => ?_)
              refine lv_iinc (v := (v4 + 1)) (lv' := [(4, .int (v4 + 1)), (3, .int (v3 ||| ((1 : Int32) <<< (v4 &&& 31)))), (5, .int r4), (0, .ref a0), (1, .int v1), (2, .int v2)]) hx hb dX9_places_88 hl (k := 5) rfl (iv_1 _) (by decide) rfl (fun ls hl => ?_)
              refine lv_goto (tgt := 22) hx hb dX9_places_91 (by decide) ?_
              exact ih _ _ _ _ _ _ hw (lv_sub hl [3, 4, 5, 1, 0] rfl) hf hk
set_option maxHeartbeats 4000000 in
theorem kX9_places (l : Launch) (D : va_G) (cI cB cS : ClassId) (a0 : Nat) (am : Nat → Nat) {p1 : Int32} {M : MS} {q : (Int32 × MS)} (hf : fX9_places p1 M = some q) : Ct l D cI cB cS yX9_places cX9_places 6 (some .int) 6 137 [.ref a0, .int p1] (mW cI a0 am M) (some (.int q.1)) (mW cI a0 am q.2) := by
  refine Ct.ofW (by decide) (Nat.le_of_ble_eq_true rfl) ?_
  intro p e s m args below meth c ls C hr hlocks _ hw hl
  have hx := C.1
  have hb := C.2.1
  have hA : ∀ q, s.heap.size ≤ q → va_A (mW cI a0 am M) s.heap.size q := fun q h => Or.inr h
  have hcg := trivial
  have hl : lv_has ls 6 [(0, .ref a0), (1, .int p1)] := hl
  unfold fX9_places at hf
  refine lv_aload_n hx hb dX9_places_0 rfl (lv_at hl 0 rfl) ?_
  refine lv_iload_n hx hb dX9_places_1 rfl (lv_at hl 1 rfl) ?_
  refine ct_V1 (q0 := 0) (ci := 9) (rest := []) C hw hA (kX9_noBuyer l D cI cB cS a0 am _ _) cfX9_noBuyer tg_786 tg_788 ts_yX9_noBuyer ⟨(Nat.le_of_ble_eq_true rfl), (Nat.le_of_ble_eq_true rfl)⟩ ⟨(Nat.le_of_ble_eq_true rfl), (Nat.le_of_ble_eq_true rfl)⟩ rfl rfl rfl rfl hl.1 rfl (Nat.le_of_ble_eq_true rfl) dX9_places_2 (fun H locs hw => ?_)
  refine lv_if_eq (tgt := 10) hx hb dX9_places_5 (by decide) (fun h1 => ?_) (fun h1 => ?_)
  · have hf := it_t h1 hf
    refine lv_aload_n hx hb dX9_places_10 rfl (lv_at hl 0 rfl) ?_
    refine mg_6 C hw dX9_places_11 ?_
    refine lv_iload_n hx hb dX9_places_14 rfl (lv_at hl 1 rfl) ?_
    obtain ⟨g2, hf⟩ := gd_inv hf
    refine ml_6 C hw g2 dX9_places_15 ?_
    refine lv_istore_n (lv' := [(2, .int (M 6 p1.toNatClampNeg)), (0, .ref a0), (1, .int p1)]) hx hb dX9_places_16 rfl hl (by decide) rfl (fun ls hl => ?_)
    refine lv_iconst (v := 0) hx hb dX9_places_17 ic_0 ?_
    refine lv_istore_n (lv' := [(3, .int 0), (2, .int (M 6 p1.toNatClampNeg)), (0, .ref a0), (1, .int p1)]) hx hb dX9_places_18 rfl hl (by decide) rfl (fun ls hl => ?_)
    refine lv_iconst (v := 0) hx hb dX9_places_19 ic_0 ?_
    refine lv_istore (lv' := [(4, .int 0), (3, .int 0), (2, .int (M 6 p1.toNatClampNeg)), (0, .ref a0), (1, .int p1)]) hx hb dX9_places_20 hl (by decide) rfl (fun ls hl => ?_)
    refine wX9_places_22 C hr hlocks hA hcg 300 _ _ _ _ _ _ hw (lv_sub hl [3, 4, 2, 1, 0] rfl) hf (fun x20 M21 H locs ls hw hl hf => ?_)
    refine lv_iload_n hx hb dX9_places_94 rfl (lv_at hl 0 rfl) ?_
    obtain rfl := Option.some.inj hf
    exact qt_i C hr hlocks hw dX9_places_95
  · have hf := it_f h1 hf
    refine lv_iconst (v := (-1)) hx hb dX9_places_8 ic_m1 ?_
    obtain rfl := Option.some.inj hf
    exact qt_i C hr hlocks hw dX9_places_9
theorem cfX9_sheet : cf yX9_sheet cX9_sheet 5 (some .int) 3 := ⟨tg_936, by decide +kernel, tg_7⟩
set_option maxHeartbeats 4000000 in
theorem wX9_sheet_65 {p : Program} {l : Launch} {e : Env} {s : State} {m : MethodId} {args : Array Value} {below : List Frame} {meth : Method} {c : Code} {D : va_G} {cI cB cS : ClassId} {a0 : Nat} {am : Nat → Nat} {ws0 : va_W} {v1 : Int32} {v3 : Int32} (C : cx p c cX9_sheet 5 s args m RX9 D cI cB cS) (hr : meth.sig.returnType = (some .int)) (hlocks : meth.locks = false) (hA : ∀ q, s.heap.size ≤ q → va_A ws0 s.heap.size q) {k : MS → Option (Int32 × MS)} {q : (Int32 × MS)}
    (hcg : True) : ∀ (fu : Nat) (v4 : Int32) (M : MS) (H : Heap) (locs : List Loc) (ls : Array Slot), wd D (va_A ws0 s.heap.size) s.heap (mW cI a0 am M) H locs → lv_has ls 5 [(0, .ref a0), (1, .int v1), (3, .int v3), (4, .int v4)] → fX9_sheet_65 fu k v1 v3 v4 M = some q →
    (∀  (M1 : MS) (H : Heap) (locs : List Loc) (ls : Array Slot), wd D (va_A ws0 s.heap.size) s.heap (mW cI a0 am M1) H locs → lv_has ls 5 [(0, .ref a0)] → k  M1 = some q → W p l e { frames := 2, cells := 0, slots := 0, locals := 45 } s m args below meth c H locs 0 0 (Qt D below args s ws0 (some (.int q.1)) (mW cI a0 am q.2)) (F0 m 90 ls [])) →
    W p l e { frames := 2, cells := 0, slots := 0, locals := 45 } s m args below meth c H locs 0 0 (Qt D below args s ws0 (some (.int q.1)) (mW cI a0 am q.2)) (F0 m 65 ls []) := by
  have hx := C.1
  have hb := C.2.1
  intro fu
  induction fu with
  | zero => intro v4 M H locs ls hw hl hf hk; rw [fX9_sheet_65] at hf; cases hf
  | succ fu ih =>
      intro v4 M H locs ls hw hl hf hk
      rw [fX9_sheet_65] at hf
      refine lv_iload hx hb dX9_sheet_65 (lv_at hl 3 rfl) ?_
      refine lv_iload_n hx hb dX9_sheet_67 rfl (lv_at hl 2 rfl) ?_
      refine lv_icmp_ge (tgt := 90) hx hb dX9_sheet_68 (by decide) (fun h7 => ?_) (fun h7 => ?_)
      · have hf := it_t h7 hf
        exact hk _ _ _ _ hw (lv_sub hl [0] rfl) hf
      · have hf := it_f h7 hf
        refine lv_aload_n hx hb dX9_sheet_71 rfl (lv_at hl 0 rfl) ?_
        refine mg_29 C hw dX9_sheet_72 ?_
        refine lv_bipush (v := 60) hx hb dX9_sheet_75 ib_60 ?_
        refine lv_iload_n hx hb dX9_sheet_77 rfl (lv_at hl 1 rfl) ?_
        refine lv_imul hx hb dX9_sheet_78 ?_
        refine lv_iload hx hb dX9_sheet_79 (lv_at hl 3 rfl) ?_
        refine lv_iadd hx hb dX9_sheet_81 ?_
        refine lv_iconst (v := 0) hx hb dX9_sheet_82 ic_0 ?_
        obtain ⟨g8, hf⟩ := gd_inv hf
        refine ms_29 C hw g8 dX9_sheet_83 (fun H locs hw => ?_)
        refine lv_iinc (v := (v4 + 1)) (lv' := [(4, .int (v4 + 1)), (0, .ref a0), (1, .int v1), (3, .int v3)]) hx hb dX9_sheet_84 hl (k := 3) rfl (iv_1 _) (by decide) rfl (fun ls hl => ?_)
        refine lv_goto (tgt := 65) hx hb dX9_sheet_87 (by decide) ?_
        exact ih _ _ _ _ _ hw (lv_sub hl [1, 2, 3, 0] rfl) hf hk
set_option maxHeartbeats 4000000 in
theorem kX9_sheet (l : Launch) (D : va_G) (cI cB cS : ClassId) (a0 : Nat) (am : Nat → Nat) {p1 : Int32} {p2 : Int32} {p3 : Int32} {M : MS} {q : (Int32 × MS)} (hf : fX9_sheet p1 p2 p3 M = some q) : Ct l D cI cB cS yX9_sheet cX9_sheet 5 (some .int) 2 45 [.ref a0, .int p1, .int p2, .int p3] (mW cI a0 am M) (some (.int q.1)) (mW cI a0 am q.2) := by
  refine Ct.ofW (by decide) (Nat.le_of_ble_eq_true rfl) ?_
  intro p e s m args below meth c ls C hr hlocks _ hw hl
  have hx := C.1
  have hb := C.2.1
  have hA : ∀ q, s.heap.size ≤ q → va_A (mW cI a0 am M) s.heap.size q := fun q h => Or.inr h
  have hcg := trivial
  have hl : lv_has ls 5 [(0, .ref a0), (1, .int p1), (2, .int p2), (3, .int p3)] := hl
  unfold fX9_sheet at hf
  refine lv_iload_n hx hb dX9_sheet_0 rfl (lv_at hl 1 rfl) ?_
  refine ct_S1 (rest := []) C hw hA (kX9_noSheet l D cI cB cS _ _) cfX9_noSheet tg_740 tg_741 ⟨(Nat.le_of_ble_eq_true rfl), (Nat.le_of_ble_eq_true rfl)⟩ ⟨(Nat.le_of_ble_eq_true rfl), (Nat.le_of_ble_eq_true rfl)⟩ rfl hl.1 rfl (Nat.le_of_ble_eq_true rfl) dX9_sheet_1 (fun H locs hw => ?_)
  refine lv_if_eq (tgt := 13) hx hb dX9_sheet_4 (by decide) (fun h1 => ?_) (fun h1 => ?_)
  · have hf := it_t h1 hf
    refine lv_iload_n hx hb dX9_sheet_13 rfl (lv_at hl 2 rfl) ?_
    refine lv_i2l (v := (p2.toInt64)) hx hb dX9_sheet_14 rfl ?_
    refine lv_lconst (v := 0) hx hb dX9_sheet_15 rfl ?_
    refine lv_ldc2 (v := (2 : Int64)) hx hb C.2.2.2.1 (C.2.2.2.2.1 _ tg_751) dX9_sheet_16 ?_
    refine ct_S1 (rest := []) C hw hA (kX9_in l D cI cB cS _ _ _ _) cfX9_in tg_744 tg_745 ⟨(Nat.le_of_ble_eq_true rfl), (Nat.le_of_ble_eq_true rfl)⟩ ⟨(Nat.le_of_ble_eq_true rfl), (Nat.le_of_ble_eq_true rfl)⟩ rfl hl.1 rfl (Nat.le_of_ble_eq_true rfl) dX9_sheet_19 (fun H locs hw => ?_)
    refine lv_if_eq (tgt := 31) hx hb dX9_sheet_22 (by decide) (fun h2 => ?_) (fun h2 => ?_)
    · have hf := it_t h2 hf
      refine lv_aload_n hx hb dX9_sheet_31 rfl (lv_at hl 0 rfl) ?_
      refine lv_bipush (v := (-2)) hx hb dX9_sheet_32 ib_m2 ?_
      refine ct_V1 (q0 := 0) (ci := 9) (rest := []) C hw hA (kX9_refused l D cI cB cS a0 am _ _) cfX9_refused tg_747 tg_749 ts_yX9_refused ⟨(Nat.le_of_ble_eq_true rfl), (Nat.le_of_ble_eq_true rfl)⟩ ⟨(Nat.le_of_ble_eq_true rfl), (Nat.le_of_ble_eq_true rfl)⟩ rfl rfl rfl rfl hl.1 rfl (Nat.le_of_ble_eq_true rfl) dX9_sheet_34 (fun H locs hw => ?_)
      obtain rfl := Option.some.inj hf
      exact qt_i C hr hlocks hw dX9_sheet_37
    · have hf := it_f h2 hf
      refine lv_iload_n hx hb dX9_sheet_25 rfl (lv_at hl 3 rfl) ?_
      refine lv_bipush (v := 60) hx hb dX9_sheet_26 ib_60 ?_
      refine lv_icmp_le (tgt := 38) hx hb dX9_sheet_28 (by decide) (fun h3 => ?_) (fun h3 => ?_)
      · have hf := it_t h3 hf
        refine lv_iload_n hx hb dX9_sheet_38 rfl (lv_at hl 3 rfl) ?_
        refine lv_if_ge (tgt := 48) hx hb dX9_sheet_39 (by decide) (fun h4 => ?_) (fun h4 => ?_)
        · have hf := it_t h4 hf
          refine lv_aload_n hx hb dX9_sheet_48 rfl (lv_at hl 0 rfl) ?_
          refine mg_27 C hw dX9_sheet_49 ?_
          refine lv_iload_n hx hb dX9_sheet_52 rfl (lv_at hl 1 rfl) ?_
          refine lv_iload_n hx hb dX9_sheet_53 rfl (lv_at hl 3 rfl) ?_
          obtain ⟨g5, hf⟩ := gd_inv hf
          refine ms_27 C hw g5 dX9_sheet_54 (fun H locs hw => ?_)
          refine lv_aload_n hx hb dX9_sheet_55 rfl (lv_at hl 0 rfl) ?_
          refine mg_28 C hw dX9_sheet_56 ?_
          refine lv_iload_n hx hb dX9_sheet_59 rfl (lv_at hl 1 rfl) ?_
          refine lv_iload_n hx hb dX9_sheet_60 rfl (lv_at hl 2 rfl) ?_
          obtain ⟨g6, hf⟩ := gd_inv hf
          refine ms_28 C hw g6 dX9_sheet_61 (fun H locs hw => ?_)
          refine lv_iconst (v := 0) hx hb dX9_sheet_62 ic_0 ?_
          refine lv_istore (lv' := [(4, .int 0), (0, .ref a0), (1, .int p1), (2, .int p2), (3, .int p3)]) hx hb dX9_sheet_63 hl (by decide) rfl (fun ls hl => ?_)
          refine wX9_sheet_65 C hr hlocks hA hcg 300 _ _ _ _ _ hw (lv_sub hl [1, 2, 4, 0] rfl) hf (fun M9 H locs ls hw hl hf => ?_)
          refine lv_aload_n hx hb dX9_sheet_90 rfl (lv_at hl 0 rfl) ?_
          refine lv_iconst (v := 1) hx hb dX9_sheet_91 ic_1 ?_
          refine ct_V1 (q0 := 0) (ci := 9) (rest := []) C hw hA (kX9_refused l D cI cB cS a0 am _ _) cfX9_refused tg_747 tg_749 ts_yX9_refused ⟨(Nat.le_of_ble_eq_true rfl), (Nat.le_of_ble_eq_true rfl)⟩ ⟨(Nat.le_of_ble_eq_true rfl), (Nat.le_of_ble_eq_true rfl)⟩ rfl rfl rfl rfl hl.1 rfl (Nat.le_of_ble_eq_true rfl) dX9_sheet_92 (fun H locs hw => ?_)
          obtain rfl := Option.some.inj hf
          exact qt_i C hr hlocks hw dX9_sheet_95
        · have hf := it_f h4 hf
          refine lv_aload_n hx hb dX9_sheet_42 rfl (lv_at hl 0 rfl) ?_
          refine lv_iconst (v := 4) hx hb dX9_sheet_43 ic_4 ?_
          refine ct_V1 (q0 := 0) (ci := 9) (rest := []) C hw hA (kX9_failed l D cI cB cS a0 am _ _) cfX9_failed tg_756 tg_758 ts_yX9_failed ⟨(Nat.le_of_ble_eq_true rfl), (Nat.le_of_ble_eq_true rfl)⟩ ⟨(Nat.le_of_ble_eq_true rfl), (Nat.le_of_ble_eq_true rfl)⟩ rfl rfl rfl rfl hl.1 rfl (Nat.le_of_ble_eq_true rfl) dX9_sheet_44 (fun H locs hw => ?_)
          obtain rfl := Option.some.inj hf
          exact qt_i C hr hlocks hw dX9_sheet_47
      · have hf := it_f h3 hf
        refine lv_aload_n hx hb dX9_sheet_31 rfl (lv_at hl 0 rfl) ?_
        refine lv_bipush (v := (-2)) hx hb dX9_sheet_32 ib_m2 ?_
        refine ct_V1 (q0 := 0) (ci := 9) (rest := []) C hw hA (kX9_refused l D cI cB cS a0 am _ _) cfX9_refused tg_747 tg_749 ts_yX9_refused ⟨(Nat.le_of_ble_eq_true rfl), (Nat.le_of_ble_eq_true rfl)⟩ ⟨(Nat.le_of_ble_eq_true rfl), (Nat.le_of_ble_eq_true rfl)⟩ rfl rfl rfl rfl hl.1 rfl (Nat.le_of_ble_eq_true rfl) dX9_sheet_34 (fun H locs hw => ?_)
        obtain rfl := Option.some.inj hf
        exact qt_i C hr hlocks hw dX9_sheet_37
  · have hf := it_f h1 hf
    refine lv_aload_n hx hb dX9_sheet_7 rfl (lv_at hl 0 rfl) ?_
    refine lv_iconst (v := (-1)) hx hb dX9_sheet_8 ic_m1 ?_
    refine ct_V1 (q0 := 0) (ci := 9) (rest := []) C hw hA (kX9_refused l D cI cB cS a0 am _ _) cfX9_refused tg_747 tg_749 ts_yX9_refused ⟨(Nat.le_of_ble_eq_true rfl), (Nat.le_of_ble_eq_true rfl)⟩ ⟨(Nat.le_of_ble_eq_true rfl), (Nat.le_of_ble_eq_true rfl)⟩ rfl rfl rfl rfl hl.1 rfl (Nat.le_of_ble_eq_true rfl) dX9_sheet_9 (fun H locs hw => ?_)
    obtain rfl := Option.some.inj hf
    exact qt_i C hr hlocks hw dX9_sheet_12
theorem cfX9_lose : cf yX9_lose cX9_lose 3 (some .int) 1 := ⟨tg_940, by decide +kernel, tg_7⟩
set_option maxHeartbeats 4000000 in
theorem kX9_lose (l : Launch) (D : va_G) (cI cB cS : ClassId) (a0 : Nat) (am : Nat → Nat) {p1 : Int32} {M : MS} {q : (Int32 × MS)} (hf : fX9_lose p1 M = some q) : Ct l D cI cB cS yX9_lose cX9_lose 3 (some .int) 2 45 [.ref a0, .int p1] (mW cI a0 am M) (some (.int q.1)) (mW cI a0 am q.2) := by
  refine Ct.ofW (by decide) (Nat.le_of_ble_eq_true rfl) ?_
  intro p e s m args below meth c ls C hr hlocks _ hw hl
  have hx := C.1
  have hb := C.2.1
  have hA : ∀ q, s.heap.size ≤ q → va_A (mW cI a0 am M) s.heap.size q := fun q h => Or.inr h
  have hcg := trivial
  have hl : lv_has ls 3 [(0, .ref a0), (1, .int p1)] := hl
  unfold fX9_lose at hf
  refine lv_iload_n hx hb dX9_lose_0 rfl (lv_at hl 1 rfl) ?_
  refine ct_S1 (rest := []) C hw hA (kX9_noSheet l D cI cB cS _ _) cfX9_noSheet tg_740 tg_741 ⟨(Nat.le_of_ble_eq_true rfl), (Nat.le_of_ble_eq_true rfl)⟩ ⟨(Nat.le_of_ble_eq_true rfl), (Nat.le_of_ble_eq_true rfl)⟩ rfl hl.1 rfl (Nat.le_of_ble_eq_true rfl) dX9_lose_1 (fun H locs hw => ?_)
  refine lv_if_eq (tgt := 9) hx hb dX9_lose_4 (by decide) (fun h1 => ?_) (fun h1 => ?_)
  · have hf := it_t h1 hf
    refine lv_aload_n hx hb dX9_lose_9 rfl (lv_at hl 0 rfl) ?_
    refine mg_27 C hw dX9_lose_10 ?_
    refine lv_iload_n hx hb dX9_lose_13 rfl (lv_at hl 1 rfl) ?_
    obtain ⟨g2, hf⟩ := gd_inv hf
    refine ml_27 C hw g2 dX9_lose_14 ?_
    refine lv_if_ge (tgt := 22) hx hb dX9_lose_15 (by decide) (fun h3 => ?_) (fun h3 => ?_)
    · have hf := it_t h3 hf
      refine lv_iconst (v := 1) hx hb dX9_lose_22 ic_1 ?_
      refine lv_istore_n (lv' := [(2, .int 1), (0, .ref a0), (1, .int p1)]) hx hb dX9_lose_23 rfl hl (by decide) rfl (fun ls hl => ?_)
      refine lv_aload_n hx hb dX9_lose_24 rfl (lv_at hl 1 rfl) ?_
      refine mg_27 C hw dX9_lose_25 ?_
      refine lv_iload_n hx hb dX9_lose_28 rfl (lv_at hl 2 rfl) ?_
      refine lv_iconst (v := (-1)) hx hb dX9_lose_29 ic_m1 ?_
      obtain ⟨g4, hf⟩ := gd_inv hf
      refine ms_27 C hw g4 dX9_lose_30 (fun H locs hw => ?_)
      refine lv_iload_n hx hb dX9_lose_31 rfl (lv_at hl 0 rfl) ?_
      obtain rfl := Option.some.inj hf
      exact qt_i C hr hlocks hw dX9_lose_32
    · have hf := it_f h3 hf
      refine lv_iconst (v := 0) hx hb dX9_lose_18 ic_0 ?_
      refine lv_goto (tgt := 23) hx hb dX9_lose_19 (by decide) ?_
      refine lv_istore_n (lv' := [(2, .int 0), (0, .ref a0), (1, .int p1)]) hx hb dX9_lose_23 rfl hl (by decide) rfl (fun ls hl => ?_)
      refine lv_aload_n hx hb dX9_lose_24 rfl (lv_at hl 1 rfl) ?_
      refine mg_27 C hw dX9_lose_25 ?_
      refine lv_iload_n hx hb dX9_lose_28 rfl (lv_at hl 2 rfl) ?_
      refine lv_iconst (v := (-1)) hx hb dX9_lose_29 ic_m1 ?_
      obtain ⟨g5, hf⟩ := gd_inv hf
      refine ms_27 C hw g5 dX9_lose_30 (fun H locs hw => ?_)
      refine lv_iload_n hx hb dX9_lose_31 rfl (lv_at hl 0 rfl) ?_
      obtain rfl := Option.some.inj hf
      exact qt_i C hr hlocks hw dX9_lose_32
  · have hf := it_f h1 hf
    refine lv_iconst (v := (-1)) hx hb dX9_lose_7 ic_m1 ?_
    obtain rfl := Option.some.inj hf
    exact qt_i C hr hlocks hw dX9_lose_8
theorem cfX9_noCell : cf yX9_noCell cX9_noCell 3 (some .int) 2 := ⟨tg_948, by decide +kernel, tg_7⟩
set_option maxHeartbeats 4000000 in
theorem kX9_noCell (l : Launch) (D : va_G) (cI cB cS : ClassId) (a0 : Nat) (am : Nat → Nat) {p1 : Int32} {p2 : Int32} {M : MS} {q : Int32} (hf : fX9_noCell p1 p2 M = some q) : Ct l D cI cB cS yX9_noCell cX9_noCell 3 (some .int) 1 25 [.ref a0, .int p1, .int p2] (mW cI a0 am M) (some (.int q)) (mW cI a0 am M) := by
  refine Ct.ofW (by decide) (Nat.le_of_ble_eq_true rfl) ?_
  intro p e s m args below meth c ls C hr hlocks _ hw hl
  have hx := C.1
  have hb := C.2.1
  have hA : ∀ q, s.heap.size ≤ q → va_A (mW cI a0 am M) s.heap.size q := fun q h => Or.inr h
  have hcg := trivial
  have hl : lv_has ls 3 [(0, .ref a0), (1, .int p1), (2, .int p2)] := hl
  unfold fX9_noCell at hf
  refine lv_aload_n hx hb dX9_noCell_0 rfl (lv_at hl 0 rfl) ?_
  refine mg_27 C hw dX9_noCell_1 ?_
  refine lv_iload_n hx hb dX9_noCell_4 rfl (lv_at hl 1 rfl) ?_
  obtain ⟨g1, hf⟩ := gd_inv hf
  refine ml_27 C hw g1 dX9_noCell_5 ?_
  refine lv_if_ge (tgt := 13) hx hb dX9_noCell_6 (by decide) (fun h2 => ?_) (fun h2 => ?_)
  · have hf := it_t h2 hf
    refine lv_iload_n hx hb dX9_noCell_13 rfl (lv_at hl 2 rfl) ?_
    refine lv_i2l (v := (p2.toInt64)) hx hb dX9_noCell_14 rfl ?_
    refine lv_lconst (v := 0) hx hb dX9_noCell_15 rfl ?_
    refine lv_aload_n hx hb dX9_noCell_16 rfl (lv_at hl 0 rfl) ?_
    refine mg_27 C hw dX9_noCell_17 ?_
    refine lv_iload_n hx hb dX9_noCell_20 rfl (lv_at hl 1 rfl) ?_
    obtain ⟨g3, hf⟩ := gd_inv hf
    refine ml_27 C hw g3 dX9_noCell_21 ?_
    refine lv_i2l (v := ((M 27 p1.toNatClampNeg).toInt64)) hx hb dX9_noCell_22 rfl ?_
    refine lv_lconst (v := 1) hx hb dX9_noCell_23 rfl ?_
    refine lv_lsub hx hb dX9_noCell_24 ?_
    refine ct_S1 (rest := []) C hw hA (kX9_in l D cI cB cS _ _ _ _) cfX9_in tg_744 tg_745 ⟨(Nat.le_of_ble_eq_true rfl), (Nat.le_of_ble_eq_true rfl)⟩ ⟨(Nat.le_of_ble_eq_true rfl), (Nat.le_of_ble_eq_true rfl)⟩ rfl hl.1 rfl (Nat.le_of_ble_eq_true rfl) dX9_noCell_25 (fun H locs hw => ?_)
    refine lv_if_eq (tgt := 35) hx hb dX9_noCell_28 (by decide) (fun h4 => ?_) (fun h4 => ?_)
    · have hf := it_t h4 hf
      refine lv_iconst (v := 3) hx hb dX9_noCell_35 ic_3 ?_
      obtain rfl := Option.some.inj hf
      exact qt_i C hr hlocks hw dX9_noCell_36
    · have hf := it_f h4 hf
      refine lv_iconst (v := 0) hx hb dX9_noCell_31 ic_0 ?_
      refine lv_goto (tgt := 36) hx hb dX9_noCell_32 (by decide) ?_
      obtain rfl := Option.some.inj hf
      exact qt_i C hr hlocks hw dX9_noCell_36
  · have hf := it_f h2 hf
    refine lv_iconst (v := 1) hx hb dX9_noCell_9 ic_1 ?_
    refine lv_goto (tgt := 36) hx hb dX9_noCell_10 (by decide) ?_
    obtain rfl := Option.some.inj hf
    exact qt_i C hr hlocks hw dX9_noCell_36
theorem cfX9_put : cf yX9_put cX9_put 4 (some .int) 3 := ⟨tg_944, by decide +kernel, tg_7⟩
set_option maxHeartbeats 4000000 in
theorem kX9_put (l : Launch) (D : va_G) (cI cB cS : ClassId) (a0 : Nat) (am : Nat → Nat) {p1 : Int32} {p2 : Int32} {p3 : Int32} {M : MS} {q : (Int32 × MS)} (hf : fX9_put p1 p2 p3 M = some q) : Ct l D cI cB cS yX9_put cX9_put 4 (some .int) 2 47 [.ref a0, .int p1, .int p2, .int p3] (mW cI a0 am M) (some (.int q.1)) (mW cI a0 am q.2) := by
  refine Ct.ofW (by decide) (Nat.le_of_ble_eq_true rfl) ?_
  intro p e s m args below meth c ls C hr hlocks _ hw hl
  have hx := C.1
  have hb := C.2.1
  have hA : ∀ q, s.heap.size ≤ q → va_A (mW cI a0 am M) s.heap.size q := fun q h => Or.inr h
  have hcg := trivial
  have hl : lv_has ls 4 [(0, .ref a0), (1, .int p1), (2, .int p2), (3, .int p3)] := hl
  unfold fX9_put at hf
  refine lv_iload_n hx hb dX9_put_0 rfl (lv_at hl 1 rfl) ?_
  refine ct_S1 (rest := []) C hw hA (kX9_noSheet l D cI cB cS _ _) cfX9_noSheet tg_740 tg_741 ⟨(Nat.le_of_ble_eq_true rfl), (Nat.le_of_ble_eq_true rfl)⟩ ⟨(Nat.le_of_ble_eq_true rfl), (Nat.le_of_ble_eq_true rfl)⟩ rfl hl.1 rfl (Nat.le_of_ble_eq_true rfl) dX9_put_1 (fun H locs hw => ?_)
  refine lv_if_eq (tgt := 13) hx hb dX9_put_4 (by decide) (fun h1 => ?_) (fun h1 => ?_)
  · have hf := it_t h1 hf
    refine lv_aload_n hx hb dX9_put_13 rfl (lv_at hl 0 rfl) ?_
    refine lv_iload_n hx hb dX9_put_14 rfl (lv_at hl 1 rfl) ?_
    refine lv_iload_n hx hb dX9_put_15 rfl (lv_at hl 2 rfl) ?_
    obtain ⟨r2, e3, hf⟩ := bd hf
    refine ct_V1 (q0 := 0) (ci := 9) (rest := []) C hw hA (kX9_noCell l D cI cB cS a0 am e3) cfX9_noCell tg_945 tg_947 ts_yX9_noCell ⟨(Nat.le_of_ble_eq_true rfl), (Nat.le_of_ble_eq_true rfl)⟩ ⟨(Nat.le_of_ble_eq_true rfl), (Nat.le_of_ble_eq_true rfl)⟩ rfl rfl rfl rfl hl.1 rfl (Nat.le_of_ble_eq_true rfl) dX9_put_16 (fun H locs hw => ?_)
    refine lv_if_le (tgt := 33) hx hb dX9_put_19 (by decide) (fun h4 => ?_) (fun h4 => ?_)
    · have hf := it_t h4 hf
      refine lv_aload_n hx hb dX9_put_33 rfl (lv_at hl 0 rfl) ?_
      refine mg_29 C hw dX9_put_34 ?_
      refine lv_bipush (v := 60) hx hb dX9_put_37 ib_60 ?_
      refine lv_iload_n hx hb dX9_put_39 rfl (lv_at hl 1 rfl) ?_
      refine lv_imul hx hb dX9_put_40 ?_
      refine lv_iload_n hx hb dX9_put_41 rfl (lv_at hl 2 rfl) ?_
      refine lv_iadd hx hb dX9_put_42 ?_
      refine lv_aload_n hx hb dX9_put_43 rfl (lv_at hl 0 rfl) ?_
      refine mg_28 C hw dX9_put_44 ?_
      refine lv_iload_n hx hb dX9_put_47 rfl (lv_at hl 1 rfl) ?_
      obtain ⟨g5, hf⟩ := gd_inv hf
      refine ml_28 C hw g5 dX9_put_48 ?_
      refine lv_if_ne (tgt := 57) hx hb dX9_put_49 (by decide) (fun h6 => ?_) (fun h6 => ?_)
      · have hf := it_f h6 hf
        refine lv_aload_n hx hb dX9_put_57 rfl (lv_at hl 0 rfl) ?_
        refine mg_28 C hw dX9_put_58 ?_
        refine lv_iload_n hx hb dX9_put_61 rfl (lv_at hl 1 rfl) ?_
        obtain ⟨g7, hf⟩ := gd_inv hf
        refine ml_28 C hw g7 dX9_put_62 ?_
        refine lv_iconst (v := 1) hx hb dX9_put_63 ic_1 ?_
        refine lv_icmp_ne (tgt := 72) hx hb dX9_put_64 (by decide) (fun h8 => ?_) (fun h8 => ?_)
        · have hf := it_f h8 hf
          refine lv_iload_n hx hb dX9_put_72 rfl (lv_at hl 3 rfl) ?_
          obtain ⟨g9, hf⟩ := gd_inv hf
          refine ms_29 C hw g9 dX9_put_73 (fun H locs hw => ?_)
          refine lv_aload_n hx hb dX9_put_74 rfl (lv_at hl 0 rfl) ?_
          refine lv_iconst (v := 1) hx hb dX9_put_75 ic_1 ?_
          refine ct_V1 (q0 := 0) (ci := 9) (rest := []) C hw hA (kX9_refused l D cI cB cS a0 am _ _) cfX9_refused tg_747 tg_749 ts_yX9_refused ⟨(Nat.le_of_ble_eq_true rfl), (Nat.le_of_ble_eq_true rfl)⟩ ⟨(Nat.le_of_ble_eq_true rfl), (Nat.le_of_ble_eq_true rfl)⟩ rfl rfl rfl rfl hl.1 rfl (Nat.le_of_ble_eq_true rfl) dX9_put_76 (fun H locs hw => ?_)
          obtain rfl := Option.some.inj hf
          exact qt_i C hr hlocks hw dX9_put_79
        · have hf := it_t h8 hf
          refine lv_iload_n hx hb dX9_put_67 rfl (lv_at hl 3 rfl) ?_
          refine lv_i2s (v := (p3.toInt16.toInt32)) hx hb dX9_put_68 rfl ?_
          refine lv_goto (tgt := 73) hx hb dX9_put_69 (by decide) ?_
          obtain ⟨g10, hf⟩ := gd_inv hf
          refine ms_29 C hw g10 dX9_put_73 (fun H locs hw => ?_)
          refine lv_aload_n hx hb dX9_put_74 rfl (lv_at hl 0 rfl) ?_
          refine lv_iconst (v := 1) hx hb dX9_put_75 ic_1 ?_
          refine ct_V1 (q0 := 0) (ci := 9) (rest := []) C hw hA (kX9_refused l D cI cB cS a0 am _ _) cfX9_refused tg_747 tg_749 ts_yX9_refused ⟨(Nat.le_of_ble_eq_true rfl), (Nat.le_of_ble_eq_true rfl)⟩ ⟨(Nat.le_of_ble_eq_true rfl), (Nat.le_of_ble_eq_true rfl)⟩ rfl rfl rfl rfl hl.1 rfl (Nat.le_of_ble_eq_true rfl) dX9_put_76 (fun H locs hw => ?_)
          obtain rfl := Option.some.inj hf
          exact qt_i C hr hlocks hw dX9_put_79
      · have hf := it_t h6 hf
        refine lv_iload_n hx hb dX9_put_52 rfl (lv_at hl 3 rfl) ?_
        refine lv_i2b (v := (p3.toInt8.toInt32)) hx hb dX9_put_53 rfl ?_
        refine lv_goto (tgt := 73) hx hb dX9_put_54 (by decide) ?_
        obtain ⟨g11, hf⟩ := gd_inv hf
        refine ms_29 C hw g11 dX9_put_73 (fun H locs hw => ?_)
        refine lv_aload_n hx hb dX9_put_74 rfl (lv_at hl 0 rfl) ?_
        refine lv_iconst (v := 1) hx hb dX9_put_75 ic_1 ?_
        refine ct_V1 (q0 := 0) (ci := 9) (rest := []) C hw hA (kX9_refused l D cI cB cS a0 am _ _) cfX9_refused tg_747 tg_749 ts_yX9_refused ⟨(Nat.le_of_ble_eq_true rfl), (Nat.le_of_ble_eq_true rfl)⟩ ⟨(Nat.le_of_ble_eq_true rfl), (Nat.le_of_ble_eq_true rfl)⟩ rfl rfl rfl rfl hl.1 rfl (Nat.le_of_ble_eq_true rfl) dX9_put_76 (fun H locs hw => ?_)
        obtain rfl := Option.some.inj hf
        exact qt_i C hr hlocks hw dX9_put_79
    · have hf := it_f h4 hf
      refine lv_aload_n hx hb dX9_put_22 rfl (lv_at hl 0 rfl) ?_
      refine lv_aload_n hx hb dX9_put_23 rfl (lv_at hl 0 rfl) ?_
      refine lv_iload_n hx hb dX9_put_24 rfl (lv_at hl 1 rfl) ?_
      refine lv_iload_n hx hb dX9_put_25 rfl (lv_at hl 2 rfl) ?_
      obtain ⟨r12, e13, hf⟩ := bd hf
      refine ct_V1 (q0 := 0) (ci := 9) (rest := [.ref a0]) C hw hA (kX9_noCell l D cI cB cS a0 am e13) cfX9_noCell tg_945 tg_947 ts_yX9_noCell ⟨(Nat.le_of_ble_eq_true rfl), (Nat.le_of_ble_eq_true rfl)⟩ ⟨(Nat.le_of_ble_eq_true rfl), (Nat.le_of_ble_eq_true rfl)⟩ rfl rfl rfl rfl hl.1 rfl (Nat.le_of_ble_eq_true rfl) dX9_put_26 (fun H locs hw => ?_)
      refine ct_V1 (q0 := 0) (ci := 9) (rest := []) C hw hA (kX9_failed l D cI cB cS a0 am _ _) cfX9_failed tg_756 tg_758 ts_yX9_failed ⟨(Nat.le_of_ble_eq_true rfl), (Nat.le_of_ble_eq_true rfl)⟩ ⟨(Nat.le_of_ble_eq_true rfl), (Nat.le_of_ble_eq_true rfl)⟩ rfl rfl rfl rfl hl.1 rfl (Nat.le_of_ble_eq_true rfl) dX9_put_29 (fun H locs hw => ?_)
      obtain rfl := Option.some.inj hf
      exact qt_i C hr hlocks hw dX9_put_32
  · have hf := it_f h1 hf
    refine lv_aload_n hx hb dX9_put_7 rfl (lv_at hl 0 rfl) ?_
    refine lv_iconst (v := (-1)) hx hb dX9_put_8 ic_m1 ?_
    refine ct_V1 (q0 := 0) (ci := 9) (rest := []) C hw hA (kX9_refused l D cI cB cS a0 am _ _) cfX9_refused tg_747 tg_749 ts_yX9_refused ⟨(Nat.le_of_ble_eq_true rfl), (Nat.le_of_ble_eq_true rfl)⟩ ⟨(Nat.le_of_ble_eq_true rfl), (Nat.le_of_ble_eq_true rfl)⟩ rfl rfl rfl rfl hl.1 rfl (Nat.le_of_ble_eq_true rfl) dX9_put_9 (fun H locs hw => ?_)
    obtain rfl := Option.some.inj hf
    exact qt_i C hr hlocks hw dX9_put_12
theorem cfX9_cell : cf yX9_cell cX9_cell 4 (some .long) 3 := ⟨tg_952, by decide +kernel, tg_7⟩
set_option maxHeartbeats 4000000 in
theorem kX9_cell (l : Launch) (D : va_G) (cI cB cS : ClassId) (a0 : Nat) (am : Nat → Nat) {p1 : Int32} {p2 : Int32} {p3 : Int32} {M : MS} {q : (Int64 × MS)} (hf : fX9_cell p1 p2 p3 M = some q) : Ct l D cI cB cS yX9_cell cX9_cell 4 (some .long) 2 47 [.ref a0, .int p1, .int p2, .int p3] (mW cI a0 am M) (some (.long q.1)) (mW cI a0 am q.2) := by
  refine Ct.ofW (by decide) (Nat.le_of_ble_eq_true rfl) ?_
  intro p e s m args below meth c ls C hr hlocks _ hw hl
  have hx := C.1
  have hb := C.2.1
  have hA : ∀ q, s.heap.size ≤ q → va_A (mW cI a0 am M) s.heap.size q := fun q h => Or.inr h
  have hcg := trivial
  have hl : lv_has ls 4 [(0, .ref a0), (1, .int p1), (2, .int p2), (3, .int p3)] := hl
  unfold fX9_cell at hf
  refine lv_aload_n hx hb dX9_cell_0 rfl (lv_at hl 0 rfl) ?_
  refine lv_iconst (v := 0) hx hb dX9_cell_1 ic_0 ?_
  refine mp_0 C hw dX9_cell_2 (fun H locs hw => ?_)
  refine lv_iload_n hx hb dX9_cell_5 rfl (lv_at hl 1 rfl) ?_
  refine ct_S1 (rest := []) C hw hA (kX9_noSheet l D cI cB cS _ _) cfX9_noSheet tg_740 tg_741 ⟨(Nat.le_of_ble_eq_true rfl), (Nat.le_of_ble_eq_true rfl)⟩ ⟨(Nat.le_of_ble_eq_true rfl), (Nat.le_of_ble_eq_true rfl)⟩ rfl hl.1 rfl (Nat.le_of_ble_eq_true rfl) dX9_cell_6 (fun H locs hw => ?_)
  refine lv_if_ne (tgt := 24) hx hb dX9_cell_9 (by decide) (fun h1 => ?_) (fun h1 => ?_)
  · have hf := it_f h1 hf
    refine ct_S1 (rest := []) C hw hA (kX9_lost l D cI cB cS _) cfX9_lost tg_902 tg_903 ⟨(Nat.le_of_ble_eq_true rfl), (Nat.le_of_ble_eq_true rfl)⟩ ⟨(Nat.le_of_ble_eq_true rfl), (Nat.le_of_ble_eq_true rfl)⟩ rfl hl.1 rfl (Nat.le_of_ble_eq_true rfl) dX9_cell_24 (fun H locs hw => ?_)
    obtain rfl := Option.some.inj hf
    exact qt_l C hr hlocks hw dX9_cell_27
  · have hf := it_t h1 hf
    refine lv_iload_n hx hb dX9_cell_12 rfl (lv_at hl 3 rfl) ?_
    refine lv_i2l (v := (p3.toInt64)) hx hb dX9_cell_13 rfl ?_
    refine lv_lconst (v := 0) hx hb dX9_cell_14 rfl ?_
    refine lv_ldc2 (v := (2 : Int64)) hx hb C.2.2.2.1 (C.2.2.2.2.1 _ tg_751) dX9_cell_15 ?_
    refine ct_S1 (rest := []) C hw hA (kX9_in l D cI cB cS _ _ _ _) cfX9_in tg_744 tg_745 ⟨(Nat.le_of_ble_eq_true rfl), (Nat.le_of_ble_eq_true rfl)⟩ ⟨(Nat.le_of_ble_eq_true rfl), (Nat.le_of_ble_eq_true rfl)⟩ rfl hl.1 rfl (Nat.le_of_ble_eq_true rfl) dX9_cell_18 (fun H locs hw => ?_)
    refine lv_if_ne (tgt := 28) hx hb dX9_cell_21 (by decide) (fun h2 => ?_) (fun h2 => ?_)
    · have hf := it_f h2 hf
      refine lv_aload_n hx hb dX9_cell_28 rfl (lv_at hl 0 rfl) ?_
      refine mg_27 C hw dX9_cell_29 ?_
      refine lv_iload_n hx hb dX9_cell_32 rfl (lv_at hl 1 rfl) ?_
      obtain ⟨g3, hf⟩ := gd_inv hf
      refine ml_27 C hw g3 dX9_cell_33 ?_
      refine lv_if_lt (tgt := 53) hx hb dX9_cell_34 (by decide) (fun h4 => ?_) (fun h4 => ?_)
      · have hf := it_t h4 hf
        refine lv_aload_n hx hb dX9_cell_53 rfl (lv_at hl 0 rfl) ?_
        refine lv_iload_n hx hb dX9_cell_54 rfl (lv_at hl 1 rfl) ?_
        refine lv_iload_n hx hb dX9_cell_55 rfl (lv_at hl 2 rfl) ?_
        obtain ⟨r5, e6, hf⟩ := bd hf
        refine ct_V1 (q0 := 0) (ci := 9) (rest := []) C hw hA (kX9_noCell l D cI cB cS a0 am e6) cfX9_noCell tg_945 tg_947 ts_yX9_noCell ⟨(Nat.le_of_ble_eq_true rfl), (Nat.le_of_ble_eq_true rfl)⟩ ⟨(Nat.le_of_ble_eq_true rfl), (Nat.le_of_ble_eq_true rfl)⟩ rfl rfl rfl rfl hl.1 rfl (Nat.le_of_ble_eq_true rfl) dX9_cell_56 (fun H locs hw => ?_)
        refine lv_if_le (tgt := 75) hx hb dX9_cell_59 (by decide) (fun h7 => ?_) (fun h7 => ?_)
        · have hf := it_t h7 hf
          refine lv_aload_n hx hb dX9_cell_75 rfl (lv_at hl 0 rfl) ?_
          refine mg_29 C hw dX9_cell_76 ?_
          refine lv_bipush (v := 60) hx hb dX9_cell_79 ib_60 ?_
          refine lv_iload_n hx hb dX9_cell_81 rfl (lv_at hl 1 rfl) ?_
          refine lv_imul hx hb dX9_cell_82 ?_
          refine lv_iload_n hx hb dX9_cell_83 rfl (lv_at hl 2 rfl) ?_
          refine lv_iadd hx hb dX9_cell_84 ?_
          obtain ⟨g8, hf⟩ := gd_inv hf
          refine ml_29 C hw g8 dX9_cell_85 ?_
          refine lv_i2l (v := (((u2 M 0 0 0) 29 ((60 * p1) + p2).toNatClampNeg).toInt64)) hx hb dX9_cell_86 rfl ?_
          obtain rfl := Option.some.inj hf
          exact qt_l C hr hlocks hw dX9_cell_87
        · have hf := it_f h7 hf
          refine lv_aload_n hx hb dX9_cell_62 rfl (lv_at hl 0 rfl) ?_
          refine lv_aload_n hx hb dX9_cell_63 rfl (lv_at hl 0 rfl) ?_
          refine lv_iload_n hx hb dX9_cell_64 rfl (lv_at hl 1 rfl) ?_
          refine lv_iload_n hx hb dX9_cell_65 rfl (lv_at hl 2 rfl) ?_
          obtain ⟨r9, e10, hf⟩ := bd hf
          refine ct_V1 (q0 := 0) (ci := 9) (rest := [.ref a0]) C hw hA (kX9_noCell l D cI cB cS a0 am e10) cfX9_noCell tg_945 tg_947 ts_yX9_noCell ⟨(Nat.le_of_ble_eq_true rfl), (Nat.le_of_ble_eq_true rfl)⟩ ⟨(Nat.le_of_ble_eq_true rfl), (Nat.le_of_ble_eq_true rfl)⟩ rfl rfl rfl rfl hl.1 rfl (Nat.le_of_ble_eq_true rfl) dX9_cell_66 (fun H locs hw => ?_)
          refine ct_V1 (q0 := 0) (ci := 9) (rest := []) C hw hA (kX9_failedLong l D cI cB cS a0 am _ _) cfX9_failedLong tg_953 tg_955 ts_yX9_failedLong ⟨(Nat.le_of_ble_eq_true rfl), (Nat.le_of_ble_eq_true rfl)⟩ ⟨(Nat.le_of_ble_eq_true rfl), (Nat.le_of_ble_eq_true rfl)⟩ rfl rfl rfl rfl hl.1 rfl (Nat.le_of_ble_eq_true rfl) dX9_cell_69 (fun H locs hw => ?_)
          refine lv_goto (tgt := 87) hx hb dX9_cell_72 (by decide) ?_
          obtain rfl := Option.some.inj hf
          exact qt_l C hr hlocks hw dX9_cell_87
      · have hf := it_f h4 hf
        refine lv_aload_n hx hb dX9_cell_37 rfl (lv_at hl 0 rfl) ?_
        refine mg_28 C hw dX9_cell_38 ?_
        refine lv_iload_n hx hb dX9_cell_41 rfl (lv_at hl 1 rfl) ?_
        obtain ⟨g11, hf⟩ := gd_inv hf
        refine ml_28 C hw g11 dX9_cell_42 ?_
        refine lv_iload_n hx hb dX9_cell_43 rfl (lv_at hl 3 rfl) ?_
        refine lv_icmp_eq (tgt := 53) hx hb dX9_cell_44 (by decide) (fun h12 => ?_) (fun h12 => ?_)
        · have hf := it_t h12 hf
          refine lv_aload_n hx hb dX9_cell_53 rfl (lv_at hl 0 rfl) ?_
          refine lv_iload_n hx hb dX9_cell_54 rfl (lv_at hl 1 rfl) ?_
          refine lv_iload_n hx hb dX9_cell_55 rfl (lv_at hl 2 rfl) ?_
          obtain ⟨r13, e14, hf⟩ := bd hf
          refine ct_V1 (q0 := 0) (ci := 9) (rest := []) C hw hA (kX9_noCell l D cI cB cS a0 am e14) cfX9_noCell tg_945 tg_947 ts_yX9_noCell ⟨(Nat.le_of_ble_eq_true rfl), (Nat.le_of_ble_eq_true rfl)⟩ ⟨(Nat.le_of_ble_eq_true rfl), (Nat.le_of_ble_eq_true rfl)⟩ rfl rfl rfl rfl hl.1 rfl (Nat.le_of_ble_eq_true rfl) dX9_cell_56 (fun H locs hw => ?_)
          refine lv_if_le (tgt := 75) hx hb dX9_cell_59 (by decide) (fun h15 => ?_) (fun h15 => ?_)
          · have hf := it_t h15 hf
            refine lv_aload_n hx hb dX9_cell_75 rfl (lv_at hl 0 rfl) ?_
            refine mg_29 C hw dX9_cell_76 ?_
            refine lv_bipush (v := 60) hx hb dX9_cell_79 ib_60 ?_
            refine lv_iload_n hx hb dX9_cell_81 rfl (lv_at hl 1 rfl) ?_
            refine lv_imul hx hb dX9_cell_82 ?_
            refine lv_iload_n hx hb dX9_cell_83 rfl (lv_at hl 2 rfl) ?_
            refine lv_iadd hx hb dX9_cell_84 ?_
            obtain ⟨g16, hf⟩ := gd_inv hf
            refine ml_29 C hw g16 dX9_cell_85 ?_
            refine lv_i2l (v := (((u2 M 0 0 0) 29 ((60 * p1) + p2).toNatClampNeg).toInt64)) hx hb dX9_cell_86 rfl ?_
            obtain rfl := Option.some.inj hf
            exact qt_l C hr hlocks hw dX9_cell_87
          · have hf := it_f h15 hf
            refine lv_aload_n hx hb dX9_cell_62 rfl (lv_at hl 0 rfl) ?_
            refine lv_aload_n hx hb dX9_cell_63 rfl (lv_at hl 0 rfl) ?_
            refine lv_iload_n hx hb dX9_cell_64 rfl (lv_at hl 1 rfl) ?_
            refine lv_iload_n hx hb dX9_cell_65 rfl (lv_at hl 2 rfl) ?_
            obtain ⟨r17, e18, hf⟩ := bd hf
            refine ct_V1 (q0 := 0) (ci := 9) (rest := [.ref a0]) C hw hA (kX9_noCell l D cI cB cS a0 am e18) cfX9_noCell tg_945 tg_947 ts_yX9_noCell ⟨(Nat.le_of_ble_eq_true rfl), (Nat.le_of_ble_eq_true rfl)⟩ ⟨(Nat.le_of_ble_eq_true rfl), (Nat.le_of_ble_eq_true rfl)⟩ rfl rfl rfl rfl hl.1 rfl (Nat.le_of_ble_eq_true rfl) dX9_cell_66 (fun H locs hw => ?_)
            refine ct_V1 (q0 := 0) (ci := 9) (rest := []) C hw hA (kX9_failedLong l D cI cB cS a0 am _ _) cfX9_failedLong tg_953 tg_955 ts_yX9_failedLong ⟨(Nat.le_of_ble_eq_true rfl), (Nat.le_of_ble_eq_true rfl)⟩ ⟨(Nat.le_of_ble_eq_true rfl), (Nat.le_of_ble_eq_true rfl)⟩ rfl rfl rfl rfl hl.1 rfl (Nat.le_of_ble_eq_true rfl) dX9_cell_69 (fun H locs hw => ?_)
            refine lv_goto (tgt := 87) hx hb dX9_cell_72 (by decide) ?_
            obtain rfl := Option.some.inj hf
            exact qt_l C hr hlocks hw dX9_cell_87
        · have hf := it_f h12 hf
          refine lv_aload_n hx hb dX9_cell_47 rfl (lv_at hl 0 rfl) ?_
          refine lv_iconst (v := 2) hx hb dX9_cell_48 ic_2 ?_
          refine ct_V1 (q0 := 0) (ci := 9) (rest := []) C hw hA (kX9_failedLong l D cI cB cS a0 am _ _) cfX9_failedLong tg_953 tg_955 ts_yX9_failedLong ⟨(Nat.le_of_ble_eq_true rfl), (Nat.le_of_ble_eq_true rfl)⟩ ⟨(Nat.le_of_ble_eq_true rfl), (Nat.le_of_ble_eq_true rfl)⟩ rfl rfl rfl rfl hl.1 rfl (Nat.le_of_ble_eq_true rfl) dX9_cell_49 (fun H locs hw => ?_)
          obtain rfl := Option.some.inj hf
          exact qt_l C hr hlocks hw dX9_cell_52
    · have hf := it_t h2 hf
      refine ct_S1 (rest := []) C hw hA (kX9_lost l D cI cB cS _) cfX9_lost tg_902 tg_903 ⟨(Nat.le_of_ble_eq_true rfl), (Nat.le_of_ble_eq_true rfl)⟩ ⟨(Nat.le_of_ble_eq_true rfl), (Nat.le_of_ble_eq_true rfl)⟩ rfl hl.1 rfl (Nat.le_of_ble_eq_true rfl) dX9_cell_24 (fun H locs hw => ?_)
      obtain rfl := Option.some.inj hf
      exact qt_l C hr hlocks hw dX9_cell_27
theorem cfX9_copy : cf yX9_copy cX9_copy 7 (some .int) 5 := ⟨tg_960, by decide +kernel, tg_7⟩
set_option maxHeartbeats 4000000 in
theorem wX9_copy_107 {p : Program} {l : Launch} {e : Env} {s : State} {m : MethodId} {args : Array Value} {below : List Frame} {meth : Method} {c : Code} {D : va_G} {cI cB cS : ClassId} {a0 : Nat} {am : Nat → Nat} {ws0 : va_W} {v1 : Int32} {v2 : Int32} {v3 : Int32} {v4 : Int32} {v5 : Int32} (C : cx p c cX9_copy 7 s args m RX9 D cI cB cS) (hr : meth.sig.returnType = (some .int)) (hlocks : meth.locks = false) (hA : ∀ q, s.heap.size ≤ q → va_A ws0 s.heap.size q) {k : MS → Option (Int32 × MS)} {q : (Int32 × MS)}
    (hcg : True) : ∀ (fu : Nat) (v6 : Int32) (M : MS) (H : Heap) (locs : List Loc) (ls : Array Slot), wd D (va_A ws0 s.heap.size) s.heap (mW cI a0 am M) H locs → lv_has ls 7 [(0, .ref a0), (1, .int v1), (2, .int v2), (3, .int v3), (4, .int v4), (5, .int v5), (6, .int v6)] → fX9_copy_107 fu k v1 v2 v5 v6 M = some q →
    (∀  (M1 : MS) (H : Heap) (locs : List Loc) (ls : Array Slot), wd D (va_A ws0 s.heap.size) s.heap (mW cI a0 am M1) H locs → lv_has ls 7 [(0, .ref a0), (3, .int v3), (4, .int v4), (5, .int v5)] → k  M1 = some q → W p l e { frames := 2, cells := 0, slots := 0, locals := 45 } s m args below meth c H locs 0 0 (Qt D below args s ws0 (some (.int q.1)) (mW cI a0 am q.2)) (F0 m 141 ls [])) →
    W p l e { frames := 2, cells := 0, slots := 0, locals := 45 } s m args below meth c H locs 0 0 (Qt D below args s ws0 (some (.int q.1)) (mW cI a0 am q.2)) (F0 m 107 ls []) := by
  have hx := C.1
  have hb := C.2.1
  intro fu
  induction fu with
  | zero => intro v6 M H locs ls hw hl hf hk; rw [fX9_copy_107] at hf; cases hf
  | succ fu ih =>
      intro v6 M H locs ls hw hl hf hk
      rw [fX9_copy_107] at hf
      refine lv_iload hx hb dX9_copy_107 (lv_at hl 6 rfl) ?_
      refine lv_iload hx hb dX9_copy_109 (lv_at hl 5 rfl) ?_
      refine lv_icmp_ge (tgt := 141) hx hb dX9_copy_111 (by decide) (fun h14 => ?_) (fun h14 => ?_)
      · have hf := it_t h14 hf
        exact hk _ _ _ _ hw (lv_sub hl [0, 3, 4, 5] rfl) hf
      · have hf := it_f h14 hf
        refine lv_aload_n hx hb dX9_copy_114 rfl (lv_at hl 0 rfl) ?_
        refine mg_30 C hw dX9_copy_115 ?_
        refine lv_iload hx hb dX9_copy_118 (lv_at hl 6 rfl) ?_
        refine lv_aload_n hx hb dX9_copy_120 rfl (lv_at hl 0 rfl) ?_
        refine mg_29 C hw dX9_copy_121 ?_
        refine lv_bipush (v := 60) hx hb dX9_copy_124 ib_60 ?_
        refine lv_iload_n hx hb dX9_copy_126 rfl (lv_at hl 1 rfl) ?_
        refine lv_imul hx hb dX9_copy_127 ?_
        refine lv_iload_n hx hb dX9_copy_128 rfl (lv_at hl 2 rfl) ?_
        refine lv_iadd hx hb dX9_copy_129 ?_
        refine lv_iload hx hb dX9_copy_130 (lv_at hl 6 rfl) ?_
        refine lv_iadd hx hb dX9_copy_132 ?_
        obtain ⟨g15, hf⟩ := gd_inv hf
        refine ml_29 C hw g15 dX9_copy_133 ?_
        obtain ⟨g16, hf⟩ := gd_inv hf
        refine ms_30 C hw g16 dX9_copy_134 (fun H locs hw => ?_)
        refine lv_iinc (v := (v6 + 1)) (lv' := [(6, .int (v6 + 1)), (0, .ref a0), (1, .int v1), (2, .int v2), (3, .int v3), (4, .int v4), (5, .int v5)]) hx hb dX9_copy_135 hl (k := 6) rfl (iv_1 _) (by decide) rfl (fun ls hl => ?_)
        refine lv_goto (tgt := 107) hx hb dX9_copy_138 (by decide) ?_
        exact ih _ _ _ _ _ hw (lv_sub hl [1, 2, 3, 4, 5, 6, 0] rfl) hf hk
set_option maxHeartbeats 4000000 in
theorem wX9_copy_144 {p : Program} {l : Launch} {e : Env} {s : State} {m : MethodId} {args : Array Value} {below : List Frame} {meth : Method} {c : Code} {D : va_G} {cI cB cS : ClassId} {a0 : Nat} {am : Nat → Nat} {ws0 : va_W} {v3 : Int32} {v4 : Int32} {v5 : Int32} (C : cx p c cX9_copy 7 s args m RX9 D cI cB cS) (hr : meth.sig.returnType = (some .int)) (hlocks : meth.locks = false) (hA : ∀ q, s.heap.size ≤ q → va_A ws0 s.heap.size q) {k : MS → Option (Int32 × MS)} {q : (Int32 × MS)}
    (hcg : True) : ∀ (fu : Nat) (v6 : Int32) (M : MS) (H : Heap) (locs : List Loc) (ls : Array Slot), wd D (va_A ws0 s.heap.size) s.heap (mW cI a0 am M) H locs → lv_has ls 7 [(0, .ref a0), (3, .int v3), (4, .int v4), (5, .int v5), (6, .int v6)] → fX9_copy_144 fu k v3 v4 v5 v6 M = some q →
    (∀  (M1 : MS) (H : Heap) (locs : List Loc) (ls : Array Slot), wd D (va_A ws0 s.heap.size) s.heap (mW cI a0 am M1) H locs → lv_has ls 7 [(0, .ref a0), (5, .int v5)] → k  M1 = some q → W p l e { frames := 2, cells := 0, slots := 0, locals := 45 } s m args below meth c H locs 0 0 (Qt D below args s ws0 (some (.int q.1)) (mW cI a0 am q.2)) (F0 m 179 ls [])) →
    W p l e { frames := 2, cells := 0, slots := 0, locals := 45 } s m args below meth c H locs 0 0 (Qt D below args s ws0 (some (.int q.1)) (mW cI a0 am q.2)) (F0 m 144 ls []) := by
  have hx := C.1
  have hb := C.2.1
  intro fu
  induction fu with
  | zero => intro v6 M H locs ls hw hl hf hk; rw [fX9_copy_144] at hf; cases hf
  | succ fu ih =>
      intro v6 M H locs ls hw hl hf hk
      rw [fX9_copy_144] at hf
      refine lv_iload hx hb dX9_copy_144 (lv_at hl 4 rfl) ?_
      refine lv_iload hx hb dX9_copy_146 (lv_at hl 3 rfl) ?_
      refine lv_icmp_ge (tgt := 179) hx hb dX9_copy_148 (by decide) (fun h18 => ?_) (fun h18 => ?_)
      · have hf := it_t h18 hf
        exact hk _ _ _ _ hw (lv_sub hl [0, 3] rfl) hf
      · have hf := it_f h18 hf
        refine lv_aload_n hx hb dX9_copy_151 rfl (lv_at hl 0 rfl) ?_
        refine mg_29 C hw dX9_copy_152 ?_
        refine lv_bipush (v := 60) hx hb dX9_copy_155 ib_60 ?_
        refine lv_iload_n hx hb dX9_copy_157 rfl (lv_at hl 1 rfl) ?_
        refine lv_imul hx hb dX9_copy_158 ?_
        refine lv_iload hx hb dX9_copy_159 (lv_at hl 2 rfl) ?_
        refine lv_iadd hx hb dX9_copy_161 ?_
        refine lv_iload hx hb dX9_copy_162 (lv_at hl 4 rfl) ?_
        refine lv_iadd hx hb dX9_copy_164 ?_
        refine lv_aload_n hx hb dX9_copy_165 rfl (lv_at hl 0 rfl) ?_
        refine mg_30 C hw dX9_copy_166 ?_
        refine lv_iload hx hb dX9_copy_169 (lv_at hl 4 rfl) ?_
        obtain ⟨g19, hf⟩ := gd_inv hf
        refine ml_30 C hw g19 dX9_copy_171 ?_
        obtain ⟨g20, hf⟩ := gd_inv hf
        refine ms_29 C hw g20 dX9_copy_172 (fun H locs hw => ?_)
        refine lv_iinc (v := (v6 + 1)) (lv' := [(6, .int (v6 + 1)), (0, .ref a0), (3, .int v3), (4, .int v4), (5, .int v5)]) hx hb dX9_copy_173 hl (k := 4) rfl (iv_1 _) (by decide) rfl (fun ls hl => ?_)
        refine lv_goto (tgt := 144) hx hb dX9_copy_176 (by decide) ?_
        exact ih _ _ _ _ _ hw (lv_sub hl [1, 2, 3, 4, 0] rfl) hf hk
set_option maxHeartbeats 4000000 in
theorem kX9_copy (l : Launch) (D : va_G) (cI cB cS : ClassId) (a0 : Nat) (am : Nat → Nat) {p1 : Int32} {p2 : Int32} {p3 : Int32} {p4 : Int32} {p5 : Int32} {M : MS} {q : (Int32 × MS)} (hf : fX9_copy p1 p2 p3 p4 p5 M = some q) : Ct l D cI cB cS yX9_copy cX9_copy 7 (some .int) 2 45 [.ref a0, .int p1, .int p2, .int p3, .int p4, .int p5] (mW cI a0 am M) (some (.int q.1)) (mW cI a0 am q.2) := by
  refine Ct.ofW (by decide) (Nat.le_of_ble_eq_true rfl) ?_
  intro p e s m args below meth c ls C hr hlocks _ hw hl
  have hx := C.1
  have hb := C.2.1
  have hA : ∀ q, s.heap.size ≤ q → va_A (mW cI a0 am M) s.heap.size q := fun q h => Or.inr h
  have hcg := trivial
  have hl : lv_has ls 7 [(0, .ref a0), (1, .int p1), (2, .int p2), (3, .int p3), (4, .int p4), (5, .int p5)] := hl
  unfold fX9_copy at hf
  refine lv_iload_n hx hb dX9_copy_0 rfl (lv_at hl 1 rfl) ?_
  refine ct_S1 (rest := []) C hw hA (kX9_noSheet l D cI cB cS _ _) cfX9_noSheet tg_740 tg_741 ⟨(Nat.le_of_ble_eq_true rfl), (Nat.le_of_ble_eq_true rfl)⟩ ⟨(Nat.le_of_ble_eq_true rfl), (Nat.le_of_ble_eq_true rfl)⟩ rfl hl.1 rfl (Nat.le_of_ble_eq_true rfl) dX9_copy_1 (fun H locs hw => ?_)
  refine lv_if_ne (tgt := 14) hx hb dX9_copy_4 (by decide) (fun h1 => ?_) (fun h1 => ?_)
  · have hf := it_f h1 hf
    refine lv_aload_n hx hb dX9_copy_14 rfl (lv_at hl 0 rfl) ?_
    refine lv_iconst (v := (-1)) hx hb dX9_copy_15 ic_m1 ?_
    refine ct_V1 (q0 := 0) (ci := 9) (rest := []) C hw hA (kX9_refused l D cI cB cS a0 am _ _) cfX9_refused tg_747 tg_749 ts_yX9_refused ⟨(Nat.le_of_ble_eq_true rfl), (Nat.le_of_ble_eq_true rfl)⟩ ⟨(Nat.le_of_ble_eq_true rfl), (Nat.le_of_ble_eq_true rfl)⟩ rfl rfl rfl rfl hl.1 rfl (Nat.le_of_ble_eq_true rfl) dX9_copy_16 (fun H locs hw => ?_)
    obtain rfl := Option.some.inj hf
    exact qt_i C hr hlocks hw dX9_copy_19
  · have hf := it_t h1 hf
    refine lv_iload_n hx hb dX9_copy_7 rfl (lv_at hl 3 rfl) ?_
    refine ct_S1 (rest := []) C hw hA (kX9_noSheet l D cI cB cS _ _) cfX9_noSheet tg_740 tg_741 ⟨(Nat.le_of_ble_eq_true rfl), (Nat.le_of_ble_eq_true rfl)⟩ ⟨(Nat.le_of_ble_eq_true rfl), (Nat.le_of_ble_eq_true rfl)⟩ rfl hl.1 rfl (Nat.le_of_ble_eq_true rfl) dX9_copy_8 (fun H locs hw => ?_)
    refine lv_if_eq (tgt := 20) hx hb dX9_copy_11 (by decide) (fun h2 => ?_) (fun h2 => ?_)
    · have hf := it_t h2 hf
      refine lv_aload_n hx hb dX9_copy_20 rfl (lv_at hl 0 rfl) ?_
      refine mg_27 C hw dX9_copy_21 ?_
      refine lv_iload_n hx hb dX9_copy_24 rfl (lv_at hl 1 rfl) ?_
      obtain ⟨g3, hf⟩ := gd_inv hf
      refine ml_27 C hw g3 dX9_copy_25 ?_
      refine lv_if_lt (tgt := 38) hx hb dX9_copy_26 (by decide) (fun h4 => ?_) (fun h4 => ?_)
      · have hf := it_t h4 hf
        refine lv_aload_n hx hb dX9_copy_38 rfl (lv_at hl 0 rfl) ?_
        refine lv_iconst (v := 1) hx hb dX9_copy_39 ic_1 ?_
        refine ct_V1 (q0 := 0) (ci := 9) (rest := []) C hw hA (kX9_failed l D cI cB cS a0 am _ _) cfX9_failed tg_756 tg_758 ts_yX9_failed ⟨(Nat.le_of_ble_eq_true rfl), (Nat.le_of_ble_eq_true rfl)⟩ ⟨(Nat.le_of_ble_eq_true rfl), (Nat.le_of_ble_eq_true rfl)⟩ rfl rfl rfl rfl hl.1 rfl (Nat.le_of_ble_eq_true rfl) dX9_copy_40 (fun H locs hw => ?_)
        obtain rfl := Option.some.inj hf
        exact qt_i C hr hlocks hw dX9_copy_43
      · have hf := it_f h4 hf
        refine lv_aload_n hx hb dX9_copy_29 rfl (lv_at hl 0 rfl) ?_
        refine mg_27 C hw dX9_copy_30 ?_
        refine lv_iload_n hx hb dX9_copy_33 rfl (lv_at hl 3 rfl) ?_
        obtain ⟨g5, hf⟩ := gd_inv hf
        refine ml_27 C hw g5 dX9_copy_34 ?_
        refine lv_if_ge (tgt := 44) hx hb dX9_copy_35 (by decide) (fun h6 => ?_) (fun h6 => ?_)
        · have hf := it_t h6 hf
          refine lv_aload_n hx hb dX9_copy_44 rfl (lv_at hl 0 rfl) ?_
          refine mg_28 C hw dX9_copy_45 ?_
          refine lv_iload_n hx hb dX9_copy_48 rfl (lv_at hl 1 rfl) ?_
          obtain ⟨g7, hf⟩ := gd_inv hf
          refine ml_28 C hw g7 dX9_copy_49 ?_
          refine lv_aload_n hx hb dX9_copy_50 rfl (lv_at hl 0 rfl) ?_
          refine mg_28 C hw dX9_copy_51 ?_
          refine lv_iload_n hx hb dX9_copy_54 rfl (lv_at hl 3 rfl) ?_
          obtain ⟨g8, hf⟩ := gd_inv hf
          refine ml_28 C hw g8 dX9_copy_55 ?_
          refine lv_icmp_eq (tgt := 65) hx hb dX9_copy_56 (by decide) (fun h9 => ?_) (fun h9 => ?_)
          · have hf := it_t h9 hf
            refine lv_iload_n hx hb dX9_copy_65 rfl (lv_at hl 2 rfl) ?_
            refine lv_iload hx hb dX9_copy_66 (lv_at hl 5 rfl) ?_
            refine lv_i2l (v := (p5.toInt64)) hx hb dX9_copy_68 rfl ?_
            refine lv_aload_n hx hb dX9_copy_69 rfl (lv_at hl 0 rfl) ?_
            refine mg_27 C hw dX9_copy_70 ?_
            refine lv_iload_n hx hb dX9_copy_73 rfl (lv_at hl 1 rfl) ?_
            obtain ⟨g10, hf⟩ := gd_inv hf
            refine ml_27 C hw g10 dX9_copy_74 ?_
            refine ct_S1 (rest := []) C hw hA (kX9_isBeyond l D cI cB cS _ _ _ _) cfX9_isBeyond tg_760 tg_761 ⟨(Nat.le_of_ble_eq_true rfl), (Nat.le_of_ble_eq_true rfl)⟩ ⟨(Nat.le_of_ble_eq_true rfl), (Nat.le_of_ble_eq_true rfl)⟩ rfl hl.1 rfl (Nat.le_of_ble_eq_true rfl) dX9_copy_75 (fun H locs hw => ?_)
            refine lv_if_ne (tgt := 98) hx hb dX9_copy_78 (by decide) (fun h11 => ?_) (fun h11 => ?_)
            · have hf := it_f h11 hf
              refine lv_aload_n hx hb dX9_copy_98 rfl (lv_at hl 0 rfl) ?_
              refine lv_iconst (v := 3) hx hb dX9_copy_99 ic_3 ?_
              refine ct_V1 (q0 := 0) (ci := 9) (rest := []) C hw hA (kX9_failed l D cI cB cS a0 am _ _) cfX9_failed tg_756 tg_758 ts_yX9_failed ⟨(Nat.le_of_ble_eq_true rfl), (Nat.le_of_ble_eq_true rfl)⟩ ⟨(Nat.le_of_ble_eq_true rfl), (Nat.le_of_ble_eq_true rfl)⟩ rfl rfl rfl rfl hl.1 rfl (Nat.le_of_ble_eq_true rfl) dX9_copy_100 (fun H locs hw => ?_)
              obtain rfl := Option.some.inj hf
              exact qt_i C hr hlocks hw dX9_copy_103
            · have hf := it_t h11 hf
              refine lv_iload hx hb dX9_copy_81 (lv_at hl 4 rfl) ?_
              refine lv_iload hx hb dX9_copy_83 (lv_at hl 5 rfl) ?_
              refine lv_i2l (v := (p5.toInt64)) hx hb dX9_copy_85 rfl ?_
              refine lv_aload_n hx hb dX9_copy_86 rfl (lv_at hl 0 rfl) ?_
              refine mg_27 C hw dX9_copy_87 ?_
              refine lv_iload_n hx hb dX9_copy_90 rfl (lv_at hl 3 rfl) ?_
              obtain ⟨g12, hf⟩ := gd_inv hf
              refine ml_27 C hw g12 dX9_copy_91 ?_
              refine ct_S1 (rest := []) C hw hA (kX9_isBeyond l D cI cB cS _ _ _ _) cfX9_isBeyond tg_760 tg_761 ⟨(Nat.le_of_ble_eq_true rfl), (Nat.le_of_ble_eq_true rfl)⟩ ⟨(Nat.le_of_ble_eq_true rfl), (Nat.le_of_ble_eq_true rfl)⟩ rfl hl.1 rfl (Nat.le_of_ble_eq_true rfl) dX9_copy_92 (fun H locs hw => ?_)
              refine lv_if_eq (tgt := 104) hx hb dX9_copy_95 (by decide) (fun h13 => ?_) (fun h13 => ?_)
              · have hf := it_t h13 hf
                refine lv_iconst (v := 0) hx hb dX9_copy_104 ic_0 ?_
                refine lv_istore (lv' := [(6, .int 0), (0, .ref a0), (1, .int p1), (2, .int p2), (3, .int p3), (4, .int p4), (5, .int p5)]) hx hb dX9_copy_105 hl (by decide) rfl (fun ls hl => ?_)
                refine wX9_copy_107 C hr hlocks hA hcg 300 _ _ _ _ _ hw (lv_sub hl [1, 2, 3, 4, 5, 6, 0] rfl) hf (fun M17 H locs ls hw hl hf => ?_)
                refine lv_iconst (v := 0) hx hb dX9_copy_141 ic_0 ?_
                refine lv_istore (lv' := [(6, .int 0), (0, .ref a0), (3, .int p3), (4, .int p4), (5, .int p5)]) hx hb dX9_copy_142 hl (by decide) rfl (fun ls hl => ?_)
                refine wX9_copy_144 C hr hlocks hA hcg 300 _ _ _ _ _ hw (lv_sub hl [1, 2, 3, 4, 0] rfl) hf (fun M21 H locs ls hw hl hf => ?_)
                refine lv_aload_n hx hb dX9_copy_179 rfl (lv_at hl 0 rfl) ?_
                refine lv_iload hx hb dX9_copy_180 (lv_at hl 1 rfl) ?_
                refine ct_V1 (q0 := 0) (ci := 9) (rest := []) C hw hA (kX9_refused l D cI cB cS a0 am _ _) cfX9_refused tg_747 tg_749 ts_yX9_refused ⟨(Nat.le_of_ble_eq_true rfl), (Nat.le_of_ble_eq_true rfl)⟩ ⟨(Nat.le_of_ble_eq_true rfl), (Nat.le_of_ble_eq_true rfl)⟩ rfl rfl rfl rfl hl.1 rfl (Nat.le_of_ble_eq_true rfl) dX9_copy_182 (fun H locs hw => ?_)
                obtain rfl := Option.some.inj hf
                exact qt_i C hr hlocks hw dX9_copy_185
              · have hf := it_f h13 hf
                refine lv_aload_n hx hb dX9_copy_98 rfl (lv_at hl 0 rfl) ?_
                refine lv_iconst (v := 3) hx hb dX9_copy_99 ic_3 ?_
                refine ct_V1 (q0 := 0) (ci := 9) (rest := []) C hw hA (kX9_failed l D cI cB cS a0 am _ _) cfX9_failed tg_756 tg_758 ts_yX9_failed ⟨(Nat.le_of_ble_eq_true rfl), (Nat.le_of_ble_eq_true rfl)⟩ ⟨(Nat.le_of_ble_eq_true rfl), (Nat.le_of_ble_eq_true rfl)⟩ rfl rfl rfl rfl hl.1 rfl (Nat.le_of_ble_eq_true rfl) dX9_copy_100 (fun H locs hw => ?_)
                obtain rfl := Option.some.inj hf
                exact qt_i C hr hlocks hw dX9_copy_103
          · have hf := it_f h9 hf
            refine lv_aload_n hx hb dX9_copy_59 rfl (lv_at hl 0 rfl) ?_
            refine lv_iconst (v := 2) hx hb dX9_copy_60 ic_2 ?_
            refine ct_V1 (q0 := 0) (ci := 9) (rest := []) C hw hA (kX9_failed l D cI cB cS a0 am _ _) cfX9_failed tg_756 tg_758 ts_yX9_failed ⟨(Nat.le_of_ble_eq_true rfl), (Nat.le_of_ble_eq_true rfl)⟩ ⟨(Nat.le_of_ble_eq_true rfl), (Nat.le_of_ble_eq_true rfl)⟩ rfl rfl rfl rfl hl.1 rfl (Nat.le_of_ble_eq_true rfl) dX9_copy_61 (fun H locs hw => ?_)
            obtain rfl := Option.some.inj hf
            exact qt_i C hr hlocks hw dX9_copy_64
        · have hf := it_f h6 hf
          refine lv_aload_n hx hb dX9_copy_38 rfl (lv_at hl 0 rfl) ?_
          refine lv_iconst (v := 1) hx hb dX9_copy_39 ic_1 ?_
          refine ct_V1 (q0 := 0) (ci := 9) (rest := []) C hw hA (kX9_failed l D cI cB cS a0 am _ _) cfX9_failed tg_756 tg_758 ts_yX9_failed ⟨(Nat.le_of_ble_eq_true rfl), (Nat.le_of_ble_eq_true rfl)⟩ ⟨(Nat.le_of_ble_eq_true rfl), (Nat.le_of_ble_eq_true rfl)⟩ rfl rfl rfl rfl hl.1 rfl (Nat.le_of_ble_eq_true rfl) dX9_copy_40 (fun H locs hw => ?_)
          obtain rfl := Option.some.inj hf
          exact qt_i C hr hlocks hw dX9_copy_43
    · have hf := it_f h2 hf
      refine lv_aload_n hx hb dX9_copy_14 rfl (lv_at hl 0 rfl) ?_
      refine lv_iconst (v := (-1)) hx hb dX9_copy_15 ic_m1 ?_
      refine ct_V1 (q0 := 0) (ci := 9) (rest := []) C hw hA (kX9_refused l D cI cB cS a0 am _ _) cfX9_refused tg_747 tg_749 ts_yX9_refused ⟨(Nat.le_of_ble_eq_true rfl), (Nat.le_of_ble_eq_true rfl)⟩ ⟨(Nat.le_of_ble_eq_true rfl), (Nat.le_of_ble_eq_true rfl)⟩ rfl rfl rfl rfl hl.1 rfl (Nat.le_of_ble_eq_true rfl) dX9_copy_16 (fun H locs hw => ?_)
      obtain rfl := Option.some.inj hf
      exact qt_i C hr hlocks hw dX9_copy_19
theorem cfX9_traced : cf yX9_traced cX9_traced 2 none 1 := ⟨tg_968, by decide +kernel, tg_7⟩
set_option maxHeartbeats 4000000 in
theorem kX9_traced (l : Launch) (D : va_G) (cI cB cS : ClassId) (a0 : Nat) (am : Nat → Nat) (p1 : Int32) (M : MS) : Ct l D cI cB cS yX9_traced cX9_traced 2 none 0 0 [.ref a0, .int p1] (mW cI a0 am M) none (mW cI a0 am (fX9_traced p1 M)) := by
  obtain ⟨q, hf⟩ : ∃ q, fX9_traced p1 M = q := ⟨_, rfl⟩
  rw [hf]
  refine Ct.ofW (by decide) (Nat.le_of_ble_eq_true rfl) ?_
  intro p e s m args below meth c ls C hr hlocks _ hw hl
  have hx := C.1
  have hb := C.2.1
  have hA : ∀ q, s.heap.size ≤ q → va_A (mW cI a0 am M) s.heap.size q := fun q h => Or.inr h
  have hcg := trivial
  have hl : lv_has ls 2 [(0, .ref a0), (1, .int p1)] := hl
  unfold fX9_traced at hf
  refine lv_aload_n hx hb dX9_traced_0 rfl (lv_at hl 0 rfl) ?_
  refine lv_bipush (v := 31) hx hb dX9_traced_1 ib_31 ?_
  refine lv_aload_n hx hb dX9_traced_3 rfl (lv_at hl 0 rfl) ?_
  refine mg_31 C hw dX9_traced_4 ?_
  refine lv_imul hx hb dX9_traced_7 ?_
  refine lv_iload_n hx hb dX9_traced_8 rfl (lv_at hl 1 rfl) ?_
  refine lv_iadd hx hb dX9_traced_9 ?_
  refine mp_31 C hw dX9_traced_10 (fun H locs hw => ?_)
  subst hf
  exact qt_v C hr hlocks hw dX9_traced_13
theorem cfX9_tell : cf yX9_tell cX9_tell 4 (some .int) 1 := ⟨tg_964, by decide +kernel, tg_7⟩
set_option maxHeartbeats 4000000 in
theorem kX9_tell (l : Launch) (D : va_G) (cI cB cS : ClassId) (a0 : Nat) (am : Nat → Nat) {p1 : Int32} {M : MS} {q : (Int32 × MS)} (hf : fX9_tell p1 M = some q) : Ct l D cI cB cS yX9_tell cX9_tell 4 (some .int) 2 46 [.ref a0, .int p1] (mW cI a0 am M) (some (.int q.1)) (mW cI a0 am q.2) := by
  refine Ct.ofW (by decide) (Nat.le_of_ble_eq_true rfl) ?_
  intro p e s m args below meth c ls C hr hlocks _ hw hl
  have hx := C.1
  have hb := C.2.1
  have hA : ∀ q, s.heap.size ≤ q → va_A (mW cI a0 am M) s.heap.size q := fun q h => Or.inr h
  have hcg := trivial
  have hl : lv_has ls 4 [(0, .ref a0), (1, .int p1)] := hl
  unfold fX9_tell at hf
  refine lv_aload_n hx hb dX9_tell_0 rfl (lv_at hl 0 rfl) ?_
  refine lv_iload_n hx hb dX9_tell_1 rfl (lv_at hl 1 rfl) ?_
  refine ct_V1 (q0 := 0) (ci := 9) (rest := []) C hw hA (kX9_noBuyer l D cI cB cS a0 am _ _) cfX9_noBuyer tg_786 tg_788 ts_yX9_noBuyer ⟨(Nat.le_of_ble_eq_true rfl), (Nat.le_of_ble_eq_true rfl)⟩ ⟨(Nat.le_of_ble_eq_true rfl), (Nat.le_of_ble_eq_true rfl)⟩ rfl rfl rfl rfl hl.1 rfl (Nat.le_of_ble_eq_true rfl) dX9_tell_2 (fun H locs hw => ?_)
  refine lv_if_eq (tgt := 10) hx hb dX9_tell_5 (by decide) (fun h1 => ?_) (fun h1 => ?_)
  · have hf := it_t h1 hf
    refine lv_aload_n hx hb dX9_tell_10 rfl (lv_at hl 0 rfl) ?_
    refine mg_4 C hw dX9_tell_11 ?_
    refine lv_iload_n hx hb dX9_tell_14 rfl (lv_at hl 1 rfl) ?_
    obtain ⟨g2, hf⟩ := gd_inv hf
    refine ml_4 C hw g2 dX9_tell_15 ?_
    refine lv_istore_n (lv' := [(2, .int (M 4 p1.toNatClampNeg)), (0, .ref a0), (1, .int p1)]) hx hb dX9_tell_16 rfl hl (by decide) rfl (fun ls hl => ?_)
    refine lv_iload_n hx hb dX9_tell_17 rfl (lv_at hl 0 rfl) ?_
    refine lv_iconst (v := 2) hx hb dX9_tell_18 ic_2 ?_
    refine lv_icmp_ne (tgt := 27) hx hb dX9_tell_19 (by decide) (fun h3 => ?_) (fun h3 => ?_)
    · have hf := it_f h3 hf
      refine lv_iload_n hx hb dX9_tell_27 rfl (lv_at hl 0 rfl) ?_
      refine lv_if_le (tgt := 36) hx hb dX9_tell_28 (by decide) (fun h4 => ?_) (fun h4 => ?_)
      · have hf := it_t h4 hf
        refine lv_aload_n hx hb dX9_tell_36 rfl (lv_at hl 1 rfl) ?_
        refine lv_iconst (v := 1) hx hb dX9_tell_37 ic_1 ?_
        refine ct_V0 (q0 := 0) (ci := 9) (rest := []) C hw hA (kX9_traced l D cI cB cS a0 am _ _) cfX9_traced tg_965 tg_967 ts_yX9_traced ⟨(Nat.le_of_ble_eq_true rfl), (Nat.le_of_ble_eq_true rfl)⟩ ⟨(Nat.le_of_ble_eq_true rfl), (Nat.le_of_ble_eq_true rfl)⟩ rfl rfl rfl rfl hl.1 rfl (Nat.le_of_ble_eq_true rfl) dX9_tell_38 (fun H locs hw => ?_)
        refine lv_iload_n hx hb dX9_tell_41 rfl (lv_at hl 0 rfl) ?_
        refine lv_iconst (v := 2) hx hb dX9_tell_42 ic_2 ?_
        refine lv_icmp_ne (tgt := 51) hx hb dX9_tell_43 (by decide) (fun h5 => ?_) (fun h5 => ?_)
        · have hf := it_f h5 hf
          refine lv_aload_n hx hb dX9_tell_51 rfl (lv_at hl 1 rfl) ?_
          refine mg_5 C hw dX9_tell_52 ?_
          refine lv_iload_n hx hb dX9_tell_55 rfl (lv_at hl 2 rfl) ?_
          obtain ⟨g6, hf⟩ := gd_inv hf
          refine ml_5 C hw g6 dX9_tell_56 ?_
          refine lv_istore_n (lv' := [(3, .int ((fX9_traced (1 : Int32) M) 5 p1.toNatClampNeg)), (2, .int (M 4 p1.toNatClampNeg)), (0, .ref a0), (1, .int p1)]) hx hb dX9_tell_57 rfl hl (by decide) rfl (fun ls hl => ?_)
          refine lv_iload_n hx hb dX9_tell_58 rfl (lv_at hl 1 rfl) ?_
          refine lv_if_ne (tgt := 66) hx hb dX9_tell_59 (by decide) (fun h7 => ?_) (fun h7 => ?_)
          · have hf := it_f h7 hf
            refine lv_iload_n hx hb dX9_tell_66 rfl (lv_at hl 1 rfl) ?_
            refine lv_iconst (v := 1) hx hb dX9_tell_67 ic_1 ?_
            refine lv_icmp_ne (tgt := 78) hx hb dX9_tell_68 (by decide) (fun h8 => ?_) (fun h8 => ?_)
            · have hf := it_f h8 hf
              refine lv_iconst (v := 2) hx hb dX9_tell_78 ic_2 ?_
              refine lv_iload_n hx hb dX9_tell_79 rfl (lv_at hl 0 rfl) ?_
              refine lv_imul hx hb dX9_tell_80 ?_
              refine lv_bipush (v := 100) hx hb dX9_tell_81 ib_100 ?_
              refine lv_iadd hx hb dX9_tell_83 ?_
              obtain rfl := Option.some.inj hf
              exact qt_i C hr hlocks hw dX9_tell_84
            · have hf := it_t h8 hf
              refine lv_iload_n hx hb dX9_tell_71 rfl (lv_at hl 0 rfl) ?_
              refine lv_bipush (v := 100) hx hb dX9_tell_72 ib_100 ?_
              refine lv_iadd hx hb dX9_tell_74 ?_
              refine lv_goto (tgt := 84) hx hb dX9_tell_75 (by decide) ?_
              obtain rfl := Option.some.inj hf
              exact qt_i C hr hlocks hw dX9_tell_84
          · have hf := it_t h7 hf
            refine lv_iload_n hx hb dX9_tell_62 rfl (lv_at hl 0 rfl) ?_
            refine lv_goto (tgt := 84) hx hb dX9_tell_63 (by decide) ?_
            obtain rfl := Option.some.inj hf
            exact qt_i C hr hlocks hw dX9_tell_84
        · have hf := it_t h5 hf
          refine lv_aload_n hx hb dX9_tell_46 rfl (lv_at hl 1 rfl) ?_
          refine lv_iconst (v := 1) hx hb dX9_tell_47 ic_1 ?_
          refine ct_V0 (q0 := 0) (ci := 9) (rest := []) C hw hA (kX9_traced l D cI cB cS a0 am _ _) cfX9_traced tg_965 tg_967 ts_yX9_traced ⟨(Nat.le_of_ble_eq_true rfl), (Nat.le_of_ble_eq_true rfl)⟩ ⟨(Nat.le_of_ble_eq_true rfl), (Nat.le_of_ble_eq_true rfl)⟩ rfl rfl rfl rfl hl.1 rfl (Nat.le_of_ble_eq_true rfl) dX9_tell_48 (fun H locs hw => ?_)
          refine lv_aload_n hx hb dX9_tell_51 rfl (lv_at hl 1 rfl) ?_
          refine mg_5 C hw dX9_tell_52 ?_
          refine lv_iload_n hx hb dX9_tell_55 rfl (lv_at hl 2 rfl) ?_
          obtain ⟨g9, hf⟩ := gd_inv hf
          refine ml_5 C hw g9 dX9_tell_56 ?_
          refine lv_istore_n (lv' := [(3, .int ((fX9_traced (1 : Int32) (fX9_traced (1 : Int32) M)) 5 p1.toNatClampNeg)), (2, .int (M 4 p1.toNatClampNeg)), (0, .ref a0), (1, .int p1)]) hx hb dX9_tell_57 rfl hl (by decide) rfl (fun ls hl => ?_)
          refine lv_iload_n hx hb dX9_tell_58 rfl (lv_at hl 1 rfl) ?_
          refine lv_if_ne (tgt := 66) hx hb dX9_tell_59 (by decide) (fun h10 => ?_) (fun h10 => ?_)
          · have hf := it_f h10 hf
            refine lv_iload_n hx hb dX9_tell_66 rfl (lv_at hl 1 rfl) ?_
            refine lv_iconst (v := 1) hx hb dX9_tell_67 ic_1 ?_
            refine lv_icmp_ne (tgt := 78) hx hb dX9_tell_68 (by decide) (fun h11 => ?_) (fun h11 => ?_)
            · have hf := it_f h11 hf
              refine lv_iconst (v := 2) hx hb dX9_tell_78 ic_2 ?_
              refine lv_iload_n hx hb dX9_tell_79 rfl (lv_at hl 0 rfl) ?_
              refine lv_imul hx hb dX9_tell_80 ?_
              refine lv_bipush (v := 100) hx hb dX9_tell_81 ib_100 ?_
              refine lv_iadd hx hb dX9_tell_83 ?_
              obtain rfl := Option.some.inj hf
              exact qt_i C hr hlocks hw dX9_tell_84
            · have hf := it_t h11 hf
              refine lv_iload_n hx hb dX9_tell_71 rfl (lv_at hl 0 rfl) ?_
              refine lv_bipush (v := 100) hx hb dX9_tell_72 ib_100 ?_
              refine lv_iadd hx hb dX9_tell_74 ?_
              refine lv_goto (tgt := 84) hx hb dX9_tell_75 (by decide) ?_
              obtain rfl := Option.some.inj hf
              exact qt_i C hr hlocks hw dX9_tell_84
          · have hf := it_t h10 hf
            refine lv_iload_n hx hb dX9_tell_62 rfl (lv_at hl 0 rfl) ?_
            refine lv_goto (tgt := 84) hx hb dX9_tell_63 (by decide) ?_
            obtain rfl := Option.some.inj hf
            exact qt_i C hr hlocks hw dX9_tell_84
      · have hf := it_f h4 hf
        refine lv_aload_n hx hb dX9_tell_31 rfl (lv_at hl 1 rfl) ?_
        refine lv_iconst (v := 2) hx hb dX9_tell_32 ic_2 ?_
        refine ct_V0 (q0 := 0) (ci := 9) (rest := []) C hw hA (kX9_traced l D cI cB cS a0 am _ _) cfX9_traced tg_965 tg_967 ts_yX9_traced ⟨(Nat.le_of_ble_eq_true rfl), (Nat.le_of_ble_eq_true rfl)⟩ ⟨(Nat.le_of_ble_eq_true rfl), (Nat.le_of_ble_eq_true rfl)⟩ rfl rfl rfl rfl hl.1 rfl (Nat.le_of_ble_eq_true rfl) dX9_tell_33 (fun H locs hw => ?_)
        refine lv_aload_n hx hb dX9_tell_36 rfl (lv_at hl 1 rfl) ?_
        refine lv_iconst (v := 1) hx hb dX9_tell_37 ic_1 ?_
        refine ct_V0 (q0 := 0) (ci := 9) (rest := []) C hw hA (kX9_traced l D cI cB cS a0 am _ _) cfX9_traced tg_965 tg_967 ts_yX9_traced ⟨(Nat.le_of_ble_eq_true rfl), (Nat.le_of_ble_eq_true rfl)⟩ ⟨(Nat.le_of_ble_eq_true rfl), (Nat.le_of_ble_eq_true rfl)⟩ rfl rfl rfl rfl hl.1 rfl (Nat.le_of_ble_eq_true rfl) dX9_tell_38 (fun H locs hw => ?_)
        refine lv_iload_n hx hb dX9_tell_41 rfl (lv_at hl 0 rfl) ?_
        refine lv_iconst (v := 2) hx hb dX9_tell_42 ic_2 ?_
        refine lv_icmp_ne (tgt := 51) hx hb dX9_tell_43 (by decide) (fun h12 => ?_) (fun h12 => ?_)
        · have hf := it_f h12 hf
          refine lv_aload_n hx hb dX9_tell_51 rfl (lv_at hl 1 rfl) ?_
          refine mg_5 C hw dX9_tell_52 ?_
          refine lv_iload_n hx hb dX9_tell_55 rfl (lv_at hl 2 rfl) ?_
          obtain ⟨g13, hf⟩ := gd_inv hf
          refine ml_5 C hw g13 dX9_tell_56 ?_
          refine lv_istore_n (lv' := [(3, .int ((fX9_traced (1 : Int32) (fX9_traced (2 : Int32) M)) 5 p1.toNatClampNeg)), (2, .int (M 4 p1.toNatClampNeg)), (0, .ref a0), (1, .int p1)]) hx hb dX9_tell_57 rfl hl (by decide) rfl (fun ls hl => ?_)
          refine lv_iload_n hx hb dX9_tell_58 rfl (lv_at hl 1 rfl) ?_
          refine lv_if_ne (tgt := 66) hx hb dX9_tell_59 (by decide) (fun h14 => ?_) (fun h14 => ?_)
          · have hf := it_f h14 hf
            refine lv_iload_n hx hb dX9_tell_66 rfl (lv_at hl 1 rfl) ?_
            refine lv_iconst (v := 1) hx hb dX9_tell_67 ic_1 ?_
            refine lv_icmp_ne (tgt := 78) hx hb dX9_tell_68 (by decide) (fun h15 => ?_) (fun h15 => ?_)
            · have hf := it_f h15 hf
              refine lv_iconst (v := 2) hx hb dX9_tell_78 ic_2 ?_
              refine lv_iload_n hx hb dX9_tell_79 rfl (lv_at hl 0 rfl) ?_
              refine lv_imul hx hb dX9_tell_80 ?_
              refine lv_bipush (v := 100) hx hb dX9_tell_81 ib_100 ?_
              refine lv_iadd hx hb dX9_tell_83 ?_
              obtain rfl := Option.some.inj hf
              exact qt_i C hr hlocks hw dX9_tell_84
            · have hf := it_t h15 hf
              refine lv_iload_n hx hb dX9_tell_71 rfl (lv_at hl 0 rfl) ?_
              refine lv_bipush (v := 100) hx hb dX9_tell_72 ib_100 ?_
              refine lv_iadd hx hb dX9_tell_74 ?_
              refine lv_goto (tgt := 84) hx hb dX9_tell_75 (by decide) ?_
              obtain rfl := Option.some.inj hf
              exact qt_i C hr hlocks hw dX9_tell_84
          · have hf := it_t h14 hf
            refine lv_iload_n hx hb dX9_tell_62 rfl (lv_at hl 0 rfl) ?_
            refine lv_goto (tgt := 84) hx hb dX9_tell_63 (by decide) ?_
            obtain rfl := Option.some.inj hf
            exact qt_i C hr hlocks hw dX9_tell_84
        · have hf := it_t h12 hf
          refine lv_aload_n hx hb dX9_tell_46 rfl (lv_at hl 1 rfl) ?_
          refine lv_iconst (v := 1) hx hb dX9_tell_47 ic_1 ?_
          refine ct_V0 (q0 := 0) (ci := 9) (rest := []) C hw hA (kX9_traced l D cI cB cS a0 am _ _) cfX9_traced tg_965 tg_967 ts_yX9_traced ⟨(Nat.le_of_ble_eq_true rfl), (Nat.le_of_ble_eq_true rfl)⟩ ⟨(Nat.le_of_ble_eq_true rfl), (Nat.le_of_ble_eq_true rfl)⟩ rfl rfl rfl rfl hl.1 rfl (Nat.le_of_ble_eq_true rfl) dX9_tell_48 (fun H locs hw => ?_)
          refine lv_aload_n hx hb dX9_tell_51 rfl (lv_at hl 1 rfl) ?_
          refine mg_5 C hw dX9_tell_52 ?_
          refine lv_iload_n hx hb dX9_tell_55 rfl (lv_at hl 2 rfl) ?_
          obtain ⟨g16, hf⟩ := gd_inv hf
          refine ml_5 C hw g16 dX9_tell_56 ?_
          refine lv_istore_n (lv' := [(3, .int ((fX9_traced (1 : Int32) (fX9_traced (1 : Int32) (fX9_traced (2 : Int32) M))) 5 p1.toNatClampNeg)), (2, .int (M 4 p1.toNatClampNeg)), (0, .ref a0), (1, .int p1)]) hx hb dX9_tell_57 rfl hl (by decide) rfl (fun ls hl => ?_)
          refine lv_iload_n hx hb dX9_tell_58 rfl (lv_at hl 1 rfl) ?_
          refine lv_if_ne (tgt := 66) hx hb dX9_tell_59 (by decide) (fun h17 => ?_) (fun h17 => ?_)
          · have hf := it_f h17 hf
            refine lv_iload_n hx hb dX9_tell_66 rfl (lv_at hl 1 rfl) ?_
            refine lv_iconst (v := 1) hx hb dX9_tell_67 ic_1 ?_
            refine lv_icmp_ne (tgt := 78) hx hb dX9_tell_68 (by decide) (fun h18 => ?_) (fun h18 => ?_)
            · have hf := it_f h18 hf
              refine lv_iconst (v := 2) hx hb dX9_tell_78 ic_2 ?_
              refine lv_iload_n hx hb dX9_tell_79 rfl (lv_at hl 0 rfl) ?_
              refine lv_imul hx hb dX9_tell_80 ?_
              refine lv_bipush (v := 100) hx hb dX9_tell_81 ib_100 ?_
              refine lv_iadd hx hb dX9_tell_83 ?_
              obtain rfl := Option.some.inj hf
              exact qt_i C hr hlocks hw dX9_tell_84
            · have hf := it_t h18 hf
              refine lv_iload_n hx hb dX9_tell_71 rfl (lv_at hl 0 rfl) ?_
              refine lv_bipush (v := 100) hx hb dX9_tell_72 ib_100 ?_
              refine lv_iadd hx hb dX9_tell_74 ?_
              refine lv_goto (tgt := 84) hx hb dX9_tell_75 (by decide) ?_
              obtain rfl := Option.some.inj hf
              exact qt_i C hr hlocks hw dX9_tell_84
          · have hf := it_t h17 hf
            refine lv_iload_n hx hb dX9_tell_62 rfl (lv_at hl 0 rfl) ?_
            refine lv_goto (tgt := 84) hx hb dX9_tell_63 (by decide) ?_
            obtain rfl := Option.some.inj hf
            exact qt_i C hr hlocks hw dX9_tell_84
    · have hf := it_t h3 hf
      refine lv_aload_n hx hb dX9_tell_22 rfl (lv_at hl 1 rfl) ?_
      refine lv_iconst (v := 3) hx hb dX9_tell_23 ic_3 ?_
      refine ct_V0 (q0 := 0) (ci := 9) (rest := []) C hw hA (kX9_traced l D cI cB cS a0 am _ _) cfX9_traced tg_965 tg_967 ts_yX9_traced ⟨(Nat.le_of_ble_eq_true rfl), (Nat.le_of_ble_eq_true rfl)⟩ ⟨(Nat.le_of_ble_eq_true rfl), (Nat.le_of_ble_eq_true rfl)⟩ rfl rfl rfl rfl hl.1 rfl (Nat.le_of_ble_eq_true rfl) dX9_tell_24 (fun H locs hw => ?_)
      refine lv_iload_n hx hb dX9_tell_27 rfl (lv_at hl 0 rfl) ?_
      refine lv_if_le (tgt := 36) hx hb dX9_tell_28 (by decide) (fun h19 => ?_) (fun h19 => ?_)
      · have hf := it_t h19 hf
        refine lv_aload_n hx hb dX9_tell_36 rfl (lv_at hl 1 rfl) ?_
        refine lv_iconst (v := 1) hx hb dX9_tell_37 ic_1 ?_
        refine ct_V0 (q0 := 0) (ci := 9) (rest := []) C hw hA (kX9_traced l D cI cB cS a0 am _ _) cfX9_traced tg_965 tg_967 ts_yX9_traced ⟨(Nat.le_of_ble_eq_true rfl), (Nat.le_of_ble_eq_true rfl)⟩ ⟨(Nat.le_of_ble_eq_true rfl), (Nat.le_of_ble_eq_true rfl)⟩ rfl rfl rfl rfl hl.1 rfl (Nat.le_of_ble_eq_true rfl) dX9_tell_38 (fun H locs hw => ?_)
        refine lv_iload_n hx hb dX9_tell_41 rfl (lv_at hl 0 rfl) ?_
        refine lv_iconst (v := 2) hx hb dX9_tell_42 ic_2 ?_
        refine lv_icmp_ne (tgt := 51) hx hb dX9_tell_43 (by decide) (fun h20 => ?_) (fun h20 => ?_)
        · have hf := it_f h20 hf
          refine lv_aload_n hx hb dX9_tell_51 rfl (lv_at hl 1 rfl) ?_
          refine mg_5 C hw dX9_tell_52 ?_
          refine lv_iload_n hx hb dX9_tell_55 rfl (lv_at hl 2 rfl) ?_
          obtain ⟨g21, hf⟩ := gd_inv hf
          refine ml_5 C hw g21 dX9_tell_56 ?_
          refine lv_istore_n (lv' := [(3, .int ((fX9_traced (1 : Int32) (fX9_traced (3 : Int32) M)) 5 p1.toNatClampNeg)), (2, .int (M 4 p1.toNatClampNeg)), (0, .ref a0), (1, .int p1)]) hx hb dX9_tell_57 rfl hl (by decide) rfl (fun ls hl => ?_)
          refine lv_iload_n hx hb dX9_tell_58 rfl (lv_at hl 1 rfl) ?_
          refine lv_if_ne (tgt := 66) hx hb dX9_tell_59 (by decide) (fun h22 => ?_) (fun h22 => ?_)
          · have hf := it_f h22 hf
            refine lv_iload_n hx hb dX9_tell_66 rfl (lv_at hl 1 rfl) ?_
            refine lv_iconst (v := 1) hx hb dX9_tell_67 ic_1 ?_
            refine lv_icmp_ne (tgt := 78) hx hb dX9_tell_68 (by decide) (fun h23 => ?_) (fun h23 => ?_)
            · have hf := it_f h23 hf
              refine lv_iconst (v := 2) hx hb dX9_tell_78 ic_2 ?_
              refine lv_iload_n hx hb dX9_tell_79 rfl (lv_at hl 0 rfl) ?_
              refine lv_imul hx hb dX9_tell_80 ?_
              refine lv_bipush (v := 100) hx hb dX9_tell_81 ib_100 ?_
              refine lv_iadd hx hb dX9_tell_83 ?_
              obtain rfl := Option.some.inj hf
              exact qt_i C hr hlocks hw dX9_tell_84
            · have hf := it_t h23 hf
              refine lv_iload_n hx hb dX9_tell_71 rfl (lv_at hl 0 rfl) ?_
              refine lv_bipush (v := 100) hx hb dX9_tell_72 ib_100 ?_
              refine lv_iadd hx hb dX9_tell_74 ?_
              refine lv_goto (tgt := 84) hx hb dX9_tell_75 (by decide) ?_
              obtain rfl := Option.some.inj hf
              exact qt_i C hr hlocks hw dX9_tell_84
          · have hf := it_t h22 hf
            refine lv_iload_n hx hb dX9_tell_62 rfl (lv_at hl 0 rfl) ?_
            refine lv_goto (tgt := 84) hx hb dX9_tell_63 (by decide) ?_
            obtain rfl := Option.some.inj hf
            exact qt_i C hr hlocks hw dX9_tell_84
        · have hf := it_t h20 hf
          refine lv_aload_n hx hb dX9_tell_46 rfl (lv_at hl 1 rfl) ?_
          refine lv_iconst (v := 1) hx hb dX9_tell_47 ic_1 ?_
          refine ct_V0 (q0 := 0) (ci := 9) (rest := []) C hw hA (kX9_traced l D cI cB cS a0 am _ _) cfX9_traced tg_965 tg_967 ts_yX9_traced ⟨(Nat.le_of_ble_eq_true rfl), (Nat.le_of_ble_eq_true rfl)⟩ ⟨(Nat.le_of_ble_eq_true rfl), (Nat.le_of_ble_eq_true rfl)⟩ rfl rfl rfl rfl hl.1 rfl (Nat.le_of_ble_eq_true rfl) dX9_tell_48 (fun H locs hw => ?_)
          refine lv_aload_n hx hb dX9_tell_51 rfl (lv_at hl 1 rfl) ?_
          refine mg_5 C hw dX9_tell_52 ?_
          refine lv_iload_n hx hb dX9_tell_55 rfl (lv_at hl 2 rfl) ?_
          obtain ⟨g24, hf⟩ := gd_inv hf
          refine ml_5 C hw g24 dX9_tell_56 ?_
          refine lv_istore_n (lv' := [(3, .int ((fX9_traced (1 : Int32) (fX9_traced (1 : Int32) (fX9_traced (3 : Int32) M))) 5 p1.toNatClampNeg)), (2, .int (M 4 p1.toNatClampNeg)), (0, .ref a0), (1, .int p1)]) hx hb dX9_tell_57 rfl hl (by decide) rfl (fun ls hl => ?_)
          refine lv_iload_n hx hb dX9_tell_58 rfl (lv_at hl 1 rfl) ?_
          refine lv_if_ne (tgt := 66) hx hb dX9_tell_59 (by decide) (fun h25 => ?_) (fun h25 => ?_)
          · have hf := it_f h25 hf
            refine lv_iload_n hx hb dX9_tell_66 rfl (lv_at hl 1 rfl) ?_
            refine lv_iconst (v := 1) hx hb dX9_tell_67 ic_1 ?_
            refine lv_icmp_ne (tgt := 78) hx hb dX9_tell_68 (by decide) (fun h26 => ?_) (fun h26 => ?_)
            · have hf := it_f h26 hf
              refine lv_iconst (v := 2) hx hb dX9_tell_78 ic_2 ?_
              refine lv_iload_n hx hb dX9_tell_79 rfl (lv_at hl 0 rfl) ?_
              refine lv_imul hx hb dX9_tell_80 ?_
              refine lv_bipush (v := 100) hx hb dX9_tell_81 ib_100 ?_
              refine lv_iadd hx hb dX9_tell_83 ?_
              obtain rfl := Option.some.inj hf
              exact qt_i C hr hlocks hw dX9_tell_84
            · have hf := it_t h26 hf
              refine lv_iload_n hx hb dX9_tell_71 rfl (lv_at hl 0 rfl) ?_
              refine lv_bipush (v := 100) hx hb dX9_tell_72 ib_100 ?_
              refine lv_iadd hx hb dX9_tell_74 ?_
              refine lv_goto (tgt := 84) hx hb dX9_tell_75 (by decide) ?_
              obtain rfl := Option.some.inj hf
              exact qt_i C hr hlocks hw dX9_tell_84
          · have hf := it_t h25 hf
            refine lv_iload_n hx hb dX9_tell_62 rfl (lv_at hl 0 rfl) ?_
            refine lv_goto (tgt := 84) hx hb dX9_tell_63 (by decide) ?_
            obtain rfl := Option.some.inj hf
            exact qt_i C hr hlocks hw dX9_tell_84
      · have hf := it_f h19 hf
        refine lv_aload_n hx hb dX9_tell_31 rfl (lv_at hl 1 rfl) ?_
        refine lv_iconst (v := 2) hx hb dX9_tell_32 ic_2 ?_
        refine ct_V0 (q0 := 0) (ci := 9) (rest := []) C hw hA (kX9_traced l D cI cB cS a0 am _ _) cfX9_traced tg_965 tg_967 ts_yX9_traced ⟨(Nat.le_of_ble_eq_true rfl), (Nat.le_of_ble_eq_true rfl)⟩ ⟨(Nat.le_of_ble_eq_true rfl), (Nat.le_of_ble_eq_true rfl)⟩ rfl rfl rfl rfl hl.1 rfl (Nat.le_of_ble_eq_true rfl) dX9_tell_33 (fun H locs hw => ?_)
        refine lv_aload_n hx hb dX9_tell_36 rfl (lv_at hl 1 rfl) ?_
        refine lv_iconst (v := 1) hx hb dX9_tell_37 ic_1 ?_
        refine ct_V0 (q0 := 0) (ci := 9) (rest := []) C hw hA (kX9_traced l D cI cB cS a0 am _ _) cfX9_traced tg_965 tg_967 ts_yX9_traced ⟨(Nat.le_of_ble_eq_true rfl), (Nat.le_of_ble_eq_true rfl)⟩ ⟨(Nat.le_of_ble_eq_true rfl), (Nat.le_of_ble_eq_true rfl)⟩ rfl rfl rfl rfl hl.1 rfl (Nat.le_of_ble_eq_true rfl) dX9_tell_38 (fun H locs hw => ?_)
        refine lv_iload_n hx hb dX9_tell_41 rfl (lv_at hl 0 rfl) ?_
        refine lv_iconst (v := 2) hx hb dX9_tell_42 ic_2 ?_
        refine lv_icmp_ne (tgt := 51) hx hb dX9_tell_43 (by decide) (fun h27 => ?_) (fun h27 => ?_)
        · have hf := it_f h27 hf
          refine lv_aload_n hx hb dX9_tell_51 rfl (lv_at hl 1 rfl) ?_
          refine mg_5 C hw dX9_tell_52 ?_
          refine lv_iload_n hx hb dX9_tell_55 rfl (lv_at hl 2 rfl) ?_
          obtain ⟨g28, hf⟩ := gd_inv hf
          refine ml_5 C hw g28 dX9_tell_56 ?_
          refine lv_istore_n (lv' := [(3, .int ((fX9_traced (1 : Int32) (fX9_traced (2 : Int32) (fX9_traced (3 : Int32) M))) 5 p1.toNatClampNeg)), (2, .int (M 4 p1.toNatClampNeg)), (0, .ref a0), (1, .int p1)]) hx hb dX9_tell_57 rfl hl (by decide) rfl (fun ls hl => ?_)
          refine lv_iload_n hx hb dX9_tell_58 rfl (lv_at hl 1 rfl) ?_
          refine lv_if_ne (tgt := 66) hx hb dX9_tell_59 (by decide) (fun h29 => ?_) (fun h29 => ?_)
          · have hf := it_f h29 hf
            refine lv_iload_n hx hb dX9_tell_66 rfl (lv_at hl 1 rfl) ?_
            refine lv_iconst (v := 1) hx hb dX9_tell_67 ic_1 ?_
            refine lv_icmp_ne (tgt := 78) hx hb dX9_tell_68 (by decide) (fun h30 => ?_) (fun h30 => ?_)
            · have hf := it_f h30 hf
              refine lv_iconst (v := 2) hx hb dX9_tell_78 ic_2 ?_
              refine lv_iload_n hx hb dX9_tell_79 rfl (lv_at hl 0 rfl) ?_
              refine lv_imul hx hb dX9_tell_80 ?_
              refine lv_bipush (v := 100) hx hb dX9_tell_81 ib_100 ?_
              refine lv_iadd hx hb dX9_tell_83 ?_
              obtain rfl := Option.some.inj hf
              exact qt_i C hr hlocks hw dX9_tell_84
            · have hf := it_t h30 hf
              refine lv_iload_n hx hb dX9_tell_71 rfl (lv_at hl 0 rfl) ?_
              refine lv_bipush (v := 100) hx hb dX9_tell_72 ib_100 ?_
              refine lv_iadd hx hb dX9_tell_74 ?_
              refine lv_goto (tgt := 84) hx hb dX9_tell_75 (by decide) ?_
              obtain rfl := Option.some.inj hf
              exact qt_i C hr hlocks hw dX9_tell_84
          · have hf := it_t h29 hf
            refine lv_iload_n hx hb dX9_tell_62 rfl (lv_at hl 0 rfl) ?_
            refine lv_goto (tgt := 84) hx hb dX9_tell_63 (by decide) ?_
            obtain rfl := Option.some.inj hf
            exact qt_i C hr hlocks hw dX9_tell_84
        · have hf := it_t h27 hf
          refine lv_aload_n hx hb dX9_tell_46 rfl (lv_at hl 1 rfl) ?_
          refine lv_iconst (v := 1) hx hb dX9_tell_47 ic_1 ?_
          refine ct_V0 (q0 := 0) (ci := 9) (rest := []) C hw hA (kX9_traced l D cI cB cS a0 am _ _) cfX9_traced tg_965 tg_967 ts_yX9_traced ⟨(Nat.le_of_ble_eq_true rfl), (Nat.le_of_ble_eq_true rfl)⟩ ⟨(Nat.le_of_ble_eq_true rfl), (Nat.le_of_ble_eq_true rfl)⟩ rfl rfl rfl rfl hl.1 rfl (Nat.le_of_ble_eq_true rfl) dX9_tell_48 (fun H locs hw => ?_)
          refine lv_aload_n hx hb dX9_tell_51 rfl (lv_at hl 1 rfl) ?_
          refine mg_5 C hw dX9_tell_52 ?_
          refine lv_iload_n hx hb dX9_tell_55 rfl (lv_at hl 2 rfl) ?_
          obtain ⟨g31, hf⟩ := gd_inv hf
          refine ml_5 C hw g31 dX9_tell_56 ?_
          refine lv_istore_n (lv' := [(3, .int ((fX9_traced (1 : Int32) (fX9_traced (1 : Int32) (fX9_traced (2 : Int32) (fX9_traced (3 : Int32) M)))) 5 p1.toNatClampNeg)), (2, .int (M 4 p1.toNatClampNeg)), (0, .ref a0), (1, .int p1)]) hx hb dX9_tell_57 rfl hl (by decide) rfl (fun ls hl => ?_)
          refine lv_iload_n hx hb dX9_tell_58 rfl (lv_at hl 1 rfl) ?_
          refine lv_if_ne (tgt := 66) hx hb dX9_tell_59 (by decide) (fun h32 => ?_) (fun h32 => ?_)
          · have hf := it_f h32 hf
            refine lv_iload_n hx hb dX9_tell_66 rfl (lv_at hl 1 rfl) ?_
            refine lv_iconst (v := 1) hx hb dX9_tell_67 ic_1 ?_
            refine lv_icmp_ne (tgt := 78) hx hb dX9_tell_68 (by decide) (fun h33 => ?_) (fun h33 => ?_)
            · have hf := it_f h33 hf
              refine lv_iconst (v := 2) hx hb dX9_tell_78 ic_2 ?_
              refine lv_iload_n hx hb dX9_tell_79 rfl (lv_at hl 0 rfl) ?_
              refine lv_imul hx hb dX9_tell_80 ?_
              refine lv_bipush (v := 100) hx hb dX9_tell_81 ib_100 ?_
              refine lv_iadd hx hb dX9_tell_83 ?_
              obtain rfl := Option.some.inj hf
              exact qt_i C hr hlocks hw dX9_tell_84
            · have hf := it_t h33 hf
              refine lv_iload_n hx hb dX9_tell_71 rfl (lv_at hl 0 rfl) ?_
              refine lv_bipush (v := 100) hx hb dX9_tell_72 ib_100 ?_
              refine lv_iadd hx hb dX9_tell_74 ?_
              refine lv_goto (tgt := 84) hx hb dX9_tell_75 (by decide) ?_
              obtain rfl := Option.some.inj hf
              exact qt_i C hr hlocks hw dX9_tell_84
          · have hf := it_t h32 hf
            refine lv_iload_n hx hb dX9_tell_62 rfl (lv_at hl 0 rfl) ?_
            refine lv_goto (tgt := 84) hx hb dX9_tell_63 (by decide) ?_
            obtain rfl := Option.some.inj hf
            exact qt_i C hr hlocks hw dX9_tell_84
  · have hf := it_f h1 hf
    refine lv_iconst (v := (-1)) hx hb dX9_tell_8 ic_m1 ?_
    obtain rfl := Option.some.inj hf
    exact qt_i C hr hlocks hw dX9_tell_9
theorem cfX9_nod : cf yX9_nod cX9_nod 2 (some .int) 1 := ⟨tg_972, by decide +kernel, tg_7⟩
set_option maxHeartbeats 4000000 in
theorem kX9_nod (l : Launch) (D : va_G) (cI cB cS : ClassId) (a0 : Nat) (am : Nat → Nat) {p1 : Int32} {M : MS} {q : (Int32 × MS)} (hf : fX9_nod p1 M = some q) : Ct l D cI cB cS yX9_nod cX9_nod 2 (some .int) 2 46 [.ref a0, .int p1] (mW cI a0 am M) (some (.int q.1)) (mW cI a0 am q.2) := by
  refine Ct.ofW (by decide) (Nat.le_of_ble_eq_true rfl) ?_
  intro p e s m args below meth c ls C hr hlocks _ hw hl
  have hx := C.1
  have hb := C.2.1
  have hA : ∀ q, s.heap.size ≤ q → va_A (mW cI a0 am M) s.heap.size q := fun q h => Or.inr h
  have hcg := trivial
  have hl : lv_has ls 2 [(0, .ref a0), (1, .int p1)] := hl
  unfold fX9_nod at hf
  refine lv_aload_n hx hb dX9_nod_0 rfl (lv_at hl 0 rfl) ?_
  refine lv_iload_n hx hb dX9_nod_1 rfl (lv_at hl 1 rfl) ?_
  refine ct_V1 (q0 := 0) (ci := 9) (rest := []) C hw hA (kX9_noBuyer l D cI cB cS a0 am _ _) cfX9_noBuyer tg_786 tg_788 ts_yX9_noBuyer ⟨(Nat.le_of_ble_eq_true rfl), (Nat.le_of_ble_eq_true rfl)⟩ ⟨(Nat.le_of_ble_eq_true rfl), (Nat.le_of_ble_eq_true rfl)⟩ rfl rfl rfl rfl hl.1 rfl (Nat.le_of_ble_eq_true rfl) dX9_nod_2 (fun H locs hw => ?_)
  refine lv_if_eq (tgt := 10) hx hb dX9_nod_5 (by decide) (fun h1 => ?_) (fun h1 => ?_)
  · have hf := it_t h1 hf
    refine lv_aload_n hx hb dX9_nod_10 rfl (lv_at hl 0 rfl) ?_
    refine lv_aload_n hx hb dX9_nod_11 rfl (lv_at hl 0 rfl) ?_
    refine mg_4 C hw dX9_nod_12 ?_
    refine lv_iload_n hx hb dX9_nod_15 rfl (lv_at hl 1 rfl) ?_
    obtain ⟨g2, hf⟩ := gd_inv hf
    refine ml_4 C hw g2 dX9_nod_16 ?_
    refine lv_iconst (v := 2) hx hb dX9_nod_17 ic_2 ?_
    refine lv_icmp_ne (tgt := 25) hx hb dX9_nod_18 (by decide) (fun h3 => ?_) (fun h3 => ?_)
    · have hf := it_f h3 hf
      refine lv_iconst (v := 4) hx hb dX9_nod_25 ic_4 ?_
      refine ct_V0 (q0 := 0) (ci := 9) (rest := []) C hw hA (kX9_traced l D cI cB cS a0 am _ _) cfX9_traced tg_965 tg_967 ts_yX9_traced ⟨(Nat.le_of_ble_eq_true rfl), (Nat.le_of_ble_eq_true rfl)⟩ ⟨(Nat.le_of_ble_eq_true rfl), (Nat.le_of_ble_eq_true rfl)⟩ rfl rfl rfl rfl hl.1 rfl (Nat.le_of_ble_eq_true rfl) dX9_nod_26 (fun H locs hw => ?_)
      refine lv_aload_n hx hb dX9_nod_29 rfl (lv_at hl 0 rfl) ?_
      refine mg_4 C hw dX9_nod_30 ?_
      refine lv_iload_n hx hb dX9_nod_33 rfl (lv_at hl 1 rfl) ?_
      obtain ⟨g4, hf⟩ := gd_inv hf
      refine ml_4 C hw g4 dX9_nod_34 ?_
      refine lv_iconst (v := 2) hx hb dX9_nod_35 ic_2 ?_
      refine lv_icmp_ne (tgt := 44) hx hb dX9_nod_36 (by decide) (fun h5 => ?_) (fun h5 => ?_)
      · have hf := it_f h5 hf
        refine lv_iload_n hx hb dX9_nod_44 rfl (lv_at hl 1 rfl) ?_
        obtain rfl := Option.some.inj hf
        exact qt_i C hr hlocks hw dX9_nod_45
      · have hf := it_t h5 hf
        refine lv_bipush (v := 80) hx hb dX9_nod_39 ib_80 ?_
        refine lv_goto (tgt := 45) hx hb dX9_nod_41 (by decide) ?_
        obtain rfl := Option.some.inj hf
        exact qt_i C hr hlocks hw dX9_nod_45
    · have hf := it_t h3 hf
      refine lv_iconst (v := 5) hx hb dX9_nod_21 ic_5 ?_
      refine lv_goto (tgt := 26) hx hb dX9_nod_22 (by decide) ?_
      refine ct_V0 (q0 := 0) (ci := 9) (rest := []) C hw hA (kX9_traced l D cI cB cS a0 am _ _) cfX9_traced tg_965 tg_967 ts_yX9_traced ⟨(Nat.le_of_ble_eq_true rfl), (Nat.le_of_ble_eq_true rfl)⟩ ⟨(Nat.le_of_ble_eq_true rfl), (Nat.le_of_ble_eq_true rfl)⟩ rfl rfl rfl rfl hl.1 rfl (Nat.le_of_ble_eq_true rfl) dX9_nod_26 (fun H locs hw => ?_)
      refine lv_aload_n hx hb dX9_nod_29 rfl (lv_at hl 0 rfl) ?_
      refine mg_4 C hw dX9_nod_30 ?_
      refine lv_iload_n hx hb dX9_nod_33 rfl (lv_at hl 1 rfl) ?_
      obtain ⟨g6, hf⟩ := gd_inv hf
      refine ml_4 C hw g6 dX9_nod_34 ?_
      refine lv_iconst (v := 2) hx hb dX9_nod_35 ic_2 ?_
      refine lv_icmp_ne (tgt := 44) hx hb dX9_nod_36 (by decide) (fun h7 => ?_) (fun h7 => ?_)
      · have hf := it_f h7 hf
        refine lv_iload_n hx hb dX9_nod_44 rfl (lv_at hl 1 rfl) ?_
        obtain rfl := Option.some.inj hf
        exact qt_i C hr hlocks hw dX9_nod_45
      · have hf := it_t h7 hf
        refine lv_bipush (v := 80) hx hb dX9_nod_39 ib_80 ?_
        refine lv_goto (tgt := 45) hx hb dX9_nod_41 (by decide) ?_
        obtain rfl := Option.some.inj hf
        exact qt_i C hr hlocks hw dX9_nod_45
  · have hf := it_f h1 hf
    refine lv_iconst (v := (-1)) hx hb dX9_nod_8 ic_m1 ?_
    obtain rfl := Option.some.inj hf
    exact qt_i C hr hlocks hw dX9_nod_9
theorem cfX9_as : cf yX9_as cX9_as 3 (some .int) 2 := ⟨tg_976, by decide +kernel, tg_7⟩
set_option maxHeartbeats 4000000 in
theorem kX9_as (l : Launch) (D : va_G) (cI cB cS : ClassId) (a0 : Nat) (am : Nat → Nat) {p1 : Int32} {p2 : Int32} {M : MS} {q : (Int32 × MS)} (hf : fX9_as p1 p2 M = some q) : Ct l D cI cB cS yX9_as cX9_as 3 (some .int) 2 46 [.ref a0, .int p1, .int p2] (mW cI a0 am M) (some (.int q.1)) (mW cI a0 am q.2) := by
  refine Ct.ofW (by decide) (Nat.le_of_ble_eq_true rfl) ?_
  intro p e s m args below meth c ls C hr hlocks _ hw hl
  have hx := C.1
  have hb := C.2.1
  have hA : ∀ q, s.heap.size ≤ q → va_A (mW cI a0 am M) s.heap.size q := fun q h => Or.inr h
  have hcg := trivial
  have hl : lv_has ls 3 [(0, .ref a0), (1, .int p1), (2, .int p2)] := hl
  unfold fX9_as at hf
  refine lv_aload_n hx hb dX9_as_0 rfl (lv_at hl 0 rfl) ?_
  refine lv_iload_n hx hb dX9_as_1 rfl (lv_at hl 1 rfl) ?_
  refine ct_V1 (q0 := 0) (ci := 9) (rest := []) C hw hA (kX9_noBuyer l D cI cB cS a0 am _ _) cfX9_noBuyer tg_786 tg_788 ts_yX9_noBuyer ⟨(Nat.le_of_ble_eq_true rfl), (Nat.le_of_ble_eq_true rfl)⟩ ⟨(Nat.le_of_ble_eq_true rfl), (Nat.le_of_ble_eq_true rfl)⟩ rfl rfl rfl rfl hl.1 rfl (Nat.le_of_ble_eq_true rfl) dX9_as_2 (fun H locs hw => ?_)
  refine lv_if_eq (tgt := 14) hx hb dX9_as_5 (by decide) (fun h1 => ?_) (fun h1 => ?_)
  · have hf := it_t h1 hf
    refine lv_iload_n hx hb dX9_as_14 rfl (lv_at hl 2 rfl) ?_
    refine lv_i2l (v := (p2.toInt64)) hx hb dX9_as_15 rfl ?_
    refine lv_lconst (v := 0) hx hb dX9_as_16 rfl ?_
    refine lv_ldc2 (v := (2 : Int64)) hx hb C.2.2.2.1 (C.2.2.2.2.1 _ tg_751) dX9_as_17 ?_
    refine ct_S1 (rest := []) C hw hA (kX9_in l D cI cB cS _ _ _ _) cfX9_in tg_744 tg_745 ⟨(Nat.le_of_ble_eq_true rfl), (Nat.le_of_ble_eq_true rfl)⟩ ⟨(Nat.le_of_ble_eq_true rfl), (Nat.le_of_ble_eq_true rfl)⟩ rfl hl.1 rfl (Nat.le_of_ble_eq_true rfl) dX9_as_20 (fun H locs hw => ?_)
    refine lv_if_ne (tgt := 33) hx hb dX9_as_23 (by decide) (fun h2 => ?_) (fun h2 => ?_)
    · have hf := it_f h2 hf
      refine lv_aload_n hx hb dX9_as_33 rfl (lv_at hl 0 rfl) ?_
      refine mg_4 C hw dX9_as_34 ?_
      refine lv_iload_n hx hb dX9_as_37 rfl (lv_at hl 1 rfl) ?_
      obtain ⟨g3, hf⟩ := gd_inv hf
      refine ml_4 C hw g3 dX9_as_38 ?_
      refine lv_iload_n hx hb dX9_as_39 rfl (lv_at hl 2 rfl) ?_
      refine lv_icmp_lt (tgt := 51) hx hb dX9_as_40 (by decide) (fun h4 => ?_) (fun h4 => ?_)
      · have hf := it_t h4 hf
        refine lv_aload_n hx hb dX9_as_51 rfl (lv_at hl 0 rfl) ?_
        refine lv_iconst (v := 2) hx hb dX9_as_52 ic_2 ?_
        refine ct_V1 (q0 := 0) (ci := 9) (rest := []) C hw hA (kX9_failed l D cI cB cS a0 am _ _) cfX9_failed tg_756 tg_758 ts_yX9_failed ⟨(Nat.le_of_ble_eq_true rfl), (Nat.le_of_ble_eq_true rfl)⟩ ⟨(Nat.le_of_ble_eq_true rfl), (Nat.le_of_ble_eq_true rfl)⟩ rfl rfl rfl rfl hl.1 rfl (Nat.le_of_ble_eq_true rfl) dX9_as_53 (fun H locs hw => ?_)
        obtain rfl := Option.some.inj hf
        exact qt_i C hr hlocks hw dX9_as_56
      · have hf := it_f h4 hf
        refine lv_aload_n hx hb dX9_as_43 rfl (lv_at hl 0 rfl) ?_
        refine lv_iconst (v := 1) hx hb dX9_as_44 ic_1 ?_
        refine ct_V1 (q0 := 0) (ci := 9) (rest := []) C hw hA (kX9_refused l D cI cB cS a0 am _ _) cfX9_refused tg_747 tg_749 ts_yX9_refused ⟨(Nat.le_of_ble_eq_true rfl), (Nat.le_of_ble_eq_true rfl)⟩ ⟨(Nat.le_of_ble_eq_true rfl), (Nat.le_of_ble_eq_true rfl)⟩ rfl rfl rfl rfl hl.1 rfl (Nat.le_of_ble_eq_true rfl) dX9_as_45 (fun H locs hw => ?_)
        refine lv_goto (tgt := 56) hx hb dX9_as_48 (by decide) ?_
        obtain rfl := Option.some.inj hf
        exact qt_i C hr hlocks hw dX9_as_56
    · have hf := it_t h2 hf
      refine lv_aload_n hx hb dX9_as_26 rfl (lv_at hl 0 rfl) ?_
      refine lv_bipush (v := (-2)) hx hb dX9_as_27 ib_m2 ?_
      refine ct_V1 (q0 := 0) (ci := 9) (rest := []) C hw hA (kX9_refused l D cI cB cS a0 am _ _) cfX9_refused tg_747 tg_749 ts_yX9_refused ⟨(Nat.le_of_ble_eq_true rfl), (Nat.le_of_ble_eq_true rfl)⟩ ⟨(Nat.le_of_ble_eq_true rfl), (Nat.le_of_ble_eq_true rfl)⟩ rfl rfl rfl rfl hl.1 rfl (Nat.le_of_ble_eq_true rfl) dX9_as_29 (fun H locs hw => ?_)
      obtain rfl := Option.some.inj hf
      exact qt_i C hr hlocks hw dX9_as_32
  · have hf := it_f h1 hf
    refine lv_aload_n hx hb dX9_as_8 rfl (lv_at hl 0 rfl) ?_
    refine lv_iconst (v := (-1)) hx hb dX9_as_9 ic_m1 ?_
    refine ct_V1 (q0 := 0) (ci := 9) (rest := []) C hw hA (kX9_refused l D cI cB cS a0 am _ _) cfX9_refused tg_747 tg_749 ts_yX9_refused ⟨(Nat.le_of_ble_eq_true rfl), (Nat.le_of_ble_eq_true rfl)⟩ ⟨(Nat.le_of_ble_eq_true rfl), (Nat.le_of_ble_eq_true rfl)⟩ rfl rfl rfl rfl hl.1 rfl (Nat.le_of_ble_eq_true rfl) dX9_as_10 (fun H locs hw => ?_)
    obtain rfl := Option.some.inj hf
    exact qt_i C hr hlocks hw dX9_as_13
