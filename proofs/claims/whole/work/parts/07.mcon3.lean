theorem cfX9_ends : cf yX9_ends cX9_ends 3 (some .int) 2 := ⟨tg_868, by decide +kernel, tg_7⟩
set_option maxHeartbeats 4000000 in
theorem kX9_ends (l : Launch) (D : va_G) (cI cB cS : ClassId) (a0 : Nat) (am : Nat → Nat) {p1 : Int32} {p2 : Int32} {M : MS} {q : (Int32 × MS)} (hf : fX9_ends p1 p2 M = some q) : Ct l D cI cB cS yX9_ends cX9_ends 3 (some .int) 5 115 [.ref a0, .int p1, .int p2] (mW cI a0 am M) (some (.int q.1)) (mW cI a0 am q.2) := by
  refine Ct.ofW (by decide) (Nat.le_of_ble_eq_true rfl) ?_
  intro p e s m args below meth c ls C hr hlocks _ hw hl
  have hx := C.1
  have hb := C.2.1
  have hA : ∀ q, s.heap.size ≤ q → va_A (mW cI a0 am M) s.heap.size q := fun q h => Or.inr h
  have hcg := trivial
  have hl : lv_has ls 3 [(0, .ref a0), (1, .int p1), (2, .int p2)] := hl
  unfold fX9_ends at hf
  refine lv_aload_n hx hb dX9_ends_0 rfl (lv_at hl 0 rfl) ?_
  refine lv_iload_n hx hb dX9_ends_1 rfl (lv_at hl 1 rfl) ?_
  refine ct_V1 (q0 := 0) (ci := 9) (rest := []) C hw hA (kX9_noBuyer l D cI cB cS a0 am _ _) cfX9_noBuyer tg_786 tg_788 ts_yX9_noBuyer ⟨(Nat.le_of_ble_eq_true rfl), (Nat.le_of_ble_eq_true rfl)⟩ ⟨(Nat.le_of_ble_eq_true rfl), (Nat.le_of_ble_eq_true rfl)⟩ rfl rfl rfl rfl hl.1 rfl (Nat.le_of_ble_eq_true rfl) dX9_ends_2 (fun H locs hw => ?_)
  refine lv_if_ne (tgt := 15) hx hb dX9_ends_5 (by decide) (fun h1 => ?_) (fun h1 => ?_)
  · have hf := it_f h1 hf
    refine lv_iconst (v := (-1)) hx hb dX9_ends_15 ic_m1 ?_
    obtain rfl := Option.some.inj hf
    exact qt_i C hr hlocks hw dX9_ends_16
  · have hf := it_t h1 hf
    refine lv_iload_n hx hb dX9_ends_8 rfl (lv_at hl 2 rfl) ?_
    refine ct_S1 (rest := []) C hw hA (kX9_noLot l D cI cB cS _ _) cfX9_noLot tg_809 tg_810 ⟨(Nat.le_of_ble_eq_true rfl), (Nat.le_of_ble_eq_true rfl)⟩ ⟨(Nat.le_of_ble_eq_true rfl), (Nat.le_of_ble_eq_true rfl)⟩ rfl hl.1 rfl (Nat.le_of_ble_eq_true rfl) dX9_ends_9 (fun H locs hw => ?_)
    refine lv_if_eq (tgt := 17) hx hb dX9_ends_12 (by decide) (fun h2 => ?_) (fun h2 => ?_)
    · have hf := it_t h2 hf
      refine lv_aload_n hx hb dX9_ends_17 rfl (lv_at hl 0 rfl) ?_
      refine lv_iload_n hx hb dX9_ends_18 rfl (lv_at hl 2 rfl) ?_
      refine lv_aload_n hx hb dX9_ends_19 rfl (lv_at hl 0 rfl) ?_
      refine ct_V1 (q0 := 0) (ci := 9) (rest := [.int p2, .ref a0]) C hw hA (kX9_all l D cI cB cS a0 am _) cfX9_all tg_841 tg_843 ts_yX9_all ⟨(Nat.le_of_ble_eq_true rfl), (Nat.le_of_ble_eq_true rfl)⟩ ⟨(Nat.le_of_ble_eq_true rfl), (Nat.le_of_ble_eq_true rfl)⟩ rfl rfl rfl rfl hl.1 rfl (Nat.le_of_ble_eq_true rfl) dX9_ends_20 (fun H locs hw => ?_)
      obtain ⟨r3, e4, hf⟩ := bd hf
      refine ct_V0 (q0 := 0) (ci := 9) (rest := []) C hw hA (kX9_sellTo l D cI cB cS a0 am e4) cfX9_sellTo tg_845 tg_847 ts_yX9_sellTo ⟨(Nat.le_of_ble_eq_true rfl), (Nat.le_of_ble_eq_true rfl)⟩ ⟨(Nat.le_of_ble_eq_true rfl), (Nat.le_of_ble_eq_true rfl)⟩ rfl rfl rfl rfl hl.1 rfl (Nat.le_of_ble_eq_true rfl) dX9_ends_23 (fun H locs hw => ?_)
      refine lv_aload_n hx hb dX9_ends_26 rfl (lv_at hl 0 rfl) ?_
      refine mg_15 C hw dX9_ends_27 ?_
      refine lv_iload_n hx hb dX9_ends_30 rfl (lv_at hl 1 rfl) ?_
      obtain ⟨g5, hf⟩ := gd_inv hf
      refine ml_15 C hw g5 dX9_ends_31 ?_
      obtain rfl := Option.some.inj hf
      exact qt_i C hr hlocks hw dX9_ends_32
    · have hf := it_f h2 hf
      refine lv_iconst (v := (-1)) hx hb dX9_ends_15 ic_m1 ?_
      obtain rfl := Option.some.inj hf
      exact qt_i C hr hlocks hw dX9_ends_16
theorem cfX9_brings : cf yX9_brings cX9_brings 4 (some .int) 1 := ⟨tg_876, by decide +kernel, tg_7⟩
set_option maxHeartbeats 4000000 in
theorem wX9_brings_2 {p : Program} {l : Launch} {e : Env} {s : State} {m : MethodId} {args : Array Value} {below : List Frame} {meth : Method} {c : Code} {D : va_G} {cI cB cS : ClassId} {a0 : Nat} {am : Nat → Nat} {ws0 : va_W} {v1 : Int32} (C : cx p c cX9_brings 4 s args m RX9 D cI cB cS) (hr : meth.sig.returnType = (some .int)) (hlocks : meth.locks = false) (hA : ∀ q, s.heap.size ≤ q → va_A ws0 s.heap.size q) {k : MS → Option (Int32 × MS)} {q : (Int32 × MS)}
    (hcg : True) : ∀ (fu : Nat) (v2 : Int32) (M : MS) (H : Heap) (locs : List Loc) (ls : Array Slot), wd D (va_A ws0 s.heap.size) s.heap (mW cI a0 am M) H locs → lv_has ls 4 [(0, .ref a0), (1, .int v1), (2, .int v2)] → fX9_brings_2 fu k v2 M = some q →
    (∀  (M1 : MS) (H : Heap) (locs : List Loc) (ls : Array Slot), wd D (va_A ws0 s.heap.size) s.heap (mW cI a0 am M1) H locs → lv_has ls 4 [(0, .ref a0), (1, .int v1)] → k  M1 = some q → W p l e { frames := 4, cells := 0, slots := 0, locals := 93 } s m args below meth c H locs 0 0 (Qt D below args s ws0 (some (.int q.1)) (mW cI a0 am q.2)) (F0 m 28 ls [])) →
    W p l e { frames := 4, cells := 0, slots := 0, locals := 93 } s m args below meth c H locs 0 0 (Qt D below args s ws0 (some (.int q.1)) (mW cI a0 am q.2)) (F0 m 2 ls []) := by
  have hx := C.1
  have hb := C.2.1
  intro fu
  induction fu with
  | zero => intro v2 M H locs ls hw hl hf hk; rw [fX9_brings_2] at hf; cases hf
  | succ fu ih =>
      intro v2 M H locs ls hw hl hf hk
      rw [fX9_brings_2] at hf
      refine lv_iload_n hx hb dX9_brings_2 rfl (lv_at hl 2 rfl) ?_
      refine lv_aload_n hx hb dX9_brings_3 rfl (lv_at hl 0 rfl) ?_
      refine mg_3 C hw dX9_brings_4 ?_
      refine lv_icmp_ge (tgt := 28) hx hb dX9_brings_7 (by decide) (fun h1 => ?_) (fun h1 => ?_)
      · have hf := it_t h1 hf
        exact hk _ _ _ _ hw (lv_sub hl [0, 1] rfl) hf
      · have hf := it_f h1 hf
        refine lv_aload_n hx hb dX9_brings_10 rfl (lv_at hl 0 rfl) ?_
        refine mg_21 C hw dX9_brings_11 ?_
        refine lv_iload_n hx hb dX9_brings_14 rfl (lv_at hl 2 rfl) ?_
        refine lv_aload_n hx hb dX9_brings_15 rfl (lv_at hl 0 rfl) ?_
        refine mg_5 C hw dX9_brings_16 ?_
        refine lv_iload_n hx hb dX9_brings_19 rfl (lv_at hl 2 rfl) ?_
        obtain ⟨g2, hf⟩ := gd_inv hf
        refine ml_5 C hw g2 dX9_brings_20 ?_
        obtain ⟨g3, hf⟩ := gd_inv hf
        refine ms_21 C hw g3 dX9_brings_21 (fun H locs hw => ?_)
        refine lv_iinc (v := (v2 + 1)) (lv' := [(2, .int (v2 + 1)), (0, .ref a0), (1, .int v1)]) hx hb dX9_brings_22 hl (k := 2) rfl (iv_1 _) (by decide) rfl (fun ls hl => ?_)
        refine lv_goto (tgt := 2) hx hb dX9_brings_25 (by decide) ?_
        exact ih _ _ _ _ _ hw (lv_sub hl [1, 2, 0] rfl) hf hk
set_option maxHeartbeats 4000000 in
theorem wX9_brings_40 {p : Program} {l : Launch} {e : Env} {s : State} {m : MethodId} {args : Array Value} {below : List Frame} {meth : Method} {c : Code} {D : va_G} {cI cB cS : ClassId} {a0 : Nat} {am : Nat → Nat} {ws0 : va_W} {v1 : Int32} (C : cx p c cX9_brings 4 s args m RX9 D cI cB cS) (hr : meth.sig.returnType = (some .int)) (hlocks : meth.locks = false) (hA : ∀ q, s.heap.size ≤ q → va_A ws0 s.heap.size q) {k : Int32 → MS → Option (Int32 × MS)} {q : (Int32 × MS)}
    (hcg : True) : ∀ (fu : Nat) (v2 : Int32) (v3 : Int32) (M : MS) (H : Heap) (locs : List Loc) (ls : Array Slot), wd D (va_A ws0 s.heap.size) s.heap (mW cI a0 am M) H locs → lv_has ls 4 [(0, .ref a0), (1, .int v1), (2, .int v2), (3, .int v3)] → fX9_brings_40 fu k v1 v2 v3 M = some q →
    (∀ (x2 : Int32) (M1 : MS) (H : Heap) (locs : List Loc) (ls : Array Slot), wd D (va_A ws0 s.heap.size) s.heap (mW cI a0 am M1) H locs → lv_has ls 4 [(0, .ref a0), (2, .int x2)] → k x2 M1 = some q → W p l e { frames := 4, cells := 0, slots := 0, locals := 93 } s m args below meth c H locs 0 0 (Qt D below args s ws0 (some (.int q.1)) (mW cI a0 am q.2)) (F0 m 95 ls [])) →
    W p l e { frames := 4, cells := 0, slots := 0, locals := 93 } s m args below meth c H locs 0 0 (Qt D below args s ws0 (some (.int q.1)) (mW cI a0 am q.2)) (F0 m 40 ls []) := by
  have hx := C.1
  have hb := C.2.1
  intro fu
  induction fu with
  | zero => intro v2 v3 M H locs ls hw hl hf hk; rw [fX9_brings_40] at hf; cases hf
  | succ fu ih =>
      intro v2 v3 M H locs ls hw hl hf hk
      rw [fX9_brings_40] at hf
      refine lv_iload_n hx hb dX9_brings_40 rfl (lv_at hl 3 rfl) ?_
      refine lv_iload_n hx hb dX9_brings_41 rfl (lv_at hl 1 rfl) ?_
      refine lv_icmp_ge (tgt := 95) hx hb dX9_brings_42 (by decide) (fun h7 => ?_) (fun h7 => ?_)
      · have hf := it_t h7 hf
        exact hk _ _ _ _ _ hw (lv_sub hl [0, 2] rfl) hf
      · have hf := it_f h7 hf
        refine lv_aload_n hx hb dX9_brings_45 rfl (lv_at hl 0 rfl) ?_
        refine lv_aload_n hx hb dX9_brings_46 rfl (lv_at hl 0 rfl) ?_
        refine mg_20 C hw dX9_brings_47 ?_
        refine lv_iload_n hx hb dX9_brings_50 rfl (lv_at hl 3 rfl) ?_
        obtain ⟨g8, hf⟩ := gd_inv hf
        refine ml_20 C hw g8 dX9_brings_51 ?_
        refine lv_aload_n hx hb dX9_brings_52 rfl (lv_at hl 0 rfl) ?_
        refine ct_V1 (q0 := 0) (ci := 9) (rest := [.int (M 20 v3.toNatClampNeg), .ref a0]) C hw hA (kX9_all l D cI cB cS a0 am _) cfX9_all tg_841 tg_843 ts_yX9_all ⟨(Nat.le_of_ble_eq_true rfl), (Nat.le_of_ble_eq_true rfl)⟩ ⟨(Nat.le_of_ble_eq_true rfl), (Nat.le_of_ble_eq_true rfl)⟩ rfl rfl rfl rfl hl.1 rfl (Nat.le_of_ble_eq_true rfl) dX9_brings_53 (fun H locs hw => ?_)
        obtain ⟨r9, e10, hf⟩ := bd hf
        refine ct_V0 (q0 := 0) (ci := 9) (rest := []) C hw hA (kX9_sell l D cI cB cS a0 am e10) cfX9_sell tg_849 tg_851 ts_yX9_sell ⟨(Nat.le_of_ble_eq_true rfl), (Nat.le_of_ble_eq_true rfl)⟩ ⟨(Nat.le_of_ble_eq_true rfl), (Nat.le_of_ble_eq_true rfl)⟩ rfl rfl rfl rfl hl.1 rfl (Nat.le_of_ble_eq_true rfl) dX9_brings_56 (fun H locs hw => ?_)
        refine lv_iload_n hx hb dX9_brings_59 rfl (lv_at hl 2 rfl) ?_
        refine lv_aload_n hx hb dX9_brings_60 rfl (lv_at hl 0 rfl) ?_
        refine mg_16 C hw dX9_brings_61 ?_
        refine lv_iadd hx hb dX9_brings_64 ?_
        refine lv_istore_n (lv' := [(2, .int (v2 + (r9 16 0))), (0, .ref a0), (1, .int v1), (3, .int v3)]) hx hb dX9_brings_65 rfl hl (by decide) rfl (fun ls hl => ?_)
        refine lv_aload_n hx hb dX9_brings_66 rfl (lv_at hl 1 rfl) ?_
        refine mg_17 C hw dX9_brings_67 ?_
        refine lv_if_lt (tgt := 89) hx hb dX9_brings_70 (by decide) (fun h11 => ?_) (fun h11 => ?_)
        · have hf := it_t h11 hf
          refine lv_iinc (v := (v3 + 1)) (lv' := [(3, .int (v3 + 1)), (2, .int (v2 + (r9 16 0))), (0, .ref a0), (1, .int v1)]) hx hb dX9_brings_89 hl (k := 3) rfl (iv_1 _) (by decide) rfl (fun ls hl => ?_)
          refine lv_goto (tgt := 40) hx hb dX9_brings_92 (by decide) ?_
          exact ih _ _ _ _ _ _ hw (lv_sub hl [2, 3, 1, 0] rfl) hf hk
        · have hf := it_f h11 hf
          refine lv_aload_n hx hb dX9_brings_73 rfl (lv_at hl 1 rfl) ?_
          refine mg_5 C hw dX9_brings_74 ?_
          refine lv_aload_n hx hb dX9_brings_77 rfl (lv_at hl 1 rfl) ?_
          refine mg_17 C hw dX9_brings_78 ?_
          refine lv_dup2_11 hx hb dX9_brings_81 rfl rfl ?_
          obtain ⟨g12, hf⟩ := gd_inv hf
          refine ml_5 C hw g12 dX9_brings_82 ?_
          refine lv_aload_n hx hb dX9_brings_83 rfl (lv_at hl 1 rfl) ?_
          refine mg_16 C hw dX9_brings_84 ?_
          refine lv_isub hx hb dX9_brings_87 ?_
          obtain ⟨g13, hf⟩ := gd_inv hf
          refine ms_5 C hw g13 dX9_brings_88 (fun H locs hw => ?_)
          refine lv_iinc (v := (v3 + 1)) (lv' := [(3, .int (v3 + 1)), (2, .int (v2 + (r9 16 0))), (0, .ref a0), (1, .int v1)]) hx hb dX9_brings_89 hl (k := 3) rfl (iv_1 _) (by decide) rfl (fun ls hl => ?_)
          refine lv_goto (tgt := 40) hx hb dX9_brings_92 (by decide) ?_
          exact ih _ _ _ _ _ _ hw (lv_sub hl [2, 3, 1, 0] rfl) hf hk
set_option maxHeartbeats 4000000 in
theorem wX9_brings_97 {p : Program} {l : Launch} {e : Env} {s : State} {m : MethodId} {args : Array Value} {below : List Frame} {meth : Method} {c : Code} {D : va_G} {cI cB cS : ClassId} {a0 : Nat} {am : Nat → Nat} {ws0 : va_W} {v2 : Int32} (C : cx p c cX9_brings 4 s args m RX9 D cI cB cS) (hr : meth.sig.returnType = (some .int)) (hlocks : meth.locks = false) (hA : ∀ q, s.heap.size ≤ q → va_A ws0 s.heap.size q) {k : MS → Option (Int32 × MS)} {q : (Int32 × MS)}
    (hcg : True) : ∀ (fu : Nat) (v3 : Int32) (M : MS) (H : Heap) (locs : List Loc) (ls : Array Slot), wd D (va_A ws0 s.heap.size) s.heap (mW cI a0 am M) H locs → lv_has ls 4 [(0, .ref a0), (2, .int v2), (3, .int v3)] → fX9_brings_97 fu k v3 M = some q →
    (∀  (M1 : MS) (H : Heap) (locs : List Loc) (ls : Array Slot), wd D (va_A ws0 s.heap.size) s.heap (mW cI a0 am M1) H locs → lv_has ls 4 [(2, .int v2)] → k  M1 = some q → W p l e { frames := 4, cells := 0, slots := 0, locals := 93 } s m args below meth c H locs 0 0 (Qt D below args s ws0 (some (.int q.1)) (mW cI a0 am q.2)) (F0 m 135 ls [])) →
    W p l e { frames := 4, cells := 0, slots := 0, locals := 93 } s m args below meth c H locs 0 0 (Qt D below args s ws0 (some (.int q.1)) (mW cI a0 am q.2)) (F0 m 97 ls []) := by
  have hx := C.1
  have hb := C.2.1
  intro fu
  induction fu with
  | zero => intro v3 M H locs ls hw hl hf hk; rw [fX9_brings_97] at hf; cases hf
  | succ fu ih =>
      intro v3 M H locs ls hw hl hf hk
      rw [fX9_brings_97] at hf
      refine lv_iload_n hx hb dX9_brings_97 rfl (lv_at hl 2 rfl) ?_
      refine lv_aload_n hx hb dX9_brings_98 rfl (lv_at hl 0 rfl) ?_
      refine mg_3 C hw dX9_brings_99 ?_
      refine lv_icmp_ge (tgt := 135) hx hb dX9_brings_102 (by decide) (fun h16 => ?_) (fun h16 => ?_)
      · have hf := it_t h16 hf
        exact hk _ _ _ _ hw (lv_sub hl [1] rfl) hf
      · have hf := it_f h16 hf
        refine lv_aload_n hx hb dX9_brings_105 rfl (lv_at hl 0 rfl) ?_
        refine mg_22 C hw dX9_brings_106 ?_
        refine lv_iload_n hx hb dX9_brings_109 rfl (lv_at hl 2 rfl) ?_
        refine lv_aload_n hx hb dX9_brings_110 rfl (lv_at hl 0 rfl) ?_
        refine mg_5 C hw dX9_brings_111 ?_
        refine lv_iload_n hx hb dX9_brings_114 rfl (lv_at hl 2 rfl) ?_
        obtain ⟨g17, hf⟩ := gd_inv hf
        refine ml_5 C hw g17 dX9_brings_115 ?_
        obtain ⟨g18, hf⟩ := gd_inv hf
        refine ms_22 C hw g18 dX9_brings_116 (fun H locs hw => ?_)
        refine lv_aload_n hx hb dX9_brings_117 rfl (lv_at hl 0 rfl) ?_
        refine mg_5 C hw dX9_brings_118 ?_
        refine lv_iload_n hx hb dX9_brings_121 rfl (lv_at hl 2 rfl) ?_
        refine lv_aload_n hx hb dX9_brings_122 rfl (lv_at hl 0 rfl) ?_
        refine mg_21 C hw dX9_brings_123 ?_
        refine lv_iload_n hx hb dX9_brings_126 rfl (lv_at hl 2 rfl) ?_
        obtain ⟨g19, hf⟩ := gd_inv hf
        refine ml_21 C hw g19 dX9_brings_127 ?_
        obtain ⟨g20, hf⟩ := gd_inv hf
        refine ms_5 C hw g20 dX9_brings_128 (fun H locs hw => ?_)
        refine lv_iinc (v := (v3 + 1)) (lv' := [(3, .int (v3 + 1)), (0, .ref a0), (2, .int v2)]) hx hb dX9_brings_129 hl (k := 2) rfl (iv_1 _) (by decide) rfl (fun ls hl => ?_)
        refine lv_goto (tgt := 97) hx hb dX9_brings_132 (by decide) ?_
        exact ih _ _ _ _ _ hw (lv_sub hl [1, 2, 0] rfl) hf hk
set_option maxHeartbeats 4000000 in
theorem kX9_brings (l : Launch) (D : va_G) (cI cB cS : ClassId) (a0 : Nat) (am : Nat → Nat) {p1 : Int32} {M : MS} {q : (Int32 × MS)} (hf : fX9_brings p1 M = some q) : Ct l D cI cB cS yX9_brings cX9_brings 4 (some .int) 4 93 [.ref a0, .int p1] (mW cI a0 am M) (some (.int q.1)) (mW cI a0 am q.2) := by
  refine Ct.ofW (by decide) (Nat.le_of_ble_eq_true rfl) ?_
  intro p e s m args below meth c ls C hr hlocks _ hw hl
  have hx := C.1
  have hb := C.2.1
  have hA : ∀ q, s.heap.size ≤ q → va_A (mW cI a0 am M) s.heap.size q := fun q h => Or.inr h
  have hcg := trivial
  have hl : lv_has ls 4 [(0, .ref a0), (1, .int p1)] := hl
  unfold fX9_brings at hf
  refine lv_iconst (v := 0) hx hb dX9_brings_0 ic_0 ?_
  refine lv_istore_n (lv' := [(2, .int 0), (0, .ref a0), (1, .int p1)]) hx hb dX9_brings_1 rfl hl (by decide) rfl (fun ls hl => ?_)
  refine wX9_brings_2 C hr hlocks hA hcg 300 _ _ _ _ _ hw (lv_sub hl [1, 2, 0] rfl) hf (fun M4 H locs ls hw hl hf => ?_)
  refine lv_aload_n hx hb dX9_brings_28 rfl (lv_at hl 0 rfl) ?_
  refine lv_aload_n hx hb dX9_brings_29 rfl (lv_at hl 0 rfl) ?_
  refine ct_V1 (q0 := 0) (ci := 9) (rest := [.ref a0]) C hw hA (kX9_all l D cI cB cS a0 am _) cfX9_all tg_841 tg_843 ts_yX9_all ⟨(Nat.le_of_ble_eq_true rfl), (Nat.le_of_ble_eq_true rfl)⟩ ⟨(Nat.le_of_ble_eq_true rfl), (Nat.le_of_ble_eq_true rfl)⟩ rfl rfl rfl rfl hl.1 rfl (Nat.le_of_ble_eq_true rfl) dX9_brings_30 (fun H locs hw => ?_)
  obtain ⟨r5, e6, hf⟩ := bd hf
  refine ct_V0 (q0 := 0) (ci := 9) (rest := []) C hw hA (kX9_sitDown l D cI cB cS a0 am e6) cfX9_sitDown tg_790 tg_792 ts_yX9_sitDown ⟨(Nat.le_of_ble_eq_true rfl), (Nat.le_of_ble_eq_true rfl)⟩ ⟨(Nat.le_of_ble_eq_true rfl), (Nat.le_of_ble_eq_true rfl)⟩ rfl rfl rfl rfl hl.1 rfl (Nat.le_of_ble_eq_true rfl) dX9_brings_33 (fun H locs hw => ?_)
  refine lv_iconst (v := 0) hx hb dX9_brings_36 ic_0 ?_
  refine lv_istore_n (lv' := [(2, .int 0), (0, .ref a0), (1, .int p1)]) hx hb dX9_brings_37 rfl hl (by decide) rfl (fun ls hl => ?_)
  refine lv_iconst (v := 0) hx hb dX9_brings_38 ic_0 ?_
  refine lv_istore_n (lv' := [(3, .int 0), (2, .int 0), (0, .ref a0), (1, .int p1)]) hx hb dX9_brings_39 rfl hl (by decide) rfl (fun ls hl => ?_)
  refine wX9_brings_40 C hr hlocks hA hcg 300 _ _ _ _ _ _ hw (lv_sub hl [2, 3, 1, 0] rfl) hf (fun x14 M15 H locs ls hw hl hf => ?_)
  refine lv_iconst (v := 0) hx hb dX9_brings_95 ic_0 ?_
  refine lv_istore_n (lv' := [(3, .int 0), (0, .ref a0), (2, .int x14)]) hx hb dX9_brings_96 rfl hl (by decide) rfl (fun ls hl => ?_)
  refine wX9_brings_97 C hr hlocks hA hcg 300 _ _ _ _ _ hw (lv_sub hl [1, 2, 0] rfl) hf (fun M21 H locs ls hw hl hf => ?_)
  refine lv_iload_n hx hb dX9_brings_135 rfl (lv_at hl 0 rfl) ?_
  obtain rfl := Option.some.inj hf
  exact qt_i C hr hlocks hw dX9_brings_136
theorem cfX9_row : cf yX9_row cX9_row 10 (some .int) 5 := ⟨tg_872, by decide +kernel, tg_7⟩
set_option maxHeartbeats 4000000 in
theorem wX9_row_86 {p : Program} {l : Launch} {e : Env} {s : State} {m : MethodId} {args : Array Value} {below : List Frame} {meth : Method} {c : Code} {D : va_G} {cI cB cS : ClassId} {a0 : Nat} {am : Nat → Nat} {ws0 : va_W} {v1 : Int32} {v2 : Int32} {v4 : Int32} {v5 : Int32} (C : cx p c cX9_row 10 s args m RX9 D cI cB cS) (hr : meth.sig.returnType = (some .int)) (hlocks : meth.locks = false) (hA : ∀ q, s.heap.size ≤ q → va_A ws0 s.heap.size q) {k : MS → Option (Int32 × MS)} {q : (Int32 × MS)}
    (hcg : True) : ∀ (fu : Nat) (v7 : Int32) (v8 : Int32) (M : MS) (H : Heap) (locs : List Loc) (ls : Array Slot), wd D (va_A ws0 s.heap.size) s.heap (mW cI a0 am M) H locs → lv_has ls 10 [(0, .ref a0), (1, .int v1), (2, .int v2), (4, .int v4), (5, .int v5), (7, .int v7), (8, .int v8)] → fX9_row_86 fu k v2 v4 v5 v7 v8 M = some q →
    (∀  (M1 : MS) (H : Heap) (locs : List Loc) (ls : Array Slot), wd D (va_A ws0 s.heap.size) s.heap (mW cI a0 am M1) H locs → lv_has ls 10 [(0, .ref a0), (1, .int v1), (5, .int v5)] → k  M1 = some q → W p l e { frames := 5, cells := 0, slots := 0, locals := 116 } s m args below meth c H locs 0 0 (Qt D below args s ws0 (some (.int q.1)) (mW cI a0 am q.2)) (F0 m 158 ls [])) →
    W p l e { frames := 5, cells := 0, slots := 0, locals := 116 } s m args below meth c H locs 0 0 (Qt D below args s ws0 (some (.int q.1)) (mW cI a0 am q.2)) (F0 m 86 ls []) := by
  have hx := C.1
  have hb := C.2.1
  intro fu
  induction fu with
  | zero => intro v7 v8 M H locs ls hw hl hf hk; rw [fX9_row_86] at hf; cases hf
  | succ fu ih =>
      intro v7 v8 M H locs ls hw hl hf hk
      rw [fX9_row_86] at hf
      refine lv_iload hx hb dX9_row_86 (lv_at hl 6 rfl) ?_
      refine lv_iload hx hb dX9_row_88 (lv_at hl 4 rfl) ?_
      refine lv_icmp_ge (tgt := 158) hx hb dX9_row_90 (by decide) (fun h8 => ?_) (fun h8 => ?_)
      · have hf := it_t h8 hf
        exact hk _ _ _ _ hw (lv_sub hl [0, 1, 4] rfl) hf
      · have hf := it_f h8 hf
        refine lv_aload_n hx hb dX9_row_93 rfl (lv_at hl 0 rfl) ?_
        refine mg_29 C hw dX9_row_94 ?_
        refine lv_bipush (v := 60) hx hb dX9_row_97 ib_60 ?_
        refine lv_iload_n hx hb dX9_row_99 rfl (lv_at hl 2 rfl) ?_
        refine lv_imul hx hb dX9_row_100 ?_
        refine lv_iload hx hb dX9_row_101 (lv_at hl 3 rfl) ?_
        refine lv_iadd hx hb dX9_row_103 ?_
        refine lv_iload hx hb dX9_row_104 (lv_at hl 6 rfl) ?_
        refine lv_iadd hx hb dX9_row_106 ?_
        obtain ⟨g9, hf⟩ := gd_inv hf
        refine ml_29 C hw g9 dX9_row_107 ?_
        refine lv_istore (lv' := [(9, .int (M 29 (((60 * v2) + v4) + v8).toNatClampNeg)), (0, .ref a0), (1, .int v1), (2, .int v2), (4, .int v4), (5, .int v5), (7, .int v7), (8, .int v8)]) hx hb dX9_row_108 hl (by decide) rfl (fun ls hl => ?_)
        refine lv_iload hx hb dX9_row_110 (lv_at hl 0 rfl) ?_
        refine ct_S1 (rest := []) C hw hA (kX9_noLot l D cI cB cS _ _) cfX9_noLot tg_809 tg_810 ⟨(Nat.le_of_ble_eq_true rfl), (Nat.le_of_ble_eq_true rfl)⟩ ⟨(Nat.le_of_ble_eq_true rfl), (Nat.le_of_ble_eq_true rfl)⟩ rfl hl.1 rfl (Nat.le_of_ble_eq_true rfl) dX9_row_112 (fun H locs hw => ?_)
        refine lv_if_ne (tgt := 128) hx hb dX9_row_115 (by decide) (fun h10 => ?_) (fun h10 => ?_)
        · have hf := it_f h10 hf
          refine lv_aload_n hx hb dX9_row_128 rfl (lv_at hl 1 rfl) ?_
          refine lv_iconst (v := (-1)) hx hb dX9_row_129 ic_m1 ?_
          refine ct_V1 (q0 := 0) (ci := 9) (rest := []) C hw hA (kX9_refused l D cI cB cS a0 am _ _) cfX9_refused tg_747 tg_749 ts_yX9_refused ⟨(Nat.le_of_ble_eq_true rfl), (Nat.le_of_ble_eq_true rfl)⟩ ⟨(Nat.le_of_ble_eq_true rfl), (Nat.le_of_ble_eq_true rfl)⟩ rfl rfl rfl rfl hl.1 rfl (Nat.le_of_ble_eq_true rfl) dX9_row_130 (fun H locs hw => ?_)
          obtain rfl := Option.some.inj hf
          exact qt_i C hr hlocks hw dX9_row_133
        · have hf := it_t h10 hf
          refine lv_iload hx hb dX9_row_118 (lv_at hl 6 rfl) ?_
          refine lv_iload hx hb dX9_row_120 (lv_at hl 0 rfl) ?_
          refine ct_S1 (rest := []) C hw hA (kX9_isIn l D cI cB cS _ _ _) cfX9_isIn tg_794 tg_795 ⟨(Nat.le_of_ble_eq_true rfl), (Nat.le_of_ble_eq_true rfl)⟩ ⟨(Nat.le_of_ble_eq_true rfl), (Nat.le_of_ble_eq_true rfl)⟩ rfl hl.1 rfl (Nat.le_of_ble_eq_true rfl) dX9_row_122 (fun H locs hw => ?_)
          refine lv_if_eq (tgt := 134) hx hb dX9_row_125 (by decide) (fun h11 => ?_) (fun h11 => ?_)
          · have hf := it_t h11 hf
            refine lv_iload hx hb dX9_row_134 (lv_at hl 6 rfl) ?_
            refine lv_iconst (v := 1) hx hb dX9_row_136 ic_1 ?_
            refine lv_iload hx hb dX9_row_137 (lv_at hl 0 rfl) ?_
            refine lv_ishl hx hb dX9_row_139 ?_
            refine lv_ior hx hb dX9_row_140 ?_
            refine lv_istore (lv' := [(7, .int (v7 ||| ((1 : Int32) <<< ((M 29 (((60 * v2) + v4) + v8).toNatClampNeg) &&& 31)))), (9, .int (M 29 (((60 * v2) + v4) + v8).toNatClampNeg)), (0, .ref a0), (1, .int v1), (2, .int v2), (4, .int v4), (5, .int v5), (8, .int v8)]) hx hb dX9_row_141 hl (by decide) rfl (fun ls hl => ?_)
            refine lv_aload_n hx hb dX9_row_143 rfl (lv_at hl 2 rfl) ?_
            refine mg_20 C hw dX9_row_144 ?_
            refine lv_iload hx hb dX9_row_147 (lv_at hl 7 rfl) ?_
            refine lv_iload hx hb dX9_row_149 (lv_at hl 1 rfl) ?_
            obtain ⟨g12, hf⟩ := gd_inv hf
            refine ms_20 C hw g12 dX9_row_151 (fun H locs hw => ?_)
            refine lv_iinc (v := (v8 + 1)) (lv' := [(8, .int (v8 + 1)), (7, .int (v7 ||| ((1 : Int32) <<< ((M 29 (((60 * v2) + v4) + v8).toNatClampNeg) &&& 31)))), (9, .int (M 29 (((60 * v2) + v4) + v8).toNatClampNeg)), (0, .ref a0), (1, .int v1), (2, .int v2), (4, .int v4), (5, .int v5)]) hx hb dX9_row_152 hl (k := 7) rfl (iv_1 _) (by decide) rfl (fun ls hl => ?_)
            refine lv_goto (tgt := 86) hx hb dX9_row_155 (by decide) ?_
            exact ih _ _ _ _ _ _ hw (lv_sub hl [3, 4, 5, 6, 7, 1, 0] rfl) hf hk
          · have hf := it_f h11 hf
            refine lv_aload_n hx hb dX9_row_128 rfl (lv_at hl 1 rfl) ?_
            refine lv_iconst (v := (-1)) hx hb dX9_row_129 ic_m1 ?_
            refine ct_V1 (q0 := 0) (ci := 9) (rest := []) C hw hA (kX9_refused l D cI cB cS a0 am _ _) cfX9_refused tg_747 tg_749 ts_yX9_refused ⟨(Nat.le_of_ble_eq_true rfl), (Nat.le_of_ble_eq_true rfl)⟩ ⟨(Nat.le_of_ble_eq_true rfl), (Nat.le_of_ble_eq_true rfl)⟩ rfl rfl rfl rfl hl.1 rfl (Nat.le_of_ble_eq_true rfl) dX9_row_130 (fun H locs hw => ?_)
            obtain rfl := Option.some.inj hf
            exact qt_i C hr hlocks hw dX9_row_133
set_option maxHeartbeats 4000000 in
theorem kX9_row (l : Launch) (D : va_G) (cI cB cS : ClassId) (a0 : Nat) (am : Nat → Nat) {p1 : Int32} {p2 : Int32} {p3 : Int32} {p4 : Int32} {p5 : Int32} {M : MS} {q : (Int32 × MS)} (hf : fX9_row p1 p2 p3 p4 p5 M = some q) : Ct l D cI cB cS yX9_row cX9_row 10 (some .int) 5 116 [.ref a0, .int p1, .int p2, .int p3, .int p4, .int p5] (mW cI a0 am M) (some (.int q.1)) (mW cI a0 am q.2) := by
  refine Ct.ofW (by decide) (Nat.le_of_ble_eq_true rfl) ?_
  intro p e s m args below meth c ls C hr hlocks _ hw hl
  have hx := C.1
  have hb := C.2.1
  have hA : ∀ q, s.heap.size ≤ q → va_A (mW cI a0 am M) s.heap.size q := fun q h => Or.inr h
  have hcg := trivial
  have hl : lv_has ls 10 [(0, .ref a0), (1, .int p1), (2, .int p2), (3, .int p3), (4, .int p4), (5, .int p5)] := hl
  unfold fX9_row at hf
  refine lv_iload_n hx hb dX9_row_0 rfl (lv_at hl 1 rfl) ?_
  refine lv_iconst (v := (-1)) hx hb dX9_row_1 ic_m1 ?_
  refine lv_icmp_eq (tgt := 13) hx hb dX9_row_2 (by decide) (fun h1 => ?_) (fun h1 => ?_)
  · have hf := it_t h1 hf
    refine lv_iload_n hx hb dX9_row_13 rfl (lv_at hl 2 rfl) ?_
    refine ct_S1 (rest := []) C hw hA (kX9_noSheet l D cI cB cS _ _) cfX9_noSheet tg_740 tg_741 ⟨(Nat.le_of_ble_eq_true rfl), (Nat.le_of_ble_eq_true rfl)⟩ ⟨(Nat.le_of_ble_eq_true rfl), (Nat.le_of_ble_eq_true rfl)⟩ rfl hl.1 rfl (Nat.le_of_ble_eq_true rfl) dX9_row_14 (fun H locs hw => ?_)
    refine lv_if_eq (tgt := 26) hx hb dX9_row_17 (by decide) (fun h2 => ?_) (fun h2 => ?_)
    · have hf := it_t h2 hf
      refine lv_iload_n hx hb dX9_row_26 rfl (lv_at hl 3 rfl) ?_
      refine lv_i2l (v := (p3.toInt64)) hx hb dX9_row_27 rfl ?_
      refine lv_lconst (v := 0) hx hb dX9_row_28 rfl ?_
      refine lv_ldc2 (v := (2 : Int64)) hx hb C.2.2.2.1 (C.2.2.2.2.1 _ tg_751) dX9_row_29 ?_
      refine ct_S1 (rest := []) C hw hA (kX9_in l D cI cB cS _ _ _ _) cfX9_in tg_744 tg_745 ⟨(Nat.le_of_ble_eq_true rfl), (Nat.le_of_ble_eq_true rfl)⟩ ⟨(Nat.le_of_ble_eq_true rfl), (Nat.le_of_ble_eq_true rfl)⟩ rfl hl.1 rfl (Nat.le_of_ble_eq_true rfl) dX9_row_32 (fun H locs hw => ?_)
      refine lv_if_ne (tgt := 45) hx hb dX9_row_35 (by decide) (fun h3 => ?_) (fun h3 => ?_)
      · have hf := it_f h3 hf
        refine lv_aload_n hx hb dX9_row_45 rfl (lv_at hl 0 rfl) ?_
        refine mg_1 C hw dX9_row_46 ?_
        refine lv_if_ne (tgt := 59) hx hb dX9_row_49 (by decide) (fun h4 => ?_) (fun h4 => ?_)
        · have hf := it_f h4 hf
          refine lv_aload_n hx hb dX9_row_59 rfl (lv_at hl 0 rfl) ?_
          refine lv_iload_n hx hb dX9_row_60 rfl (lv_at hl 2 rfl) ?_
          refine lv_iload_n hx hb dX9_row_61 rfl (lv_at hl 3 rfl) ?_
          refine lv_iload hx hb dX9_row_62 (lv_at hl 4 rfl) ?_
          refine lv_iload hx hb dX9_row_64 (lv_at hl 5 rfl) ?_
          refine lv_i2l (v := (p5.toInt64)) hx hb dX9_row_66 rfl ?_
          obtain ⟨r5, e6, hf⟩ := bd hf
          refine ct_V1 (q0 := 0) (ci := 9) (rest := []) C hw hA (kX9_cellsBarred l D cI cB cS a0 am e6) cfX9_cellsBarred tg_752 tg_754 ts_yX9_cellsBarred ⟨(Nat.le_of_ble_eq_true rfl), (Nat.le_of_ble_eq_true rfl)⟩ ⟨(Nat.le_of_ble_eq_true rfl), (Nat.le_of_ble_eq_true rfl)⟩ rfl rfl rfl rfl hl.1 rfl (Nat.le_of_ble_eq_true rfl) dX9_row_67 (fun H locs hw => ?_)
          refine lv_istore (lv' := [(6, .int r5.1), (0, .ref a0), (1, .int p1), (2, .int p2), (3, .int p3), (4, .int p4), (5, .int p5)]) hx hb dX9_row_70 hl (by decide) rfl (fun ls hl => ?_)
          refine lv_iload hx hb dX9_row_72 (lv_at hl 0 rfl) ?_
          refine lv_if_ge (tgt := 80) hx hb dX9_row_74 (by decide) (fun h7 => ?_) (fun h7 => ?_)
          · have hf := it_t h7 hf
            refine lv_iconst (v := 0) hx hb dX9_row_80 ic_0 ?_
            refine lv_istore (lv' := [(7, .int 0), (6, .int r5.1), (0, .ref a0), (1, .int p1), (2, .int p2), (3, .int p3), (4, .int p4), (5, .int p5)]) hx hb dX9_row_81 hl (by decide) rfl (fun ls hl => ?_)
            refine lv_iconst (v := 0) hx hb dX9_row_83 ic_0 ?_
            refine lv_istore (lv' := [(8, .int 0), (7, .int 0), (6, .int r5.1), (0, .ref a0), (1, .int p1), (2, .int p2), (3, .int p3), (4, .int p4), (5, .int p5)]) hx hb dX9_row_84 hl (by decide) rfl (fun ls hl => ?_)
            refine wX9_row_86 C hr hlocks hA hcg 300 _ _ _ _ _ _ hw (lv_sub hl [3, 4, 5, 7, 8, 1, 0] rfl) hf (fun M13 H locs ls hw hl hf => ?_)
            refine lv_aload_n hx hb dX9_row_158 rfl (lv_at hl 0 rfl) ?_
            refine lv_iload hx hb dX9_row_159 (lv_at hl 2 rfl) ?_
            obtain ⟨r14, e15, hf⟩ := bd hf
            refine ct_V1 (q0 := 0) (ci := 9) (rest := []) C hw hA (kX9_brings l D cI cB cS a0 am e15) cfX9_brings tg_873 tg_875 ts_yX9_brings ⟨(Nat.le_of_ble_eq_true rfl), (Nat.le_of_ble_eq_true rfl)⟩ ⟨(Nat.le_of_ble_eq_true rfl), (Nat.le_of_ble_eq_true rfl)⟩ rfl rfl rfl rfl hl.1 rfl (Nat.le_of_ble_eq_true rfl) dX9_row_161 (fun H locs hw => ?_)
            refine lv_istore (lv' := [(8, .int r14.1), (0, .ref a0), (1, .int p1), (5, .int p5)]) hx hb dX9_row_164 hl (by decide) rfl (fun ls hl => ?_)
            refine lv_aload_n hx hb dX9_row_166 rfl (lv_at hl 1 rfl) ?_
            refine lv_iload_n hx hb dX9_row_167 rfl (lv_at hl 2 rfl) ?_
            refine lv_if_ge (tgt := 176) hx hb dX9_row_168 (by decide) (fun h16 => ?_) (fun h16 => ?_)
            · have hf := it_t h16 hf
              refine lv_aload_n hx hb dX9_row_176 rfl (lv_at hl 1 rfl) ?_
              refine mg_22 C hw dX9_row_177 ?_
              refine lv_iload_n hx hb dX9_row_180 rfl (lv_at hl 2 rfl) ?_
              obtain ⟨g17, hf⟩ := gd_inv hf
              refine ml_22 C hw g17 dX9_row_181 ?_
              refine ct_V1 (q0 := 0) (ci := 9) (rest := []) C hw hA (kX9_refused l D cI cB cS a0 am _ _) cfX9_refused tg_747 tg_749 ts_yX9_refused ⟨(Nat.le_of_ble_eq_true rfl), (Nat.le_of_ble_eq_true rfl)⟩ ⟨(Nat.le_of_ble_eq_true rfl), (Nat.le_of_ble_eq_true rfl)⟩ rfl rfl rfl rfl hl.1 rfl (Nat.le_of_ble_eq_true rfl) dX9_row_182 (fun H locs hw => ?_)
              obtain rfl := Option.some.inj hf
              exact qt_i C hr hlocks hw dX9_row_185
            · have hf := it_f h16 hf
              refine lv_iload hx hb dX9_row_171 (lv_at hl 0 rfl) ?_
              refine lv_goto (tgt := 182) hx hb dX9_row_173 (by decide) ?_
              refine ct_V1 (q0 := 0) (ci := 9) (rest := []) C hw hA (kX9_refused l D cI cB cS a0 am _ _) cfX9_refused tg_747 tg_749 ts_yX9_refused ⟨(Nat.le_of_ble_eq_true rfl), (Nat.le_of_ble_eq_true rfl)⟩ ⟨(Nat.le_of_ble_eq_true rfl), (Nat.le_of_ble_eq_true rfl)⟩ rfl rfl rfl rfl hl.1 rfl (Nat.le_of_ble_eq_true rfl) dX9_row_182 (fun H locs hw => ?_)
              obtain rfl := Option.some.inj hf
              exact qt_i C hr hlocks hw dX9_row_185
          · have hf := it_f h7 hf
            refine lv_iload hx hb dX9_row_77 (lv_at hl 0 rfl) ?_
            obtain rfl := Option.some.inj hf
            exact qt_i C hr hlocks hw dX9_row_79
        · have hf := it_t h4 hf
          refine lv_aload_n hx hb dX9_row_52 rfl (lv_at hl 0 rfl) ?_
          refine lv_bipush (v := (-3)) hx hb dX9_row_53 ib_m3 ?_
          refine ct_V1 (q0 := 0) (ci := 9) (rest := []) C hw hA (kX9_refused l D cI cB cS a0 am _ _) cfX9_refused tg_747 tg_749 ts_yX9_refused ⟨(Nat.le_of_ble_eq_true rfl), (Nat.le_of_ble_eq_true rfl)⟩ ⟨(Nat.le_of_ble_eq_true rfl), (Nat.le_of_ble_eq_true rfl)⟩ rfl rfl rfl rfl hl.1 rfl (Nat.le_of_ble_eq_true rfl) dX9_row_55 (fun H locs hw => ?_)
          obtain rfl := Option.some.inj hf
          exact qt_i C hr hlocks hw dX9_row_58
      · have hf := it_t h3 hf
        refine lv_aload_n hx hb dX9_row_38 rfl (lv_at hl 0 rfl) ?_
        refine lv_bipush (v := (-2)) hx hb dX9_row_39 ib_m2 ?_
        refine ct_V1 (q0 := 0) (ci := 9) (rest := []) C hw hA (kX9_refused l D cI cB cS a0 am _ _) cfX9_refused tg_747 tg_749 ts_yX9_refused ⟨(Nat.le_of_ble_eq_true rfl), (Nat.le_of_ble_eq_true rfl)⟩ ⟨(Nat.le_of_ble_eq_true rfl), (Nat.le_of_ble_eq_true rfl)⟩ rfl rfl rfl rfl hl.1 rfl (Nat.le_of_ble_eq_true rfl) dX9_row_41 (fun H locs hw => ?_)
        obtain rfl := Option.some.inj hf
        exact qt_i C hr hlocks hw dX9_row_44
    · have hf := it_f h2 hf
      refine lv_aload_n hx hb dX9_row_20 rfl (lv_at hl 0 rfl) ?_
      refine lv_iconst (v := (-1)) hx hb dX9_row_21 ic_m1 ?_
      refine ct_V1 (q0 := 0) (ci := 9) (rest := []) C hw hA (kX9_refused l D cI cB cS a0 am _ _) cfX9_refused tg_747 tg_749 ts_yX9_refused ⟨(Nat.le_of_ble_eq_true rfl), (Nat.le_of_ble_eq_true rfl)⟩ ⟨(Nat.le_of_ble_eq_true rfl), (Nat.le_of_ble_eq_true rfl)⟩ rfl rfl rfl rfl hl.1 rfl (Nat.le_of_ble_eq_true rfl) dX9_row_22 (fun H locs hw => ?_)
      obtain rfl := Option.some.inj hf
      exact qt_i C hr hlocks hw dX9_row_25
  · have hf := it_f h1 hf
    refine lv_aload_n hx hb dX9_row_5 rfl (lv_at hl 0 rfl) ?_
    refine lv_iload_n hx hb dX9_row_6 rfl (lv_at hl 1 rfl) ?_
    refine ct_V1 (q0 := 0) (ci := 9) (rest := []) C hw hA (kX9_noBuyer l D cI cB cS a0 am _ _) cfX9_noBuyer tg_786 tg_788 ts_yX9_noBuyer ⟨(Nat.le_of_ble_eq_true rfl), (Nat.le_of_ble_eq_true rfl)⟩ ⟨(Nat.le_of_ble_eq_true rfl), (Nat.le_of_ble_eq_true rfl)⟩ rfl rfl rfl rfl hl.1 rfl (Nat.le_of_ble_eq_true rfl) dX9_row_7 (fun H locs hw => ?_)
    refine lv_if_ne (tgt := 20) hx hb dX9_row_10 (by decide) (fun h18 => ?_) (fun h18 => ?_)
    · have hf := it_f h18 hf
      refine lv_aload_n hx hb dX9_row_20 rfl (lv_at hl 0 rfl) ?_
      refine lv_iconst (v := (-1)) hx hb dX9_row_21 ic_m1 ?_
      refine ct_V1 (q0 := 0) (ci := 9) (rest := []) C hw hA (kX9_refused l D cI cB cS a0 am _ _) cfX9_refused tg_747 tg_749 ts_yX9_refused ⟨(Nat.le_of_ble_eq_true rfl), (Nat.le_of_ble_eq_true rfl)⟩ ⟨(Nat.le_of_ble_eq_true rfl), (Nat.le_of_ble_eq_true rfl)⟩ rfl rfl rfl rfl hl.1 rfl (Nat.le_of_ble_eq_true rfl) dX9_row_22 (fun H locs hw => ?_)
      obtain rfl := Option.some.inj hf
      exact qt_i C hr hlocks hw dX9_row_25
    · have hf := it_t h18 hf
      refine lv_iload_n hx hb dX9_row_13 rfl (lv_at hl 2 rfl) ?_
      refine ct_S1 (rest := []) C hw hA (kX9_noSheet l D cI cB cS _ _) cfX9_noSheet tg_740 tg_741 ⟨(Nat.le_of_ble_eq_true rfl), (Nat.le_of_ble_eq_true rfl)⟩ ⟨(Nat.le_of_ble_eq_true rfl), (Nat.le_of_ble_eq_true rfl)⟩ rfl hl.1 rfl (Nat.le_of_ble_eq_true rfl) dX9_row_14 (fun H locs hw => ?_)
      refine lv_if_eq (tgt := 26) hx hb dX9_row_17 (by decide) (fun h19 => ?_) (fun h19 => ?_)
      · have hf := it_t h19 hf
        refine lv_iload_n hx hb dX9_row_26 rfl (lv_at hl 3 rfl) ?_
        refine lv_i2l (v := (p3.toInt64)) hx hb dX9_row_27 rfl ?_
        refine lv_lconst (v := 0) hx hb dX9_row_28 rfl ?_
        refine lv_ldc2 (v := (2 : Int64)) hx hb C.2.2.2.1 (C.2.2.2.2.1 _ tg_751) dX9_row_29 ?_
        refine ct_S1 (rest := []) C hw hA (kX9_in l D cI cB cS _ _ _ _) cfX9_in tg_744 tg_745 ⟨(Nat.le_of_ble_eq_true rfl), (Nat.le_of_ble_eq_true rfl)⟩ ⟨(Nat.le_of_ble_eq_true rfl), (Nat.le_of_ble_eq_true rfl)⟩ rfl hl.1 rfl (Nat.le_of_ble_eq_true rfl) dX9_row_32 (fun H locs hw => ?_)
        refine lv_if_ne (tgt := 45) hx hb dX9_row_35 (by decide) (fun h20 => ?_) (fun h20 => ?_)
        · have hf := it_f h20 hf
          refine lv_aload_n hx hb dX9_row_45 rfl (lv_at hl 0 rfl) ?_
          refine mg_1 C hw dX9_row_46 ?_
          refine lv_if_ne (tgt := 59) hx hb dX9_row_49 (by decide) (fun h21 => ?_) (fun h21 => ?_)
          · have hf := it_f h21 hf
            refine lv_aload_n hx hb dX9_row_59 rfl (lv_at hl 0 rfl) ?_
            refine lv_iload_n hx hb dX9_row_60 rfl (lv_at hl 2 rfl) ?_
            refine lv_iload_n hx hb dX9_row_61 rfl (lv_at hl 3 rfl) ?_
            refine lv_iload hx hb dX9_row_62 (lv_at hl 4 rfl) ?_
            refine lv_iload hx hb dX9_row_64 (lv_at hl 5 rfl) ?_
            refine lv_i2l (v := (p5.toInt64)) hx hb dX9_row_66 rfl ?_
            obtain ⟨r22, e23, hf⟩ := bd hf
            refine ct_V1 (q0 := 0) (ci := 9) (rest := []) C hw hA (kX9_cellsBarred l D cI cB cS a0 am e23) cfX9_cellsBarred tg_752 tg_754 ts_yX9_cellsBarred ⟨(Nat.le_of_ble_eq_true rfl), (Nat.le_of_ble_eq_true rfl)⟩ ⟨(Nat.le_of_ble_eq_true rfl), (Nat.le_of_ble_eq_true rfl)⟩ rfl rfl rfl rfl hl.1 rfl (Nat.le_of_ble_eq_true rfl) dX9_row_67 (fun H locs hw => ?_)
            refine lv_istore (lv' := [(6, .int r22.1), (0, .ref a0), (1, .int p1), (2, .int p2), (3, .int p3), (4, .int p4), (5, .int p5)]) hx hb dX9_row_70 hl (by decide) rfl (fun ls hl => ?_)
            refine lv_iload hx hb dX9_row_72 (lv_at hl 0 rfl) ?_
            refine lv_if_ge (tgt := 80) hx hb dX9_row_74 (by decide) (fun h24 => ?_) (fun h24 => ?_)
            · have hf := it_t h24 hf
              refine lv_iconst (v := 0) hx hb dX9_row_80 ic_0 ?_
              refine lv_istore (lv' := [(7, .int 0), (6, .int r22.1), (0, .ref a0), (1, .int p1), (2, .int p2), (3, .int p3), (4, .int p4), (5, .int p5)]) hx hb dX9_row_81 hl (by decide) rfl (fun ls hl => ?_)
              refine lv_iconst (v := 0) hx hb dX9_row_83 ic_0 ?_
              refine lv_istore (lv' := [(8, .int 0), (7, .int 0), (6, .int r22.1), (0, .ref a0), (1, .int p1), (2, .int p2), (3, .int p3), (4, .int p4), (5, .int p5)]) hx hb dX9_row_84 hl (by decide) rfl (fun ls hl => ?_)
              refine wX9_row_86 C hr hlocks hA hcg 300 _ _ _ _ _ _ hw (lv_sub hl [3, 4, 5, 7, 8, 1, 0] rfl) hf (fun M25 H locs ls hw hl hf => ?_)
              refine lv_aload_n hx hb dX9_row_158 rfl (lv_at hl 0 rfl) ?_
              refine lv_iload hx hb dX9_row_159 (lv_at hl 2 rfl) ?_
              obtain ⟨r26, e27, hf⟩ := bd hf
              refine ct_V1 (q0 := 0) (ci := 9) (rest := []) C hw hA (kX9_brings l D cI cB cS a0 am e27) cfX9_brings tg_873 tg_875 ts_yX9_brings ⟨(Nat.le_of_ble_eq_true rfl), (Nat.le_of_ble_eq_true rfl)⟩ ⟨(Nat.le_of_ble_eq_true rfl), (Nat.le_of_ble_eq_true rfl)⟩ rfl rfl rfl rfl hl.1 rfl (Nat.le_of_ble_eq_true rfl) dX9_row_161 (fun H locs hw => ?_)
              refine lv_istore (lv' := [(8, .int r26.1), (0, .ref a0), (1, .int p1), (5, .int p5)]) hx hb dX9_row_164 hl (by decide) rfl (fun ls hl => ?_)
              refine lv_aload_n hx hb dX9_row_166 rfl (lv_at hl 1 rfl) ?_
              refine lv_iload_n hx hb dX9_row_167 rfl (lv_at hl 2 rfl) ?_
              refine lv_if_ge (tgt := 176) hx hb dX9_row_168 (by decide) (fun h28 => ?_) (fun h28 => ?_)
              · have hf := it_t h28 hf
                refine lv_aload_n hx hb dX9_row_176 rfl (lv_at hl 1 rfl) ?_
                refine mg_22 C hw dX9_row_177 ?_
                refine lv_iload_n hx hb dX9_row_180 rfl (lv_at hl 2 rfl) ?_
                obtain ⟨g29, hf⟩ := gd_inv hf
                refine ml_22 C hw g29 dX9_row_181 ?_
                refine ct_V1 (q0 := 0) (ci := 9) (rest := []) C hw hA (kX9_refused l D cI cB cS a0 am _ _) cfX9_refused tg_747 tg_749 ts_yX9_refused ⟨(Nat.le_of_ble_eq_true rfl), (Nat.le_of_ble_eq_true rfl)⟩ ⟨(Nat.le_of_ble_eq_true rfl), (Nat.le_of_ble_eq_true rfl)⟩ rfl rfl rfl rfl hl.1 rfl (Nat.le_of_ble_eq_true rfl) dX9_row_182 (fun H locs hw => ?_)
                obtain rfl := Option.some.inj hf
                exact qt_i C hr hlocks hw dX9_row_185
              · have hf := it_f h28 hf
                refine lv_iload hx hb dX9_row_171 (lv_at hl 0 rfl) ?_
                refine lv_goto (tgt := 182) hx hb dX9_row_173 (by decide) ?_
                refine ct_V1 (q0 := 0) (ci := 9) (rest := []) C hw hA (kX9_refused l D cI cB cS a0 am _ _) cfX9_refused tg_747 tg_749 ts_yX9_refused ⟨(Nat.le_of_ble_eq_true rfl), (Nat.le_of_ble_eq_true rfl)⟩ ⟨(Nat.le_of_ble_eq_true rfl), (Nat.le_of_ble_eq_true rfl)⟩ rfl rfl rfl rfl hl.1 rfl (Nat.le_of_ble_eq_true rfl) dX9_row_182 (fun H locs hw => ?_)
                obtain rfl := Option.some.inj hf
                exact qt_i C hr hlocks hw dX9_row_185
            · have hf := it_f h24 hf
              refine lv_iload hx hb dX9_row_77 (lv_at hl 0 rfl) ?_
              obtain rfl := Option.some.inj hf
              exact qt_i C hr hlocks hw dX9_row_79
          · have hf := it_t h21 hf
            refine lv_aload_n hx hb dX9_row_52 rfl (lv_at hl 0 rfl) ?_
            refine lv_bipush (v := (-3)) hx hb dX9_row_53 ib_m3 ?_
            refine ct_V1 (q0 := 0) (ci := 9) (rest := []) C hw hA (kX9_refused l D cI cB cS a0 am _ _) cfX9_refused tg_747 tg_749 ts_yX9_refused ⟨(Nat.le_of_ble_eq_true rfl), (Nat.le_of_ble_eq_true rfl)⟩ ⟨(Nat.le_of_ble_eq_true rfl), (Nat.le_of_ble_eq_true rfl)⟩ rfl rfl rfl rfl hl.1 rfl (Nat.le_of_ble_eq_true rfl) dX9_row_55 (fun H locs hw => ?_)
            obtain rfl := Option.some.inj hf
            exact qt_i C hr hlocks hw dX9_row_58
        · have hf := it_t h20 hf
          refine lv_aload_n hx hb dX9_row_38 rfl (lv_at hl 0 rfl) ?_
          refine lv_bipush (v := (-2)) hx hb dX9_row_39 ib_m2 ?_
          refine ct_V1 (q0 := 0) (ci := 9) (rest := []) C hw hA (kX9_refused l D cI cB cS a0 am _ _) cfX9_refused tg_747 tg_749 ts_yX9_refused ⟨(Nat.le_of_ble_eq_true rfl), (Nat.le_of_ble_eq_true rfl)⟩ ⟨(Nat.le_of_ble_eq_true rfl), (Nat.le_of_ble_eq_true rfl)⟩ rfl rfl rfl rfl hl.1 rfl (Nat.le_of_ble_eq_true rfl) dX9_row_41 (fun H locs hw => ?_)
          obtain rfl := Option.some.inj hf
          exact qt_i C hr hlocks hw dX9_row_44
      · have hf := it_f h19 hf
        refine lv_aload_n hx hb dX9_row_20 rfl (lv_at hl 0 rfl) ?_
        refine lv_iconst (v := (-1)) hx hb dX9_row_21 ic_m1 ?_
        refine ct_V1 (q0 := 0) (ci := 9) (rest := []) C hw hA (kX9_refused l D cI cB cS a0 am _ _) cfX9_refused tg_747 tg_749 ts_yX9_refused ⟨(Nat.le_of_ble_eq_true rfl), (Nat.le_of_ble_eq_true rfl)⟩ ⟨(Nat.le_of_ble_eq_true rfl), (Nat.le_of_ble_eq_true rfl)⟩ rfl rfl rfl rfl hl.1 rfl (Nat.le_of_ble_eq_true rfl) dX9_row_22 (fun H locs hw => ?_)
        obtain rfl := Option.some.inj hf
        exact qt_i C hr hlocks hw dX9_row_25
theorem cfX9_gainOf : cf yX9_gainOf cX9_gainOf 3 (some .int) 2 := ⟨tg_884, by decide +kernel, tg_7⟩
set_option maxHeartbeats 4000000 in
theorem kX9_gainOf (l : Launch) (D : va_G) (cI cB cS : ClassId) (a0 : Nat) (am : Nat → Nat) {p1 : Int32} {p2 : Int32} {M : MS} {q : (Int32 × MS)} (hf : fX9_gainOf p1 p2 M = some q) : Ct l D cI cB cS yX9_gainOf cX9_gainOf 3 (some .int) 5 115 [.ref a0, .int p1, .int p2] (mW cI a0 am M) (some (.int q.1)) (mW cI a0 am q.2) := by
  refine Ct.ofW (by decide) (Nat.le_of_ble_eq_true rfl) ?_
  intro p e s m args below meth c ls C hr hlocks _ hw hl
  have hx := C.1
  have hb := C.2.1
  have hA : ∀ q, s.heap.size ≤ q → va_A (mW cI a0 am M) s.heap.size q := fun q h => Or.inr h
  have hcg := trivial
  have hl : lv_has ls 3 [(0, .ref a0), (1, .int p1), (2, .int p2)] := hl
  unfold fX9_gainOf at hf
  refine lv_aload_n hx hb dX9_gainOf_0 rfl (lv_at hl 0 rfl) ?_
  refine lv_iload_n hx hb dX9_gainOf_1 rfl (lv_at hl 2 rfl) ?_
  refine lv_aload_n hx hb dX9_gainOf_2 rfl (lv_at hl 0 rfl) ?_
  refine ct_V1 (q0 := 0) (ci := 9) (rest := [.int p2, .ref a0]) C hw hA (kX9_all l D cI cB cS a0 am _) cfX9_all tg_841 tg_843 ts_yX9_all ⟨(Nat.le_of_ble_eq_true rfl), (Nat.le_of_ble_eq_true rfl)⟩ ⟨(Nat.le_of_ble_eq_true rfl), (Nat.le_of_ble_eq_true rfl)⟩ rfl rfl rfl rfl hl.1 rfl (Nat.le_of_ble_eq_true rfl) dX9_gainOf_3 (fun H locs hw => ?_)
  obtain ⟨r1, e2, hf⟩ := bd hf
  refine ct_V0 (q0 := 0) (ci := 9) (rest := []) C hw hA (kX9_sellTo l D cI cB cS a0 am e2) cfX9_sellTo tg_845 tg_847 ts_yX9_sellTo ⟨(Nat.le_of_ble_eq_true rfl), (Nat.le_of_ble_eq_true rfl)⟩ ⟨(Nat.le_of_ble_eq_true rfl), (Nat.le_of_ble_eq_true rfl)⟩ rfl rfl rfl rfl hl.1 rfl (Nat.le_of_ble_eq_true rfl) dX9_gainOf_6 (fun H locs hw => ?_)
  refine lv_aload_n hx hb dX9_gainOf_9 rfl (lv_at hl 0 rfl) ?_
  refine mg_17 C hw dX9_gainOf_10 ?_
  refine lv_iload_n hx hb dX9_gainOf_13 rfl (lv_at hl 1 rfl) ?_
  refine lv_icmp_ne (tgt := 35) hx hb dX9_gainOf_14 (by decide) (fun h3 => ?_) (fun h3 => ?_)
  · have hf := it_f h3 hf
    refine lv_iconst (v := 0) hx hb dX9_gainOf_35 ic_0 ?_
    obtain rfl := Option.some.inj hf
    exact qt_i C hr hlocks hw dX9_gainOf_36
  · have hf := it_t h3 hf
    refine lv_aload_n hx hb dX9_gainOf_17 rfl (lv_at hl 0 rfl) ?_
    refine mg_7 C hw dX9_gainOf_18 ?_
    refine lv_iconst (v := 4) hx hb dX9_gainOf_21 ic_4 ?_
    refine lv_iload_n hx hb dX9_gainOf_22 rfl (lv_at hl 1 rfl) ?_
    refine lv_imul hx hb dX9_gainOf_23 ?_
    refine lv_iload_n hx hb dX9_gainOf_24 rfl (lv_at hl 2 rfl) ?_
    refine lv_iadd hx hb dX9_gainOf_25 ?_
    obtain ⟨g4, hf⟩ := gd_inv hf
    refine ml_7 C hw g4 dX9_gainOf_26 ?_
    refine lv_aload_n hx hb dX9_gainOf_27 rfl (lv_at hl 0 rfl) ?_
    refine mg_16 C hw dX9_gainOf_28 ?_
    refine lv_isub hx hb dX9_gainOf_31 ?_
    refine lv_goto (tgt := 36) hx hb dX9_gainOf_32 (by decide) ?_
    obtain rfl := Option.some.inj hf
    exact qt_i C hr hlocks hw dX9_gainOf_36
theorem cfX9_gain : cf yX9_gain cX9_gain 3 (some .int) 2 := ⟨tg_880, by decide +kernel, tg_7⟩
set_option maxHeartbeats 4000000 in
theorem kX9_gain (l : Launch) (D : va_G) (cI cB cS : ClassId) (a0 : Nat) (am : Nat → Nat) {p1 : Int32} {p2 : Int32} {M : MS} {q : (Int32 × MS)} (hf : fX9_gain p1 p2 M = some q) : Ct l D cI cB cS yX9_gain cX9_gain 3 (some .int) 6 137 [.ref a0, .int p1, .int p2] (mW cI a0 am M) (some (.int q.1)) (mW cI a0 am q.2) := by
  refine Ct.ofW (by decide) (Nat.le_of_ble_eq_true rfl) ?_
  intro p e s m args below meth c ls C hr hlocks _ hw hl
  have hx := C.1
  have hb := C.2.1
  have hA : ∀ q, s.heap.size ≤ q → va_A (mW cI a0 am M) s.heap.size q := fun q h => Or.inr h
  have hcg := trivial
  have hl : lv_has ls 3 [(0, .ref a0), (1, .int p1), (2, .int p2)] := hl
  unfold fX9_gain at hf
  refine lv_aload_n hx hb dX9_gain_0 rfl (lv_at hl 0 rfl) ?_
  refine lv_iload_n hx hb dX9_gain_1 rfl (lv_at hl 1 rfl) ?_
  refine ct_V1 (q0 := 0) (ci := 9) (rest := []) C hw hA (kX9_noBuyer l D cI cB cS a0 am _ _) cfX9_noBuyer tg_786 tg_788 ts_yX9_noBuyer ⟨(Nat.le_of_ble_eq_true rfl), (Nat.le_of_ble_eq_true rfl)⟩ ⟨(Nat.le_of_ble_eq_true rfl), (Nat.le_of_ble_eq_true rfl)⟩ rfl rfl rfl rfl hl.1 rfl (Nat.le_of_ble_eq_true rfl) dX9_gain_2 (fun H locs hw => ?_)
  refine lv_if_ne (tgt := 15) hx hb dX9_gain_5 (by decide) (fun h1 => ?_) (fun h1 => ?_)
  · have hf := it_f h1 hf
    refine lv_iconst (v := (-1)) hx hb dX9_gain_15 ic_m1 ?_
    refine lv_goto (tgt := 28) hx hb dX9_gain_16 (by decide) ?_
    obtain rfl := Option.some.inj hf
    exact qt_i C hr hlocks hw dX9_gain_28
  · have hf := it_t h1 hf
    refine lv_iload_n hx hb dX9_gain_8 rfl (lv_at hl 2 rfl) ?_
    refine ct_S1 (rest := []) C hw hA (kX9_noLot l D cI cB cS _ _) cfX9_noLot tg_809 tg_810 ⟨(Nat.le_of_ble_eq_true rfl), (Nat.le_of_ble_eq_true rfl)⟩ ⟨(Nat.le_of_ble_eq_true rfl), (Nat.le_of_ble_eq_true rfl)⟩ rfl hl.1 rfl (Nat.le_of_ble_eq_true rfl) dX9_gain_9 (fun H locs hw => ?_)
    refine lv_if_eq (tgt := 19) hx hb dX9_gain_12 (by decide) (fun h2 => ?_) (fun h2 => ?_)
    · have hf := it_t h2 hf
      refine lv_aload_n hx hb dX9_gain_19 rfl (lv_at hl 0 rfl) ?_
      refine lv_iload_n hx hb dX9_gain_20 rfl (lv_at hl 1 rfl) ?_
      refine lv_iload_n hx hb dX9_gain_21 rfl (lv_at hl 2 rfl) ?_
      obtain ⟨r3, e4, hf⟩ := bd hf
      refine ct_V1 (q0 := 0) (ci := 9) (rest := []) C hw hA (kX9_gainOf l D cI cB cS a0 am e4) cfX9_gainOf tg_881 tg_883 ts_yX9_gainOf ⟨(Nat.le_of_ble_eq_true rfl), (Nat.le_of_ble_eq_true rfl)⟩ ⟨(Nat.le_of_ble_eq_true rfl), (Nat.le_of_ble_eq_true rfl)⟩ rfl rfl rfl rfl hl.1 rfl (Nat.le_of_ble_eq_true rfl) dX9_gain_22 (fun H locs hw => ?_)
      refine lv_bipush (v := 100) hx hb dX9_gain_25 ib_100 ?_
      refine lv_iadd hx hb dX9_gain_27 ?_
      obtain rfl := Option.some.inj hf
      exact qt_i C hr hlocks hw dX9_gain_28
    · have hf := it_f h2 hf
      refine lv_iconst (v := (-1)) hx hb dX9_gain_15 ic_m1 ?_
      refine lv_goto (tgt := 28) hx hb dX9_gain_16 (by decide) ?_
      obtain rfl := Option.some.inj hf
      exact qt_i C hr hlocks hw dX9_gain_28
theorem cfX9_best : cf yX9_best cX9_best 10 (some .int) 3 := ⟨tg_888, by decide +kernel, tg_7⟩
set_option maxHeartbeats 4000000 in
theorem wX9_best_49 {p : Program} {l : Launch} {e : Env} {s : State} {m : MethodId} {args : Array Value} {below : List Frame} {meth : Method} {c : Code} {D : va_G} {cI cB cS : ClassId} {a0 : Nat} {am : Nat → Nat} {ws0 : va_W} {v1 : Int32} {v2 : Int32} {v3 : Int32} {v4 : Int32} (C : cx p c cX9_best 10 s args m RX9 D cI cB cS) (hr : meth.sig.returnType = (some .int)) (hlocks : meth.locks = false) (hA : ∀ q, s.heap.size ≤ q → va_A ws0 s.heap.size q) {k : Int32 → Int32 → MS → Option (Int32 × MS)} {q : (Int32 × MS)}
    (hcg : True) : ∀ (fu : Nat) (v5 : Int32) (v6 : Int32) (v7 : Int32) (M : MS) (H : Heap) (locs : List Loc) (ls : Array Slot), wd D (va_A ws0 s.heap.size) s.heap (mW cI a0 am M) H locs → lv_has ls 10 [(0, .ref a0), (1, .int v1), (2, .int v2), (3, .int v3), (4, .int v4), (5, .int v5), (6, .int v6), (7, .int v7)] → fX9_best_49 fu k v1 v2 v4 v5 v6 v7 M = some q →
    (∀ (x5 : Int32) (x6 : Int32) (M1 : MS) (H : Heap) (locs : List Loc) (ls : Array Slot), wd D (va_A ws0 s.heap.size) s.heap (mW cI a0 am M1) H locs → lv_has ls 10 [(3, .int v3), (5, .int x5), (6, .int x6)] → k x5 x6 M1 = some q → W p l e { frames := 6, cells := 0, slots := 0, locals := 137 } s m args below meth c H locs 0 0 (Qt D below args s ws0 (some (.int q.1)) (mW cI a0 am q.2)) (F0 m 144 ls [])) →
    W p l e { frames := 6, cells := 0, slots := 0, locals := 137 } s m args below meth c H locs 0 0 (Qt D below args s ws0 (some (.int q.1)) (mW cI a0 am q.2)) (F0 m 49 ls []) := by
  have hx := C.1
  have hb := C.2.1
  intro fu
  induction fu with
  | zero => intro v5 v6 v7 M H locs ls hw hl hf hk; rw [fX9_best_49] at hf; cases hf
  | succ fu ih =>
      intro v5 v6 v7 M H locs ls hw hl hf hk
      rw [fX9_best_49] at hf
      refine lv_iload hx hb dX9_best_49 (lv_at hl 7 rfl) ?_
      refine lv_aload_n hx hb dX9_best_51 rfl (lv_at hl 0 rfl) ?_
      refine mg_1 C hw dX9_best_52 ?_
      refine lv_aload_n hx hb dX9_best_55 rfl (lv_at hl 0 rfl) ?_
      refine mg_2 C hw dX9_best_56 ?_
      refine lv_imul hx hb dX9_best_59 ?_
      refine lv_icmp_ge (tgt := 144) hx hb dX9_best_60 (by decide) (fun h5 => ?_) (fun h5 => ?_)
      · have hf := it_t h5 hf
        exact hk _ _ _ _ _ _ hw (lv_sub hl [3, 5, 6] rfl) hf
      · have hf := it_f h5 hf
        refine lv_aload_n hx hb dX9_best_63 rfl (lv_at hl 0 rfl) ?_
        refine lv_iload hx hb dX9_best_64 (lv_at hl 7 rfl) ?_
        obtain ⟨r6, e7, hf⟩ := bd hf
        refine ct_V1 (q0 := 0) (ci := 9) (rest := []) C hw hA (kX9_sitterIn l D cI cB cS a0 am e7) cfX9_sitterIn tg_829 tg_831 ts_yX9_sitterIn ⟨(Nat.le_of_ble_eq_true rfl), (Nat.le_of_ble_eq_true rfl)⟩ ⟨(Nat.le_of_ble_eq_true rfl), (Nat.le_of_ble_eq_true rfl)⟩ rfl rfl rfl rfl hl.1 rfl (Nat.le_of_ble_eq_true rfl) dX9_best_66 (fun H locs hw => ?_)
        refine lv_istore (lv' := [(8, .int r6), (0, .ref a0), (1, .int v1), (2, .int v2), (3, .int v3), (4, .int v4), (5, .int v5), (6, .int v6), (7, .int v7)]) hx hb dX9_best_69 hl (by decide) rfl (fun ls hl => ?_)
        refine lv_iload hx hb dX9_best_71 (lv_at hl 0 rfl) ?_
        refine lv_if_lt (tgt := 82) hx hb dX9_best_73 (by decide) (fun h8 => ?_) (fun h8 => ?_)
        · have hf := it_t h8 hf
          refine lv_aload_n hx hb dX9_best_82 rfl (lv_at hl 1 rfl) ?_
          refine mg_6 C hw dX9_best_83 ?_
          refine lv_iload_n hx hb dX9_best_86 rfl (lv_at hl 2 rfl) ?_
          refine lv_iload hx hb dX9_best_87 (lv_at hl 8 rfl) ?_
          obtain ⟨g9, hf⟩ := gd_inv hf
          refine ms_6 C hw g9 dX9_best_89 (fun H locs hw => ?_)
          refine lv_aload_n hx hb dX9_best_90 rfl (lv_at hl 1 rfl) ?_
          refine lv_iload_n hx hb dX9_best_91 rfl (lv_at hl 2 rfl) ?_
          refine lv_iload_n hx hb dX9_best_92 rfl (lv_at hl 3 rfl) ?_
          obtain ⟨r10, e11, hf⟩ := bd hf
          refine ct_V1 (q0 := 0) (ci := 9) (rest := []) C hw hA (kX9_gainOf l D cI cB cS a0 am e11) cfX9_gainOf tg_881 tg_883 ts_yX9_gainOf ⟨(Nat.le_of_ble_eq_true rfl), (Nat.le_of_ble_eq_true rfl)⟩ ⟨(Nat.le_of_ble_eq_true rfl), (Nat.le_of_ble_eq_true rfl)⟩ rfl rfl rfl rfl hl.1 rfl (Nat.le_of_ble_eq_true rfl) dX9_best_93 (fun H locs hw => ?_)
          refine lv_istore (lv' := [(9, .int r10.1), (8, .int r6), (0, .ref a0), (1, .int v1), (2, .int v2), (3, .int v3), (4, .int v4), (5, .int v5), (6, .int v6), (7, .int v7)]) hx hb dX9_best_96 hl (by decide) rfl (fun ls hl => ?_)
          refine lv_aload_n hx hb dX9_best_98 rfl (lv_at hl 2 rfl) ?_
          refine mg_6 C hw dX9_best_99 ?_
          refine lv_iload_n hx hb dX9_best_102 rfl (lv_at hl 3 rfl) ?_
          refine lv_iload hx hb dX9_best_103 (lv_at hl 6 rfl) ?_
          obtain ⟨g12, hf⟩ := gd_inv hf
          refine ms_6 C hw g12 dX9_best_105 (fun H locs hw => ?_)
          refine lv_iload hx hb dX9_best_106 (lv_at hl 0 rfl) ?_
          refine lv_iload hx hb dX9_best_108 (lv_at hl 8 rfl) ?_
          refine lv_icmp_le (tgt := 118) hx hb dX9_best_110 (by decide) (fun h13 => ?_) (fun h13 => ?_)
          · have hf := it_t h13 hf
            refine lv_iload hx hb dX9_best_118 (lv_at hl 7 rfl) ?_
            refine lv_istore (lv' := [(5, .int v5), (9, .int r10.1), (8, .int r6), (0, .ref a0), (1, .int v1), (2, .int v2), (3, .int v3), (4, .int v4), (6, .int v6), (7, .int v7)]) hx hb dX9_best_120 hl (by decide) rfl (fun ls hl => ?_)
            refine lv_iload hx hb dX9_best_122 (lv_at hl 1 rfl) ?_
            refine lv_iload hx hb dX9_best_124 (lv_at hl 8 rfl) ?_
            refine lv_icmp_le (tgt := 134) hx hb dX9_best_126 (by decide) (fun h14 => ?_) (fun h14 => ?_)
            · have hf := it_t h14 hf
              refine lv_iload hx hb dX9_best_134 (lv_at hl 8 rfl) ?_
              refine lv_istore (lv' := [(6, .int v6), (5, .int v5), (9, .int r10.1), (8, .int r6), (0, .ref a0), (1, .int v1), (2, .int v2), (3, .int v3), (4, .int v4), (7, .int v7)]) hx hb dX9_best_136 hl (by decide) rfl (fun ls hl => ?_)
              refine lv_iinc (v := (v7 + 1)) (lv' := [(7, .int (v7 + 1)), (6, .int v6), (5, .int v5), (9, .int r10.1), (8, .int r6), (0, .ref a0), (1, .int v1), (2, .int v2), (3, .int v3), (4, .int v4)]) hx hb dX9_best_138 hl (k := 9) rfl (iv_1 _) (by decide) rfl (fun ls hl => ?_)
              refine lv_goto (tgt := 49) hx hb dX9_best_141 (by decide) ?_
              exact ih _ _ _ _ _ _ _ hw (lv_sub hl [5, 6, 7, 8, 9, 2, 1, 0] rfl) hf hk
            · have hf := it_f h14 hf
              refine lv_iload hx hb dX9_best_129 (lv_at hl 1 rfl) ?_
              refine lv_goto (tgt := 136) hx hb dX9_best_131 (by decide) ?_
              refine lv_istore (lv' := [(6, .int r10.1), (5, .int v5), (9, .int r10.1), (8, .int r6), (0, .ref a0), (1, .int v1), (2, .int v2), (3, .int v3), (4, .int v4), (7, .int v7)]) hx hb dX9_best_136 hl (by decide) rfl (fun ls hl => ?_)
              refine lv_iinc (v := (v7 + 1)) (lv' := [(7, .int (v7 + 1)), (6, .int r10.1), (5, .int v5), (9, .int r10.1), (8, .int r6), (0, .ref a0), (1, .int v1), (2, .int v2), (3, .int v3), (4, .int v4)]) hx hb dX9_best_138 hl (k := 9) rfl (iv_1 _) (by decide) rfl (fun ls hl => ?_)
              refine lv_goto (tgt := 49) hx hb dX9_best_141 (by decide) ?_
              exact ih _ _ _ _ _ _ _ hw (lv_sub hl [5, 6, 7, 8, 9, 2, 1, 0] rfl) hf hk
          · have hf := it_f h13 hf
            refine lv_iload hx hb dX9_best_113 (lv_at hl 9 rfl) ?_
            refine lv_goto (tgt := 120) hx hb dX9_best_115 (by decide) ?_
            refine lv_istore (lv' := [(5, .int v7), (9, .int r10.1), (8, .int r6), (0, .ref a0), (1, .int v1), (2, .int v2), (3, .int v3), (4, .int v4), (6, .int v6), (7, .int v7)]) hx hb dX9_best_120 hl (by decide) rfl (fun ls hl => ?_)
            refine lv_iload hx hb dX9_best_122 (lv_at hl 1 rfl) ?_
            refine lv_iload hx hb dX9_best_124 (lv_at hl 8 rfl) ?_
            refine lv_icmp_le (tgt := 134) hx hb dX9_best_126 (by decide) (fun h15 => ?_) (fun h15 => ?_)
            · have hf := it_t h15 hf
              refine lv_iload hx hb dX9_best_134 (lv_at hl 8 rfl) ?_
              refine lv_istore (lv' := [(6, .int v6), (5, .int v7), (9, .int r10.1), (8, .int r6), (0, .ref a0), (1, .int v1), (2, .int v2), (3, .int v3), (4, .int v4), (7, .int v7)]) hx hb dX9_best_136 hl (by decide) rfl (fun ls hl => ?_)
              refine lv_iinc (v := (v7 + 1)) (lv' := [(7, .int (v7 + 1)), (6, .int v6), (5, .int v7), (9, .int r10.1), (8, .int r6), (0, .ref a0), (1, .int v1), (2, .int v2), (3, .int v3), (4, .int v4)]) hx hb dX9_best_138 hl (k := 9) rfl (iv_1 _) (by decide) rfl (fun ls hl => ?_)
              refine lv_goto (tgt := 49) hx hb dX9_best_141 (by decide) ?_
              exact ih _ _ _ _ _ _ _ hw (lv_sub hl [5, 6, 7, 8, 9, 2, 1, 0] rfl) hf hk
            · have hf := it_f h15 hf
              refine lv_iload hx hb dX9_best_129 (lv_at hl 1 rfl) ?_
              refine lv_goto (tgt := 136) hx hb dX9_best_131 (by decide) ?_
              refine lv_istore (lv' := [(6, .int r10.1), (5, .int v7), (9, .int r10.1), (8, .int r6), (0, .ref a0), (1, .int v1), (2, .int v2), (3, .int v3), (4, .int v4), (7, .int v7)]) hx hb dX9_best_136 hl (by decide) rfl (fun ls hl => ?_)
              refine lv_iinc (v := (v7 + 1)) (lv' := [(7, .int (v7 + 1)), (6, .int r10.1), (5, .int v7), (9, .int r10.1), (8, .int r6), (0, .ref a0), (1, .int v1), (2, .int v2), (3, .int v3), (4, .int v4)]) hx hb dX9_best_138 hl (k := 9) rfl (iv_1 _) (by decide) rfl (fun ls hl => ?_)
              refine lv_goto (tgt := 49) hx hb dX9_best_141 (by decide) ?_
              exact ih _ _ _ _ _ _ _ hw (lv_sub hl [5, 6, 7, 8, 9, 2, 1, 0] rfl) hf hk
        · have hf := it_f h8 hf
          refine lv_iload hx hb dX9_best_76 (lv_at hl 0 rfl) ?_
          refine lv_iload_n hx hb dX9_best_78 rfl (lv_at hl 2 rfl) ?_
          refine lv_icmp_ne (tgt := 138) hx hb dX9_best_79 (by decide) (fun h16 => ?_) (fun h16 => ?_)
          · have hf := it_f h16 hf
            refine lv_iinc (v := (v7 + 1)) (lv' := [(7, .int (v7 + 1)), (8, .int r6), (0, .ref a0), (1, .int v1), (2, .int v2), (3, .int v3), (4, .int v4), (5, .int v5), (6, .int v6)]) hx hb dX9_best_138 hl (k := 8) rfl (iv_1 _) (by decide) rfl (fun ls hl => ?_)
            refine lv_goto (tgt := 49) hx hb dX9_best_141 (by decide) ?_
            exact ih _ _ _ _ _ _ _ hw (lv_sub hl [2, 3, 4, 5, 6, 7, 8, 0] rfl) hf hk
          · have hf := it_t h16 hf
            refine lv_aload_n hx hb dX9_best_82 rfl (lv_at hl 1 rfl) ?_
            refine mg_6 C hw dX9_best_83 ?_
            refine lv_iload_n hx hb dX9_best_86 rfl (lv_at hl 2 rfl) ?_
            refine lv_iload hx hb dX9_best_87 (lv_at hl 8 rfl) ?_
            obtain ⟨g17, hf⟩ := gd_inv hf
            refine ms_6 C hw g17 dX9_best_89 (fun H locs hw => ?_)
            refine lv_aload_n hx hb dX9_best_90 rfl (lv_at hl 1 rfl) ?_
            refine lv_iload_n hx hb dX9_best_91 rfl (lv_at hl 2 rfl) ?_
            refine lv_iload_n hx hb dX9_best_92 rfl (lv_at hl 3 rfl) ?_
            obtain ⟨r18, e19, hf⟩ := bd hf
            refine ct_V1 (q0 := 0) (ci := 9) (rest := []) C hw hA (kX9_gainOf l D cI cB cS a0 am e19) cfX9_gainOf tg_881 tg_883 ts_yX9_gainOf ⟨(Nat.le_of_ble_eq_true rfl), (Nat.le_of_ble_eq_true rfl)⟩ ⟨(Nat.le_of_ble_eq_true rfl), (Nat.le_of_ble_eq_true rfl)⟩ rfl rfl rfl rfl hl.1 rfl (Nat.le_of_ble_eq_true rfl) dX9_best_93 (fun H locs hw => ?_)
            refine lv_istore (lv' := [(9, .int r18.1), (8, .int r6), (0, .ref a0), (1, .int v1), (2, .int v2), (3, .int v3), (4, .int v4), (5, .int v5), (6, .int v6), (7, .int v7)]) hx hb dX9_best_96 hl (by decide) rfl (fun ls hl => ?_)
            refine lv_aload_n hx hb dX9_best_98 rfl (lv_at hl 2 rfl) ?_
            refine mg_6 C hw dX9_best_99 ?_
            refine lv_iload_n hx hb dX9_best_102 rfl (lv_at hl 3 rfl) ?_
            refine lv_iload hx hb dX9_best_103 (lv_at hl 6 rfl) ?_
            obtain ⟨g20, hf⟩ := gd_inv hf
            refine ms_6 C hw g20 dX9_best_105 (fun H locs hw => ?_)
            refine lv_iload hx hb dX9_best_106 (lv_at hl 0 rfl) ?_
            refine lv_iload hx hb dX9_best_108 (lv_at hl 8 rfl) ?_
            refine lv_icmp_le (tgt := 118) hx hb dX9_best_110 (by decide) (fun h21 => ?_) (fun h21 => ?_)
            · have hf := it_t h21 hf
              refine lv_iload hx hb dX9_best_118 (lv_at hl 7 rfl) ?_
              refine lv_istore (lv' := [(5, .int v5), (9, .int r18.1), (8, .int r6), (0, .ref a0), (1, .int v1), (2, .int v2), (3, .int v3), (4, .int v4), (6, .int v6), (7, .int v7)]) hx hb dX9_best_120 hl (by decide) rfl (fun ls hl => ?_)
              refine lv_iload hx hb dX9_best_122 (lv_at hl 1 rfl) ?_
              refine lv_iload hx hb dX9_best_124 (lv_at hl 8 rfl) ?_
              refine lv_icmp_le (tgt := 134) hx hb dX9_best_126 (by decide) (fun h22 => ?_) (fun h22 => ?_)
              · have hf := it_t h22 hf
                refine lv_iload hx hb dX9_best_134 (lv_at hl 8 rfl) ?_
                refine lv_istore (lv' := [(6, .int v6), (5, .int v5), (9, .int r18.1), (8, .int r6), (0, .ref a0), (1, .int v1), (2, .int v2), (3, .int v3), (4, .int v4), (7, .int v7)]) hx hb dX9_best_136 hl (by decide) rfl (fun ls hl => ?_)
                refine lv_iinc (v := (v7 + 1)) (lv' := [(7, .int (v7 + 1)), (6, .int v6), (5, .int v5), (9, .int r18.1), (8, .int r6), (0, .ref a0), (1, .int v1), (2, .int v2), (3, .int v3), (4, .int v4)]) hx hb dX9_best_138 hl (k := 9) rfl (iv_1 _) (by decide) rfl (fun ls hl => ?_)
                refine lv_goto (tgt := 49) hx hb dX9_best_141 (by decide) ?_
                exact ih _ _ _ _ _ _ _ hw (lv_sub hl [5, 6, 7, 8, 9, 2, 1, 0] rfl) hf hk
              · have hf := it_f h22 hf
                refine lv_iload hx hb dX9_best_129 (lv_at hl 1 rfl) ?_
                refine lv_goto (tgt := 136) hx hb dX9_best_131 (by decide) ?_
                refine lv_istore (lv' := [(6, .int r18.1), (5, .int v5), (9, .int r18.1), (8, .int r6), (0, .ref a0), (1, .int v1), (2, .int v2), (3, .int v3), (4, .int v4), (7, .int v7)]) hx hb dX9_best_136 hl (by decide) rfl (fun ls hl => ?_)
                refine lv_iinc (v := (v7 + 1)) (lv' := [(7, .int (v7 + 1)), (6, .int r18.1), (5, .int v5), (9, .int r18.1), (8, .int r6), (0, .ref a0), (1, .int v1), (2, .int v2), (3, .int v3), (4, .int v4)]) hx hb dX9_best_138 hl (k := 9) rfl (iv_1 _) (by decide) rfl (fun ls hl => ?_)
                refine lv_goto (tgt := 49) hx hb dX9_best_141 (by decide) ?_
                exact ih _ _ _ _ _ _ _ hw (lv_sub hl [5, 6, 7, 8, 9, 2, 1, 0] rfl) hf hk
            · have hf := it_f h21 hf
              refine lv_iload hx hb dX9_best_113 (lv_at hl 9 rfl) ?_
              refine lv_goto (tgt := 120) hx hb dX9_best_115 (by decide) ?_
              refine lv_istore (lv' := [(5, .int v7), (9, .int r18.1), (8, .int r6), (0, .ref a0), (1, .int v1), (2, .int v2), (3, .int v3), (4, .int v4), (6, .int v6), (7, .int v7)]) hx hb dX9_best_120 hl (by decide) rfl (fun ls hl => ?_)
              refine lv_iload hx hb dX9_best_122 (lv_at hl 1 rfl) ?_
              refine lv_iload hx hb dX9_best_124 (lv_at hl 8 rfl) ?_
              refine lv_icmp_le (tgt := 134) hx hb dX9_best_126 (by decide) (fun h23 => ?_) (fun h23 => ?_)
              · have hf := it_t h23 hf
                refine lv_iload hx hb dX9_best_134 (lv_at hl 8 rfl) ?_
                refine lv_istore (lv' := [(6, .int v6), (5, .int v7), (9, .int r18.1), (8, .int r6), (0, .ref a0), (1, .int v1), (2, .int v2), (3, .int v3), (4, .int v4), (7, .int v7)]) hx hb dX9_best_136 hl (by decide) rfl (fun ls hl => ?_)
                refine lv_iinc (v := (v7 + 1)) (lv' := [(7, .int (v7 + 1)), (6, .int v6), (5, .int v7), (9, .int r18.1), (8, .int r6), (0, .ref a0), (1, .int v1), (2, .int v2), (3, .int v3), (4, .int v4)]) hx hb dX9_best_138 hl (k := 9) rfl (iv_1 _) (by decide) rfl (fun ls hl => ?_)
                refine lv_goto (tgt := 49) hx hb dX9_best_141 (by decide) ?_
                exact ih _ _ _ _ _ _ _ hw (lv_sub hl [5, 6, 7, 8, 9, 2, 1, 0] rfl) hf hk
              · have hf := it_f h23 hf
                refine lv_iload hx hb dX9_best_129 (lv_at hl 1 rfl) ?_
                refine lv_goto (tgt := 136) hx hb dX9_best_131 (by decide) ?_
                refine lv_istore (lv' := [(6, .int r18.1), (5, .int v7), (9, .int r18.1), (8, .int r6), (0, .ref a0), (1, .int v1), (2, .int v2), (3, .int v3), (4, .int v4), (7, .int v7)]) hx hb dX9_best_136 hl (by decide) rfl (fun ls hl => ?_)
                refine lv_iinc (v := (v7 + 1)) (lv' := [(7, .int (v7 + 1)), (6, .int r18.1), (5, .int v7), (9, .int r18.1), (8, .int r6), (0, .ref a0), (1, .int v1), (2, .int v2), (3, .int v3), (4, .int v4)]) hx hb dX9_best_138 hl (k := 9) rfl (iv_1 _) (by decide) rfl (fun ls hl => ?_)
                refine lv_goto (tgt := 49) hx hb dX9_best_141 (by decide) ?_
                exact ih _ _ _ _ _ _ _ hw (lv_sub hl [5, 6, 7, 8, 9, 2, 1, 0] rfl) hf hk
set_option maxHeartbeats 4000000 in
theorem kX9_best (l : Launch) (D : va_G) (cI cB cS : ClassId) (a0 : Nat) (am : Nat → Nat) {p1 : Int32} {p2 : Int32} {p3 : Int32} {M : MS} {q : (Int32 × MS)} (hf : fX9_best p1 p2 p3 M = some q) : Ct l D cI cB cS yX9_best cX9_best 10 (some .int) 6 137 [.ref a0, .int p1, .int p2, .int p3] (mW cI a0 am M) (some (.int q.1)) (mW cI a0 am q.2) := by
  refine Ct.ofW (by decide) (Nat.le_of_ble_eq_true rfl) ?_
  intro p e s m args below meth c ls C hr hlocks _ hw hl
  have hx := C.1
  have hb := C.2.1
  have hA : ∀ q, s.heap.size ≤ q → va_A (mW cI a0 am M) s.heap.size q := fun q h => Or.inr h
  have hcg := trivial
  have hl : lv_has ls 10 [(0, .ref a0), (1, .int p1), (2, .int p2), (3, .int p3)] := hl
  unfold fX9_best at hf
  refine lv_aload_n hx hb dX9_best_0 rfl (lv_at hl 0 rfl) ?_
  refine lv_iload_n hx hb dX9_best_1 rfl (lv_at hl 1 rfl) ?_
  refine ct_V1 (q0 := 0) (ci := 9) (rest := []) C hw hA (kX9_noBuyer l D cI cB cS a0 am _ _) cfX9_noBuyer tg_786 tg_788 ts_yX9_noBuyer ⟨(Nat.le_of_ble_eq_true rfl), (Nat.le_of_ble_eq_true rfl)⟩ ⟨(Nat.le_of_ble_eq_true rfl), (Nat.le_of_ble_eq_true rfl)⟩ rfl rfl rfl rfl hl.1 rfl (Nat.le_of_ble_eq_true rfl) dX9_best_2 (fun H locs hw => ?_)
  refine lv_if_ne (tgt := 15) hx hb dX9_best_5 (by decide) (fun h1 => ?_) (fun h1 => ?_)
  · have hf := it_f h1 hf
    refine lv_iconst (v := (-1)) hx hb dX9_best_15 ic_m1 ?_
    obtain rfl := Option.some.inj hf
    exact qt_i C hr hlocks hw dX9_best_16
  · have hf := it_t h1 hf
    refine lv_iload_n hx hb dX9_best_8 rfl (lv_at hl 2 rfl) ?_
    refine ct_S1 (rest := []) C hw hA (kX9_noLot l D cI cB cS _ _) cfX9_noLot tg_809 tg_810 ⟨(Nat.le_of_ble_eq_true rfl), (Nat.le_of_ble_eq_true rfl)⟩ ⟨(Nat.le_of_ble_eq_true rfl), (Nat.le_of_ble_eq_true rfl)⟩ rfl hl.1 rfl (Nat.le_of_ble_eq_true rfl) dX9_best_9 (fun H locs hw => ?_)
    refine lv_if_eq (tgt := 17) hx hb dX9_best_12 (by decide) (fun h2 => ?_) (fun h2 => ?_)
    · have hf := it_t h2 hf
      refine lv_iload_n hx hb dX9_best_17 rfl (lv_at hl 3 rfl) ?_
      refine lv_i2l (v := (p3.toInt64)) hx hb dX9_best_18 rfl ?_
      refine lv_lconst (v := 0) hx hb dX9_best_19 rfl ?_
      refine lv_lconst (v := 1) hx hb dX9_best_20 rfl ?_
      refine ct_S1 (rest := []) C hw hA (kX9_in l D cI cB cS _ _ _ _) cfX9_in tg_744 tg_745 ⟨(Nat.le_of_ble_eq_true rfl), (Nat.le_of_ble_eq_true rfl)⟩ ⟨(Nat.le_of_ble_eq_true rfl), (Nat.le_of_ble_eq_true rfl)⟩ rfl hl.1 rfl (Nat.le_of_ble_eq_true rfl) dX9_best_21 (fun H locs hw => ?_)
      refine lv_if_ne (tgt := 30) hx hb dX9_best_24 (by decide) (fun h3 => ?_) (fun h3 => ?_)
      · have hf := it_f h3 hf
        refine lv_aload_n hx hb dX9_best_30 rfl (lv_at hl 0 rfl) ?_
        refine mg_6 C hw dX9_best_31 ?_
        refine lv_iload_n hx hb dX9_best_34 rfl (lv_at hl 1 rfl) ?_
        obtain ⟨g4, hf⟩ := gd_inv hf
        refine ml_6 C hw g4 dX9_best_35 ?_
        refine lv_istore (lv' := [(4, .int (M 6 p1.toNatClampNeg)), (0, .ref a0), (1, .int p1), (2, .int p2), (3, .int p3)]) hx hb dX9_best_36 hl (by decide) rfl (fun ls hl => ?_)
        refine lv_bipush (v := (-9)) hx hb dX9_best_38 ib_m9 ?_
        refine lv_istore (lv' := [(5, .int (-9)), (4, .int (M 6 p1.toNatClampNeg)), (0, .ref a0), (1, .int p1), (2, .int p2), (3, .int p3)]) hx hb dX9_best_40 hl (by decide) rfl (fun ls hl => ?_)
        refine lv_bipush (v := (-99)) hx hb dX9_best_42 ib_m99 ?_
        refine lv_istore (lv' := [(6, .int (-99)), (5, .int (-9)), (4, .int (M 6 p1.toNatClampNeg)), (0, .ref a0), (1, .int p1), (2, .int p2), (3, .int p3)]) hx hb dX9_best_44 hl (by decide) rfl (fun ls hl => ?_)
        refine lv_iconst (v := 0) hx hb dX9_best_46 ic_0 ?_
        refine lv_istore (lv' := [(7, .int 0), (6, .int (-99)), (5, .int (-9)), (4, .int (M 6 p1.toNatClampNeg)), (0, .ref a0), (1, .int p1), (2, .int p2), (3, .int p3)]) hx hb dX9_best_47 hl (by decide) rfl (fun ls hl => ?_)
        refine wX9_best_49 C hr hlocks hA hcg 300 _ _ _ _ _ _ _ hw (lv_sub hl [4, 5, 6, 7, 3, 2, 1, 0] rfl) hf (fun x24 x25 M26 H locs ls hw hl hf => ?_)
        refine lv_iload_n hx hb dX9_best_144 rfl (lv_at hl 0 rfl) ?_
        refine lv_if_ne (tgt := 153) hx hb dX9_best_145 (by decide) (fun h27 => ?_) (fun h27 => ?_)
        · have hf := it_f h27 hf
          refine lv_iload hx hb dX9_best_153 (lv_at hl 2 rfl) ?_
          refine lv_bipush (v := 100) hx hb dX9_best_155 ib_100 ?_
          refine lv_iadd hx hb dX9_best_157 ?_
          obtain rfl := Option.some.inj hf
          exact qt_i C hr hlocks hw dX9_best_158
        · have hf := it_t h27 hf
          refine lv_iload hx hb dX9_best_148 (lv_at hl 1 rfl) ?_
          refine lv_goto (tgt := 158) hx hb dX9_best_150 (by decide) ?_
          obtain rfl := Option.some.inj hf
          exact qt_i C hr hlocks hw dX9_best_158
      · have hf := it_t h3 hf
        refine lv_bipush (v := (-2)) hx hb dX9_best_27 ib_m2 ?_
        obtain rfl := Option.some.inj hf
        exact qt_i C hr hlocks hw dX9_best_29
    · have hf := it_f h2 hf
      refine lv_iconst (v := (-1)) hx hb dX9_best_15 ic_m1 ?_
      obtain rfl := Option.some.inj hf
      exact qt_i C hr hlocks hw dX9_best_16
theorem cfX9_order : cf yX9_order cX9_order 7 (some .int) 1 := ⟨tg_892, by decide +kernel, tg_7⟩
set_option maxHeartbeats 4000000 in
theorem wX9_order_44 {p : Program} {l : Launch} {e : Env} {s : State} {m : MethodId} {args : Array Value} {below : List Frame} {meth : Method} {c : Code} {D : va_G} {cI cB cS : ClassId} {a0 : Nat} {am : Nat → Nat} {ws0 : va_W} {v1 : Int32} {v2 : Int32} {v3 : Int32} (C : cx p c cX9_order 7 s args m RX9 D cI cB cS) (hr : meth.sig.returnType = (some .int)) (hlocks : meth.locks = false) (hA : ∀ q, s.heap.size ≤ q → va_A ws0 s.heap.size q) {k : Int32 → MS → Option (Int32 × MS)} {q : (Int32 × MS)}
    (hcg : True) : ∀ (fu : Nat) (v4 : Int32) (v5 : Int32) (M : MS) (H : Heap) (locs : List Loc) (ls : Array Slot), wd D (va_A ws0 s.heap.size) s.heap (mW cI a0 am M) H locs → lv_has ls 7 [(0, .ref a0), (1, .int v1), (2, .int v2), (3, .int v3), (4, .int v4), (5, .int v5)] → fX9_order_44 fu k v3 v4 v5 M = some q →
    (∀ (x4 : Int32) (M1 : MS) (H : Heap) (locs : List Loc) (ls : Array Slot), wd D (va_A ws0 s.heap.size) s.heap (mW cI a0 am M1) H locs → lv_has ls 7 [(0, .ref a0), (1, .int v1), (2, .int v2), (3, .int v3), (4, .int x4)] → k x4 M1 = some q → W p l e { frames := 5, cells := 0, slots := 0, locals := 116 } s m args below meth c H locs 0 0 (Qt D below args s ws0 (some (.int q.1)) (mW cI a0 am q.2)) (F0 m 88 ls [])) →
    W p l e { frames := 5, cells := 0, slots := 0, locals := 116 } s m args below meth c H locs 0 0 (Qt D below args s ws0 (some (.int q.1)) (mW cI a0 am q.2)) (F0 m 44 ls []) := by
  have hx := C.1
  have hb := C.2.1
  intro fu
  induction fu with
  | zero => intro v4 v5 M H locs ls hw hl hf hk; rw [fX9_order_44] at hf; cases hf
  | succ fu ih =>
      intro v4 v5 M H locs ls hw hl hf hk
      rw [fX9_order_44] at hf
      refine lv_iload hx hb dX9_order_44 (lv_at hl 5 rfl) ?_
      refine lv_iconst (v := 4) hx hb dX9_order_46 ic_4 ?_
      refine lv_icmp_ge (tgt := 88) hx hb dX9_order_47 (by decide) (fun h4 => ?_) (fun h4 => ?_)
      · have hf := it_t h4 hf
        exact hk _ _ _ _ _ hw (lv_sub hl [0, 1, 2, 3, 4] rfl) hf
      · have hf := it_f h4 hf
        refine lv_aload_n hx hb dX9_order_50 rfl (lv_at hl 0 rfl) ?_
        refine mg_20 C hw dX9_order_51 ?_
        refine lv_iload hx hb dX9_order_54 (lv_at hl 5 rfl) ?_
        refine lv_iload_n hx hb dX9_order_56 rfl (lv_at hl 3 rfl) ?_
        refine lv_bipush (v := 6) hx hb dX9_order_57 ib_6 ?_
        refine lv_iconst (v := 2) hx hb dX9_order_59 ic_2 ?_
        refine lv_iload hx hb dX9_order_60 (lv_at hl 5 rfl) ?_
        refine lv_imul hx hb dX9_order_62 ?_
        refine lv_isub hx hb dX9_order_63 ?_
        refine lv_ishr hx hb dX9_order_64 ?_
        refine lv_iconst (v := 3) hx hb dX9_order_65 ic_3 ?_
        refine lv_iand hx hb dX9_order_66 ?_
        obtain ⟨g5, hf⟩ := gd_inv hf
        refine ms_20 C hw g5 dX9_order_67 (fun H locs hw => ?_)
        refine lv_iload hx hb dX9_order_68 (lv_at hl 4 rfl) ?_
        refine lv_iconst (v := 1) hx hb dX9_order_70 ic_1 ?_
        refine lv_aload_n hx hb dX9_order_71 rfl (lv_at hl 0 rfl) ?_
        refine mg_20 C hw dX9_order_72 ?_
        refine lv_iload hx hb dX9_order_75 (lv_at hl 5 rfl) ?_
        obtain ⟨g6, hf⟩ := gd_inv hf
        refine ml_20 C hw g6 dX9_order_77 ?_
        refine lv_ishl hx hb dX9_order_78 ?_
        refine lv_ior hx hb dX9_order_79 ?_
        refine lv_istore (lv' := [(4, .int (v4 ||| ((1 : Int32) <<< (((u2 M 20 v5.toNatClampNeg ((v3 >>> ((6 - (2 * v5)) &&& 31)) &&& 3)) 20 v5.toNatClampNeg) &&& 31)))), (0, .ref a0), (1, .int v1), (2, .int v2), (3, .int v3), (5, .int v5)]) hx hb dX9_order_80 hl (by decide) rfl (fun ls hl => ?_)
        refine lv_iinc (v := (v5 + 1)) (lv' := [(5, .int (v5 + 1)), (4, .int (v4 ||| ((1 : Int32) <<< (((u2 M 20 v5.toNatClampNeg ((v3 >>> ((6 - (2 * v5)) &&& 31)) &&& 3)) 20 v5.toNatClampNeg) &&& 31)))), (0, .ref a0), (1, .int v1), (2, .int v2), (3, .int v3)]) hx hb dX9_order_82 hl (k := 5) rfl (iv_1 _) (by decide) rfl (fun ls hl => ?_)
        refine lv_goto (tgt := 44) hx hb dX9_order_85 (by decide) ?_
        exact ih _ _ _ _ _ _ hw (lv_sub hl [2, 3, 4, 5, 1, 0] rfl) hf hk
set_option maxHeartbeats 4000000 in
theorem wX9_order_105 {p : Program} {l : Launch} {e : Env} {s : State} {m : MethodId} {args : Array Value} {below : List Frame} {meth : Method} {c : Code} {D : va_G} {cI cB cS : ClassId} {a0 : Nat} {am : Nat → Nat} {ws0 : va_W} {v1 : Int32} {v2 : Int32} {v3 : Int32} {v5 : Int32} (C : cx p c cX9_order 7 s args m RX9 D cI cB cS) (hr : meth.sig.returnType = (some .int)) (hlocks : meth.locks = false) (hA : ∀ q, s.heap.size ≤ q → va_A ws0 s.heap.size q) {k : MS → Option (Int32 × MS)} {q : (Int32 × MS)}
    (hcg : True) : ∀ (fu : Nat) (v6 : Int32) (M : MS) (H : Heap) (locs : List Loc) (ls : Array Slot), wd D (va_A ws0 s.heap.size) s.heap (mW cI a0 am M) H locs → lv_has ls 7 [(0, .ref a0), (1, .int v1), (2, .int v2), (3, .int v3), (5, .int v5), (6, .int v6)] → fX9_order_105 fu k v2 v5 v6 M = some q →
    (∀  (M1 : MS) (H : Heap) (locs : List Loc) (ls : Array Slot), wd D (va_A ws0 s.heap.size) s.heap (mW cI a0 am M1) H locs → lv_has ls 7 [(0, .ref a0), (1, .int v1), (2, .int v2), (3, .int v3), (5, .int v5)] → k  M1 = some q → W p l e { frames := 5, cells := 0, slots := 0, locals := 116 } s m args below meth c H locs 0 0 (Qt D below args s ws0 (some (.int q.1)) (mW cI a0 am q.2)) (F0 m 147 ls [])) →
    W p l e { frames := 5, cells := 0, slots := 0, locals := 116 } s m args below meth c H locs 0 0 (Qt D below args s ws0 (some (.int q.1)) (mW cI a0 am q.2)) (F0 m 105 ls []) := by
  have hx := C.1
  have hb := C.2.1
  intro fu
  induction fu with
  | zero => intro v6 M H locs ls hw hl hf hk; rw [fX9_order_105] at hf; cases hf
  | succ fu ih =>
      intro v6 M H locs ls hw hl hf hk
      rw [fX9_order_105] at hf
      refine lv_iload hx hb dX9_order_105 (lv_at hl 5 rfl) ?_
      refine lv_iconst (v := 4) hx hb dX9_order_107 ic_4 ?_
      refine lv_icmp_ge (tgt := 147) hx hb dX9_order_108 (by decide) (fun h12 => ?_) (fun h12 => ?_)
      · have hf := it_t h12 hf
        exact hk _ _ _ _ hw (lv_sub hl [0, 1, 2, 3, 4] rfl) hf
      · have hf := it_f h12 hf
        refine lv_aload_n hx hb dX9_order_111 rfl (lv_at hl 0 rfl) ?_
        refine mg_23 C hw dX9_order_112 ?_
        refine lv_iload hx hb dX9_order_115 (lv_at hl 5 rfl) ?_
        refine lv_iload hx hb dX9_order_117 (lv_at hl 4 rfl) ?_
        refine lv_iload_n hx hb dX9_order_119 rfl (lv_at hl 2 rfl) ?_
        refine lv_icmp_le (tgt := 133) hx hb dX9_order_120 (by decide) (fun h13 => ?_) (fun h13 => ?_)
        · have hf := it_t h13 hf
          refine lv_aload_n hx hb dX9_order_133 rfl (lv_at hl 0 rfl) ?_
          refine mg_23 C hw dX9_order_134 ?_
          refine lv_iload hx hb dX9_order_137 (lv_at hl 5 rfl) ?_
          obtain ⟨g14, hf⟩ := gd_inv hf
          refine ml_23 C hw g14 dX9_order_139 ?_
          obtain ⟨g15, hf⟩ := gd_inv hf
          refine ms_23 C hw g15 dX9_order_140 (fun H locs hw => ?_)
          refine lv_iinc (v := (v6 + 1)) (lv' := [(6, .int (v6 + 1)), (0, .ref a0), (1, .int v1), (2, .int v2), (3, .int v3), (5, .int v5)]) hx hb dX9_order_141 hl (k := 5) rfl (iv_1 _) (by decide) rfl (fun ls hl => ?_)
          refine lv_goto (tgt := 105) hx hb dX9_order_144 (by decide) ?_
          exact ih _ _ _ _ _ hw (lv_sub hl [1, 2, 3, 4, 5, 0] rfl) hf hk
        · have hf := it_f h13 hf
          refine lv_aload_n hx hb dX9_order_123 rfl (lv_at hl 0 rfl) ?_
          refine mg_20 C hw dX9_order_124 ?_
          refine lv_iload hx hb dX9_order_127 (lv_at hl 5 rfl) ?_
          obtain ⟨g16, hf⟩ := gd_inv hf
          refine ml_20 C hw g16 dX9_order_129 ?_
          refine lv_goto (tgt := 140) hx hb dX9_order_130 (by decide) ?_
          obtain ⟨g17, hf⟩ := gd_inv hf
          refine ms_23 C hw g17 dX9_order_140 (fun H locs hw => ?_)
          refine lv_iinc (v := (v6 + 1)) (lv' := [(6, .int (v6 + 1)), (0, .ref a0), (1, .int v1), (2, .int v2), (3, .int v3), (5, .int v5)]) hx hb dX9_order_141 hl (k := 5) rfl (iv_1 _) (by decide) rfl (fun ls hl => ?_)
          refine lv_goto (tgt := 105) hx hb dX9_order_144 (by decide) ?_
          exact ih _ _ _ _ _ hw (lv_sub hl [1, 2, 3, 4, 5, 0] rfl) hf hk
set_option maxHeartbeats 4000000 in
theorem wX9_order_31 {p : Program} {l : Launch} {e : Env} {s : State} {m : MethodId} {args : Array Value} {below : List Frame} {meth : Method} {c : Code} {D : va_G} {cI cB cS : ClassId} {a0 : Nat} {am : Nat → Nat} {ws0 : va_W} {v1 : Int32} (C : cx p c cX9_order 7 s args m RX9 D cI cB cS) (hr : meth.sig.returnType = (some .int)) (hlocks : meth.locks = false) (hA : ∀ q, s.heap.size ≤ q → va_A ws0 s.heap.size q) {k : Int32 → MS → Option (Int32 × MS)} {q : (Int32 × MS)}
    (hcg : True) : ∀ (fu : Nat) (v2 : Int32) (v3 : Int32) (M : MS) (H : Heap) (locs : List Loc) (ls : Array Slot), wd D (va_A ws0 s.heap.size) s.heap (mW cI a0 am M) H locs → lv_has ls 7 [(0, .ref a0), (1, .int v1), (2, .int v2), (3, .int v3)] → fX9_order_31 fu k v2 v3 M = some q →
    (∀ (x2 : Int32) (M1 : MS) (H : Heap) (locs : List Loc) (ls : Array Slot), wd D (va_A ws0 s.heap.size) s.heap (mW cI a0 am M1) H locs → lv_has ls 7 [(0, .ref a0), (1, .int v1), (2, .int x2)] → k x2 M1 = some q → W p l e { frames := 5, cells := 0, slots := 0, locals := 116 } s m args below meth c H locs 0 0 (Qt D below args s ws0 (some (.int q.1)) (mW cI a0 am q.2)) (F0 m 166 ls [])) →
    W p l e { frames := 5, cells := 0, slots := 0, locals := 116 } s m args below meth c H locs 0 0 (Qt D below args s ws0 (some (.int q.1)) (mW cI a0 am q.2)) (F0 m 31 ls []) := by
  have hx := C.1
  have hb := C.2.1
  intro fu
  induction fu with
  | zero => intro v2 v3 M H locs ls hw hl hf hk; rw [fX9_order_31] at hf; cases hf
  | succ fu ih =>
      intro v2 v3 M H locs ls hw hl hf hk
      rw [fX9_order_31] at hf
      refine lv_iload_n hx hb dX9_order_31 rfl (lv_at hl 3 rfl) ?_
      refine lv_sipush (v := 256) hx hb dX9_order_32 is_256 ?_
      refine lv_icmp_ge (tgt := 166) hx hb dX9_order_35 (by decide) (fun h3 => ?_) (fun h3 => ?_)
      · have hf := it_t h3 hf
        exact hk _ _ _ _ _ hw (lv_sub hl [0, 1, 2] rfl) hf
      · have hf := it_f h3 hf
        refine lv_iconst (v := 0) hx hb dX9_order_38 ic_0 ?_
        refine lv_istore (lv' := [(4, .int 0), (0, .ref a0), (1, .int v1), (2, .int v2), (3, .int v3)]) hx hb dX9_order_39 hl (by decide) rfl (fun ls hl => ?_)
        refine lv_iconst (v := 0) hx hb dX9_order_41 ic_0 ?_
        refine lv_istore (lv' := [(5, .int 0), (4, .int 0), (0, .ref a0), (1, .int v1), (2, .int v2), (3, .int v3)]) hx hb dX9_order_42 hl (by decide) rfl (fun ls hl => ?_)
        refine wX9_order_44 C hr hlocks hA hcg 300 _ _ _ _ _ _ hw (lv_sub hl [2, 3, 4, 5, 1, 0] rfl) hf (fun x7 M8 H locs ls hw hl hf => ?_)
        refine lv_iload hx hb dX9_order_88 (lv_at hl 4 rfl) ?_
        refine lv_bipush (v := 15) hx hb dX9_order_90 ib_15 ?_
        refine lv_icmp_ne (tgt := 160) hx hb dX9_order_92 (by decide) (fun h9 => ?_) (fun h9 => ?_)
        · have hf := it_f h9 hf
          refine lv_iinc (v := (v3 + 1)) (lv' := [(3, .int (v3 + 1)), (0, .ref a0), (1, .int v1), (2, .int v2), (4, .int x7)]) hx hb dX9_order_160 hl (k := 3) rfl (iv_1 _) (by decide) rfl (fun ls hl => ?_)
          refine lv_goto (tgt := 31) hx hb dX9_order_163 (by decide) ?_
          exact ih _ _ _ _ _ _ hw (lv_sub hl [1, 2, 3, 0] rfl) hf hk
        · have hf := it_t h9 hf
          refine lv_aload_n hx hb dX9_order_95 rfl (lv_at hl 0 rfl) ?_
          refine lv_iconst (v := 4) hx hb dX9_order_96 ic_4 ?_
          obtain ⟨r10, e11, hf⟩ := bd hf
          refine ct_V1 (q0 := 0) (ci := 9) (rest := []) C hw hA (kX9_brings l D cI cB cS a0 am e11) cfX9_brings tg_873 tg_875 ts_yX9_brings ⟨(Nat.le_of_ble_eq_true rfl), (Nat.le_of_ble_eq_true rfl)⟩ ⟨(Nat.le_of_ble_eq_true rfl), (Nat.le_of_ble_eq_true rfl)⟩ rfl rfl rfl rfl hl.1 rfl (Nat.le_of_ble_eq_true rfl) dX9_order_97 (fun H locs hw => ?_)
          refine lv_istore (lv' := [(5, .int r10.1), (0, .ref a0), (1, .int v1), (2, .int v2), (3, .int v3), (4, .int x7)]) hx hb dX9_order_100 hl (by decide) rfl (fun ls hl => ?_)
          refine lv_iconst (v := 0) hx hb dX9_order_102 ic_0 ?_
          refine lv_istore (lv' := [(6, .int 0), (5, .int r10.1), (0, .ref a0), (1, .int v1), (2, .int v2), (3, .int v3), (4, .int x7)]) hx hb dX9_order_103 hl (by decide) rfl (fun ls hl => ?_)
          refine wX9_order_105 C hr hlocks hA hcg 300 _ _ _ _ _ hw (lv_sub hl [2, 3, 4, 5, 1, 0] rfl) hf (fun M18 H locs ls hw hl hf => ?_)
          refine lv_iload hx hb dX9_order_147 (lv_at hl 4 rfl) ?_
          refine lv_iload_n hx hb dX9_order_149 rfl (lv_at hl 2 rfl) ?_
          refine lv_icmp_le (tgt := 158) hx hb dX9_order_150 (by decide) (fun h19 => ?_) (fun h19 => ?_)
          · have hf := it_t h19 hf
            refine lv_iload_n hx hb dX9_order_158 rfl (lv_at hl 2 rfl) ?_
            refine lv_istore_n (lv' := [(2, .int v2), (0, .ref a0), (1, .int v1), (3, .int v3), (5, .int r10.1)]) hx hb dX9_order_159 rfl hl (by decide) rfl (fun ls hl => ?_)
            refine lv_iinc (v := (v3 + 1)) (lv' := [(3, .int (v3 + 1)), (2, .int v2), (0, .ref a0), (1, .int v1), (5, .int r10.1)]) hx hb dX9_order_160 hl (k := 3) rfl (iv_1 _) (by decide) rfl (fun ls hl => ?_)
            refine lv_goto (tgt := 31) hx hb dX9_order_163 (by decide) ?_
            exact ih _ _ _ _ _ _ hw (lv_sub hl [2, 3, 1, 0] rfl) hf hk
          · have hf := it_f h19 hf
            refine lv_iload hx hb dX9_order_153 (lv_at hl 4 rfl) ?_
            refine lv_goto (tgt := 159) hx hb dX9_order_155 (by decide) ?_
            refine lv_istore_n (lv' := [(2, .int r10.1), (0, .ref a0), (1, .int v1), (3, .int v3), (5, .int r10.1)]) hx hb dX9_order_159 rfl hl (by decide) rfl (fun ls hl => ?_)
            refine lv_iinc (v := (v3 + 1)) (lv' := [(3, .int (v3 + 1)), (2, .int r10.1), (0, .ref a0), (1, .int v1), (5, .int r10.1)]) hx hb dX9_order_160 hl (k := 3) rfl (iv_1 _) (by decide) rfl (fun ls hl => ?_)
            refine lv_goto (tgt := 31) hx hb dX9_order_163 (by decide) ?_
            exact ih _ _ _ _ _ _ hw (lv_sub hl [2, 3, 1, 0] rfl) hf hk
set_option maxHeartbeats 4000000 in
theorem kX9_order (l : Launch) (D : va_G) (cI cB cS : ClassId) (a0 : Nat) (am : Nat → Nat) {p1 : Int32} {M : MS} {q : (Int32 × MS)} (hf : fX9_order p1 M = some q) : Ct l D cI cB cS yX9_order cX9_order 7 (some .int) 5 116 [.ref a0, .int p1] (mW cI a0 am M) (some (.int q.1)) (mW cI a0 am q.2) := by
  refine Ct.ofW (by decide) (Nat.le_of_ble_eq_true rfl) ?_
  intro p e s m args below meth c ls C hr hlocks _ hw hl
  have hx := C.1
  have hb := C.2.1
  have hA : ∀ q, s.heap.size ≤ q → va_A (mW cI a0 am M) s.heap.size q := fun q h => Or.inr h
  have hcg := trivial
  have hl : lv_has ls 7 [(0, .ref a0), (1, .int p1)] := hl
  unfold fX9_order at hf
  refine lv_iload_n hx hb dX9_order_0 rfl (lv_at hl 1 rfl) ?_
  refine lv_i2l (v := (p1.toInt64)) hx hb dX9_order_1 rfl ?_
  refine lv_ldc2 (v := (-1 : Int64)) hx hb C.2.2.2.1 (C.2.2.2.2.1 _ tg_893) dX9_order_2 ?_
  refine lv_ldc2 (v := (3 : Int64)) hx hb C.2.2.2.1 (C.2.2.2.2.1 _ tg_743) dX9_order_5 ?_
  refine ct_S1 (rest := []) C hw hA (kX9_in l D cI cB cS _ _ _ _) cfX9_in tg_744 tg_745 ⟨(Nat.le_of_ble_eq_true rfl), (Nat.le_of_ble_eq_true rfl)⟩ ⟨(Nat.le_of_ble_eq_true rfl), (Nat.le_of_ble_eq_true rfl)⟩ rfl hl.1 rfl (Nat.le_of_ble_eq_true rfl) dX9_order_8 (fun H locs hw => ?_)
  refine lv_if_ne (tgt := 16) hx hb dX9_order_11 (by decide) (fun h1 => ?_) (fun h1 => ?_)
  · have hf := it_f h1 hf
    refine lv_aload_n hx hb dX9_order_16 rfl (lv_at hl 0 rfl) ?_
    refine mg_1 C hw dX9_order_17 ?_
    refine lv_if_ne (tgt := 26) hx hb dX9_order_20 (by decide) (fun h2 => ?_) (fun h2 => ?_)
    · have hf := it_f h2 hf
      refine lv_bipush (v := (-9)) hx hb dX9_order_26 ib_m9 ?_
      refine lv_istore_n (lv' := [(2, .int (-9)), (0, .ref a0), (1, .int p1)]) hx hb dX9_order_28 rfl hl (by decide) rfl (fun ls hl => ?_)
      refine lv_iconst (v := 0) hx hb dX9_order_29 ic_0 ?_
      refine lv_istore_n (lv' := [(3, .int 0), (2, .int (-9)), (0, .ref a0), (1, .int p1)]) hx hb dX9_order_30 rfl hl (by decide) rfl (fun ls hl => ?_)
      refine wX9_order_31 C hr hlocks hA hcg 300 _ _ _ _ _ _ hw (lv_sub hl [2, 3, 1, 0] rfl) hf (fun x20 M21 H locs ls hw hl hf => ?_)
      refine lv_iload_n hx hb dX9_order_166 rfl (lv_at hl 1 rfl) ?_
      refine lv_if_ge (tgt := 174) hx hb dX9_order_167 (by decide) (fun h22 => ?_) (fun h22 => ?_)
      · have hf := it_t h22 hf
        refine lv_aload_n hx hb dX9_order_174 rfl (lv_at hl 0 rfl) ?_
        refine mg_23 C hw dX9_order_175 ?_
        refine lv_iload_n hx hb dX9_order_178 rfl (lv_at hl 1 rfl) ?_
        obtain ⟨g23, hf⟩ := gd_inv hf
        refine ml_23 C hw g23 dX9_order_179 ?_
        obtain rfl := Option.some.inj hf
        exact qt_i C hr hlocks hw dX9_order_180
      · have hf := it_f h22 hf
        refine lv_iload_n hx hb dX9_order_170 rfl (lv_at hl 2 rfl) ?_
        refine lv_goto (tgt := 180) hx hb dX9_order_171 (by decide) ?_
        obtain rfl := Option.some.inj hf
        exact qt_i C hr hlocks hw dX9_order_180
    · have hf := it_t h2 hf
      refine lv_bipush (v := (-3)) hx hb dX9_order_23 ib_m3 ?_
      obtain rfl := Option.some.inj hf
      exact qt_i C hr hlocks hw dX9_order_25
  · have hf := it_t h1 hf
    refine lv_iconst (v := (-1)) hx hb dX9_order_14 ic_m1 ?_
    obtain rfl := Option.some.inj hf
    exact qt_i C hr hlocks hw dX9_order_15
theorem cfX9_ring : cf yX9_ring cX9_ring 5 (some .int) 2 := ⟨tg_897, by decide +kernel, tg_7⟩
set_option maxHeartbeats 4000000 in
theorem wX9_ring_42 {p : Program} {l : Launch} {e : Env} {s : State} {m : MethodId} {args : Array Value} {below : List Frame} {meth : Method} {c : Code} {D : va_G} {cI cB cS : ClassId} {a0 : Nat} {am : Nat → Nat} {ws0 : va_W} {v1 : Int32} {v2 : Int32} (C : cx p c cX9_ring 5 s args m RX9 D cI cB cS) (hr : meth.sig.returnType = (some .int)) (hlocks : meth.locks = false) (hA : ∀ q, s.heap.size ≤ q → va_A ws0 s.heap.size q) {k : Int32 → MS → Option (Int32 × MS)} {q : (Int32 × MS)}
    (hcg : True) : ∀ (fu : Nat) (v3 : Int32) (v4 : Int32) (M : MS) (H : Heap) (locs : List Loc) (ls : Array Slot), wd D (va_A ws0 s.heap.size) s.heap (mW cI a0 am M) H locs → lv_has ls 5 [(0, .ref a0), (1, .int v1), (2, .int v2), (3, .int v3), (4, .int v4)] → fX9_ring_42 fu k v1 v2 v3 v4 M = some q →
    (∀ (x3 : Int32) (M1 : MS) (H : Heap) (locs : List Loc) (ls : Array Slot), wd D (va_A ws0 s.heap.size) s.heap (mW cI a0 am M1) H locs → lv_has ls 5 [(0, .ref a0), (1, .int v1), (2, .int v2), (3, .int x3)] → k x3 M1 = some q → W p l e { frames := 4, cells := 0, slots := 0, locals := 93 } s m args below meth c H locs 0 0 (Qt D below args s ws0 (some (.int q.1)) (mW cI a0 am q.2)) (F0 m 93 ls [])) →
    W p l e { frames := 4, cells := 0, slots := 0, locals := 93 } s m args below meth c H locs 0 0 (Qt D below args s ws0 (some (.int q.1)) (mW cI a0 am q.2)) (F0 m 42 ls []) := by
  have hx := C.1
  have hb := C.2.1
  intro fu
  induction fu with
  | zero => intro v3 v4 M H locs ls hw hl hf hk; rw [fX9_ring_42] at hf; cases hf
  | succ fu ih =>
      intro v3 v4 M H locs ls hw hl hf hk
      rw [fX9_ring_42] at hf
      refine lv_iload hx hb dX9_ring_42 (lv_at hl 4 rfl) ?_
      refine lv_aload_n hx hb dX9_ring_44 rfl (lv_at hl 0 rfl) ?_
      refine mg_3 C hw dX9_ring_45 ?_
      refine lv_icmp_ge (tgt := 93) hx hb dX9_ring_48 (by decide) (fun h4 => ?_) (fun h4 => ?_)
      · have hf := it_t h4 hf
        exact hk _ _ _ _ _ hw (lv_sub hl [0, 1, 2, 3] rfl) hf
      · have hf := it_f h4 hf
        refine lv_iload_n hx hb dX9_ring_51 rfl (lv_at hl 1 rfl) ?_
        refine lv_iload hx hb dX9_ring_52 (lv_at hl 4 rfl) ?_
        refine ct_S1 (rest := []) C hw hA (kX9_isIn l D cI cB cS _ _ _) cfX9_isIn tg_794 tg_795 ⟨(Nat.le_of_ble_eq_true rfl), (Nat.le_of_ble_eq_true rfl)⟩ ⟨(Nat.le_of_ble_eq_true rfl), (Nat.le_of_ble_eq_true rfl)⟩ rfl hl.1 rfl (Nat.le_of_ble_eq_true rfl) dX9_ring_54 (fun H locs hw => ?_)
        refine lv_if_eq (tgt := 85) hx hb dX9_ring_57 (by decide) (fun h5 => ?_) (fun h5 => ?_)
        · have hf := it_t h5 hf
          refine lv_iload_n hx hb dX9_ring_85 rfl (lv_at hl 3 rfl) ?_
          refine lv_istore_n (lv' := [(3, .int v3), (0, .ref a0), (1, .int v1), (2, .int v2), (4, .int v4)]) hx hb dX9_ring_86 rfl hl (by decide) rfl (fun ls hl => ?_)
          refine lv_iinc (v := (v4 + 1)) (lv' := [(4, .int (v4 + 1)), (3, .int v3), (0, .ref a0), (1, .int v1), (2, .int v2)]) hx hb dX9_ring_87 hl (k := 4) rfl (iv_1 _) (by decide) rfl (fun ls hl => ?_)
          refine lv_goto (tgt := 42) hx hb dX9_ring_90 (by decide) ?_
          exact ih _ _ _ _ _ _ hw (lv_sub hl [2, 3, 4, 1, 0] rfl) hf hk
        · have hf := it_f h5 hf
          refine lv_iload_n hx hb dX9_ring_60 rfl (lv_at hl 3 rfl) ?_
          refine lv_if_lt (tgt := 80) hx hb dX9_ring_61 (by decide) (fun h6 => ?_) (fun h6 => ?_)
          · have hf := it_t h6 hf
            refine lv_iload hx hb dX9_ring_80 (lv_at hl 4 rfl) ?_
            refine lv_goto (tgt := 86) hx hb dX9_ring_82 (by decide) ?_
            refine lv_istore_n (lv' := [(3, .int v4), (0, .ref a0), (1, .int v1), (2, .int v2), (4, .int v4)]) hx hb dX9_ring_86 rfl hl (by decide) rfl (fun ls hl => ?_)
            refine lv_iinc (v := (v4 + 1)) (lv' := [(4, .int (v4 + 1)), (3, .int v4), (0, .ref a0), (1, .int v1), (2, .int v2)]) hx hb dX9_ring_87 hl (k := 4) rfl (iv_1 _) (by decide) rfl (fun ls hl => ?_)
            refine lv_goto (tgt := 42) hx hb dX9_ring_90 (by decide) ?_
            exact ih _ _ _ _ _ _ hw (lv_sub hl [2, 3, 4, 1, 0] rfl) hf hk
          · have hf := it_f h6 hf
            refine lv_aload_n hx hb dX9_ring_64 rfl (lv_at hl 0 rfl) ?_
            refine lv_iload hx hb dX9_ring_65 (lv_at hl 4 rfl) ?_
            refine lv_iload_n hx hb dX9_ring_67 rfl (lv_at hl 2 rfl) ?_
            obtain ⟨r7, e8, hf⟩ := bd hf
            refine ct_V1 (q0 := 0) (ci := 9) (rest := []) C hw hA (kX9_limitOf l D cI cB cS a0 am e8) cfX9_limitOf tg_817 tg_819 ts_yX9_limitOf ⟨(Nat.le_of_ble_eq_true rfl), (Nat.le_of_ble_eq_true rfl)⟩ ⟨(Nat.le_of_ble_eq_true rfl), (Nat.le_of_ble_eq_true rfl)⟩ rfl rfl rfl rfl hl.1 rfl (Nat.le_of_ble_eq_true rfl) dX9_ring_68 (fun H locs hw => ?_)
            refine lv_aload_n hx hb dX9_ring_71 rfl (lv_at hl 0 rfl) ?_
            refine lv_iload_n hx hb dX9_ring_72 rfl (lv_at hl 3 rfl) ?_
            refine lv_iload_n hx hb dX9_ring_73 rfl (lv_at hl 2 rfl) ?_
            obtain ⟨r9, e10, hf⟩ := bd hf
            refine ct_V1 (q0 := 0) (ci := 9) (rest := [.int r7]) C hw hA (kX9_limitOf l D cI cB cS a0 am e10) cfX9_limitOf tg_817 tg_819 ts_yX9_limitOf ⟨(Nat.le_of_ble_eq_true rfl), (Nat.le_of_ble_eq_true rfl)⟩ ⟨(Nat.le_of_ble_eq_true rfl), (Nat.le_of_ble_eq_true rfl)⟩ rfl rfl rfl rfl hl.1 rfl (Nat.le_of_ble_eq_true rfl) dX9_ring_74 (fun H locs hw => ?_)
            refine lv_icmp_le (tgt := 85) hx hb dX9_ring_77 (by decide) (fun h11 => ?_) (fun h11 => ?_)
            · have hf := it_t h11 hf
              refine lv_iload_n hx hb dX9_ring_85 rfl (lv_at hl 3 rfl) ?_
              refine lv_istore_n (lv' := [(3, .int v3), (0, .ref a0), (1, .int v1), (2, .int v2), (4, .int v4)]) hx hb dX9_ring_86 rfl hl (by decide) rfl (fun ls hl => ?_)
              refine lv_iinc (v := (v4 + 1)) (lv' := [(4, .int (v4 + 1)), (3, .int v3), (0, .ref a0), (1, .int v1), (2, .int v2)]) hx hb dX9_ring_87 hl (k := 4) rfl (iv_1 _) (by decide) rfl (fun ls hl => ?_)
              refine lv_goto (tgt := 42) hx hb dX9_ring_90 (by decide) ?_
              exact ih _ _ _ _ _ _ hw (lv_sub hl [2, 3, 4, 1, 0] rfl) hf hk
            · have hf := it_f h11 hf
              refine lv_iload hx hb dX9_ring_80 (lv_at hl 4 rfl) ?_
              refine lv_goto (tgt := 86) hx hb dX9_ring_82 (by decide) ?_
              refine lv_istore_n (lv' := [(3, .int v4), (0, .ref a0), (1, .int v1), (2, .int v2), (4, .int v4)]) hx hb dX9_ring_86 rfl hl (by decide) rfl (fun ls hl => ?_)
              refine lv_iinc (v := (v4 + 1)) (lv' := [(4, .int (v4 + 1)), (3, .int v4), (0, .ref a0), (1, .int v1), (2, .int v2)]) hx hb dX9_ring_87 hl (k := 4) rfl (iv_1 _) (by decide) rfl (fun ls hl => ?_)
              refine lv_goto (tgt := 42) hx hb dX9_ring_90 (by decide) ?_
              exact ih _ _ _ _ _ _ hw (lv_sub hl [2, 3, 4, 1, 0] rfl) hf hk
set_option maxHeartbeats 4000000 in
theorem kX9_ring (l : Launch) (D : va_G) (cI cB cS : ClassId) (a0 : Nat) (am : Nat → Nat) {p1 : Int32} {p2 : Int32} {M : MS} {q : (Int32 × MS)} (hf : fX9_ring p1 p2 M = some q) : Ct l D cI cB cS yX9_ring cX9_ring 5 (some .int) 4 93 [.ref a0, .int p1, .int p2] (mW cI a0 am M) (some (.int q.1)) (mW cI a0 am q.2) := by
  refine Ct.ofW (by decide) (Nat.le_of_ble_eq_true rfl) ?_
  intro p e s m args below meth c ls C hr hlocks _ hw hl
  have hx := C.1
  have hb := C.2.1
  have hA : ∀ q, s.heap.size ≤ q → va_A (mW cI a0 am M) s.heap.size q := fun q h => Or.inr h
  have hcg := trivial
  have hl : lv_has ls 5 [(0, .ref a0), (1, .int p1), (2, .int p2)] := hl
  unfold fX9_ring at hf
  refine lv_iload_n hx hb dX9_ring_0 rfl (lv_at hl 2 rfl) ?_
  refine ct_S1 (rest := []) C hw hA (kX9_noLot l D cI cB cS _ _) cfX9_noLot tg_809 tg_810 ⟨(Nat.le_of_ble_eq_true rfl), (Nat.le_of_ble_eq_true rfl)⟩ ⟨(Nat.le_of_ble_eq_true rfl), (Nat.le_of_ble_eq_true rfl)⟩ rfl hl.1 rfl (Nat.le_of_ble_eq_true rfl) dX9_ring_1 (fun H locs hw => ?_)
  refine lv_if_eq (tgt := 9) hx hb dX9_ring_4 (by decide) (fun h1 => ?_) (fun h1 => ?_)
  · have hf := it_t h1 hf
    refine lv_iload_n hx hb dX9_ring_9 rfl (lv_at hl 1 rfl) ?_
    refine lv_i2l (v := (p1.toInt64)) hx hb dX9_ring_10 rfl ?_
    refine lv_lconst (v := 0) hx hb dX9_ring_11 rfl ?_
    refine lv_aload_n hx hb dX9_ring_12 rfl (lv_at hl 0 rfl) ?_
    refine ct_V1 (q0 := 0) (ci := 9) (rest := [.long 0, .long (p1.toInt64)]) C hw hA (kX9_all l D cI cB cS a0 am _) cfX9_all tg_841 tg_843 ts_yX9_all ⟨(Nat.le_of_ble_eq_true rfl), (Nat.le_of_ble_eq_true rfl)⟩ ⟨(Nat.le_of_ble_eq_true rfl), (Nat.le_of_ble_eq_true rfl)⟩ rfl rfl rfl rfl hl.1 rfl (Nat.le_of_ble_eq_true rfl) dX9_ring_13 (fun H locs hw => ?_)
    refine lv_i2l (v := ((fX9_all M).toInt64)) hx hb dX9_ring_16 rfl ?_
    refine ct_S1 (rest := []) C hw hA (kX9_in l D cI cB cS _ _ _ _) cfX9_in tg_744 tg_745 ⟨(Nat.le_of_ble_eq_true rfl), (Nat.le_of_ble_eq_true rfl)⟩ ⟨(Nat.le_of_ble_eq_true rfl), (Nat.le_of_ble_eq_true rfl)⟩ rfl hl.1 rfl (Nat.le_of_ble_eq_true rfl) dX9_ring_17 (fun H locs hw => ?_)
    refine lv_if_ne (tgt := 26) hx hb dX9_ring_20 (by decide) (fun h2 => ?_) (fun h2 => ?_)
    · have hf := it_f h2 hf
      refine lv_aload_n hx hb dX9_ring_26 rfl (lv_at hl 0 rfl) ?_
      refine mg_1 C hw dX9_ring_27 ?_
      refine lv_if_ne (tgt := 36) hx hb dX9_ring_30 (by decide) (fun h3 => ?_) (fun h3 => ?_)
      · have hf := it_f h3 hf
        refine lv_bipush (v := (-9)) hx hb dX9_ring_36 ib_m9 ?_
        refine lv_istore_n (lv' := [(3, .int (-9)), (0, .ref a0), (1, .int p1), (2, .int p2)]) hx hb dX9_ring_38 rfl hl (by decide) rfl (fun ls hl => ?_)
        refine lv_iconst (v := 0) hx hb dX9_ring_39 ic_0 ?_
        refine lv_istore (lv' := [(4, .int 0), (3, .int (-9)), (0, .ref a0), (1, .int p1), (2, .int p2)]) hx hb dX9_ring_40 hl (by decide) rfl (fun ls hl => ?_)
        refine wX9_ring_42 C hr hlocks hA hcg 300 _ _ _ _ _ _ hw (lv_sub hl [2, 3, 4, 1, 0] rfl) hf (fun x12 M13 H locs ls hw hl hf => ?_)
        refine lv_aload_n hx hb dX9_ring_93 rfl (lv_at hl 0 rfl) ?_
        refine lv_aload_n hx hb dX9_ring_94 rfl (lv_at hl 0 rfl) ?_
        refine ct_V1 (q0 := 0) (ci := 9) (rest := [.ref a0]) C hw hA (kX9_all l D cI cB cS a0 am _) cfX9_all tg_841 tg_843 ts_yX9_all ⟨(Nat.le_of_ble_eq_true rfl), (Nat.le_of_ble_eq_true rfl)⟩ ⟨(Nat.le_of_ble_eq_true rfl), (Nat.le_of_ble_eq_true rfl)⟩ rfl rfl rfl rfl hl.1 rfl (Nat.le_of_ble_eq_true rfl) dX9_ring_95 (fun H locs hw => ?_)
        obtain ⟨r14, e15, hf⟩ := bd hf
        refine ct_V0 (q0 := 0) (ci := 9) (rest := []) C hw hA (kX9_sitDown l D cI cB cS a0 am e15) cfX9_sitDown tg_790 tg_792 ts_yX9_sitDown ⟨(Nat.le_of_ble_eq_true rfl), (Nat.le_of_ble_eq_true rfl)⟩ ⟨(Nat.le_of_ble_eq_true rfl), (Nat.le_of_ble_eq_true rfl)⟩ rfl rfl rfl rfl hl.1 rfl (Nat.le_of_ble_eq_true rfl) dX9_ring_98 (fun H locs hw => ?_)
        refine lv_aload_n hx hb dX9_ring_101 rfl (lv_at hl 0 rfl) ?_
        refine lv_iload_n hx hb dX9_ring_102 rfl (lv_at hl 2 rfl) ?_
        refine lv_iload_n hx hb dX9_ring_103 rfl (lv_at hl 3 rfl) ?_
        refine lv_if_ge (tgt := 114) hx hb dX9_ring_104 (by decide) (fun h16 => ?_) (fun h16 => ?_)
        · have hf := it_t h16 hf
          refine lv_aload_n hx hb dX9_ring_114 rfl (lv_at hl 0 rfl) ?_
          refine ct_V1 (q0 := 0) (ci := 9) (rest := [.int p2, .ref a0]) C hw hA (kX9_all l D cI cB cS a0 am _) cfX9_all tg_841 tg_843 ts_yX9_all ⟨(Nat.le_of_ble_eq_true rfl), (Nat.le_of_ble_eq_true rfl)⟩ ⟨(Nat.le_of_ble_eq_true rfl), (Nat.le_of_ble_eq_true rfl)⟩ rfl rfl rfl rfl hl.1 rfl (Nat.le_of_ble_eq_true rfl) dX9_ring_115 (fun H locs hw => ?_)
          refine lv_iload_n hx hb dX9_ring_118 rfl (lv_at hl 1 rfl) ?_
          refine lv_iconst (v := (-1)) hx hb dX9_ring_119 ic_m1 ?_
          refine lv_ixor hx hb dX9_ring_120 ?_
          refine lv_iand hx hb dX9_ring_121 ?_
          refine lv_iconst (v := 1) hx hb dX9_ring_122 ic_1 ?_
          refine lv_iload_n hx hb dX9_ring_123 rfl (lv_at hl 3 rfl) ?_
          refine lv_ishl hx hb dX9_ring_124 ?_
          refine lv_ior hx hb dX9_ring_125 ?_
          obtain ⟨r17, e18, hf⟩ := bd hf
          refine ct_V0 (q0 := 0) (ci := 9) (rest := []) C hw hA (kX9_sell l D cI cB cS a0 am e18) cfX9_sell tg_849 tg_851 ts_yX9_sell ⟨(Nat.le_of_ble_eq_true rfl), (Nat.le_of_ble_eq_true rfl)⟩ ⟨(Nat.le_of_ble_eq_true rfl), (Nat.le_of_ble_eq_true rfl)⟩ rfl rfl rfl rfl hl.1 rfl (Nat.le_of_ble_eq_true rfl) dX9_ring_126 (fun H locs hw => ?_)
          refine lv_aload_n hx hb dX9_ring_129 rfl (lv_at hl 0 rfl) ?_
          refine mg_16 C hw dX9_ring_130 ?_
          obtain rfl := Option.some.inj hf
          exact qt_i C hr hlocks hw dX9_ring_133
        · have hf := it_f h16 hf
          refine lv_aload_n hx hb dX9_ring_107 rfl (lv_at hl 0 rfl) ?_
          refine ct_V1 (q0 := 0) (ci := 9) (rest := [.int p2, .ref a0]) C hw hA (kX9_all l D cI cB cS a0 am _) cfX9_all tg_841 tg_843 ts_yX9_all ⟨(Nat.le_of_ble_eq_true rfl), (Nat.le_of_ble_eq_true rfl)⟩ ⟨(Nat.le_of_ble_eq_true rfl), (Nat.le_of_ble_eq_true rfl)⟩ rfl rfl rfl rfl hl.1 rfl (Nat.le_of_ble_eq_true rfl) dX9_ring_108 (fun H locs hw => ?_)
          refine lv_goto (tgt := 126) hx hb dX9_ring_111 (by decide) ?_
          obtain ⟨r19, e20, hf⟩ := bd hf
          refine ct_V0 (q0 := 0) (ci := 9) (rest := []) C hw hA (kX9_sell l D cI cB cS a0 am e20) cfX9_sell tg_849 tg_851 ts_yX9_sell ⟨(Nat.le_of_ble_eq_true rfl), (Nat.le_of_ble_eq_true rfl)⟩ ⟨(Nat.le_of_ble_eq_true rfl), (Nat.le_of_ble_eq_true rfl)⟩ rfl rfl rfl rfl hl.1 rfl (Nat.le_of_ble_eq_true rfl) dX9_ring_126 (fun H locs hw => ?_)
          refine lv_aload_n hx hb dX9_ring_129 rfl (lv_at hl 0 rfl) ?_
          refine mg_16 C hw dX9_ring_130 ?_
          obtain rfl := Option.some.inj hf
          exact qt_i C hr hlocks hw dX9_ring_133
      · have hf := it_t h3 hf
        refine lv_bipush (v := (-3)) hx hb dX9_ring_33 ib_m3 ?_
        obtain rfl := Option.some.inj hf
        exact qt_i C hr hlocks hw dX9_ring_35
    · have hf := it_t h2 hf
      refine lv_bipush (v := (-2)) hx hb dX9_ring_23 ib_m2 ?_
      obtain rfl := Option.some.inj hf
      exact qt_i C hr hlocks hw dX9_ring_25
  · have hf := it_f h1 hf
    refine lv_iconst (v := (-1)) hx hb dX9_ring_7 ic_m1 ?_
    obtain rfl := Option.some.inj hf
    exact qt_i C hr hlocks hw dX9_ring_8
theorem cfX9_mean : cf yX9_mean cX9_mean 5 (some .long) 2 := ⟨tg_901, by decide +kernel, tg_7⟩
set_option maxHeartbeats 4000000 in
theorem wX9_mean_33 {p : Program} {l : Launch} {e : Env} {s : State} {m : MethodId} {args : Array Value} {below : List Frame} {meth : Method} {c : Code} {D : va_G} {cI cB cS : ClassId} {a0 : Nat} {am : Nat → Nat} {ws0 : va_W} {v1 : Int32} {v2 : Int32} (C : cx p c cX9_mean 5 s args m RX9 D cI cB cS) (hr : meth.sig.returnType = (some .long)) (hlocks : meth.locks = false) (hA : ∀ q, s.heap.size ≤ q → va_A ws0 s.heap.size q) {k : Int32 → MS → Option (Int64 × MS)} {q : (Int64 × MS)}
    (hcg : True) : ∀ (fu : Nat) (v3 : Int32) (v4 : Int32) (M : MS) (H : Heap) (locs : List Loc) (ls : Array Slot), wd D (va_A ws0 s.heap.size) s.heap (mW cI a0 am M) H locs → lv_has ls 5 [(0, .ref a0), (1, .int v1), (2, .int v2), (3, .int v3), (4, .int v4)] → fX9_mean_33 fu k v1 v3 v4 M = some q →
    (∀ (x3 : Int32) (M1 : MS) (H : Heap) (locs : List Loc) (ls : Array Slot), wd D (va_A ws0 s.heap.size) s.heap (mW cI a0 am M1) H locs → lv_has ls 5 [(0, .ref a0), (2, .int v2), (3, .int x3)] → k x3 M1 = some q → W p l e { frames := 5, cells := 0, slots := 0, locals := 115 } s m args below meth c H locs 0 0 (Qt D below args s ws0 (some (.long q.1)) (mW cI a0 am q.2)) (F0 m 62 ls [])) →
    W p l e { frames := 5, cells := 0, slots := 0, locals := 115 } s m args below meth c H locs 0 0 (Qt D below args s ws0 (some (.long q.1)) (mW cI a0 am q.2)) (F0 m 33 ls []) := by
  have hx := C.1
  have hb := C.2.1
  intro fu
  induction fu with
  | zero => intro v3 v4 M H locs ls hw hl hf hk; rw [fX9_mean_33] at hf; cases hf
  | succ fu ih =>
      intro v3 v4 M H locs ls hw hl hf hk
      rw [fX9_mean_33] at hf
      refine lv_iload hx hb dX9_mean_33 (lv_at hl 4 rfl) ?_
      refine lv_aload_n hx hb dX9_mean_35 rfl (lv_at hl 0 rfl) ?_
      refine ct_V1 (q0 := 0) (ci := 9) (rest := [.int v4]) C hw hA (kX9_all l D cI cB cS a0 am _) cfX9_all tg_841 tg_843 ts_yX9_all ⟨(Nat.le_of_ble_eq_true rfl), (Nat.le_of_ble_eq_true rfl)⟩ ⟨(Nat.le_of_ble_eq_true rfl), (Nat.le_of_ble_eq_true rfl)⟩ rfl rfl rfl rfl hl.1 rfl (Nat.le_of_ble_eq_true rfl) dX9_mean_36 (fun H locs hw => ?_)
      refine lv_icmp_gt (tgt := 62) hx hb dX9_mean_39 (by decide) (fun h4 => ?_) (fun h4 => ?_)
      · have hf := it_t h4 hf
        exact hk _ _ _ _ _ hw (lv_sub hl [0, 2, 3] rfl) hf
      · have hf := it_f h4 hf
        refine lv_aload_n hx hb dX9_mean_42 rfl (lv_at hl 0 rfl) ?_
        refine lv_iload_n hx hb dX9_mean_43 rfl (lv_at hl 1 rfl) ?_
        refine lv_iload hx hb dX9_mean_44 (lv_at hl 4 rfl) ?_
        obtain ⟨r5, e6, hf⟩ := bd hf
        refine ct_V0 (q0 := 0) (ci := 9) (rest := []) C hw hA (kX9_sellTo l D cI cB cS a0 am e6) cfX9_sellTo tg_845 tg_847 ts_yX9_sellTo ⟨(Nat.le_of_ble_eq_true rfl), (Nat.le_of_ble_eq_true rfl)⟩ ⟨(Nat.le_of_ble_eq_true rfl), (Nat.le_of_ble_eq_true rfl)⟩ rfl rfl rfl rfl hl.1 rfl (Nat.le_of_ble_eq_true rfl) dX9_mean_46 (fun H locs hw => ?_)
        refine lv_iload_n hx hb dX9_mean_49 rfl (lv_at hl 3 rfl) ?_
        refine lv_aload_n hx hb dX9_mean_50 rfl (lv_at hl 0 rfl) ?_
        refine mg_16 C hw dX9_mean_51 ?_
        refine lv_iadd hx hb dX9_mean_54 ?_
        refine lv_istore_n (lv' := [(3, .int (v3 + (r5 16 0))), (0, .ref a0), (1, .int v1), (2, .int v2), (4, .int v4)]) hx hb dX9_mean_55 rfl hl (by decide) rfl (fun ls hl => ?_)
        refine lv_iinc (v := (v4 + 1)) (lv' := [(4, .int (v4 + 1)), (3, .int (v3 + (r5 16 0))), (0, .ref a0), (1, .int v1), (2, .int v2)]) hx hb dX9_mean_56 hl (k := 4) rfl (iv_1 _) (by decide) rfl (fun ls hl => ?_)
        refine lv_goto (tgt := 33) hx hb dX9_mean_59 (by decide) ?_
        exact ih _ _ _ _ _ _ hw (lv_sub hl [2, 3, 4, 1, 0] rfl) hf hk
set_option maxHeartbeats 4000000 in
theorem kX9_mean (l : Launch) (D : va_G) (cI cB cS : ClassId) (a0 : Nat) (am : Nat → Nat) {p1 : Int32} {p2 : Int32} {M : MS} {q : (Int64 × MS)} (hf : fX9_mean p1 p2 M = some q) : Ct l D cI cB cS yX9_mean cX9_mean 5 (some .long) 5 115 [.ref a0, .int p1, .int p2] (mW cI a0 am M) (some (.long q.1)) (mW cI a0 am q.2) := by
  refine Ct.ofW (by decide) (Nat.le_of_ble_eq_true rfl) ?_
  intro p e s m args below meth c ls C hr hlocks _ hw hl
  have hx := C.1
  have hb := C.2.1
  have hA : ∀ q, s.heap.size ≤ q → va_A (mW cI a0 am M) s.heap.size q := fun q h => Or.inr h
  have hcg := trivial
  have hl : lv_has ls 5 [(0, .ref a0), (1, .int p1), (2, .int p2)] := hl
  unfold fX9_mean at hf
  refine lv_iload_n hx hb dX9_mean_0 rfl (lv_at hl 1 rfl) ?_
  refine ct_S1 (rest := []) C hw hA (kX9_noLot l D cI cB cS _ _) cfX9_noLot tg_809 tg_810 ⟨(Nat.le_of_ble_eq_true rfl), (Nat.le_of_ble_eq_true rfl)⟩ ⟨(Nat.le_of_ble_eq_true rfl), (Nat.le_of_ble_eq_true rfl)⟩ rfl hl.1 rfl (Nat.le_of_ble_eq_true rfl) dX9_mean_1 (fun H locs hw => ?_)
  refine lv_if_ne (tgt := 24) hx hb dX9_mean_4 (by decide) (fun h1 => ?_) (fun h1 => ?_)
  · have hf := it_f h1 hf
    refine ct_S1 (rest := []) C hw hA (kX9_lost l D cI cB cS _) cfX9_lost tg_902 tg_903 ⟨(Nat.le_of_ble_eq_true rfl), (Nat.le_of_ble_eq_true rfl)⟩ ⟨(Nat.le_of_ble_eq_true rfl), (Nat.le_of_ble_eq_true rfl)⟩ rfl hl.1 rfl (Nat.le_of_ble_eq_true rfl) dX9_mean_24 (fun H locs hw => ?_)
    obtain rfl := Option.some.inj hf
    exact qt_l C hr hlocks hw dX9_mean_27
  · have hf := it_t h1 hf
    refine lv_iload_n hx hb dX9_mean_7 rfl (lv_at hl 2 rfl) ?_
    refine lv_i2l (v := (p2.toInt64)) hx hb dX9_mean_8 rfl ?_
    refine lv_lconst (v := 0) hx hb dX9_mean_9 rfl ?_
    refine lv_lconst (v := 1) hx hb dX9_mean_10 rfl ?_
    refine ct_S1 (rest := []) C hw hA (kX9_in l D cI cB cS _ _ _ _) cfX9_in tg_744 tg_745 ⟨(Nat.le_of_ble_eq_true rfl), (Nat.le_of_ble_eq_true rfl)⟩ ⟨(Nat.le_of_ble_eq_true rfl), (Nat.le_of_ble_eq_true rfl)⟩ rfl hl.1 rfl (Nat.le_of_ble_eq_true rfl) dX9_mean_11 (fun H locs hw => ?_)
    refine lv_if_eq (tgt := 24) hx hb dX9_mean_14 (by decide) (fun h2 => ?_) (fun h2 => ?_)
    · have hf := it_t h2 hf
      refine ct_S1 (rest := []) C hw hA (kX9_lost l D cI cB cS _) cfX9_lost tg_902 tg_903 ⟨(Nat.le_of_ble_eq_true rfl), (Nat.le_of_ble_eq_true rfl)⟩ ⟨(Nat.le_of_ble_eq_true rfl), (Nat.le_of_ble_eq_true rfl)⟩ rfl hl.1 rfl (Nat.le_of_ble_eq_true rfl) dX9_mean_24 (fun H locs hw => ?_)
      obtain rfl := Option.some.inj hf
      exact qt_l C hr hlocks hw dX9_mean_27
    · have hf := it_f h2 hf
      refine lv_aload_n hx hb dX9_mean_17 rfl (lv_at hl 0 rfl) ?_
      refine mg_1 C hw dX9_mean_18 ?_
      refine lv_if_ne (tgt := 28) hx hb dX9_mean_21 (by decide) (fun h3 => ?_) (fun h3 => ?_)
      · have hf := it_f h3 hf
        refine lv_iconst (v := 0) hx hb dX9_mean_28 ic_0 ?_
        refine lv_istore_n (lv' := [(3, .int 0), (0, .ref a0), (1, .int p1), (2, .int p2)]) hx hb dX9_mean_29 rfl hl (by decide) rfl (fun ls hl => ?_)
        refine lv_iconst (v := 0) hx hb dX9_mean_30 ic_0 ?_
        refine lv_istore (lv' := [(4, .int 0), (3, .int 0), (0, .ref a0), (1, .int p1), (2, .int p2)]) hx hb dX9_mean_31 hl (by decide) rfl (fun ls hl => ?_)
        refine wX9_mean_33 C hr hlocks hA hcg 300 _ _ _ _ _ _ hw (lv_sub hl [2, 3, 4, 1, 0] rfl) hf (fun x7 M8 H locs ls hw hl hf => ?_)
        refine lv_iload_n hx hb dX9_mean_62 rfl (lv_at hl 2 rfl) ?_
        refine lv_i2l (v := (x7.toInt64)) hx hb dX9_mean_63 rfl ?_
        refine lv_aload_n hx hb dX9_mean_64 rfl (lv_at hl 0 rfl) ?_
        refine ct_V1 (q0 := 0) (ci := 9) (rest := [.long (x7.toInt64)]) C hw hA (kX9_all l D cI cB cS a0 am _) cfX9_all tg_841 tg_843 ts_yX9_all ⟨(Nat.le_of_ble_eq_true rfl), (Nat.le_of_ble_eq_true rfl)⟩ ⟨(Nat.le_of_ble_eq_true rfl), (Nat.le_of_ble_eq_true rfl)⟩ rfl rfl rfl rfl hl.1 rfl (Nat.le_of_ble_eq_true rfl) dX9_mean_65 (fun H locs hw => ?_)
        refine lv_i2l (v := ((fX9_all M8).toInt64)) hx hb dX9_mean_68 rfl ?_
        refine lv_lconst (v := 1) hx hb dX9_mean_69 rfl ?_
        refine lv_ladd hx hb dX9_mean_70 ?_
        refine lv_iload_n hx hb dX9_mean_71 rfl (lv_at hl 1 rfl) ?_
        obtain ⟨r9, e10, hf⟩ := bd hf
        refine ct_S1 (rest := []) C hw hA (kX9_told l D cI cB cS _ e10) cfX9_told tg_906 tg_907 ⟨(Nat.le_of_ble_eq_true rfl), (Nat.le_of_ble_eq_true rfl)⟩ ⟨(Nat.le_of_ble_eq_true rfl), (Nat.le_of_ble_eq_true rfl)⟩ rfl hl.1 rfl (Nat.le_of_ble_eq_true rfl) dX9_mean_72 (fun H locs hw => ?_)
        obtain rfl := Option.some.inj hf
        exact qt_l C hr hlocks hw dX9_mean_75
      · have hf := it_t h3 hf
        refine ct_S1 (rest := []) C hw hA (kX9_lost l D cI cB cS _) cfX9_lost tg_902 tg_903 ⟨(Nat.le_of_ble_eq_true rfl), (Nat.le_of_ble_eq_true rfl)⟩ ⟨(Nat.le_of_ble_eq_true rfl), (Nat.le_of_ble_eq_true rfl)⟩ rfl hl.1 rfl (Nat.le_of_ble_eq_true rfl) dX9_mean_24 (fun H locs hw => ?_)
        obtain rfl := Option.some.inj hf
        exact qt_l C hr hlocks hw dX9_mean_27
theorem cfX9_hangs : cf yX9_hangs cX9_hangs 5 (some .int) 1 := ⟨tg_912, by decide +kernel, tg_7⟩
set_option maxHeartbeats 4000000 in
theorem wX9_hangs_38 {p : Program} {l : Launch} {e : Env} {s : State} {m : MethodId} {args : Array Value} {below : List Frame} {meth : Method} {c : Code} {D : va_G} {cI cB cS : ClassId} {a0 : Nat} {am : Nat → Nat} {ws0 : va_W} {v1 : Int32} {v2 : Int32} (C : cx p c cX9_hangs 5 s args m RX9 D cI cB cS) (hr : meth.sig.returnType = (some .int)) (hlocks : meth.locks = false) (hA : ∀ q, s.heap.size ≤ q → va_A ws0 s.heap.size q) {k : Int32 → MS → Option (Int32 × MS)} {q : (Int32 × MS)}
    (hcg : True) : ∀ (fu : Nat) (v3 : Int32) (v4 : Int32) (M : MS) (H : Heap) (locs : List Loc) (ls : Array Slot), wd D (va_A ws0 s.heap.size) s.heap (mW cI a0 am M) H locs → lv_has ls 5 [(0, .ref a0), (1, .int v1), (2, .int v2), (3, .int v3), (4, .int v4)] → fX9_hangs_38 fu k v1 v2 v3 v4 M = some q →
    (∀ (x3 : Int32) (M1 : MS) (H : Heap) (locs : List Loc) (ls : Array Slot), wd D (va_A ws0 s.heap.size) s.heap (mW cI a0 am M1) H locs → lv_has ls 5 [(3, .int x3)] → k x3 M1 = some q → W p l e { frames := 5, cells := 0, slots := 0, locals := 115 } s m args below meth c H locs 0 0 (Qt D below args s ws0 (some (.int q.1)) (mW cI a0 am q.2)) (F0 m 88 ls [])) →
    W p l e { frames := 5, cells := 0, slots := 0, locals := 115 } s m args below meth c H locs 0 0 (Qt D below args s ws0 (some (.int q.1)) (mW cI a0 am q.2)) (F0 m 38 ls []) := by
  have hx := C.1
  have hb := C.2.1
  intro fu
  induction fu with
  | zero => intro v3 v4 M H locs ls hw hl hf hk; rw [fX9_hangs_38] at hf; cases hf
  | succ fu ih =>
      intro v3 v4 M H locs ls hw hl hf hk
      rw [fX9_hangs_38] at hf
      refine lv_iload hx hb dX9_hangs_38 (lv_at hl 4 rfl) ?_
      refine lv_aload_n hx hb dX9_hangs_40 rfl (lv_at hl 0 rfl) ?_
      refine mg_3 C hw dX9_hangs_41 ?_
      refine lv_icmp_ge (tgt := 88) hx hb dX9_hangs_44 (by decide) (fun h5 => ?_) (fun h5 => ?_)
      · have hf := it_t h5 hf
        exact hk _ _ _ _ _ hw (lv_sub hl [3] rfl) hf
      · have hf := it_f h5 hf
        refine lv_aload_n hx hb dX9_hangs_47 rfl (lv_at hl 0 rfl) ?_
        refine lv_iload_n hx hb dX9_hangs_48 rfl (lv_at hl 1 rfl) ?_
        refine lv_aload_n hx hb dX9_hangs_49 rfl (lv_at hl 0 rfl) ?_
        refine ct_V1 (q0 := 0) (ci := 9) (rest := [.int v1, .ref a0]) C hw hA (kX9_all l D cI cB cS a0 am _) cfX9_all tg_841 tg_843 ts_yX9_all ⟨(Nat.le_of_ble_eq_true rfl), (Nat.le_of_ble_eq_true rfl)⟩ ⟨(Nat.le_of_ble_eq_true rfl), (Nat.le_of_ble_eq_true rfl)⟩ rfl rfl rfl rfl hl.1 rfl (Nat.le_of_ble_eq_true rfl) dX9_hangs_50 (fun H locs hw => ?_)
        refine lv_iconst (v := 1) hx hb dX9_hangs_53 ic_1 ?_
        refine lv_iload hx hb dX9_hangs_54 (lv_at hl 4 rfl) ?_
        refine lv_ishl hx hb dX9_hangs_56 ?_
        refine lv_iconst (v := (-1)) hx hb dX9_hangs_57 ic_m1 ?_
        refine lv_ixor hx hb dX9_hangs_58 ?_
        refine lv_iand hx hb dX9_hangs_59 ?_
        obtain ⟨r6, e7, hf⟩ := bd hf
        refine ct_V0 (q0 := 0) (ci := 9) (rest := []) C hw hA (kX9_sellTo l D cI cB cS a0 am e7) cfX9_sellTo tg_845 tg_847 ts_yX9_sellTo ⟨(Nat.le_of_ble_eq_true rfl), (Nat.le_of_ble_eq_true rfl)⟩ ⟨(Nat.le_of_ble_eq_true rfl), (Nat.le_of_ble_eq_true rfl)⟩ rfl rfl rfl rfl hl.1 rfl (Nat.le_of_ble_eq_true rfl) dX9_hangs_60 (fun H locs hw => ?_)
        refine lv_iload_n hx hb dX9_hangs_63 rfl (lv_at hl 3 rfl) ?_
        refine lv_aload_n hx hb dX9_hangs_64 rfl (lv_at hl 0 rfl) ?_
        refine mg_17 C hw dX9_hangs_65 ?_
        refine lv_iload_n hx hb dX9_hangs_68 rfl (lv_at hl 2 rfl) ?_
        refine lv_icmp_ne (tgt := 76) hx hb dX9_hangs_69 (by decide) (fun h8 => ?_) (fun h8 => ?_)
        · have hf := it_f h8 hf
          refine lv_iconst (v := 1) hx hb dX9_hangs_76 ic_1 ?_
          refine lv_iload hx hb dX9_hangs_77 (lv_at hl 4 rfl) ?_
          refine lv_ishl hx hb dX9_hangs_79 ?_
          refine lv_ior hx hb dX9_hangs_80 ?_
          refine lv_istore_n (lv' := [(3, .int (v3 ||| ((1 : Int32) <<< (v4 &&& 31)))), (0, .ref a0), (1, .int v1), (2, .int v2), (4, .int v4)]) hx hb dX9_hangs_81 rfl hl (by decide) rfl (fun ls hl => ?_)
          refine lv_iinc (v := (v4 + 1)) (lv' := [(4, .int (v4 + 1)), (3, .int (v3 ||| ((1 : Int32) <<< (v4 &&& 31)))), (0, .ref a0), (1, .int v1), (2, .int v2)]) hx hb dX9_hangs_82 hl (k := 4) rfl (iv_1 _) (by decide) rfl (fun ls hl => ?_)
          refine lv_goto (tgt := 38) hx hb dX9_hangs_85 (by decide) ?_
          exact ih _ _ _ _ _ _ hw (lv_sub hl [2, 3, 4, 1, 0] rfl) hf hk
        · have hf := it_t h8 hf
          refine lv_iconst (v := 0) hx hb dX9_hangs_72 ic_0 ?_
          refine lv_goto (tgt := 80) hx hb dX9_hangs_73 (by decide) ?_
          refine lv_ior hx hb dX9_hangs_80 ?_
          refine lv_istore_n (lv' := [(3, .int (v3 ||| 0)), (0, .ref a0), (1, .int v1), (2, .int v2), (4, .int v4)]) hx hb dX9_hangs_81 rfl hl (by decide) rfl (fun ls hl => ?_)
          refine lv_iinc (v := (v4 + 1)) (lv' := [(4, .int (v4 + 1)), (3, .int (v3 ||| 0)), (0, .ref a0), (1, .int v1), (2, .int v2)]) hx hb dX9_hangs_82 hl (k := 4) rfl (iv_1 _) (by decide) rfl (fun ls hl => ?_)
          refine lv_goto (tgt := 38) hx hb dX9_hangs_85 (by decide) ?_
          exact ih _ _ _ _ _ _ hw (lv_sub hl [2, 3, 4, 1, 0] rfl) hf hk
set_option maxHeartbeats 4000000 in
theorem kX9_hangs (l : Launch) (D : va_G) (cI cB cS : ClassId) (a0 : Nat) (am : Nat → Nat) {p1 : Int32} {M : MS} {q : (Int32 × MS)} (hf : fX9_hangs p1 M = some q) : Ct l D cI cB cS yX9_hangs cX9_hangs 5 (some .int) 5 115 [.ref a0, .int p1] (mW cI a0 am M) (some (.int q.1)) (mW cI a0 am q.2) := by
  refine Ct.ofW (by decide) (Nat.le_of_ble_eq_true rfl) ?_
  intro p e s m args below meth c ls C hr hlocks _ hw hl
  have hx := C.1
  have hb := C.2.1
  have hA : ∀ q, s.heap.size ≤ q → va_A (mW cI a0 am M) s.heap.size q := fun q h => Or.inr h
  have hcg := trivial
  have hl : lv_has ls 5 [(0, .ref a0), (1, .int p1)] := hl
  unfold fX9_hangs at hf
  refine lv_iload_n hx hb dX9_hangs_0 rfl (lv_at hl 1 rfl) ?_
  refine ct_S1 (rest := []) C hw hA (kX9_noLot l D cI cB cS _ _) cfX9_noLot tg_809 tg_810 ⟨(Nat.le_of_ble_eq_true rfl), (Nat.le_of_ble_eq_true rfl)⟩ ⟨(Nat.le_of_ble_eq_true rfl), (Nat.le_of_ble_eq_true rfl)⟩ rfl hl.1 rfl (Nat.le_of_ble_eq_true rfl) dX9_hangs_1 (fun H locs hw => ?_)
  refine lv_if_eq (tgt := 9) hx hb dX9_hangs_4 (by decide) (fun h1 => ?_) (fun h1 => ?_)
  · have hf := it_t h1 hf
    refine lv_aload_n hx hb dX9_hangs_9 rfl (lv_at hl 0 rfl) ?_
    refine mg_1 C hw dX9_hangs_10 ?_
    refine lv_if_ne (tgt := 19) hx hb dX9_hangs_13 (by decide) (fun h2 => ?_) (fun h2 => ?_)
    · have hf := it_f h2 hf
      refine lv_aload_n hx hb dX9_hangs_19 rfl (lv_at hl 0 rfl) ?_
      refine lv_iload_n hx hb dX9_hangs_20 rfl (lv_at hl 1 rfl) ?_
      refine lv_aload_n hx hb dX9_hangs_21 rfl (lv_at hl 0 rfl) ?_
      refine ct_V1 (q0 := 0) (ci := 9) (rest := [.int p1, .ref a0]) C hw hA (kX9_all l D cI cB cS a0 am _) cfX9_all tg_841 tg_843 ts_yX9_all ⟨(Nat.le_of_ble_eq_true rfl), (Nat.le_of_ble_eq_true rfl)⟩ ⟨(Nat.le_of_ble_eq_true rfl), (Nat.le_of_ble_eq_true rfl)⟩ rfl rfl rfl rfl hl.1 rfl (Nat.le_of_ble_eq_true rfl) dX9_hangs_22 (fun H locs hw => ?_)
      obtain ⟨r3, e4, hf⟩ := bd hf
      refine ct_V0 (q0 := 0) (ci := 9) (rest := []) C hw hA (kX9_sellTo l D cI cB cS a0 am e4) cfX9_sellTo tg_845 tg_847 ts_yX9_sellTo ⟨(Nat.le_of_ble_eq_true rfl), (Nat.le_of_ble_eq_true rfl)⟩ ⟨(Nat.le_of_ble_eq_true rfl), (Nat.le_of_ble_eq_true rfl)⟩ rfl rfl rfl rfl hl.1 rfl (Nat.le_of_ble_eq_true rfl) dX9_hangs_25 (fun H locs hw => ?_)
      refine lv_aload_n hx hb dX9_hangs_28 rfl (lv_at hl 0 rfl) ?_
      refine mg_17 C hw dX9_hangs_29 ?_
      refine lv_istore_n (lv' := [(2, .int (r3 17 0)), (0, .ref a0), (1, .int p1)]) hx hb dX9_hangs_32 rfl hl (by decide) rfl (fun ls hl => ?_)
      refine lv_iconst (v := 0) hx hb dX9_hangs_33 ic_0 ?_
      refine lv_istore_n (lv' := [(3, .int 0), (2, .int (r3 17 0)), (0, .ref a0), (1, .int p1)]) hx hb dX9_hangs_34 rfl hl (by decide) rfl (fun ls hl => ?_)
      refine lv_iconst (v := 0) hx hb dX9_hangs_35 ic_0 ?_
      refine lv_istore (lv' := [(4, .int 0), (3, .int 0), (2, .int (r3 17 0)), (0, .ref a0), (1, .int p1)]) hx hb dX9_hangs_36 hl (by decide) rfl (fun ls hl => ?_)
      refine wX9_hangs_38 C hr hlocks hA hcg 300 _ _ _ _ _ _ hw (lv_sub hl [3, 4, 2, 1, 0] rfl) hf (fun x9 M10 H locs ls hw hl hf => ?_)
      refine lv_iload_n hx hb dX9_hangs_88 rfl (lv_at hl 0 rfl) ?_
      obtain rfl := Option.some.inj hf
      exact qt_i C hr hlocks hw dX9_hangs_89
    · have hf := it_t h2 hf
      refine lv_bipush (v := (-3)) hx hb dX9_hangs_16 ib_m3 ?_
      obtain rfl := Option.some.inj hf
      exact qt_i C hr hlocks hw dX9_hangs_18
  · have hf := it_f h1 hf
    refine lv_iconst (v := (-1)) hx hb dX9_hangs_7 ic_m1 ?_
    obtain rfl := Option.some.inj hf
    exact qt_i C hr hlocks hw dX9_hangs_8
theorem cfX9_reading : cf yX9_reading cX9_reading 3 (some .int) 2 := ⟨tg_916, by decide +kernel, tg_7⟩
set_option maxHeartbeats 4000000 in
theorem kX9_reading (l : Launch) (D : va_G) (cI cB cS : ClassId) (a0 : Nat) (am : Nat → Nat) {p1 : Int32} {p2 : Int32} {M : MS} {q : (Int32 × MS)} (hf : fX9_reading p1 p2 M = some q) : Ct l D cI cB cS yX9_reading cX9_reading 3 (some .int) 2 45 [.ref a0, .int p1, .int p2] (mW cI a0 am M) (some (.int q.1)) (mW cI a0 am q.2) := by
  refine Ct.ofW (by decide) (Nat.le_of_ble_eq_true rfl) ?_
  intro p e s m args below meth c ls C hr hlocks _ hw hl
  have hx := C.1
  have hb := C.2.1
  have hA : ∀ q, s.heap.size ≤ q → va_A (mW cI a0 am M) s.heap.size q := fun q h => Or.inr h
  have hcg := trivial
  have hl : lv_has ls 3 [(0, .ref a0), (1, .int p1), (2, .int p2)] := hl
  unfold fX9_reading at hf
  refine lv_iload_n hx hb dX9_reading_0 rfl (lv_at hl 1 rfl) ?_
  refine ct_S1 (rest := []) C hw hA (kX9_noLot l D cI cB cS _ _) cfX9_noLot tg_809 tg_810 ⟨(Nat.le_of_ble_eq_true rfl), (Nat.le_of_ble_eq_true rfl)⟩ ⟨(Nat.le_of_ble_eq_true rfl), (Nat.le_of_ble_eq_true rfl)⟩ rfl hl.1 rfl (Nat.le_of_ble_eq_true rfl) dX9_reading_1 (fun H locs hw => ?_)
  refine lv_if_eq (tgt := 9) hx hb dX9_reading_4 (by decide) (fun h1 => ?_) (fun h1 => ?_)
  · have hf := it_t h1 hf
    refine lv_iload_n hx hb dX9_reading_9 rfl (lv_at hl 2 rfl) ?_
    refine lv_i2l (v := (p2.toInt64)) hx hb dX9_reading_10 rfl ?_
    refine lv_lconst (v := 0) hx hb dX9_reading_11 rfl ?_
    refine lv_ldc2 (v := (99 : Int64)) hx hb C.2.2.2.1 (C.2.2.2.2.1 _ tg_812) dX9_reading_12 ?_
    refine ct_S1 (rest := []) C hw hA (kX9_in l D cI cB cS _ _ _ _) cfX9_in tg_744 tg_745 ⟨(Nat.le_of_ble_eq_true rfl), (Nat.le_of_ble_eq_true rfl)⟩ ⟨(Nat.le_of_ble_eq_true rfl), (Nat.le_of_ble_eq_true rfl)⟩ rfl hl.1 rfl (Nat.le_of_ble_eq_true rfl) dX9_reading_15 (fun H locs hw => ?_)
    refine lv_if_ne (tgt := 24) hx hb dX9_reading_18 (by decide) (fun h2 => ?_) (fun h2 => ?_)
    · have hf := it_f h2 hf
      refine lv_aload_n hx hb dX9_reading_24 rfl (lv_at hl 0 rfl) ?_
      refine mg_1 C hw dX9_reading_25 ?_
      refine lv_if_ne (tgt := 34) hx hb dX9_reading_28 (by decide) (fun h3 => ?_) (fun h3 => ?_)
      · have hf := it_f h3 hf
        refine lv_aload_n hx hb dX9_reading_34 rfl (lv_at hl 0 rfl) ?_
        refine mg_24 C hw dX9_reading_35 ?_
        refine lv_bipush (v := 6) hx hb dX9_reading_38 ib_6 ?_
        refine lv_icmp_ne (tgt := 46) hx hb dX9_reading_40 (by decide) (fun h4 => ?_) (fun h4 => ?_)
        · have hf := it_f h4 hf
          refine lv_aload_n hx hb dX9_reading_46 rfl (lv_at hl 0 rfl) ?_
          refine mg_25 C hw dX9_reading_47 ?_
          refine lv_aload_n hx hb dX9_reading_50 rfl (lv_at hl 0 rfl) ?_
          refine mg_24 C hw dX9_reading_51 ?_
          refine lv_iload_n hx hb dX9_reading_54 rfl (lv_at hl 1 rfl) ?_
          obtain ⟨g5, hf⟩ := gd_inv hf
          refine ms_25 C hw g5 dX9_reading_55 (fun H locs hw => ?_)
          refine lv_aload_n hx hb dX9_reading_56 rfl (lv_at hl 0 rfl) ?_
          refine mg_26 C hw dX9_reading_57 ?_
          refine lv_aload_n hx hb dX9_reading_60 rfl (lv_at hl 0 rfl) ?_
          refine mg_24 C hw dX9_reading_61 ?_
          refine lv_iload_n hx hb dX9_reading_64 rfl (lv_at hl 2 rfl) ?_
          obtain ⟨g6, hf⟩ := gd_inv hf
          refine ms_26 C hw g6 dX9_reading_65 (fun H locs hw => ?_)
          refine lv_aload_n hx hb dX9_reading_66 rfl (lv_at hl 0 rfl) ?_
          refine lv_dup hx hb dX9_reading_67 rfl ?_
          refine mg_24 C hw dX9_reading_68 ?_
          refine lv_iconst (v := 1) hx hb dX9_reading_71 ic_1 ?_
          refine lv_iadd hx hb dX9_reading_72 ?_
          refine mp_24 C hw dX9_reading_73 (fun H locs hw => ?_)
          refine lv_aload_n hx hb dX9_reading_76 rfl (lv_at hl 0 rfl) ?_
          refine mg_24 C hw dX9_reading_77 ?_
          refine lv_iconst (v := 1) hx hb dX9_reading_80 ic_1 ?_
          refine lv_isub hx hb dX9_reading_81 ?_
          obtain rfl := Option.some.inj hf
          exact qt_i C hr hlocks hw dX9_reading_82
        · have hf := it_t h4 hf
          refine lv_bipush (v := (-4)) hx hb dX9_reading_43 ib_m4 ?_
          obtain rfl := Option.some.inj hf
          exact qt_i C hr hlocks hw dX9_reading_45
      · have hf := it_t h3 hf
        refine lv_bipush (v := (-3)) hx hb dX9_reading_31 ib_m3 ?_
        obtain rfl := Option.some.inj hf
        exact qt_i C hr hlocks hw dX9_reading_33
    · have hf := it_t h2 hf
      refine lv_bipush (v := (-2)) hx hb dX9_reading_21 ib_m2 ?_
      obtain rfl := Option.some.inj hf
      exact qt_i C hr hlocks hw dX9_reading_23
  · have hf := it_f h1 hf
    refine lv_iconst (v := (-1)) hx hb dX9_reading_7 ic_m1 ?_
    obtain rfl := Option.some.inj hf
    exact qt_i C hr hlocks hw dX9_reading_8
theorem cfX9_back : cf yX9_back cX9_back 2 (some .int) 1 := ⟨tg_920, by decide +kernel, tg_7⟩
set_option maxHeartbeats 4000000 in
theorem kX9_back (l : Launch) (D : va_G) (cI cB cS : ClassId) (a0 : Nat) (am : Nat → Nat) (p1 : Int32) (M : MS) : Ct l D cI cB cS yX9_back cX9_back 2 (some .int) 1 25 [.ref a0, .int p1] (mW cI a0 am M) (some (.int (fX9_back p1 M).1)) (mW cI a0 am (fX9_back p1 M).2) := by
  obtain ⟨q, hf⟩ : ∃ q, fX9_back p1 M = q := ⟨_, rfl⟩
  rw [hf]
  refine Ct.ofW (by decide) (Nat.le_of_ble_eq_true rfl) ?_
  intro p e s m args below meth c ls C hr hlocks _ hw hl
  have hx := C.1
  have hb := C.2.1
  have hA : ∀ q, s.heap.size ≤ q → va_A (mW cI a0 am M) s.heap.size q := fun q h => Or.inr h
  have hcg := trivial
  have hl : lv_has ls 2 [(0, .ref a0), (1, .int p1)] := hl
  unfold fX9_back at hf
  refine lv_iload_n hx hb dX9_back_0 rfl (lv_at hl 1 rfl) ?_
  refine lv_i2l (v := (p1.toInt64)) hx hb dX9_back_1 rfl ?_
  refine lv_lconst (v := 0) hx hb dX9_back_2 rfl ?_
  refine lv_aload_n hx hb dX9_back_3 rfl (lv_at hl 0 rfl) ?_
  refine mg_24 C hw dX9_back_4 ?_
  refine lv_i2l (v := ((M 24 0).toInt64)) hx hb dX9_back_7 rfl ?_
  refine ct_S1 (rest := []) C hw hA (kX9_in l D cI cB cS _ _ _ _) cfX9_in tg_744 tg_745 ⟨(Nat.le_of_ble_eq_true rfl), (Nat.le_of_ble_eq_true rfl)⟩ ⟨(Nat.le_of_ble_eq_true rfl), (Nat.le_of_ble_eq_true rfl)⟩ rfl hl.1 rfl (Nat.le_of_ble_eq_true rfl) dX9_back_8 (fun H locs hw => ?_)
  refine lv_if_ne (tgt := 17) hx hb dX9_back_11 (by decide) (fun h1 => ?_) (fun h1 => ?_)
  · have hf := it_f h1 hf
    refine lv_aload_n hx hb dX9_back_17 rfl (lv_at hl 0 rfl) ?_
    refine lv_dup hx hb dX9_back_18 rfl ?_
    refine mg_24 C hw dX9_back_19 ?_
    refine lv_iload_n hx hb dX9_back_22 rfl (lv_at hl 1 rfl) ?_
    refine lv_isub hx hb dX9_back_23 ?_
    refine mp_24 C hw dX9_back_24 (fun H locs hw => ?_)
    refine lv_aload_n hx hb dX9_back_27 rfl (lv_at hl 0 rfl) ?_
    refine mg_24 C hw dX9_back_28 ?_
    subst hf
    exact qt_i C hr hlocks hw dX9_back_31
  · have hf := it_t h1 hf
    refine lv_bipush (v := (-2)) hx hb dX9_back_14 ib_m2 ?_
    subst hf
    exact qt_i C hr hlocks hw dX9_back_16
theorem cfX9_areSo : cf yX9_areSo cX9_areSo 3 (some .boolean) 0 := ⟨tg_928, by decide +kernel, tg_7⟩
set_option maxHeartbeats 4000000 in
theorem wX9_areSo_4 {p : Program} {l : Launch} {e : Env} {s : State} {m : MethodId} {args : Array Value} {below : List Frame} {meth : Method} {c : Code} {D : va_G} {cI cB cS : ClassId} {a0 : Nat} {am : Nat → Nat} {ws0 : va_W} (C : cx p c cX9_areSo 3 s args m RX9 D cI cB cS) (hr : meth.sig.returnType = (some .boolean)) (hlocks : meth.locks = false) (hA : ∀ q, s.heap.size ≤ q → va_A ws0 s.heap.size q) {k : Int32 → MS → Option (Int32 × MS)} {q : (Int32 × MS)}
    (hcg : True) : ∀ (fu : Nat) (v1 : Int32) (v2 : Int32) (M : MS) (H : Heap) (locs : List Loc) (ls : Array Slot), wd D (va_A ws0 s.heap.size) s.heap (mW cI a0 am M) H locs → lv_has ls 3 [(0, .ref a0), (1, .int v1), (2, .int v2)] → fX9_areSo_4 fu k v1 v2 M = some q →
    (∀ (x1 : Int32) (M1 : MS) (H : Heap) (locs : List Loc) (ls : Array Slot), wd D (va_A ws0 s.heap.size) s.heap (mW cI a0 am M1) H locs → lv_has ls 3 [(1, .int x1)] → k x1 M1 = some q → W p l e { frames := 5, cells := 0, slots := 0, locals := 115 } s m args below meth c H locs 0 0 (Qt D below args s ws0 (some (.int q.1)) (mW cI a0 am q.2)) (F0 m 55 ls [])) →
    W p l e { frames := 5, cells := 0, slots := 0, locals := 115 } s m args below meth c H locs 0 0 (Qt D below args s ws0 (some (.int q.1)) (mW cI a0 am q.2)) (F0 m 4 ls []) := by
  have hx := C.1
  have hb := C.2.1
  intro fu
  induction fu with
  | zero => intro v1 v2 M H locs ls hw hl hf hk; rw [fX9_areSo_4] at hf; cases hf
  | succ fu ih =>
      intro v1 v2 M H locs ls hw hl hf hk
      rw [fX9_areSo_4] at hf
      refine lv_iload_n hx hb dX9_areSo_4 rfl (lv_at hl 2 rfl) ?_
      refine lv_aload_n hx hb dX9_areSo_5 rfl (lv_at hl 0 rfl) ?_
      refine mg_24 C hw dX9_areSo_6 ?_
      refine lv_icmp_ge (tgt := 55) hx hb dX9_areSo_9 (by decide) (fun h1 => ?_) (fun h1 => ?_)
      · have hf := it_t h1 hf
        exact hk _ _ _ _ _ hw (lv_sub hl [1] rfl) hf
      · have hf := it_f h1 hf
        refine lv_iload_n hx hb dX9_areSo_12 rfl (lv_at hl 1 rfl) ?_
        refine lv_if_eq (tgt := 55) hx hb dX9_areSo_13 (by decide) (fun h2 => ?_) (fun h2 => ?_)
        · have hf := it_t h2 hf
          exact hk _ _ _ _ _ hw (lv_sub hl [1] rfl) hf
        · have hf := it_f h2 hf
          refine lv_aload_n hx hb dX9_areSo_16 rfl (lv_at hl 0 rfl) ?_
          refine lv_aload_n hx hb dX9_areSo_17 rfl (lv_at hl 0 rfl) ?_
          refine mg_25 C hw dX9_areSo_18 ?_
          refine lv_iload_n hx hb dX9_areSo_21 rfl (lv_at hl 2 rfl) ?_
          obtain ⟨g3, hf⟩ := gd_inv hf
          refine ml_25 C hw g3 dX9_areSo_22 ?_
          refine lv_aload_n hx hb dX9_areSo_23 rfl (lv_at hl 0 rfl) ?_
          refine ct_V1 (q0 := 0) (ci := 9) (rest := [.int (M 25 v2.toNatClampNeg), .ref a0]) C hw hA (kX9_all l D cI cB cS a0 am _) cfX9_all tg_841 tg_843 ts_yX9_all ⟨(Nat.le_of_ble_eq_true rfl), (Nat.le_of_ble_eq_true rfl)⟩ ⟨(Nat.le_of_ble_eq_true rfl), (Nat.le_of_ble_eq_true rfl)⟩ rfl rfl rfl rfl hl.1 rfl (Nat.le_of_ble_eq_true rfl) dX9_areSo_24 (fun H locs hw => ?_)
          obtain ⟨r4, e5, hf⟩ := bd hf
          refine ct_V0 (q0 := 0) (ci := 9) (rest := []) C hw hA (kX9_sellTo l D cI cB cS a0 am e5) cfX9_sellTo tg_845 tg_847 ts_yX9_sellTo ⟨(Nat.le_of_ble_eq_true rfl), (Nat.le_of_ble_eq_true rfl)⟩ ⟨(Nat.le_of_ble_eq_true rfl), (Nat.le_of_ble_eq_true rfl)⟩ rfl rfl rfl rfl hl.1 rfl (Nat.le_of_ble_eq_true rfl) dX9_areSo_27 (fun H locs hw => ?_)
          refine lv_aload_n hx hb dX9_areSo_30 rfl (lv_at hl 0 rfl) ?_
          refine mg_16 C hw dX9_areSo_31 ?_
          refine lv_aload_n hx hb dX9_areSo_34 rfl (lv_at hl 0 rfl) ?_
          refine mg_26 C hw dX9_areSo_35 ?_
          refine lv_iload_n hx hb dX9_areSo_38 rfl (lv_at hl 2 rfl) ?_
          obtain ⟨g6, hf⟩ := gd_inv hf
          refine ml_26 C hw g6 dX9_areSo_39 ?_
          refine lv_icmp_ne (tgt := 47) hx hb dX9_areSo_40 (by decide) (fun h7 => ?_) (fun h7 => ?_)
          · have hf := it_f h7 hf
            refine lv_iconst (v := 0) hx hb dX9_areSo_47 ic_0 ?_
            refine lv_istore_n (lv' := [(1, .int 0), (0, .ref a0), (2, .int v2)]) hx hb dX9_areSo_48 rfl hl (by decide) rfl (fun ls hl => ?_)
            refine lv_iinc (v := (v2 + 1)) (lv' := [(2, .int (v2 + 1)), (1, .int 0), (0, .ref a0)]) hx hb dX9_areSo_49 hl (k := 2) rfl (iv_1 _) (by decide) rfl (fun ls hl => ?_)
            refine lv_goto (tgt := 4) hx hb dX9_areSo_52 (by decide) ?_
            exact ih _ _ _ _ _ _ hw (lv_sub hl [2, 1, 0] rfl) hf hk
          · have hf := it_t h7 hf
            refine lv_iconst (v := 1) hx hb dX9_areSo_43 ic_1 ?_
            refine lv_goto (tgt := 48) hx hb dX9_areSo_44 (by decide) ?_
            refine lv_istore_n (lv' := [(1, .int 1), (0, .ref a0), (2, .int v2)]) hx hb dX9_areSo_48 rfl hl (by decide) rfl (fun ls hl => ?_)
            refine lv_iinc (v := (v2 + 1)) (lv' := [(2, .int (v2 + 1)), (1, .int 1), (0, .ref a0)]) hx hb dX9_areSo_49 hl (k := 2) rfl (iv_1 _) (by decide) rfl (fun ls hl => ?_)
            refine lv_goto (tgt := 4) hx hb dX9_areSo_52 (by decide) ?_
            exact ih _ _ _ _ _ _ hw (lv_sub hl [2, 1, 0] rfl) hf hk
set_option maxHeartbeats 4000000 in
theorem kX9_areSo (l : Launch) (D : va_G) (cI cB cS : ClassId) (a0 : Nat) (am : Nat → Nat) {M : MS} {q : (Int32 × MS)} (hf : fX9_areSo M = some q) : Ct l D cI cB cS yX9_areSo cX9_areSo 3 (some .boolean) 5 115 [.ref a0] (mW cI a0 am M) (some (.int q.1)) (mW cI a0 am q.2) := by
  refine Ct.ofW (by decide) (Nat.le_of_ble_eq_true rfl) ?_
  intro p e s m args below meth c ls C hr hlocks _ hw hl
  have hx := C.1
  have hb := C.2.1
  have hA : ∀ q, s.heap.size ≤ q → va_A (mW cI a0 am M) s.heap.size q := fun q h => Or.inr h
  have hcg := trivial
  have hl : lv_has ls 3 [(0, .ref a0)] := hl
  unfold fX9_areSo at hf
  refine lv_iconst (v := 1) hx hb dX9_areSo_0 ic_1 ?_
  refine lv_istore_n (lv' := [(1, .int 1), (0, .ref a0)]) hx hb dX9_areSo_1 rfl hl (by decide) rfl (fun ls hl => ?_)
  refine lv_iconst (v := 0) hx hb dX9_areSo_2 ic_0 ?_
  refine lv_istore_n (lv' := [(2, .int 0), (1, .int 1), (0, .ref a0)]) hx hb dX9_areSo_3 rfl hl (by decide) rfl (fun ls hl => ?_)
  refine wX9_areSo_4 C hr hlocks hA hcg 300 _ _ _ _ _ _ hw (lv_sub hl [2, 1, 0] rfl) hf (fun x8 M9 H locs ls hw hl hf => ?_)
  refine lv_iload_n hx hb dX9_areSo_55 rfl (lv_at hl 0 rfl) ?_
  obtain ⟨z10, hf⟩ := zb_inv hf
  obtain rfl := Option.some.inj hf
  exact qt_z C hr hlocks z10 hw dX9_areSo_56
