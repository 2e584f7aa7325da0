theorem cfX0_gather : cf yX0_gather cX0_gather 4 none 1 := ⟨tg_378, by decide +kernel, tg_5⟩
set_option maxHeartbeats 4000000 in
theorem wX0_gather_7 {p : Program} {l : Launch} {e : Env} {s : State} {m : MethodId} {args : Array Value} {below : List Frame} {meth : Method} {c : Code} {D : va_G} {cI cB cS : ClassId} {n : Nat} {ad : Nat → Nat} {bf : Nat → Option Nat} {ws0 : va_W} {v1 : Int32} (C : cx p c cX0_gather 4 s args m RX0 D cI cB cS) (hr : meth.sig.returnType = none) (hlocks : meth.locks = false) (hA : ∀ q, s.heap.size ≤ q → va_A ws0 s.heap.size q) {k : MS → Option MS} {q : MS}
    (hcg : bok n ad bf) : ∀ (fu : Nat) (v2 : Int32) (M : MS) (H : Heap) (locs : List Loc) (ls : Array Slot), wd D (va_A ws0 s.heap.size) s.heap (cW cI cB cS n ad bf M) H locs → lv_has ls 4 [(0, .ref (ad 13)), (1, .int v1), (2, .int v2)] → fX0_gather_7 n fu k v1 v2 M = some q →
    (∀  (M1 : MS) (H : Heap) (locs : List Loc) (ls : Array Slot), wd D (va_A ws0 s.heap.size) s.heap (cW cI cB cS n ad bf M1) H locs → lv_has ls 4 [] → k  M1 = some q → W p l e { frames := 2, cells := 0, slots := 0, locals := 42 } s m args below meth c H locs 0 0 (Qt D below args s ws0 none (cW cI cB cS n ad bf q)) (F0 m 97 ls [])) →
    W p l e { frames := 2, cells := 0, slots := 0, locals := 42 } s m args below meth c H locs 0 0 (Qt D below args s ws0 none (cW cI cB cS n ad bf q)) (F0 m 7 ls []) := by
  have hx := C.1
  have hb := C.2.1
  intro fu
  induction fu with
  | zero => intro v2 M H locs ls hw hl hf hk; rw [fX0_gather_7] at hf; cases hf
  | succ fu ih =>
      intro v2 M H locs ls hw hl hf hk
      rw [fX0_gather_7] at hf
      refine lv_iload_n hx hb dX0_gather_7 rfl (lv_at hl 2 rfl) ?_
      refine lv_bipush (v := 6) hx hb dX0_gather_8 ib_6 ?_
      refine lv_icmp_ge (tgt := 97) hx hb dX0_gather_10 (by decide) (fun h1 => ?_) (fun h1 => ?_)
      · have hf := it_t h1 hf
        exact hk _ _ _ _ hw (lv_sub hl [] rfl) hf
      · have hf := it_f h1 hf
        refine lv_aload_n hx hb dX0_gather_13 rfl (lv_at hl 0 rfl) ?_
        refine cg_0_9 C hw dX0_gather_14 ?_
        refine lv_iload_n hx hb dX0_gather_17 rfl (lv_at hl 2 rfl) ?_
        refine lv_iconst (v := (-1)) hx hb dX0_gather_18 ic_m1 ?_
        obtain ⟨g2, hf⟩ := gd_inv hf
        refine cs_12 C hw g2 dX0_gather_19 (fun H locs hw => ?_)
        refine lv_aload_n hx hb dX0_gather_20 rfl (lv_at hl 0 rfl) ?_
        refine cg_0_15 C hw dX0_gather_21 ?_
        refine lv_iload_n hx hb dX0_gather_24 rfl (lv_at hl 2 rfl) ?_
        refine lv_iconst (v := 0) hx hb dX0_gather_25 ic_0 ?_
        obtain ⟨g3, hf⟩ := gd_inv hf
        refine cs_13 C hw g3 dX0_gather_26 (fun H locs hw => ?_)
        refine lv_aload_n hx hb dX0_gather_27 rfl (lv_at hl 0 rfl) ?_
        refine cg_0_27 C hw dX0_gather_28 ?_
        refine lv_iload_n hx hb dX0_gather_31 rfl (lv_at hl 2 rfl) ?_
        refine ct_V1 (q0 := 11) (ci := 5) (rest := []) C hw hA (kX5_buyerOf l D cI cB cS n ad bf hcg _ _) cfX5_buyerOf tg_379 tg_294 tg_295 ⟨(Nat.le_of_ble_eq_true rfl), (Nat.le_of_ble_eq_true rfl)⟩ ⟨(Nat.le_of_ble_eq_true rfl), (Nat.le_of_ble_eq_true rfl)⟩ rfl rfl rfl rfl hl.1 rfl (Nat.le_of_ble_eq_true rfl) dX0_gather_32 (fun H locs hw => ?_)
        rcases em_o (fX5_buyerOf n v2) with h4 | ⟨j5, h4⟩
        · rw [h4]
          have hf := om_n h4 hf
          refine lv_astore_nN (lv' := [(3, .null), (0, .ref (ad 13)), (1, .int v1), (2, .int v2)]) hx hb dX0_gather_35 rfl hl (by decide) rfl (fun ls hl => ?_)
          refine lv_aload_nN hx hb dX0_gather_36 rfl (lv_at hl 0 rfl) ?_
          refine lv_ifnullN (tgt := 91) hx hb dX0_gather_37 (by decide) ?_
          refine lv_iinc (v := (v2 + 1)) (lv' := [(2, .int (v2 + 1)), (3, .null), (0, .ref (ad 13)), (1, .int v1)]) hx hb dX0_gather_91 hl (k := 3) rfl (iv_1 _) (by decide) rfl (fun ls hl => ?_)
          refine lv_goto (tgt := 7) hx hb dX0_gather_94 (by decide) ?_
          exact ih _ _ _ _ _ hw (lv_sub hl [2, 3, 0] rfl) hf hk
        · rw [h4]
          have hf := om_s h4 hf
          have hj5 := buyerOf_lt hcg.1 h4
          refine lv_astore_n (lv' := [(3, .ref (ad (30 + j5))), (0, .ref (ad 13)), (1, .int v1), (2, .int v2)]) hx hb dX0_gather_35 rfl hl (by decide) rfl (fun ls hl => ?_)
          refine lv_aload_n hx hb dX0_gather_36 rfl (lv_at hl 0 rfl) ?_
          refine lv_ifnull hx hb dX0_gather_37 ?_
          refine lv_iload_n hx hb dX0_gather_40 rfl (lv_at hl 2 rfl) ?_
          refine lv_iload_n hx hb dX0_gather_41 rfl (lv_at hl 3 rfl) ?_
          refine ct_SN1 (rest := []) C hw hA (kX8_isIn l D cI cB cS _ _ _) cfX8_isIn tn_21 tg_381 ⟨(Nat.le_of_ble_eq_true rfl), (Nat.le_of_ble_eq_true rfl)⟩ ⟨(Nat.le_of_ble_eq_true rfl), (Nat.le_of_ble_eq_true rfl)⟩ rfl hl.1 rfl (Nat.le_of_ble_eq_true rfl) dX0_gather_42 (fun H locs hw => ?_)
          refine lv_if_eq (tgt := 91) hx hb dX0_gather_45 (by decide) (fun h6 => ?_) (fun h6 => ?_)
          · have hf := it_t h6 hf
            refine lv_iinc (v := (v2 + 1)) (lv' := [(2, .int (v2 + 1)), (3, .ref (ad (30 + j5))), (0, .ref (ad 13)), (1, .int v1)]) hx hb dX0_gather_91 hl (k := 3) rfl (iv_1 _) (by decide) rfl (fun ls hl => ?_)
            refine lv_goto (tgt := 7) hx hb dX0_gather_94 (by decide) ?_
            exact ih _ _ _ _ _ hw (lv_sub hl [2, 3, 0] rfl) hf hk
          · have hf := it_f h6 hf
            refine lv_aload_n hx hb dX0_gather_48 rfl (lv_at hl 1 rfl) ?_
            refine cg_0_9 C hw dX0_gather_49 ?_
            refine lv_iload_n hx hb dX0_gather_52 rfl (lv_at hl 3 rfl) ?_
            refine lv_aload_n hx hb dX0_gather_53 rfl (lv_at hl 0 rfl) ?_
            refine cg_0_45 hj5 C hw dX0_gather_54 ?_
            obtain ⟨g7, hf⟩ := gd_inv hf
            refine cs_12 C hw g7 dX0_gather_57 (fun H locs hw => ?_)
            refine lv_aload_n hx hb dX0_gather_58 rfl (lv_at hl 1 rfl) ?_
            refine cg_0_15 C hw dX0_gather_59 ?_
            refine lv_iload_n hx hb dX0_gather_62 rfl (lv_at hl 3 rfl) ?_
            refine lv_aload_n hx hb dX0_gather_63 rfl (lv_at hl 0 rfl) ?_
            refine cg_0_50 hj5 C hw dX0_gather_64 ?_
            obtain ⟨g8, hf⟩ := gd_inv hf
            refine cs_13 C hw g8 dX0_gather_67 (fun H locs hw => ?_)
            refine lv_aload_n hx hb dX0_gather_68 rfl (lv_at hl 1 rfl) ?_
            refine lv_dup hx hb dX0_gather_69 rfl ?_
            refine cg_0_31 C hw dX0_gather_70 ?_
            refine lv_aload_n hx hb dX0_gather_73 rfl (lv_at hl 0 rfl) ?_
            refine cb_vhat (rest := [.int ((u2 (u2 (u2 (u2 M 12 v2.toNatClampNeg (-1)) 13 v2.toNatClampNeg 0) 12 v2.toNatClampNeg ((u2 (u2 M 12 v2.toNatClampNeg (-1)) 13 v2.toNatClampNeg 0) 22 j5)) 13 v2.toNatClampNeg ((u2 (u2 (u2 M 12 v2.toNatClampNeg (-1)) 13 v2.toNatClampNeg 0) 12 v2.toNatClampNeg ((u2 (u2 M 12 v2.toNatClampNeg (-1)) 13 v2.toNatClampNeg 0) 22 j5)) 21 j5)) 11 1), .ref (ad 13)]) hj5 C hw hA tg_383 ⟨(Nat.le_of_ble_eq_true rfl), (Nat.le_of_ble_eq_true rfl)⟩ ⟨(Nat.le_of_ble_eq_true rfl), (Nat.le_of_ble_eq_true rfl)⟩ hl.1 (Nat.le_of_ble_eq_true rfl) dX0_gather_74 (fun H locs hw => ?_)
            refine lv_if_eq (tgt := 86) hx hb dX0_gather_77 (by decide) (fun h9 => ?_) (fun h9 => ?_)
            · have hf := it_t h9 hf
              refine lv_iconst (v := 0) hx hb dX0_gather_86 ic_0 ?_
              refine lv_ior hx hb dX0_gather_87 ?_
              refine cp_0_31 C hw dX0_gather_88 (fun H locs hw => ?_)
              refine lv_iinc (v := (v2 + 1)) (lv' := [(2, .int (v2 + 1)), (3, .ref (ad (30 + j5))), (0, .ref (ad 13)), (1, .int v1)]) hx hb dX0_gather_91 hl (k := 3) rfl (iv_1 _) (by decide) rfl (fun ls hl => ?_)
              refine lv_goto (tgt := 7) hx hb dX0_gather_94 (by decide) ?_
              exact ih _ _ _ _ _ hw (lv_sub hl [2, 3, 0] rfl) hf hk
            · have hf := it_f h9 hf
              refine lv_iconst (v := 1) hx hb dX0_gather_80 ic_1 ?_
              refine lv_iload_n hx hb dX0_gather_81 rfl (lv_at hl 3 rfl) ?_
              refine lv_ishl hx hb dX0_gather_82 ?_
              refine lv_goto (tgt := 87) hx hb dX0_gather_83 (by decide) ?_
              refine lv_ior hx hb dX0_gather_87 ?_
              refine cp_0_31 C hw dX0_gather_88 (fun H locs hw => ?_)
              refine lv_iinc (v := (v2 + 1)) (lv' := [(2, .int (v2 + 1)), (3, .ref (ad (30 + j5))), (0, .ref (ad 13)), (1, .int v1)]) hx hb dX0_gather_91 hl (k := 3) rfl (iv_1 _) (by decide) rfl (fun ls hl => ?_)
              refine lv_goto (tgt := 7) hx hb dX0_gather_94 (by decide) ?_
              exact ih _ _ _ _ _ hw (lv_sub hl [2, 3, 0] rfl) hf hk
set_option maxHeartbeats 4000000 in
theorem kX0_gather (l : Launch) (D : va_G) (cI cB cS : ClassId) (n : Nat) (ad : Nat → Nat) (bf : Nat → Option Nat) (hcg : bok n ad bf) {p1 : Int32} {M : MS} {q : MS} (hf : fX0_gather n p1 M = some q) : Ct l D cI cB cS yX0_gather cX0_gather 4 none 2 42 [.ref (ad 13), .int p1] (cW cI cB cS n ad bf M) none (cW cI cB cS n ad bf q) := by
  refine Ct.ofW (by decide) (Nat.le_of_ble_eq_true rfl) ?_
  intro p e s m args below meth c ls C hr hlocks _ hw hl
  have hx := C.1
  have hb := C.2.1
  have hA : ∀ q, s.heap.size ≤ q → va_A (cW cI cB cS n ad bf M) s.heap.size q := fun q h => Or.inr h
  have hl : lv_has ls 4 [(0, .ref (ad 13)), (1, .int p1)] := hl
  unfold fX0_gather at hf
  refine lv_aload_n hx hb dX0_gather_0 rfl (lv_at hl 0 rfl) ?_
  refine lv_iconst (v := 0) hx hb dX0_gather_1 ic_0 ?_
  refine cp_0_31 C hw dX0_gather_2 (fun H locs hw => ?_)
  refine lv_iconst (v := 0) hx hb dX0_gather_5 ic_0 ?_
  refine lv_istore_n (lv' := [(2, .int 0), (0, .ref (ad 13)), (1, .int p1)]) hx hb dX0_gather_6 rfl hl (by decide) rfl (fun ls hl => ?_)
  refine wX0_gather_7 C hr hlocks hA hcg 300 _ _ _ _ _ hw (lv_sub hl [1, 2, 0] rfl) hf (fun M10 H locs ls hw hl hf => ?_)
  obtain rfl := Option.some.inj hf
  exact qt_v C hr hlocks hw dX0_gather_97
theorem cfX0_offer : cf yX0_offer cX0_offer 4 none 1 := ⟨tg_387, by decide +kernel, tg_5⟩
set_option maxHeartbeats 4000000 in
theorem wX0_offer_2 {p : Program} {l : Launch} {e : Env} {s : State} {m : MethodId} {args : Array Value} {below : List Frame} {meth : Method} {c : Code} {D : va_G} {cI cB cS : ClassId} {n : Nat} {ad : Nat → Nat} {bf : Nat → Option Nat} {ws0 : va_W} {v1 : Int32} (C : cx p c cX0_offer 4 s args m RX0 D cI cB cS) (hr : meth.sig.returnType = none) (hlocks : meth.locks = false) (hA : ∀ q, s.heap.size ≤ q → va_A ws0 s.heap.size q) {k : MS → Option MS} {q : MS}
    (hcg : bok n ad bf) : ∀ (fu : Nat) (v2 : Int32) (M : MS) (H : Heap) (locs : List Loc) (ls : Array Slot), wd D (va_A ws0 s.heap.size) s.heap (cW cI cB cS n ad bf M) H locs → lv_has ls 4 [(0, .ref (ad 13)), (1, .int v1), (2, .int v2)] → fX0_offer_2 n fu k v1 v2 M = some q →
    (∀  (M1 : MS) (H : Heap) (locs : List Loc) (ls : Array Slot), wd D (va_A ws0 s.heap.size) s.heap (cW cI cB cS n ad bf M1) H locs → lv_has ls 4 [] → k  M1 = some q → W p l e { frames := 2, cells := 0, slots := 0, locals := 43 } s m args below meth c H locs 0 0 (Qt D below args s ws0 none (cW cI cB cS n ad bf q)) (F0 m 73 ls [])) →
    W p l e { frames := 2, cells := 0, slots := 0, locals := 43 } s m args below meth c H locs 0 0 (Qt D below args s ws0 none (cW cI cB cS n ad bf q)) (F0 m 2 ls []) := by
  have hx := C.1
  have hb := C.2.1
  intro fu
  induction fu with
  | zero => intro v2 M H locs ls hw hl hf hk; rw [fX0_offer_2] at hf; cases hf
  | succ fu ih =>
      intro v2 M H locs ls hw hl hf hk
      rw [fX0_offer_2] at hf
      refine lv_iload_n hx hb dX0_offer_2 rfl (lv_at hl 2 rfl) ?_
      refine lv_bipush (v := 6) hx hb dX0_offer_3 ib_6 ?_
      refine lv_icmp_ge (tgt := 73) hx hb dX0_offer_5 (by decide) (fun h1 => ?_) (fun h1 => ?_)
      · have hf := it_t h1 hf
        exact hk _ _ _ _ hw (lv_sub hl [] rfl) hf
      · have hf := it_f h1 hf
        refine lv_aload_n hx hb dX0_offer_8 rfl (lv_at hl 0 rfl) ?_
        refine cg_0_18 C hw dX0_offer_9 ?_
        refine lv_iload_n hx hb dX0_offer_12 rfl (lv_at hl 2 rfl) ?_
        refine lv_iconst (v := 0) hx hb dX0_offer_13 ic_0 ?_
        obtain ⟨g2, hf⟩ := gd_inv hf
        refine cs_14 C hw g2 dX0_offer_14 (fun H locs hw => ?_)
        refine lv_aload_n hx hb dX0_offer_15 rfl (lv_at hl 0 rfl) ?_
        refine cg_0_27 C hw dX0_offer_16 ?_
        refine lv_iload_n hx hb dX0_offer_19 rfl (lv_at hl 2 rfl) ?_
        refine ct_V1 (q0 := 11) (ci := 5) (rest := []) C hw hA (kX5_buyerOf l D cI cB cS n ad bf hcg _ _) cfX5_buyerOf tg_379 tg_294 tg_295 ⟨(Nat.le_of_ble_eq_true rfl), (Nat.le_of_ble_eq_true rfl)⟩ ⟨(Nat.le_of_ble_eq_true rfl), (Nat.le_of_ble_eq_true rfl)⟩ rfl rfl rfl rfl hl.1 rfl (Nat.le_of_ble_eq_true rfl) dX0_offer_20 (fun H locs hw => ?_)
        rcases em_o (fX5_buyerOf n v2) with h3 | ⟨j4, h3⟩
        · rw [h3]
          have hf := om_n h3 hf
          refine lv_astore_nN (lv' := [(3, .null), (0, .ref (ad 13)), (1, .int v1), (2, .int v2)]) hx hb dX0_offer_23 rfl hl (by decide) rfl (fun ls hl => ?_)
          refine lv_aload_nN hx hb dX0_offer_24 rfl (lv_at hl 0 rfl) ?_
          refine lv_ifnullN (tgt := 67) hx hb dX0_offer_25 (by decide) ?_
          refine lv_iinc (v := (v2 + 1)) (lv' := [(2, .int (v2 + 1)), (3, .null), (0, .ref (ad 13)), (1, .int v1)]) hx hb dX0_offer_67 hl (k := 3) rfl (iv_1 _) (by decide) rfl (fun ls hl => ?_)
          refine lv_goto (tgt := 2) hx hb dX0_offer_70 (by decide) ?_
          exact ih _ _ _ _ _ hw (lv_sub hl [2, 3, 0] rfl) hf hk
        · rw [h3]
          have hf := om_s h3 hf
          have hj4 := buyerOf_lt hcg.1 h3
          refine lv_astore_n (lv' := [(3, .ref (ad (30 + j4))), (0, .ref (ad 13)), (1, .int v1), (2, .int v2)]) hx hb dX0_offer_23 rfl hl (by decide) rfl (fun ls hl => ?_)
          refine lv_aload_n hx hb dX0_offer_24 rfl (lv_at hl 0 rfl) ?_
          refine lv_ifnull hx hb dX0_offer_25 ?_
          refine lv_aload_n hx hb dX0_offer_28 rfl (lv_at hl 1 rfl) ?_
          refine cg_0_9 C hw dX0_offer_29 ?_
          refine lv_iload_n hx hb dX0_offer_32 rfl (lv_at hl 3 rfl) ?_
          obtain ⟨g5, hf⟩ := gd_inv hf
          refine cl_12 C hw g5 dX0_offer_33 ?_
          refine lv_iconst (v := (-1)) hx hb dX0_offer_34 ic_m1 ?_
          refine lv_icmp_eq (tgt := 67) hx hb dX0_offer_35 (by decide) (fun h6 => ?_) (fun h6 => ?_)
          · have hf := it_t h6 hf
            refine lv_iinc (v := (v2 + 1)) (lv' := [(2, .int (v2 + 1)), (3, .ref (ad (30 + j4))), (0, .ref (ad 13)), (1, .int v1)]) hx hb dX0_offer_67 hl (k := 3) rfl (iv_1 _) (by decide) rfl (fun ls hl => ?_)
            refine lv_goto (tgt := 2) hx hb dX0_offer_70 (by decide) ?_
            exact ih _ _ _ _ _ hw (lv_sub hl [2, 3, 0] rfl) hf hk
          · have hf := it_f h6 hf
            refine lv_iload_n hx hb dX0_offer_38 rfl (lv_at hl 2 rfl) ?_
            refine ct_SN1 (rest := []) C hw hA (kX8_isLot l D cI cB cS _ _) cfX8_isLot tn_22 tg_332 ⟨(Nat.le_of_ble_eq_true rfl), (Nat.le_of_ble_eq_true rfl)⟩ ⟨(Nat.le_of_ble_eq_true rfl), (Nat.le_of_ble_eq_true rfl)⟩ rfl hl.1 rfl (Nat.le_of_ble_eq_true rfl) dX0_offer_39 (fun H locs hw => ?_)
            refine lv_if_eq (tgt := 67) hx hb dX0_offer_42 (by decide) (fun h7 => ?_) (fun h7 => ?_)
            · have hf := it_t h7 hf
              refine lv_iinc (v := (v2 + 1)) (lv' := [(2, .int (v2 + 1)), (3, .ref (ad (30 + j4))), (0, .ref (ad 13)), (1, .int v1)]) hx hb dX0_offer_67 hl (k := 3) rfl (iv_1 _) (by decide) rfl (fun ls hl => ?_)
              refine lv_goto (tgt := 2) hx hb dX0_offer_70 (by decide) ?_
              exact ih _ _ _ _ _ hw (lv_sub hl [2, 3, 0] rfl) hf hk
            · have hf := it_f h7 hf
              refine lv_aload_n hx hb dX0_offer_45 rfl (lv_at hl 1 rfl) ?_
              refine cg_0_18 C hw dX0_offer_46 ?_
              refine lv_iload_n hx hb dX0_offer_49 rfl (lv_at hl 3 rfl) ?_
              refine lv_aload_n hx hb dX0_offer_50 rfl (lv_at hl 0 rfl) ?_
              refine lv_aload_n hx hb dX0_offer_51 rfl (lv_at hl 0 rfl) ?_
              refine cg_0_61 hj4 C hw dX0_offer_52 ?_
              refine lv_iload_n hx hb dX0_offer_55 rfl (lv_at hl 2 rfl) ?_
              obtain ⟨g8, hf⟩ := gd_inv hf
              refine cl_w hj4 C hw g8 dX0_offer_56 ?_
              refine lv_aload_n hx hb dX0_offer_57 rfl (lv_at hl 1 rfl) ?_
              refine cg_0_15 C hw dX0_offer_58 ?_
              refine lv_iload_n hx hb dX0_offer_61 rfl (lv_at hl 3 rfl) ?_
              obtain ⟨g9, hf⟩ := gd_inv hf
              refine cl_13 C hw g9 dX0_offer_62 ?_
              refine cb_vlim (rest := [.int v2, .ref (ad 16)]) hj4 C hw hA tg_389 ⟨(Nat.le_of_ble_eq_true rfl), (Nat.le_of_ble_eq_true rfl)⟩ ⟨(Nat.le_of_ble_eq_true rfl), (Nat.le_of_ble_eq_true rfl)⟩ hl.1 (Nat.le_of_ble_eq_true rfl) dX0_offer_63 (fun H locs hw => ?_)
              obtain ⟨g10, hf⟩ := gd_inv hf
              refine cs_14 C hw g10 dX0_offer_66 (fun H locs hw => ?_)
              refine lv_iinc (v := (v2 + 1)) (lv' := [(2, .int (v2 + 1)), (3, .ref (ad (30 + j4))), (0, .ref (ad 13)), (1, .int v1)]) hx hb dX0_offer_67 hl (k := 3) rfl (iv_1 _) (by decide) rfl (fun ls hl => ?_)
              refine lv_goto (tgt := 2) hx hb dX0_offer_70 (by decide) ?_
              exact ih _ _ _ _ _ hw (lv_sub hl [2, 3, 0] rfl) hf hk
set_option maxHeartbeats 4000000 in
theorem kX0_offer (l : Launch) (D : va_G) (cI cB cS : ClassId) (n : Nat) (ad : Nat → Nat) (bf : Nat → Option Nat) (hcg : bok n ad bf) {p1 : Int32} {M : MS} {q : MS} (hf : fX0_offer n p1 M = some q) : Ct l D cI cB cS yX0_offer cX0_offer 4 none 2 43 [.ref (ad 13), .int p1] (cW cI cB cS n ad bf M) none (cW cI cB cS n ad bf q) := by
  refine Ct.ofW (by decide) (Nat.le_of_ble_eq_true rfl) ?_
  intro p e s m args below meth c ls C hr hlocks _ hw hl
  have hx := C.1
  have hb := C.2.1
  have hA : ∀ q, s.heap.size ≤ q → va_A (cW cI cB cS n ad bf M) s.heap.size q := fun q h => Or.inr h
  have hl : lv_has ls 4 [(0, .ref (ad 13)), (1, .int p1)] := hl
  unfold fX0_offer at hf
  refine lv_iconst (v := 0) hx hb dX0_offer_0 ic_0 ?_
  refine lv_istore_n (lv' := [(2, .int 0), (0, .ref (ad 13)), (1, .int p1)]) hx hb dX0_offer_1 rfl hl (by decide) rfl (fun ls hl => ?_)
  refine wX0_offer_2 C hr hlocks hA hcg 300 _ _ _ _ _ hw (lv_sub hl [1, 2, 0] rfl) hf (fun M11 H locs ls hw hl hf => ?_)
  obtain rfl := Option.some.inj hf
  exact qt_v C hr hlocks hw dX0_offer_73
theorem cfX0_silenceAllButFirst : cf yX0_silenceAllButFirst cX0_silenceAllButFirst 4 none 1 := ⟨tg_489, by decide +kernel, tg_5⟩
set_option maxHeartbeats 4000000 in
theorem wX0_silenceAllButFirst_5 {p : Program} {l : Launch} {e : Env} {s : State} {m : MethodId} {args : Array Value} {below : List Frame} {meth : Method} {c : Code} {D : va_G} {cI cB cS : ClassId} {n : Nat} {ad : Nat → Nat} {bf : Nat → Option Nat} {ws0 : va_W} {v1 : Int32} (C : cx p c cX0_silenceAllButFirst 4 s args m RX0 D cI cB cS) (hr : meth.sig.returnType = none) (hlocks : meth.locks = false) (hA : ∀ q, s.heap.size ≤ q → va_A ws0 s.heap.size q) {k : Int32 → MS → Option MS} {q : MS}
    (hcg : bok n ad bf) : ∀ (fu : Nat) (v2 : Int32) (v3 : Int32) (M : MS) (H : Heap) (locs : List Loc) (ls : Array Slot), wd D (va_A ws0 s.heap.size) s.heap (cW cI cB cS n ad bf M) H locs → lv_has ls 4 [(0, .ref (ad 13)), (1, .int v1), (2, .int v2), (3, .int v3)] → fX0_silenceAllButFirst_5 n fu k v1 v2 v3 M = some q →
    (∀ (x2 : Int32) (M1 : MS) (H : Heap) (locs : List Loc) (ls : Array Slot), wd D (va_A ws0 s.heap.size) s.heap (cW cI cB cS n ad bf M1) H locs → lv_has ls 4 [(0, .ref (ad 13)), (1, .int v1), (2, .int x2)] → k x2 M1 = some q → W p l e { frames := 1, cells := 0, slots := 0, locals := 21 } s m args below meth c H locs 0 0 (Qt D below args s ws0 none (cW cI cB cS n ad bf q)) (F0 m 48 ls [])) →
    W p l e { frames := 1, cells := 0, slots := 0, locals := 21 } s m args below meth c H locs 0 0 (Qt D below args s ws0 none (cW cI cB cS n ad bf q)) (F0 m 5 ls []) := by
  have hx := C.1
  have hb := C.2.1
  intro fu
  induction fu with
  | zero => intro v2 v3 M H locs ls hw hl hf hk; rw [fX0_silenceAllButFirst_5] at hf; cases hf
  | succ fu ih =>
      intro v2 v3 M H locs ls hw hl hf hk
      rw [fX0_silenceAllButFirst_5] at hf
      refine lv_iload_n hx hb dX0_silenceAllButFirst_5 rfl (lv_at hl 3 rfl) ?_
      refine lv_bipush (v := 6) hx hb dX0_silenceAllButFirst_6 ib_6 ?_
      refine lv_icmp_ge (tgt := 48) hx hb dX0_silenceAllButFirst_8 (by decide) (fun h1 => ?_) (fun h1 => ?_)
      · have hf := it_t h1 hf
        exact hk _ _ _ _ _ hw (lv_sub hl [0, 1, 2] rfl) hf
      · have hf := it_f h1 hf
        refine lv_iload_n hx hb dX0_silenceAllButFirst_11 rfl (lv_at hl 1 rfl) ?_
        refine lv_iload_n hx hb dX0_silenceAllButFirst_12 rfl (lv_at hl 3 rfl) ?_
        refine ct_SN1 (rest := []) C hw hA (kX8_isIn l D cI cB cS _ _ _) cfX8_isIn tn_21 tg_381 ⟨(Nat.le_of_ble_eq_true rfl), (Nat.le_of_ble_eq_true rfl)⟩ ⟨(Nat.le_of_ble_eq_true rfl), (Nat.le_of_ble_eq_true rfl)⟩ rfl hl.1 rfl (Nat.le_of_ble_eq_true rfl) dX0_silenceAllButFirst_13 (fun H locs hw => ?_)
        refine lv_if_eq (tgt := 42) hx hb dX0_silenceAllButFirst_16 (by decide) (fun h2 => ?_) (fun h2 => ?_)
        · have hf := it_t h2 hf
          refine lv_iinc (v := (v3 + 1)) (lv' := [(3, .int (v3 + 1)), (0, .ref (ad 13)), (1, .int v1), (2, .int v2)]) hx hb dX0_silenceAllButFirst_42 hl (k := 3) rfl (iv_1 _) (by decide) rfl (fun ls hl => ?_)
          refine lv_goto (tgt := 5) hx hb dX0_silenceAllButFirst_45 (by decide) ?_
          exact ih _ _ _ _ _ _ hw (lv_sub hl [1, 2, 3, 0] rfl) hf hk
        · have hf := it_f h2 hf
          refine lv_iload_n hx hb dX0_silenceAllButFirst_19 rfl (lv_at hl 2 rfl) ?_
          refine lv_bipush (v := (-9)) hx hb dX0_silenceAllButFirst_20 ib_m9 ?_
          refine lv_icmp_eq (tgt := 40) hx hb dX0_silenceAllButFirst_22 (by decide) (fun h3 => ?_) (fun h3 => ?_)
          · have hf := it_t h3 hf
            refine lv_iload_n hx hb dX0_silenceAllButFirst_40 rfl (lv_at hl 3 rfl) ?_
            refine lv_istore_n (lv' := [(2, .int v3), (0, .ref (ad 13)), (1, .int v1), (3, .int v3)]) hx hb dX0_silenceAllButFirst_41 rfl hl (by decide) rfl (fun ls hl => ?_)
            refine lv_iinc (v := (v3 + 1)) (lv' := [(3, .int (v3 + 1)), (2, .int v3), (0, .ref (ad 13)), (1, .int v1)]) hx hb dX0_silenceAllButFirst_42 hl (k := 3) rfl (iv_1 _) (by decide) rfl (fun ls hl => ?_)
            refine lv_goto (tgt := 5) hx hb dX0_silenceAllButFirst_45 (by decide) ?_
            exact ih _ _ _ _ _ _ hw (lv_sub hl [2, 3, 1, 0] rfl) hf hk
          · have hf := it_f h3 hf
            refine lv_aload_n hx hb dX0_silenceAllButFirst_25 rfl (lv_at hl 0 rfl) ?_
            refine cg_0_18 C hw dX0_silenceAllButFirst_26 ?_
            refine lv_iload_n hx hb dX0_silenceAllButFirst_29 rfl (lv_at hl 3 rfl) ?_
            obtain ⟨g4, hf⟩ := gd_inv hf
            refine cl_14 C hw g4 dX0_silenceAllButFirst_30 ?_
            refine lv_aload_n hx hb dX0_silenceAllButFirst_31 rfl (lv_at hl 0 rfl) ?_
            refine cg_0_18 C hw dX0_silenceAllButFirst_32 ?_
            refine lv_iload_n hx hb dX0_silenceAllButFirst_35 rfl (lv_at hl 2 rfl) ?_
            obtain ⟨g5, hf⟩ := gd_inv hf
            refine cl_14 C hw g5 dX0_silenceAllButFirst_36 ?_
            refine lv_icmp_le (tgt := 42) hx hb dX0_silenceAllButFirst_37 (by decide) (fun h6 => ?_) (fun h6 => ?_)
            · have hf := it_t h6 hf
              refine lv_iinc (v := (v3 + 1)) (lv' := [(3, .int (v3 + 1)), (0, .ref (ad 13)), (1, .int v1), (2, .int v2)]) hx hb dX0_silenceAllButFirst_42 hl (k := 3) rfl (iv_1 _) (by decide) rfl (fun ls hl => ?_)
              refine lv_goto (tgt := 5) hx hb dX0_silenceAllButFirst_45 (by decide) ?_
              exact ih _ _ _ _ _ _ hw (lv_sub hl [1, 2, 3, 0] rfl) hf hk
            · have hf := it_f h6 hf
              refine lv_iload_n hx hb dX0_silenceAllButFirst_40 rfl (lv_at hl 3 rfl) ?_
              refine lv_istore_n (lv' := [(2, .int v3), (0, .ref (ad 13)), (1, .int v1), (3, .int v3)]) hx hb dX0_silenceAllButFirst_41 rfl hl (by decide) rfl (fun ls hl => ?_)
              refine lv_iinc (v := (v3 + 1)) (lv' := [(3, .int (v3 + 1)), (2, .int v3), (0, .ref (ad 13)), (1, .int v1)]) hx hb dX0_silenceAllButFirst_42 hl (k := 3) rfl (iv_1 _) (by decide) rfl (fun ls hl => ?_)
              refine lv_goto (tgt := 5) hx hb dX0_silenceAllButFirst_45 (by decide) ?_
              exact ih _ _ _ _ _ _ hw (lv_sub hl [2, 3, 1, 0] rfl) hf hk
set_option maxHeartbeats 4000000 in
theorem wX0_silenceAllButFirst_50 {p : Program} {l : Launch} {e : Env} {s : State} {m : MethodId} {args : Array Value} {below : List Frame} {meth : Method} {c : Code} {D : va_G} {cI cB cS : ClassId} {n : Nat} {ad : Nat → Nat} {bf : Nat → Option Nat} {ws0 : va_W} {v1 : Int32} {v2 : Int32} (C : cx p c cX0_silenceAllButFirst 4 s args m RX0 D cI cB cS) (hr : meth.sig.returnType = none) (hlocks : meth.locks = false) (hA : ∀ q, s.heap.size ≤ q → va_A ws0 s.heap.size q) {k : MS → Option MS} {q : MS}
    (hcg : bok n ad bf) : ∀ (fu : Nat) (v3 : Int32) (M : MS) (H : Heap) (locs : List Loc) (ls : Array Slot), wd D (va_A ws0 s.heap.size) s.heap (cW cI cB cS n ad bf M) H locs → lv_has ls 4 [(0, .ref (ad 13)), (1, .int v1), (2, .int v2), (3, .int v3)] → fX0_silenceAllButFirst_50 n fu k v1 v2 v3 M = some q →
    (∀  (M1 : MS) (H : Heap) (locs : List Loc) (ls : Array Slot), wd D (va_A ws0 s.heap.size) s.heap (cW cI cB cS n ad bf M1) H locs → lv_has ls 4 [] → k  M1 = some q → W p l e { frames := 1, cells := 0, slots := 0, locals := 21 } s m args below meth c H locs 0 0 (Qt D below args s ws0 none (cW cI cB cS n ad bf q)) (F0 m 82 ls [])) →
    W p l e { frames := 1, cells := 0, slots := 0, locals := 21 } s m args below meth c H locs 0 0 (Qt D below args s ws0 none (cW cI cB cS n ad bf q)) (F0 m 50 ls []) := by
  have hx := C.1
  have hb := C.2.1
  intro fu
  induction fu with
  | zero => intro v3 M H locs ls hw hl hf hk; rw [fX0_silenceAllButFirst_50] at hf; cases hf
  | succ fu ih =>
      intro v3 M H locs ls hw hl hf hk
      rw [fX0_silenceAllButFirst_50] at hf
      refine lv_iload_n hx hb dX0_silenceAllButFirst_50 rfl (lv_at hl 3 rfl) ?_
      refine lv_bipush (v := 6) hx hb dX0_silenceAllButFirst_51 ib_6 ?_
      refine lv_icmp_ge (tgt := 82) hx hb dX0_silenceAllButFirst_53 (by decide) (fun h9 => ?_) (fun h9 => ?_)
      · have hf := it_t h9 hf
        exact hk _ _ _ _ hw (lv_sub hl [] rfl) hf
      · have hf := it_f h9 hf
        refine lv_iload_n hx hb dX0_silenceAllButFirst_56 rfl (lv_at hl 1 rfl) ?_
        refine lv_iload_n hx hb dX0_silenceAllButFirst_57 rfl (lv_at hl 3 rfl) ?_
        refine ct_SN1 (rest := []) C hw hA (kX8_isIn l D cI cB cS _ _ _) cfX8_isIn tn_21 tg_381 ⟨(Nat.le_of_ble_eq_true rfl), (Nat.le_of_ble_eq_true rfl)⟩ ⟨(Nat.le_of_ble_eq_true rfl), (Nat.le_of_ble_eq_true rfl)⟩ rfl hl.1 rfl (Nat.le_of_ble_eq_true rfl) dX0_silenceAllButFirst_58 (fun H locs hw => ?_)
        refine lv_if_eq (tgt := 76) hx hb dX0_silenceAllButFirst_61 (by decide) (fun h10 => ?_) (fun h10 => ?_)
        · have hf := it_t h10 hf
          refine lv_iinc (v := (v3 + 1)) (lv' := [(3, .int (v3 + 1)), (0, .ref (ad 13)), (1, .int v1), (2, .int v2)]) hx hb dX0_silenceAllButFirst_76 hl (k := 3) rfl (iv_1 _) (by decide) rfl (fun ls hl => ?_)
          refine lv_goto (tgt := 50) hx hb dX0_silenceAllButFirst_79 (by decide) ?_
          exact ih _ _ _ _ _ hw (lv_sub hl [1, 2, 3, 0] rfl) hf hk
        · have hf := it_f h10 hf
          refine lv_iload_n hx hb dX0_silenceAllButFirst_64 rfl (lv_at hl 3 rfl) ?_
          refine lv_iload_n hx hb dX0_silenceAllButFirst_65 rfl (lv_at hl 2 rfl) ?_
          refine lv_icmp_eq (tgt := 76) hx hb dX0_silenceAllButFirst_66 (by decide) (fun h11 => ?_) (fun h11 => ?_)
          · have hf := it_t h11 hf
            refine lv_iinc (v := (v3 + 1)) (lv' := [(3, .int (v3 + 1)), (0, .ref (ad 13)), (1, .int v1), (2, .int v2)]) hx hb dX0_silenceAllButFirst_76 hl (k := 3) rfl (iv_1 _) (by decide) rfl (fun ls hl => ?_)
            refine lv_goto (tgt := 50) hx hb dX0_silenceAllButFirst_79 (by decide) ?_
            exact ih _ _ _ _ _ hw (lv_sub hl [1, 2, 3, 0] rfl) hf hk
          · have hf := it_f h11 hf
            refine lv_aload_n hx hb dX0_silenceAllButFirst_69 rfl (lv_at hl 0 rfl) ?_
            refine cg_0_18 C hw dX0_silenceAllButFirst_70 ?_
            refine lv_iload_n hx hb dX0_silenceAllButFirst_73 rfl (lv_at hl 3 rfl) ?_
            refine lv_iconst (v := 0) hx hb dX0_silenceAllButFirst_74 ic_0 ?_
            obtain ⟨g12, hf⟩ := gd_inv hf
            refine cs_14 C hw g12 dX0_silenceAllButFirst_75 (fun H locs hw => ?_)
            refine lv_iinc (v := (v3 + 1)) (lv' := [(3, .int (v3 + 1)), (0, .ref (ad 13)), (1, .int v1), (2, .int v2)]) hx hb dX0_silenceAllButFirst_76 hl (k := 3) rfl (iv_1 _) (by decide) rfl (fun ls hl => ?_)
            refine lv_goto (tgt := 50) hx hb dX0_silenceAllButFirst_79 (by decide) ?_
            exact ih _ _ _ _ _ hw (lv_sub hl [1, 2, 3, 0] rfl) hf hk
set_option maxHeartbeats 4000000 in
theorem kX0_silenceAllButFirst (l : Launch) (D : va_G) (cI cB cS : ClassId) (n : Nat) (ad : Nat → Nat) (bf : Nat → Option Nat) (hcg : bok n ad bf) {p1 : Int32} {M : MS} {q : MS} (hf : fX0_silenceAllButFirst n p1 M = some q) : Ct l D cI cB cS yX0_silenceAllButFirst cX0_silenceAllButFirst 4 none 1 21 [.ref (ad 13), .int p1] (cW cI cB cS n ad bf M) none (cW cI cB cS n ad bf q) := by
  refine Ct.ofW (by decide) (Nat.le_of_ble_eq_true rfl) ?_
  intro p e s m args below meth c ls C hr hlocks _ hw hl
  have hx := C.1
  have hb := C.2.1
  have hA : ∀ q, s.heap.size ≤ q → va_A (cW cI cB cS n ad bf M) s.heap.size q := fun q h => Or.inr h
  have hl : lv_has ls 4 [(0, .ref (ad 13)), (1, .int p1)] := hl
  unfold fX0_silenceAllButFirst at hf
  refine lv_bipush (v := (-9)) hx hb dX0_silenceAllButFirst_0 ib_m9 ?_
  refine lv_istore_n (lv' := [(2, .int (-9)), (0, .ref (ad 13)), (1, .int p1)]) hx hb dX0_silenceAllButFirst_2 rfl hl (by decide) rfl (fun ls hl => ?_)
  refine lv_iconst (v := 0) hx hb dX0_silenceAllButFirst_3 ic_0 ?_
  refine lv_istore_n (lv' := [(3, .int 0), (2, .int (-9)), (0, .ref (ad 13)), (1, .int p1)]) hx hb dX0_silenceAllButFirst_4 rfl hl (by decide) rfl (fun ls hl => ?_)
  refine wX0_silenceAllButFirst_5 C hr hlocks hA hcg 300 _ _ _ _ _ _ hw (lv_sub hl [2, 3, 1, 0] rfl) hf (fun x7 M8 H locs ls hw hl hf => ?_)
  refine lv_iconst (v := 0) hx hb dX0_silenceAllButFirst_48 ic_0 ?_
  refine lv_istore_n (lv' := [(3, .int 0), (0, .ref (ad 13)), (1, .int p1), (2, .int x7)]) hx hb dX0_silenceAllButFirst_49 rfl hl (by decide) rfl (fun ls hl => ?_)
  refine wX0_silenceAllButFirst_50 C hr hlocks hA hcg 300 _ _ _ _ _ hw (lv_sub hl [1, 2, 3, 0] rfl) hf (fun M13 H locs ls hw hl hf => ?_)
  obtain rfl := Option.some.inj hf
  exact qt_v C hr hlocks hw dX0_silenceAllButFirst_82
theorem cfX5_seatsTwice : cf yX5_seatsTwice cX5_seatsTwice 1 (some .int) 0 := ⟨tg_397, by decide +kernel, tg_4⟩
set_option maxHeartbeats 4000000 in
theorem kX5_seatsTwice (l : Launch) (D : va_G) (cI cB cS : ClassId) (n : Nat) (ad : Nat → Nat) (bf : Nat → Option Nat) (hcg : bok n ad bf) (M : MS) : Ct l D cI cB cS yX5_seatsTwice cX5_seatsTwice 1 (some .int) 0 0 [.ref (ad 11)] (cW cI cB cS n ad bf M) (some (.int (fX5_seatsTwice n M))) (cW cI cB cS n ad bf M) := by
  obtain ⟨q, hf⟩ : ∃ q, fX5_seatsTwice n M = q := ⟨_, rfl⟩
  rw [hf]
  refine Ct.ofW (by decide) (Nat.le_of_ble_eq_true rfl) ?_
  intro p e s m args below meth c ls C hr hlocks _ hw hl
  have hx := C.1
  have hb := C.2.1
  have hA : ∀ q, s.heap.size ≤ q → va_A (cW cI cB cS n ad bf M) s.heap.size q := fun q h => Or.inr h
  have hl : lv_has ls 1 [(0, .ref (ad 11))] := hl
  unfold fX5_seatsTwice at hf
  refine lv_aload_n hx hb dX5_seatsTwice_0 rfl (lv_at hl 0 rfl) ?_
  refine cg_5_21 C hw dX5_seatsTwice_1 ?_
  refine lv_if_ne (tgt := 12) hx hb dX5_seatsTwice_4 (by decide) (fun h1 => ?_) (fun h1 => ?_)
  · have hf := it_f h1 hf
    refine lv_aload_n hx hb dX5_seatsTwice_12 rfl (lv_at hl 0 rfl) ?_
    refine cg_5_21 C hw dX5_seatsTwice_13 ?_
    refine lv_iconst (v := 1) hx hb dX5_seatsTwice_16 ic_1 ?_
    refine lv_icmp_ne (tgt := 29) hx hb dX5_seatsTwice_17 (by decide) (fun h2 => ?_) (fun h2 => ?_)
    · have hf := it_f h2 hf
      refine lv_iconst (v := 0) hx hb dX5_seatsTwice_29 ic_0 ?_
      subst hf
      exact qt_i C hr hlocks hw dX5_seatsTwice_30
    · have hf := it_t h2 hf
      refine lv_aload_n hx hb dX5_seatsTwice_20 rfl (lv_at hl 0 rfl) ?_
      refine cg_5_30 C hw dX5_seatsTwice_21 ?_
      refine lv_iconst (v := (-1)) hx hb dX5_seatsTwice_24 ic_m1 ?_
      refine lv_ixor hx hb dX5_seatsTwice_25 ?_
      refine lv_goto (tgt := 30) hx hb dX5_seatsTwice_26 (by decide) ?_
      subst hf
      exact qt_i C hr hlocks hw dX5_seatsTwice_30
  · have hf := it_t h1 hf
    refine lv_aload_n hx hb dX5_seatsTwice_7 rfl (lv_at hl 0 rfl) ?_
    refine cg_5_30 C hw dX5_seatsTwice_8 ?_
    subst hf
    exact qt_i C hr hlocks hw dX5_seatsTwice_11
theorem cfX0_lineUp : cf yX0_lineUp cX0_lineUp 3 none 0 := ⟨tg_401, by decide +kernel, tg_5⟩
set_option maxHeartbeats 4000000 in
theorem wX0_lineUp_53 {p : Program} {l : Launch} {e : Env} {s : State} {m : MethodId} {args : Array Value} {below : List Frame} {meth : Method} {c : Code} {D : va_G} {cI cB cS : ClassId} {n : Nat} {ad : Nat → Nat} {bf : Nat → Option Nat} {ws0 : va_W} {v1 : Int32} (C : cx p c cX0_lineUp 3 s args m RX0 D cI cB cS) (hr : meth.sig.returnType = none) (hlocks : meth.locks = false) (hA : ∀ q, s.heap.size ≤ q → va_A ws0 s.heap.size q) {k : Int32 → MS → Option MS} {q : MS}
    (hcg : bok n ad bf) : ∀ (fu : Nat) (v2 : Int32) (M : MS) (H : Heap) (locs : List Loc) (ls : Array Slot), wd D (va_A ws0 s.heap.size) s.heap (cW cI cB cS n ad bf M) H locs → lv_has ls 3 [(0, .ref (ad 13)), (1, .int v1), (2, .int v2)] → fX0_lineUp_53 n fu k v1 v2 M = some q →
    (∀ (x2 : Int32) (M1 : MS) (H : Heap) (locs : List Loc) (ls : Array Slot), wd D (va_A ws0 s.heap.size) s.heap (cW cI cB cS n ad bf M1) H locs → lv_has ls 3 [(0, .ref (ad 13)), (1, .int v1), (2, .int x2)] → k x2 M1 = some q → W p l e { frames := 0, cells := 0, slots := 0, locals := 0 } s m args below meth c H locs 0 0 (Qt D below args s ws0 none (cW cI cB cS n ad bf q)) (F0 m 99 ls [])) →
    W p l e { frames := 0, cells := 0, slots := 0, locals := 0 } s m args below meth c H locs 0 0 (Qt D below args s ws0 none (cW cI cB cS n ad bf q)) (F0 m 53 ls []) := by
  have hx := C.1
  have hb := C.2.1
  intro fu
  induction fu with
  | zero => intro v2 M H locs ls hw hl hf hk; rw [fX0_lineUp_53] at hf; cases hf
  | succ fu ih =>
      intro v2 M H locs ls hw hl hf hk
      rw [fX0_lineUp_53] at hf
      refine lv_iload_n hx hb dX0_lineUp_53 rfl (lv_at hl 2 rfl) ?_
      refine lv_if_le (tgt := 99) hx hb dX0_lineUp_54 (by decide) (fun h5 => ?_) (fun h5 => ?_)
      · have hf := it_t h5 hf
        exact hk _ _ _ _ _ hw (lv_sub hl [0, 1, 2] rfl) hf
      · have hf := it_f h5 hf
        refine lv_aload_n hx hb dX0_lineUp_57 rfl (lv_at hl 0 rfl) ?_
        refine cg_0_9 C hw dX0_lineUp_58 ?_
        refine lv_aload_n hx hb dX0_lineUp_61 rfl (lv_at hl 0 rfl) ?_
        refine cg_0_21 C hw dX0_lineUp_62 ?_
        refine lv_iload_n hx hb dX0_lineUp_65 rfl (lv_at hl 2 rfl) ?_
        refine lv_iconst (v := 1) hx hb dX0_lineUp_66 ic_1 ?_
        refine lv_isub hx hb dX0_lineUp_67 ?_
        obtain ⟨g6, hf⟩ := gd_inv hf
        refine cl_15 C hw g6 dX0_lineUp_68 ?_
        obtain ⟨g7, hf⟩ := gd_inv hf
        refine cl_12 C hw g7 dX0_lineUp_69 ?_
        refine lv_aload_n hx hb dX0_lineUp_70 rfl (lv_at hl 0 rfl) ?_
        refine cg_0_9 C hw dX0_lineUp_71 ?_
        refine lv_iload_n hx hb dX0_lineUp_74 rfl (lv_at hl 1 rfl) ?_
        obtain ⟨g8, hf⟩ := gd_inv hf
        refine cl_12 C hw g8 dX0_lineUp_75 ?_
        refine lv_icmp_le (tgt := 99) hx hb dX0_lineUp_76 (by decide) (fun h9 => ?_) (fun h9 => ?_)
        · have hf := it_t h9 hf
          exact hk _ _ _ _ _ hw (lv_sub hl [0, 1, 2] rfl) hf
        · have hf := it_f h9 hf
          refine lv_aload_n hx hb dX0_lineUp_79 rfl (lv_at hl 0 rfl) ?_
          refine cg_0_21 C hw dX0_lineUp_80 ?_
          refine lv_iload_n hx hb dX0_lineUp_83 rfl (lv_at hl 2 rfl) ?_
          refine lv_aload_n hx hb dX0_lineUp_84 rfl (lv_at hl 0 rfl) ?_
          refine cg_0_21 C hw dX0_lineUp_85 ?_
          refine lv_iload_n hx hb dX0_lineUp_88 rfl (lv_at hl 2 rfl) ?_
          refine lv_iconst (v := 1) hx hb dX0_lineUp_89 ic_1 ?_
          refine lv_isub hx hb dX0_lineUp_90 ?_
          obtain ⟨g10, hf⟩ := gd_inv hf
          refine cl_15 C hw g10 dX0_lineUp_91 ?_
          obtain ⟨g11, hf⟩ := gd_inv hf
          refine cs_15 C hw g11 dX0_lineUp_92 (fun H locs hw => ?_)
          refine lv_iinc (v := (v2 + (-1))) (lv' := [(2, .int (v2 + (-1))), (0, .ref (ad 13)), (1, .int v1)]) hx hb dX0_lineUp_93 hl (k := 2) rfl (iv_m1 _) (by decide) rfl (fun ls hl => ?_)
          refine lv_goto (tgt := 53) hx hb dX0_lineUp_96 (by decide) ?_
          exact ih _ _ _ _ _ hw (lv_sub hl [1, 2, 0] rfl) hf hk
set_option maxHeartbeats 4000000 in
theorem wX0_lineUp_12 {p : Program} {l : Launch} {e : Env} {s : State} {m : MethodId} {args : Array Value} {below : List Frame} {meth : Method} {c : Code} {D : va_G} {cI cB cS : ClassId} {n : Nat} {ad : Nat → Nat} {bf : Nat → Option Nat} {ws0 : va_W} (C : cx p c cX0_lineUp 3 s args m RX0 D cI cB cS) (hr : meth.sig.returnType = none) (hlocks : meth.locks = false) (hA : ∀ q, s.heap.size ≤ q → va_A ws0 s.heap.size q) {k : MS → Option MS} {q : MS}
    (hcg : bok n ad bf) : ∀ (fu : Nat) (v1 : Int32) (M : MS) (H : Heap) (locs : List Loc) (ls : Array Slot), wd D (va_A ws0 s.heap.size) s.heap (cW cI cB cS n ad bf M) H locs → lv_has ls 3 [(0, .ref (ad 13)), (1, .int v1)] → fX0_lineUp_12 n fu k v1 M = some q →
    (∀  (M1 : MS) (H : Heap) (locs : List Loc) (ls : Array Slot), wd D (va_A ws0 s.heap.size) s.heap (cW cI cB cS n ad bf M1) H locs → lv_has ls 3 [] → k  M1 = some q → W p l e { frames := 0, cells := 0, slots := 0, locals := 0 } s m args below meth c H locs 0 0 (Qt D below args s ws0 none (cW cI cB cS n ad bf q)) (F0 m 122 ls [])) →
    W p l e { frames := 0, cells := 0, slots := 0, locals := 0 } s m args below meth c H locs 0 0 (Qt D below args s ws0 none (cW cI cB cS n ad bf q)) (F0 m 12 ls []) := by
  have hx := C.1
  have hb := C.2.1
  intro fu
  induction fu with
  | zero => intro v1 M H locs ls hw hl hf hk; rw [fX0_lineUp_12] at hf; cases hf
  | succ fu ih =>
      intro v1 M H locs ls hw hl hf hk
      rw [fX0_lineUp_12] at hf
      refine lv_iload_n hx hb dX0_lineUp_12 rfl (lv_at hl 1 rfl) ?_
      refine lv_bipush (v := 6) hx hb dX0_lineUp_13 ib_6 ?_
      refine lv_icmp_ge (tgt := 122) hx hb dX0_lineUp_15 (by decide) (fun h1 => ?_) (fun h1 => ?_)
      · have hf := it_t h1 hf
        exact hk _ _ _ _ hw (lv_sub hl [] rfl) hf
      · have hf := it_f h1 hf
        refine lv_aload_n hx hb dX0_lineUp_18 rfl (lv_at hl 0 rfl) ?_
        refine cg_0_9 C hw dX0_lineUp_19 ?_
        refine lv_iload_n hx hb dX0_lineUp_22 rfl (lv_at hl 1 rfl) ?_
        obtain ⟨g2, hf⟩ := gd_inv hf
        refine cl_12 C hw g2 dX0_lineUp_23 ?_
        refine lv_iconst (v := (-1)) hx hb dX0_lineUp_24 ic_m1 ?_
        refine lv_icmp_ne (tgt := 31) hx hb dX0_lineUp_25 (by decide) (fun h3 => ?_) (fun h3 => ?_)
        · have hf := it_f h3 hf
          refine lv_aload_n hx hb dX0_lineUp_31 rfl (lv_at hl 0 rfl) ?_
          refine lv_dup hx hb dX0_lineUp_32 rfl ?_
          refine cg_0_103 C hw dX0_lineUp_33 ?_
          refine lv_iconst (v := 1) hx hb dX0_lineUp_36 ic_1 ?_
          refine lv_aload_n hx hb dX0_lineUp_37 rfl (lv_at hl 0 rfl) ?_
          refine cg_0_9 C hw dX0_lineUp_38 ?_
          refine lv_iload_n hx hb dX0_lineUp_41 rfl (lv_at hl 1 rfl) ?_
          obtain ⟨g4, hf⟩ := gd_inv hf
          refine cl_12 C hw g4 dX0_lineUp_42 ?_
          refine lv_ishl hx hb dX0_lineUp_43 ?_
          refine lv_ior hx hb dX0_lineUp_44 ?_
          refine cp_0_103 C hw dX0_lineUp_45 (fun H locs hw => ?_)
          refine lv_aload_n hx hb dX0_lineUp_48 rfl (lv_at hl 0 rfl) ?_
          refine cg_0_100 C hw dX0_lineUp_49 ?_
          refine lv_istore_n (lv' := [(2, .int ((u2 M 11 2 ((M 11 2) ||| ((1 : Int32) <<< ((M 12 v1.toNatClampNeg) &&& 31)))) 11 0)), (0, .ref (ad 13)), (1, .int v1)]) hx hb dX0_lineUp_52 rfl hl (by decide) rfl (fun ls hl => ?_)
          refine wX0_lineUp_53 C hr hlocks hA hcg 300 _ _ _ _ _ hw (lv_sub hl [1, 2, 0] rfl) hf (fun x12 M13 H locs ls hw hl hf => ?_)
          refine lv_aload_n hx hb dX0_lineUp_99 rfl (lv_at hl 0 rfl) ?_
          refine cg_0_21 C hw dX0_lineUp_100 ?_
          refine lv_iload_n hx hb dX0_lineUp_103 rfl (lv_at hl 2 rfl) ?_
          refine lv_iload_n hx hb dX0_lineUp_104 rfl (lv_at hl 1 rfl) ?_
          obtain ⟨g14, hf⟩ := gd_inv hf
          refine cs_15 C hw g14 dX0_lineUp_105 (fun H locs hw => ?_)
          refine lv_aload_n hx hb dX0_lineUp_106 rfl (lv_at hl 0 rfl) ?_
          refine lv_dup hx hb dX0_lineUp_107 rfl ?_
          refine cg_0_100 C hw dX0_lineUp_108 ?_
          refine lv_iconst (v := 1) hx hb dX0_lineUp_111 ic_1 ?_
          refine lv_iadd hx hb dX0_lineUp_112 ?_
          refine cp_0_100 C hw dX0_lineUp_113 (fun H locs hw => ?_)
          refine lv_iinc (v := (v1 + 1)) (lv' := [(1, .int (v1 + 1)), (0, .ref (ad 13)), (2, .int x12)]) hx hb dX0_lineUp_116 hl (k := 1) rfl (iv_1 _) (by decide) rfl (fun ls hl => ?_)
          refine lv_goto (tgt := 12) hx hb dX0_lineUp_119 (by decide) ?_
          exact ih _ _ _ _ _ hw (lv_sub hl [1, 0] rfl) hf hk
        · have hf := it_t h3 hf
          refine lv_goto (tgt := 116) hx hb dX0_lineUp_28 (by decide) ?_
          refine lv_iinc (v := (v1 + 1)) (lv' := [(1, .int (v1 + 1)), (0, .ref (ad 13))]) hx hb dX0_lineUp_116 hl (k := 1) rfl (iv_1 _) (by decide) rfl (fun ls hl => ?_)
          refine lv_goto (tgt := 12) hx hb dX0_lineUp_119 (by decide) ?_
          exact ih _ _ _ _ _ hw (lv_sub hl [1, 0] rfl) hf hk
set_option maxHeartbeats 4000000 in
theorem kX0_lineUp (l : Launch) (D : va_G) (cI cB cS : ClassId) (n : Nat) (ad : Nat → Nat) (bf : Nat → Option Nat) (hcg : bok n ad bf) {M : MS} {q : MS} (hf : fX0_lineUp n M = some q) : Ct l D cI cB cS yX0_lineUp cX0_lineUp 3 none 0 0 [.ref (ad 13)] (cW cI cB cS n ad bf M) none (cW cI cB cS n ad bf q) := by
  refine Ct.ofW (by decide) (Nat.le_of_ble_eq_true rfl) ?_
  intro p e s m args below meth c ls C hr hlocks _ hw hl
  have hx := C.1
  have hb := C.2.1
  have hA : ∀ q, s.heap.size ≤ q → va_A (cW cI cB cS n ad bf M) s.heap.size q := fun q h => Or.inr h
  have hl : lv_has ls 3 [(0, .ref (ad 13))] := hl
  unfold fX0_lineUp at hf
  refine lv_aload_n hx hb dX0_lineUp_0 rfl (lv_at hl 0 rfl) ?_
  refine lv_iconst (v := 0) hx hb dX0_lineUp_1 ic_0 ?_
  refine cp_0_100 C hw dX0_lineUp_2 (fun H locs hw => ?_)
  refine lv_aload_n hx hb dX0_lineUp_5 rfl (lv_at hl 0 rfl) ?_
  refine lv_iconst (v := 0) hx hb dX0_lineUp_6 ic_0 ?_
  refine cp_0_103 C hw dX0_lineUp_7 (fun H locs hw => ?_)
  refine lv_iconst (v := 0) hx hb dX0_lineUp_10 ic_0 ?_
  refine lv_istore_n (lv' := [(1, .int 0), (0, .ref (ad 13))]) hx hb dX0_lineUp_11 rfl hl (by decide) rfl (fun ls hl => ?_)
  refine wX0_lineUp_12 C hr hlocks hA hcg 300 _ _ _ _ _ hw (lv_sub hl [1, 0] rfl) hf (fun M15 H locs ls hw hl hf => ?_)
  obtain rfl := Option.some.inj hf
  exact qt_v C hr hlocks hw dX0_lineUp_122
theorem cfX0_riseBy : cf yX0_riseBy cX0_riseBy 2 (some .int) 1 := ⟨tg_409, by decide +kernel, tg_5⟩
set_option maxHeartbeats 4000000 in
theorem kX0_riseBy (l : Launch) (D : va_G) (cI cB cS : ClassId) (n : Nat) (ad : Nat → Nat) (bf : Nat → Option Nat) (hcg : bok n ad bf) {p1 : Int32} {M : MS} {q : Int32} (hf : fX0_riseBy n p1 M = some q) : Ct l D cI cB cS yX0_riseBy cX0_riseBy 2 (some .int) 1 21 [.ref (ad 13), .int p1] (cW cI cB cS n ad bf M) (some (.int q)) (cW cI cB cS n ad bf M) := by
  refine Ct.ofW (by decide) (Nat.le_of_ble_eq_true rfl) ?_
  intro p e s m args below meth c ls C hr hlocks _ hw hl
  have hx := C.1
  have hb := C.2.1
  have hA : ∀ q, s.heap.size ≤ q → va_A (cW cI cB cS n ad bf M) s.heap.size q := fun q h => Or.inr h
  have hl : lv_has ls 2 [(0, .ref (ad 13)), (1, .int p1)] := hl
  unfold fX0_riseBy at hf
  refine lv_aload_n hx hb dX0_riseBy_0 rfl (lv_at hl 0 rfl) ?_
  refine cg_0_81 C hw dX0_riseBy_1 ?_
  refine lv_aload_n hx hb dX0_riseBy_4 rfl (lv_at hl 0 rfl) ?_
  refine cg_0_9 C hw dX0_riseBy_5 ?_
  refine lv_iload_n hx hb dX0_riseBy_8 rfl (lv_at hl 1 rfl) ?_
  obtain ⟨g1, hf⟩ := gd_inv hf
  refine cl_12 C hw g1 dX0_riseBy_9 ?_
  refine ct_SN1 (rest := []) C hw hA (kX8_isIn l D cI cB cS _ _ _) cfX8_isIn tn_21 tg_381 ⟨(Nat.le_of_ble_eq_true rfl), (Nat.le_of_ble_eq_true rfl)⟩ ⟨(Nat.le_of_ble_eq_true rfl), (Nat.le_of_ble_eq_true rfl)⟩ rfl hl.1 rfl (Nat.le_of_ble_eq_true rfl) dX0_riseBy_10 (fun H locs hw => ?_)
  refine lv_if_eq (tgt := 20) hx hb dX0_riseBy_13 (by decide) (fun h2 => ?_) (fun h2 => ?_)
  · have hf := it_t h2 hf
    refine lv_iconst (v := 1) hx hb dX0_riseBy_20 ic_1 ?_
    obtain rfl := Option.some.inj hf
    exact qt_i C hr hlocks hw dX0_riseBy_21
  · have hf := it_f h2 hf
    refine lv_iconst (v := 2) hx hb dX0_riseBy_16 ic_2 ?_
    refine lv_goto (tgt := 21) hx hb dX0_riseBy_17 (by decide) ?_
    obtain rfl := Option.some.inj hf
    exact qt_i C hr hlocks hw dX0_riseBy_21
theorem cfX0_isSeen : cf yX0_isSeen cX0_isSeen 3 (some .boolean) 1 := ⟨tg_413, by decide +kernel, tg_5⟩
set_option maxHeartbeats 4000000 in
theorem kX0_isSeen (l : Launch) (D : va_G) (cI cB cS : ClassId) (n : Nat) (ad : Nat → Nat) (bf : Nat → Option Nat) (hcg : bok n ad bf) {p1 : Int32} {M : MS} {q : Int32} (hf : fX0_isSeen n p1 M = some q) : Ct l D cI cB cS yX0_isSeen cX0_isSeen 3 (some .boolean) 1 21 [.ref (ad 13), .int p1] (cW cI cB cS n ad bf M) (some (.int q)) (cW cI cB cS n ad bf M) := by
  refine Ct.ofW (by decide) (Nat.le_of_ble_eq_true rfl) ?_
  intro p e s m args below meth c ls C hr hlocks _ hw hl
  have hx := C.1
  have hb := C.2.1
  have hA : ∀ q, s.heap.size ≤ q → va_A (cW cI cB cS n ad bf M) s.heap.size q := fun q h => Or.inr h
  have hl : lv_has ls 3 [(0, .ref (ad 13)), (1, .int p1)] := hl
  unfold fX0_isSeen at hf
  refine lv_aload_n hx hb dX0_isSeen_0 rfl (lv_at hl 0 rfl) ?_
  refine cg_0_9 C hw dX0_isSeen_1 ?_
  refine lv_iload_n hx hb dX0_isSeen_4 rfl (lv_at hl 1 rfl) ?_
  obtain ⟨g1, hf⟩ := gd_inv hf
  refine cl_12 C hw g1 dX0_isSeen_5 ?_
  refine lv_aload_n hx hb dX0_isSeen_6 rfl (lv_at hl 0 rfl) ?_
  refine cg_0_27 C hw dX0_isSeen_7 ?_
  refine cg_0_113 C hw dX0_isSeen_10 ?_
  refine lv_isub hx hb dX0_isSeen_13 ?_
  refine lv_istore_n (lv' := [(2, .int ((M 12 p1.toNatClampNeg) - (M 10 2))), (0, .ref (ad 13)), (1, .int p1)]) hx hb dX0_isSeen_14 rfl hl (by decide) rfl (fun ls hl => ?_)
  refine lv_aload_n hx hb dX0_isSeen_15 rfl (lv_at hl 1 rfl) ?_
  refine cg_0_31 C hw dX0_isSeen_16 ?_
  refine lv_iload_n hx hb dX0_isSeen_19 rfl (lv_at hl 2 rfl) ?_
  refine ct_SN1 (rest := []) C hw hA (kX8_isIn l D cI cB cS _ _ _) cfX8_isIn tn_21 tg_381 ⟨(Nat.le_of_ble_eq_true rfl), (Nat.le_of_ble_eq_true rfl)⟩ ⟨(Nat.le_of_ble_eq_true rfl), (Nat.le_of_ble_eq_true rfl)⟩ rfl hl.1 rfl (Nat.le_of_ble_eq_true rfl) dX0_isSeen_20 (fun H locs hw => ?_)
  refine lv_if_eq (tgt := 41) hx hb dX0_isSeen_23 (by decide) (fun h2 => ?_) (fun h2 => ?_)
  · have hf := it_t h2 hf
    refine lv_iconst (v := 1) hx hb dX0_isSeen_41 ic_1 ?_
    refine lv_goto (tgt := 46) hx hb dX0_isSeen_42 (by decide) ?_
    obtain rfl := Option.some.inj hf
    exact qt_z C hr hlocks (Or.inr rfl) hw dX0_isSeen_46
  · have hf := it_f h2 hf
    refine lv_iload_n hx hb dX0_isSeen_26 rfl (lv_at hl 0 rfl) ?_
    refine lv_if_lt (tgt := 41) hx hb dX0_isSeen_27 (by decide) (fun h3 => ?_) (fun h3 => ?_)
    · have hf := it_t h3 hf
      refine lv_iconst (v := 1) hx hb dX0_isSeen_41 ic_1 ?_
      refine lv_goto (tgt := 46) hx hb dX0_isSeen_42 (by decide) ?_
      obtain rfl := Option.some.inj hf
      exact qt_z C hr hlocks (Or.inr rfl) hw dX0_isSeen_46
    · have hf := it_f h3 hf
      refine lv_aload_n hx hb dX0_isSeen_30 rfl (lv_at hl 1 rfl) ?_
      refine cg_0_103 C hw dX0_isSeen_31 ?_
      refine lv_iload_n hx hb dX0_isSeen_34 rfl (lv_at hl 0 rfl) ?_
      refine ct_SN1 (rest := []) C hw hA (kX8_isIn l D cI cB cS _ _ _) cfX8_isIn tn_21 tg_381 ⟨(Nat.le_of_ble_eq_true rfl), (Nat.le_of_ble_eq_true rfl)⟩ ⟨(Nat.le_of_ble_eq_true rfl), (Nat.le_of_ble_eq_true rfl)⟩ rfl hl.1 rfl (Nat.le_of_ble_eq_true rfl) dX0_isSeen_35 (fun H locs hw => ?_)
      refine lv_if_ne (tgt := 45) hx hb dX0_isSeen_38 (by decide) (fun h4 => ?_) (fun h4 => ?_)
      · have hf := it_f h4 hf
        refine lv_iconst (v := 0) hx hb dX0_isSeen_45 ic_0 ?_
        obtain rfl := Option.some.inj hf
        exact qt_z C hr hlocks (Or.inl rfl) hw dX0_isSeen_46
      · have hf := it_t h4 hf
        refine lv_iconst (v := 1) hx hb dX0_isSeen_41 ic_1 ?_
        refine lv_goto (tgt := 46) hx hb dX0_isSeen_42 (by decide) ?_
        obtain rfl := Option.some.inj hf
        exact qt_z C hr hlocks (Or.inr rfl) hw dX0_isSeen_46
theorem cfX0_nextBidder : cf yX0_nextBidder cX0_nextBidder 3 (some .int) 0 := ⟨tg_405, by decide +kernel, tg_5⟩
set_option maxHeartbeats 4000000 in
theorem wX0_nextBidder_2 {p : Program} {l : Launch} {e : Env} {s : State} {m : MethodId} {args : Array Value} {below : List Frame} {meth : Method} {c : Code} {D : va_G} {cI cB cS : ClassId} {n : Nat} {ad : Nat → Nat} {bf : Nat → Option Nat} {ws0 : va_W} {M : MS} (C : cx p c cX0_nextBidder 3 s args m RX0 D cI cB cS) (hr : meth.sig.returnType = (some .int)) (hlocks : meth.locks = false) (hA : ∀ q, s.heap.size ≤ q → va_A ws0 s.heap.size q) {k : Unit → Option Int32} {q : Int32}
    (hcg : bok n ad bf) : ∀ (fu : Nat) (v1 : Int32) (H : Heap) (locs : List Loc) (ls : Array Slot), wd D (va_A ws0 s.heap.size) s.heap (cW cI cB cS n ad bf M) H locs → lv_has ls 3 [(0, .ref (ad 13)), (1, .int v1)] → fX0_nextBidder_2 n fu k v1 M = some q →
    (∀  (H : Heap) (locs : List Loc) (ls : Array Slot), wd D (va_A ws0 s.heap.size) s.heap (cW cI cB cS n ad bf M) H locs → lv_has ls 3 [] → k () = some q → W p l e { frames := 2, cells := 0, slots := 0, locals := 43 } s m args below meth c H locs 0 0 (Qt D below args s ws0 (some (.int q)) (cW cI cB cS n ad bf M)) (F0 m 60 ls [])) →
    W p l e { frames := 2, cells := 0, slots := 0, locals := 43 } s m args below meth c H locs 0 0 (Qt D below args s ws0 (some (.int q)) (cW cI cB cS n ad bf M)) (F0 m 2 ls []) := by
  have hx := C.1
  have hb := C.2.1
  intro fu
  induction fu with
  | zero => intro v1 H locs ls hw hl hf hk; rw [fX0_nextBidder_2] at hf; cases hf
  | succ fu ih =>
      intro v1 H locs ls hw hl hf hk
      rw [fX0_nextBidder_2] at hf
      refine lv_iload_n hx hb dX0_nextBidder_2 rfl (lv_at hl 1 rfl) ?_
      refine lv_aload_n hx hb dX0_nextBidder_3 rfl (lv_at hl 0 rfl) ?_
      refine cg_0_100 C hw dX0_nextBidder_4 ?_
      refine lv_icmp_ge (tgt := 60) hx hb dX0_nextBidder_7 (by decide) (fun h1 => ?_) (fun h1 => ?_)
      · have hf := it_t h1 hf
        exact hk  _ _ _ hw (lv_sub hl [] rfl) hf
      · have hf := it_f h1 hf
        refine lv_aload_n hx hb dX0_nextBidder_10 rfl (lv_at hl 0 rfl) ?_
        refine cg_0_21 C hw dX0_nextBidder_11 ?_
        refine lv_iload_n hx hb dX0_nextBidder_14 rfl (lv_at hl 1 rfl) ?_
        obtain ⟨g2, hf⟩ := gd_inv hf
        refine cl_15 C hw g2 dX0_nextBidder_15 ?_
        refine lv_istore_n (lv' := [(2, .int (M 15 v1.toNatClampNeg)), (0, .ref (ad 13)), (1, .int v1)]) hx hb dX0_nextBidder_16 rfl hl (by decide) rfl (fun ls hl => ?_)
        refine lv_iload_n hx hb dX0_nextBidder_17 rfl (lv_at hl 0 rfl) ?_
        refine lv_aload_n hx hb dX0_nextBidder_18 rfl (lv_at hl 1 rfl) ?_
        refine cg_0_71 C hw dX0_nextBidder_19 ?_
        refine lv_icmp_eq (tgt := 54) hx hb dX0_nextBidder_22 (by decide) (fun h3 => ?_) (fun h3 => ?_)
        · have hf := it_t h3 hf
          refine lv_iinc (v := (v1 + 1)) (lv' := [(1, .int (v1 + 1)), (2, .int (M 15 v1.toNatClampNeg)), (0, .ref (ad 13))]) hx hb dX0_nextBidder_54 hl (k := 2) rfl (iv_1 _) (by decide) rfl (fun ls hl => ?_)
          refine lv_goto (tgt := 2) hx hb dX0_nextBidder_57 (by decide) ?_
          exact ih _ _ _ _ hw (lv_sub hl [2, 0] rfl) hf hk
        · have hf := it_f h3 hf
          refine lv_aload_n hx hb dX0_nextBidder_25 rfl (lv_at hl 1 rfl) ?_
          refine cg_0_68 C hw dX0_nextBidder_26 ?_
          refine lv_aload_n hx hb dX0_nextBidder_29 rfl (lv_at hl 1 rfl) ?_
          refine lv_iload_n hx hb dX0_nextBidder_30 rfl (lv_at hl 0 rfl) ?_
          obtain ⟨r4, e5, hf⟩ := bd hf
          refine ct_V1 (q0 := 13) (ci := 0) (rest := [.int (M 11 4)]) C hw hA (kX0_riseBy l D cI cB cS n ad bf hcg e5) cfX0_riseBy tg_406 tg_408 ts_yX0_riseBy ⟨(Nat.le_of_ble_eq_true rfl), (Nat.le_of_ble_eq_true rfl)⟩ ⟨(Nat.le_of_ble_eq_true rfl), (Nat.le_of_ble_eq_true rfl)⟩ rfl rfl rfl rfl hl.1 rfl (Nat.le_of_ble_eq_true rfl) dX0_nextBidder_31 (fun H locs hw => ?_)
          refine lv_iadd hx hb dX0_nextBidder_34 ?_
          refine lv_aload_n hx hb dX0_nextBidder_35 rfl (lv_at hl 1 rfl) ?_
          refine cg_0_18 C hw dX0_nextBidder_36 ?_
          refine lv_iload_n hx hb dX0_nextBidder_39 rfl (lv_at hl 0 rfl) ?_
          obtain ⟨g6, hf⟩ := gd_inv hf
          refine cl_14 C hw g6 dX0_nextBidder_40 ?_
          refine lv_icmp_gt (tgt := 54) hx hb dX0_nextBidder_41 (by decide) (fun h7 => ?_) (fun h7 => ?_)
          · have hf := it_t h7 hf
            refine lv_iinc (v := (v1 + 1)) (lv' := [(1, .int (v1 + 1)), (2, .int (M 15 v1.toNatClampNeg)), (0, .ref (ad 13))]) hx hb dX0_nextBidder_54 hl (k := 2) rfl (iv_1 _) (by decide) rfl (fun ls hl => ?_)
            refine lv_goto (tgt := 2) hx hb dX0_nextBidder_57 (by decide) ?_
            exact ih _ _ _ _ hw (lv_sub hl [2, 0] rfl) hf hk
          · have hf := it_f h7 hf
            refine lv_aload_n hx hb dX0_nextBidder_44 rfl (lv_at hl 1 rfl) ?_
            refine lv_iload_n hx hb dX0_nextBidder_45 rfl (lv_at hl 0 rfl) ?_
            obtain ⟨r8, e9, hf⟩ := bd hf
            refine ct_V1 (q0 := 13) (ci := 0) (rest := []) C hw hA (kX0_isSeen l D cI cB cS n ad bf hcg e9) cfX0_isSeen tg_410 tg_412 ts_yX0_isSeen ⟨(Nat.le_of_ble_eq_true rfl), (Nat.le_of_ble_eq_true rfl)⟩ ⟨(Nat.le_of_ble_eq_true rfl), (Nat.le_of_ble_eq_true rfl)⟩ rfl rfl rfl rfl hl.1 rfl (Nat.le_of_ble_eq_true rfl) dX0_nextBidder_46 (fun H locs hw => ?_)
            refine lv_if_eq (tgt := 54) hx hb dX0_nextBidder_49 (by decide) (fun h10 => ?_) (fun h10 => ?_)
            · have hf := it_t h10 hf
              refine lv_iinc (v := (v1 + 1)) (lv' := [(1, .int (v1 + 1)), (2, .int (M 15 v1.toNatClampNeg)), (0, .ref (ad 13))]) hx hb dX0_nextBidder_54 hl (k := 2) rfl (iv_1 _) (by decide) rfl (fun ls hl => ?_)
              refine lv_goto (tgt := 2) hx hb dX0_nextBidder_57 (by decide) ?_
              exact ih _ _ _ _ hw (lv_sub hl [2, 0] rfl) hf hk
            · have hf := it_f h10 hf
              refine lv_iload_n hx hb dX0_nextBidder_52 rfl (lv_at hl 0 rfl) ?_
              obtain rfl := Option.some.inj hf
              exact qt_i C hr hlocks hw dX0_nextBidder_53
set_option maxHeartbeats 4000000 in
theorem kX0_nextBidder (l : Launch) (D : va_G) (cI cB cS : ClassId) (n : Nat) (ad : Nat → Nat) (bf : Nat → Option Nat) (hcg : bok n ad bf) {M : MS} {q : Int32} (hf : fX0_nextBidder n M = some q) : Ct l D cI cB cS yX0_nextBidder cX0_nextBidder 3 (some .int) 2 43 [.ref (ad 13)] (cW cI cB cS n ad bf M) (some (.int q)) (cW cI cB cS n ad bf M) := by
  refine Ct.ofW (by decide) (Nat.le_of_ble_eq_true rfl) ?_
  intro p e s m args below meth c ls C hr hlocks _ hw hl
  have hx := C.1
  have hb := C.2.1
  have hA : ∀ q, s.heap.size ≤ q → va_A (cW cI cB cS n ad bf M) s.heap.size q := fun q h => Or.inr h
  have hl : lv_has ls 3 [(0, .ref (ad 13))] := hl
  unfold fX0_nextBidder at hf
  refine lv_iconst (v := 0) hx hb dX0_nextBidder_0 ic_0 ?_
  refine lv_istore_n (lv' := [(1, .int 0), (0, .ref (ad 13))]) hx hb dX0_nextBidder_1 rfl hl (by decide) rfl (fun ls hl => ?_)
  refine wX0_nextBidder_2 C hr hlocks hA hcg 300 _ _ _ _ hw (lv_sub hl [1, 0] rfl) hf (fun  H locs ls hw hl hf => ?_)
  refine lv_bipush (v := (-9)) hx hb dX0_nextBidder_60 ib_m9 ?_
  obtain rfl := Option.some.inj hf
  exact qt_i C hr hlocks hw dX0_nextBidder_62
theorem cfX0_takeBidOf : cf yX0_takeBidOf cX0_takeBidOf 3 none 1 := ⟨tg_417, by decide +kernel, tg_5⟩
set_option maxHeartbeats 4000000 in
theorem kX0_takeBidOf (l : Launch) (D : va_G) (cI cB cS : ClassId) (n : Nat) (ad : Nat → Nat) (bf : Nat → Option Nat) (hcg : bok n ad bf) {p1 : Int32} {M : MS} {q : MS} (hf : fX0_takeBidOf n p1 M = some q) : Ct l D cI cB cS yX0_takeBidOf cX0_takeBidOf 3 none 2 42 [.ref (ad 13), .int p1] (cW cI cB cS n ad bf M) none (cW cI cB cS n ad bf q) := by
  refine Ct.ofW (by decide) (Nat.le_of_ble_eq_true rfl) ?_
  intro p e s m args below meth c ls C hr hlocks _ hw hl
  have hx := C.1
  have hb := C.2.1
  have hA : ∀ q, s.heap.size ≤ q → va_A (cW cI cB cS n ad bf M) s.heap.size q := fun q h => Or.inr h
  have hl : lv_has ls 3 [(0, .ref (ad 13)), (1, .int p1)] := hl
  unfold fX0_takeBidOf at hf
  refine lv_aload_n hx hb dX0_takeBidOf_0 rfl (lv_at hl 0 rfl) ?_
  refine lv_dup hx hb dX0_takeBidOf_1 rfl ?_
  refine cg_0_68 C hw dX0_takeBidOf_2 ?_
  refine lv_aload_n hx hb dX0_takeBidOf_5 rfl (lv_at hl 0 rfl) ?_
  refine lv_iload_n hx hb dX0_takeBidOf_6 rfl (lv_at hl 1 rfl) ?_
  obtain ⟨r1, e2, hf⟩ := bd hf
  refine ct_V1 (q0 := 13) (ci := 0) (rest := [.int (M 11 4), .ref (ad 13)]) C hw hA (kX0_riseBy l D cI cB cS n ad bf hcg e2) cfX0_riseBy tg_406 tg_408 ts_yX0_riseBy ⟨(Nat.le_of_ble_eq_true rfl), (Nat.le_of_ble_eq_true rfl)⟩ ⟨(Nat.le_of_ble_eq_true rfl), (Nat.le_of_ble_eq_true rfl)⟩ rfl rfl rfl rfl hl.1 rfl (Nat.le_of_ble_eq_true rfl) dX0_takeBidOf_7 (fun H locs hw => ?_)
  refine lv_iadd hx hb dX0_takeBidOf_10 ?_
  refine cp_0_68 C hw dX0_takeBidOf_11 (fun H locs hw => ?_)
  refine lv_aload_n hx hb dX0_takeBidOf_14 rfl (lv_at hl 0 rfl) ?_
  refine lv_iload_n hx hb dX0_takeBidOf_15 rfl (lv_at hl 1 rfl) ?_
  refine cp_0_71 C hw dX0_takeBidOf_16 (fun H locs hw => ?_)
  refine lv_aload_n hx hb dX0_takeBidOf_19 rfl (lv_at hl 0 rfl) ?_
  refine cg_0_74 C hw dX0_takeBidOf_20 ?_
  refine lv_bipush (v := 99) hx hb dX0_takeBidOf_23 ib_99 ?_
  refine lv_icmp_ge (tgt := 56) hx hb dX0_takeBidOf_25 (by decide) (fun h3 => ?_) (fun h3 => ?_)
  · have hf := it_t h3 hf
    refine lv_aload_n hx hb dX0_takeBidOf_56 rfl (lv_at hl 0 rfl) ?_
    refine cg_0_9 C hw dX0_takeBidOf_57 ?_
    refine lv_iload_n hx hb dX0_takeBidOf_60 rfl (lv_at hl 1 rfl) ?_
    obtain ⟨g4, hf⟩ := gd_inv hf
    refine cl_12 C hw g4 dX0_takeBidOf_61 ?_
    refine lv_istore_n (lv' := [(2, .int ((u2 (u2 M 11 4 ((M 11 4) + r1)) 11 5 p1) 12 p1.toNatClampNeg)), (0, .ref (ad 13)), (1, .int p1)]) hx hb dX0_takeBidOf_62 rfl hl (by decide) rfl (fun ls hl => ?_)
    refine lv_aload_n hx hb dX0_takeBidOf_63 rfl (lv_at hl 1 rfl) ?_
    refine cg_0_27 C hw dX0_takeBidOf_64 ?_
    refine cg_0_116 C hw dX0_takeBidOf_67 ?_
    refine lv_iload_n hx hb dX0_takeBidOf_70 rfl (lv_at hl 0 rfl) ?_
    refine ct_SN1 (rest := []) C hw hA (kX8_isIn l D cI cB cS _ _ _) cfX8_isIn tn_21 tg_381 ⟨(Nat.le_of_ble_eq_true rfl), (Nat.le_of_ble_eq_true rfl)⟩ ⟨(Nat.le_of_ble_eq_true rfl), (Nat.le_of_ble_eq_true rfl)⟩ rfl hl.1 rfl (Nat.le_of_ble_eq_true rfl) dX0_takeBidOf_71 (fun H locs hw => ?_)
    refine lv_if_ne (tgt := 127) hx hb dX0_takeBidOf_74 (by decide) (fun h5 => ?_) (fun h5 => ?_)
    · have hf := it_f h5 hf
      obtain rfl := Option.some.inj hf
      exact qt_v C hr hlocks hw dX0_takeBidOf_127
    · have hf := it_t h5 hf
      refine lv_aload_n hx hb dX0_takeBidOf_77 rfl (lv_at hl 1 rfl) ?_
      refine cg_0_103 C hw dX0_takeBidOf_78 ?_
      refine lv_iload_n hx hb dX0_takeBidOf_81 rfl (lv_at hl 0 rfl) ?_
      refine lv_iconst (v := 1) hx hb dX0_takeBidOf_82 ic_1 ?_
      refine lv_iadd hx hb dX0_takeBidOf_83 ?_
      refine ct_SN1 (rest := []) C hw hA (kX8_isIn l D cI cB cS _ _ _) cfX8_isIn tn_21 tg_381 ⟨(Nat.le_of_ble_eq_true rfl), (Nat.le_of_ble_eq_true rfl)⟩ ⟨(Nat.le_of_ble_eq_true rfl), (Nat.le_of_ble_eq_true rfl)⟩ rfl hl.1 rfl (Nat.le_of_ble_eq_true rfl) dX0_takeBidOf_84 (fun H locs hw => ?_)
      refine lv_if_ne (tgt := 127) hx hb dX0_takeBidOf_87 (by decide) (fun h6 => ?_) (fun h6 => ?_)
      · have hf := it_f h6 hf
        obtain rfl := Option.some.inj hf
        exact qt_v C hr hlocks hw dX0_takeBidOf_127
      · have hf := it_t h6 hf
        refine lv_aload_n hx hb dX0_takeBidOf_90 rfl (lv_at hl 1 rfl) ?_
        refine lv_dup hx hb dX0_takeBidOf_91 rfl ?_
        refine cg_0_103 C hw dX0_takeBidOf_92 ?_
        refine lv_iconst (v := 1) hx hb dX0_takeBidOf_95 ic_1 ?_
        refine lv_iload_n hx hb dX0_takeBidOf_96 rfl (lv_at hl 0 rfl) ?_
        refine lv_ishl hx hb dX0_takeBidOf_97 ?_
        refine lv_iconst (v := (-1)) hx hb dX0_takeBidOf_98 ic_m1 ?_
        refine lv_ixor hx hb dX0_takeBidOf_99 ?_
        refine lv_iand hx hb dX0_takeBidOf_100 ?_
        refine cp_0_103 C hw dX0_takeBidOf_101 (fun H locs hw => ?_)
        refine lv_aload_n hx hb dX0_takeBidOf_104 rfl (lv_at hl 1 rfl) ?_
        refine lv_dup hx hb dX0_takeBidOf_105 rfl ?_
        refine cg_0_103 C hw dX0_takeBidOf_106 ?_
        refine lv_iconst (v := 1) hx hb dX0_takeBidOf_109 ic_1 ?_
        refine lv_iload_n hx hb dX0_takeBidOf_110 rfl (lv_at hl 0 rfl) ?_
        refine lv_iconst (v := 1) hx hb dX0_takeBidOf_111 ic_1 ?_
        refine lv_iadd hx hb dX0_takeBidOf_112 ?_
        refine lv_ishl hx hb dX0_takeBidOf_113 ?_
        refine lv_ior hx hb dX0_takeBidOf_114 ?_
        refine cp_0_103 C hw dX0_takeBidOf_115 (fun H locs hw => ?_)
        refine lv_aload_n hx hb dX0_takeBidOf_118 rfl (lv_at hl 1 rfl) ?_
        refine cg_0_9 C hw dX0_takeBidOf_119 ?_
        refine lv_iload_n hx hb dX0_takeBidOf_122 rfl (lv_at hl 2 rfl) ?_
        refine lv_iload_n hx hb dX0_takeBidOf_123 rfl (lv_at hl 0 rfl) ?_
        refine lv_iconst (v := 1) hx hb dX0_takeBidOf_124 ic_1 ?_
        refine lv_iadd hx hb dX0_takeBidOf_125 ?_
        obtain ⟨g7, hf⟩ := gd_inv hf
        refine cs_12 C hw g7 dX0_takeBidOf_126 (fun H locs hw => ?_)
        obtain rfl := Option.some.inj hf
        exact qt_v C hr hlocks hw dX0_takeBidOf_127
  · have hf := it_f h3 hf
    refine lv_aload_n hx hb dX0_takeBidOf_28 rfl (lv_at hl 0 rfl) ?_
    refine cg_0_24 C hw dX0_takeBidOf_29 ?_
    refine lv_aload_n hx hb dX0_takeBidOf_32 rfl (lv_at hl 0 rfl) ?_
    refine cg_0_74 C hw dX0_takeBidOf_33 ?_
    refine lv_bipush (v := 100) hx hb dX0_takeBidOf_36 ib_100 ?_
    refine lv_aload_n hx hb dX0_takeBidOf_38 rfl (lv_at hl 0 rfl) ?_
    refine cg_0_68 C hw dX0_takeBidOf_39 ?_
    refine lv_imul hx hb dX0_takeBidOf_42 ?_
    refine lv_iload_n hx hb dX0_takeBidOf_43 rfl (lv_at hl 1 rfl) ?_
    refine lv_iadd hx hb dX0_takeBidOf_44 ?_
    obtain ⟨g8, hf⟩ := gd_inv hf
    refine cs_16 C hw g8 dX0_takeBidOf_45 (fun H locs hw => ?_)
    refine lv_aload_n hx hb dX0_takeBidOf_46 rfl (lv_at hl 0 rfl) ?_
    refine lv_dup hx hb dX0_takeBidOf_47 rfl ?_
    refine cg_0_74 C hw dX0_takeBidOf_48 ?_
    refine lv_iconst (v := 1) hx hb dX0_takeBidOf_51 ic_1 ?_
    refine lv_iadd hx hb dX0_takeBidOf_52 ?_
    refine cp_0_74 C hw dX0_takeBidOf_53 (fun H locs hw => ?_)
    refine lv_aload_n hx hb dX0_takeBidOf_56 rfl (lv_at hl 0 rfl) ?_
    refine cg_0_9 C hw dX0_takeBidOf_57 ?_
    refine lv_iload_n hx hb dX0_takeBidOf_60 rfl (lv_at hl 1 rfl) ?_
    obtain ⟨g9, hf⟩ := gd_inv hf
    refine cl_12 C hw g9 dX0_takeBidOf_61 ?_
    refine lv_istore_n (lv' := [(2, .int ((u2 (u2 (u2 (u2 M 11 4 ((M 11 4) + r1)) 11 5 p1) 16 ((u2 (u2 M 11 4 ((M 11 4) + r1)) 11 5 p1) 11 6).toNatClampNeg ((100 * ((u2 (u2 M 11 4 ((M 11 4) + r1)) 11 5 p1) 11 4)) + p1)) 11 6 (((u2 (u2 (u2 M 11 4 ((M 11 4) + r1)) 11 5 p1) 16 ((u2 (u2 M 11 4 ((M 11 4) + r1)) 11 5 p1) 11 6).toNatClampNeg ((100 * ((u2 (u2 M 11 4 ((M 11 4) + r1)) 11 5 p1) 11 4)) + p1)) 11 6) + 1)) 12 p1.toNatClampNeg)), (0, .ref (ad 13)), (1, .int p1)]) hx hb dX0_takeBidOf_62 rfl hl (by decide) rfl (fun ls hl => ?_)
    refine lv_aload_n hx hb dX0_takeBidOf_63 rfl (lv_at hl 1 rfl) ?_
    refine cg_0_27 C hw dX0_takeBidOf_64 ?_
    refine cg_0_116 C hw dX0_takeBidOf_67 ?_
    refine lv_iload_n hx hb dX0_takeBidOf_70 rfl (lv_at hl 0 rfl) ?_
    refine ct_SN1 (rest := []) C hw hA (kX8_isIn l D cI cB cS _ _ _) cfX8_isIn tn_21 tg_381 ⟨(Nat.le_of_ble_eq_true rfl), (Nat.le_of_ble_eq_true rfl)⟩ ⟨(Nat.le_of_ble_eq_true rfl), (Nat.le_of_ble_eq_true rfl)⟩ rfl hl.1 rfl (Nat.le_of_ble_eq_true rfl) dX0_takeBidOf_71 (fun H locs hw => ?_)
    refine lv_if_ne (tgt := 127) hx hb dX0_takeBidOf_74 (by decide) (fun h10 => ?_) (fun h10 => ?_)
    · have hf := it_f h10 hf
      obtain rfl := Option.some.inj hf
      exact qt_v C hr hlocks hw dX0_takeBidOf_127
    · have hf := it_t h10 hf
      refine lv_aload_n hx hb dX0_takeBidOf_77 rfl (lv_at hl 1 rfl) ?_
      refine cg_0_103 C hw dX0_takeBidOf_78 ?_
      refine lv_iload_n hx hb dX0_takeBidOf_81 rfl (lv_at hl 0 rfl) ?_
      refine lv_iconst (v := 1) hx hb dX0_takeBidOf_82 ic_1 ?_
      refine lv_iadd hx hb dX0_takeBidOf_83 ?_
      refine ct_SN1 (rest := []) C hw hA (kX8_isIn l D cI cB cS _ _ _) cfX8_isIn tn_21 tg_381 ⟨(Nat.le_of_ble_eq_true rfl), (Nat.le_of_ble_eq_true rfl)⟩ ⟨(Nat.le_of_ble_eq_true rfl), (Nat.le_of_ble_eq_true rfl)⟩ rfl hl.1 rfl (Nat.le_of_ble_eq_true rfl) dX0_takeBidOf_84 (fun H locs hw => ?_)
      refine lv_if_ne (tgt := 127) hx hb dX0_takeBidOf_87 (by decide) (fun h11 => ?_) (fun h11 => ?_)
      · have hf := it_f h11 hf
        obtain rfl := Option.some.inj hf
        exact qt_v C hr hlocks hw dX0_takeBidOf_127
      · have hf := it_t h11 hf
        refine lv_aload_n hx hb dX0_takeBidOf_90 rfl (lv_at hl 1 rfl) ?_
        refine lv_dup hx hb dX0_takeBidOf_91 rfl ?_
        refine cg_0_103 C hw dX0_takeBidOf_92 ?_
        refine lv_iconst (v := 1) hx hb dX0_takeBidOf_95 ic_1 ?_
        refine lv_iload_n hx hb dX0_takeBidOf_96 rfl (lv_at hl 0 rfl) ?_
        refine lv_ishl hx hb dX0_takeBidOf_97 ?_
        refine lv_iconst (v := (-1)) hx hb dX0_takeBidOf_98 ic_m1 ?_
        refine lv_ixor hx hb dX0_takeBidOf_99 ?_
        refine lv_iand hx hb dX0_takeBidOf_100 ?_
        refine cp_0_103 C hw dX0_takeBidOf_101 (fun H locs hw => ?_)
        refine lv_aload_n hx hb dX0_takeBidOf_104 rfl (lv_at hl 1 rfl) ?_
        refine lv_dup hx hb dX0_takeBidOf_105 rfl ?_
        refine cg_0_103 C hw dX0_takeBidOf_106 ?_
        refine lv_iconst (v := 1) hx hb dX0_takeBidOf_109 ic_1 ?_
        refine lv_iload_n hx hb dX0_takeBidOf_110 rfl (lv_at hl 0 rfl) ?_
        refine lv_iconst (v := 1) hx hb dX0_takeBidOf_111 ic_1 ?_
        refine lv_iadd hx hb dX0_takeBidOf_112 ?_
        refine lv_ishl hx hb dX0_takeBidOf_113 ?_
        refine lv_ior hx hb dX0_takeBidOf_114 ?_
        refine cp_0_103 C hw dX0_takeBidOf_115 (fun H locs hw => ?_)
        refine lv_aload_n hx hb dX0_takeBidOf_118 rfl (lv_at hl 1 rfl) ?_
        refine cg_0_9 C hw dX0_takeBidOf_119 ?_
        refine lv_iload_n hx hb dX0_takeBidOf_122 rfl (lv_at hl 2 rfl) ?_
        refine lv_iload_n hx hb dX0_takeBidOf_123 rfl (lv_at hl 0 rfl) ?_
        refine lv_iconst (v := 1) hx hb dX0_takeBidOf_124 ic_1 ?_
        refine lv_iadd hx hb dX0_takeBidOf_125 ?_
        obtain ⟨g12, hf⟩ := gd_inv hf
        refine cs_12 C hw g12 dX0_takeBidOf_126 (fun H locs hw => ?_)
        obtain rfl := Option.some.inj hf
        exact qt_v C hr hlocks hw dX0_takeBidOf_127
theorem cfX0_hold : cf yX0_hold cX0_hold 3 none 0 := ⟨tg_393, by decide +kernel, tg_5⟩
set_option maxHeartbeats 4000000 in
theorem wX0_hold_33 {p : Program} {l : Launch} {e : Env} {s : State} {m : MethodId} {args : Array Value} {below : List Frame} {meth : Method} {c : Code} {D : va_G} {cI cB cS : ClassId} {n : Nat} {ad : Nat → Nat} {bf : Nat → Option Nat} {ws0 : va_W} (C : cx p c cX0_hold 3 s args m RX0 D cI cB cS) (hr : meth.sig.returnType = none) (hlocks : meth.locks = false) (hA : ∀ q, s.heap.size ≤ q → va_A ws0 s.heap.size q) {k : MS → Option MS} {q : MS}
    (hcg : bok n ad bf) : ∀ (fu : Nat) (v1 : Int32) (M : MS) (H : Heap) (locs : List Loc) (ls : Array Slot), wd D (va_A ws0 s.heap.size) s.heap (cW cI cB cS n ad bf M) H locs → lv_has ls 3 [(0, .ref (ad 13)), (1, .int v1)] → fX0_hold_33 n fu k v1 M = some q →
    (∀  (M1 : MS) (H : Heap) (locs : List Loc) (ls : Array Slot), wd D (va_A ws0 s.heap.size) s.heap (cW cI cB cS n ad bf M1) H locs → lv_has ls 3 [] → k  M1 = some q → W p l e { frames := 3, cells := 0, slots := 0, locals := 65 } s m args below meth c H locs 0 0 (Qt D below args s ws0 none (cW cI cB cS n ad bf q)) (F0 m 64 ls [])) →
    W p l e { frames := 3, cells := 0, slots := 0, locals := 65 } s m args below meth c H locs 0 0 (Qt D below args s ws0 none (cW cI cB cS n ad bf q)) (F0 m 33 ls []) := by
  have hx := C.1
  have hb := C.2.1
  intro fu
  induction fu with
  | zero => intro v1 M H locs ls hw hl hf hk; rw [fX0_hold_33] at hf; cases hf
  | succ fu ih =>
      intro v1 M H locs ls hw hl hf hk
      rw [fX0_hold_33] at hf
      refine lv_iload_n hx hb dX0_hold_33 rfl (lv_at hl 1 rfl) ?_
      refine lv_bipush (v := 99) hx hb dX0_hold_34 ib_99 ?_
      refine lv_icmp_ge (tgt := 64) hx hb dX0_hold_36 (by decide) (fun h3 => ?_) (fun h3 => ?_)
      · have hf := it_t h3 hf
        exact hk _ _ _ _ hw (lv_sub hl [] rfl) hf
      · have hf := it_f h3 hf
        refine lv_aload_n hx hb dX0_hold_39 rfl (lv_at hl 0 rfl) ?_
        obtain ⟨r4, e5, hf⟩ := bd hf
        refine ct_V1 (q0 := 13) (ci := 0) (rest := []) C hw hA (kX0_nextBidder l D cI cB cS n ad bf hcg e5) cfX0_nextBidder tg_402 tg_404 ts_yX0_nextBidder ⟨(Nat.le_of_ble_eq_true rfl), (Nat.le_of_ble_eq_true rfl)⟩ ⟨(Nat.le_of_ble_eq_true rfl), (Nat.le_of_ble_eq_true rfl)⟩ rfl rfl rfl rfl hl.1 rfl (Nat.le_of_ble_eq_true rfl) dX0_hold_40 (fun H locs hw => ?_)
        refine lv_istore_n (lv' := [(2, .int r4), (0, .ref (ad 13)), (1, .int v1)]) hx hb dX0_hold_43 rfl hl (by decide) rfl (fun ls hl => ?_)
        refine lv_iload_n hx hb dX0_hold_44 rfl (lv_at hl 0 rfl) ?_
        refine lv_bipush (v := (-9)) hx hb dX0_hold_45 ib_m9 ?_
        refine lv_icmp_ne (tgt := 53) hx hb dX0_hold_47 (by decide) (fun h6 => ?_) (fun h6 => ?_)
        · have hf := it_f h6 hf
          refine lv_aload_n hx hb dX0_hold_53 rfl (lv_at hl 1 rfl) ?_
          refine lv_iload_n hx hb dX0_hold_54 rfl (lv_at hl 0 rfl) ?_
          obtain ⟨r7, e8, hf⟩ := bd hf
          refine ct_V0 (q0 := 13) (ci := 0) (rest := []) C hw hA (kX0_takeBidOf l D cI cB cS n ad bf hcg e8) cfX0_takeBidOf tg_414 tg_416 ts_yX0_takeBidOf ⟨(Nat.le_of_ble_eq_true rfl), (Nat.le_of_ble_eq_true rfl)⟩ ⟨(Nat.le_of_ble_eq_true rfl), (Nat.le_of_ble_eq_true rfl)⟩ rfl rfl rfl rfl hl.1 rfl (Nat.le_of_ble_eq_true rfl) dX0_hold_55 (fun H locs hw => ?_)
          refine lv_iinc (v := (v1 + 1)) (lv' := [(1, .int (v1 + 1)), (2, .int r4), (0, .ref (ad 13))]) hx hb dX0_hold_58 hl (k := 2) rfl (iv_1 _) (by decide) rfl (fun ls hl => ?_)
          refine lv_goto (tgt := 33) hx hb dX0_hold_61 (by decide) ?_
          exact ih _ _ _ _ _ hw (lv_sub hl [2, 0] rfl) hf hk
        · have hf := it_t h6 hf
          refine lv_goto (tgt := 64) hx hb dX0_hold_50 (by decide) ?_
          exact hk _ _ _ _ hw (lv_sub hl [] rfl) hf
set_option maxHeartbeats 4000000 in
theorem kX0_hold (l : Launch) (D : va_G) (cI cB cS : ClassId) (n : Nat) (ad : Nat → Nat) (bf : Nat → Option Nat) (hcg : bok n ad bf) {M : MS} {q : MS} (hf : fX0_hold n M = some q) : Ct l D cI cB cS yX0_hold cX0_hold 3 none 3 65 [.ref (ad 13)] (cW cI cB cS n ad bf M) none (cW cI cB cS n ad bf q) := by
  refine Ct.ofW (by decide) (Nat.le_of_ble_eq_true rfl) ?_
  intro p e s m args below meth c ls C hr hlocks _ hw hl
  have hx := C.1
  have hb := C.2.1
  have hA : ∀ q, s.heap.size ≤ q → va_A (cW cI cB cS n ad bf M) s.heap.size q := fun q h => Or.inr h
  have hl : lv_has ls 3 [(0, .ref (ad 13))] := hl
  unfold fX0_hold at hf
  refine lv_aload_n hx hb dX0_hold_0 rfl (lv_at hl 0 rfl) ?_
  refine lv_iconst (v := 0) hx hb dX0_hold_1 ic_0 ?_
  refine cp_0_68 C hw dX0_hold_2 (fun H locs hw => ?_)
  refine lv_aload_n hx hb dX0_hold_5 rfl (lv_at hl 0 rfl) ?_
  refine lv_bipush (v := (-9)) hx hb dX0_hold_6 ib_m9 ?_
  refine cp_0_71 C hw dX0_hold_8 (fun H locs hw => ?_)
  refine lv_aload_n hx hb dX0_hold_11 rfl (lv_at hl 0 rfl) ?_
  refine lv_iconst (v := 0) hx hb dX0_hold_12 ic_0 ?_
  refine cp_0_74 C hw dX0_hold_13 (fun H locs hw => ?_)
  refine lv_aload_n hx hb dX0_hold_16 rfl (lv_at hl 0 rfl) ?_
  refine lv_aload_n hx hb dX0_hold_17 rfl (lv_at hl 0 rfl) ?_
  refine cg_0_27 C hw dX0_hold_18 ?_
  refine ct_V1 (q0 := 11) (ci := 5) (rest := [.ref (ad 13)]) C hw hA (kX5_seatsTwice l D cI cB cS n ad bf hcg _) cfX5_seatsTwice tg_394 tg_395 tg_396 ⟨(Nat.le_of_ble_eq_true rfl), (Nat.le_of_ble_eq_true rfl)⟩ ⟨(Nat.le_of_ble_eq_true rfl), (Nat.le_of_ble_eq_true rfl)⟩ rfl rfl rfl rfl hl.1 rfl (Nat.le_of_ble_eq_true rfl) dX0_hold_21 (fun H locs hw => ?_)
  refine cp_0_81 C hw dX0_hold_24 (fun H locs hw => ?_)
  refine lv_aload_n hx hb dX0_hold_27 rfl (lv_at hl 0 rfl) ?_
  obtain ⟨r1, e2, hf⟩ := bd hf
  refine ct_V0 (q0 := 13) (ci := 0) (rest := []) C hw hA (kX0_lineUp l D cI cB cS n ad bf hcg e2) cfX0_lineUp tg_398 tg_400 ts_yX0_lineUp ⟨(Nat.le_of_ble_eq_true rfl), (Nat.le_of_ble_eq_true rfl)⟩ ⟨(Nat.le_of_ble_eq_true rfl), (Nat.le_of_ble_eq_true rfl)⟩ rfl rfl rfl rfl hl.1 rfl (Nat.le_of_ble_eq_true rfl) dX0_hold_28 (fun H locs hw => ?_)
  refine lv_iconst (v := 0) hx hb dX0_hold_31 ic_0 ?_
  refine lv_istore_n (lv' := [(1, .int 0), (0, .ref (ad 13))]) hx hb dX0_hold_32 rfl hl (by decide) rfl (fun ls hl => ?_)
  refine wX0_hold_33 C hr hlocks hA hcg 300 _ _ _ _ _ hw (lv_sub hl [1, 0] rfl) hf (fun M9 H locs ls hw hl hf => ?_)
  obtain rfl := Option.some.inj hf
  exact qt_v C hr hlocks hw dX0_hold_64
theorem cfX0_sellOn : cf yX0_sellOn cX0_sellOn 2 (some .int) 1 := ⟨tg_445, by decide +kernel, tg_5⟩
set_option maxHeartbeats 4000000 in
theorem kX0_sellOn (l : Launch) (D : va_G) (cI cB cS : ClassId) (n : Nat) (ad : Nat → Nat) (bf : Nat → Option Nat) (hcg : bok n ad bf) {p1 : Int32} {M : MS} {q : (Int32 × MS)} (hf : fX0_sellOn n p1 M = some q) : Ct l D cI cB cS yX0_sellOn cX0_sellOn 2 (some .int) 4 87 [.ref (ad 13), .int p1] (cW cI cB cS n ad bf M) (some (.int q.1)) (cW cI cB cS n ad bf q.2) := by
  refine Ct.ofW (by decide) (Nat.le_of_ble_eq_true rfl) ?_
  intro p e s m args below meth c ls C hr hlocks _ hw hl
  have hx := C.1
  have hb := C.2.1
  have hA : ∀ q, s.heap.size ≤ q → va_A (cW cI cB cS n ad bf M) s.heap.size q := fun q h => Or.inr h
  have hl : lv_has ls 2 [(0, .ref (ad 13)), (1, .int p1)] := hl
  unfold fX0_sellOn at hf
  refine lv_aload_n hx hb dX0_sellOn_0 rfl (lv_at hl 0 rfl) ?_
  refine lv_iload_n hx hb dX0_sellOn_1 rfl (lv_at hl 1 rfl) ?_
  obtain ⟨r1, e2, hf⟩ := bd hf
  refine ct_V0 (q0 := 13) (ci := 0) (rest := []) C hw hA (kX0_offer l D cI cB cS n ad bf hcg e2) cfX0_offer tg_446 tg_385 tg_386 ⟨(Nat.le_of_ble_eq_true rfl), (Nat.le_of_ble_eq_true rfl)⟩ ⟨(Nat.le_of_ble_eq_true rfl), (Nat.le_of_ble_eq_true rfl)⟩ rfl rfl rfl rfl hl.1 rfl (Nat.le_of_ble_eq_true rfl) dX0_sellOn_2 (fun H locs hw => ?_)
  refine lv_aload_n hx hb dX0_sellOn_5 rfl (lv_at hl 0 rfl) ?_
  obtain ⟨r3, e4, hf⟩ := bd hf
  refine ct_V0 (q0 := 13) (ci := 0) (rest := []) C hw hA (kX0_hold l D cI cB cS n ad bf hcg e4) cfX0_hold tg_447 tg_391 tg_392 ⟨(Nat.le_of_ble_eq_true rfl), (Nat.le_of_ble_eq_true rfl)⟩ ⟨(Nat.le_of_ble_eq_true rfl), (Nat.le_of_ble_eq_true rfl)⟩ rfl rfl rfl rfl hl.1 rfl (Nat.le_of_ble_eq_true rfl) dX0_sellOn_6 (fun H locs hw => ?_)
  refine lv_aload_n hx hb dX0_sellOn_9 rfl (lv_at hl 0 rfl) ?_
  refine cg_0_71 C hw dX0_sellOn_10 ?_
  refine lv_bipush (v := (-9)) hx hb dX0_sellOn_13 ib_m9 ?_
  refine lv_icmp_eq (tgt := 34) hx hb dX0_sellOn_15 (by decide) (fun h5 => ?_) (fun h5 => ?_)
  · have hf := it_t h5 hf
    refine lv_aload_n hx hb dX0_sellOn_34 rfl (lv_at hl 0 rfl) ?_
    refine cg_0_68 C hw dX0_sellOn_35 ?_
    obtain rfl := Option.some.inj hf
    exact qt_i C hr hlocks hw dX0_sellOn_38
  · have hf := it_f h5 hf
    refine lv_aload_n hx hb dX0_sellOn_18 rfl (lv_at hl 0 rfl) ?_
    refine cg_0_15 C hw dX0_sellOn_19 ?_
    refine lv_aload_n hx hb dX0_sellOn_22 rfl (lv_at hl 0 rfl) ?_
    refine cg_0_71 C hw dX0_sellOn_23 ?_
    refine lv_dup2_11 hx hb dX0_sellOn_26 rfl rfl ?_
    obtain ⟨g6, hf⟩ := gd_inv hf
    refine cl_13 C hw g6 dX0_sellOn_27 ?_
    refine lv_aload_n hx hb dX0_sellOn_28 rfl (lv_at hl 0 rfl) ?_
    refine cg_0_68 C hw dX0_sellOn_29 ?_
    refine lv_isub hx hb dX0_sellOn_32 ?_
    obtain ⟨g7, hf⟩ := gd_inv hf
    refine cs_13 C hw g7 dX0_sellOn_33 (fun H locs hw => ?_)
    refine lv_aload_n hx hb dX0_sellOn_34 rfl (lv_at hl 0 rfl) ?_
    refine cg_0_68 C hw dX0_sellOn_35 ?_
    obtain rfl := Option.some.inj hf
    exact qt_i C hr hlocks hw dX0_sellOn_38
theorem cfX0_bidOf : cf yX0_bidOf cX0_bidOf 2 (some .int) 1 := ⟨tg_425, by decide +kernel, tg_5⟩
set_option maxHeartbeats 4000000 in
theorem kX0_bidOf (l : Launch) (D : va_G) (cI cB cS : ClassId) (n : Nat) (ad : Nat → Nat) (bf : Nat → Option Nat) (hcg : bok n ad bf) {p1 : Int32} {M : MS} {q : Int32} (hf : fX0_bidOf n p1 M = some q) : Ct l D cI cB cS yX0_bidOf cX0_bidOf 2 (some .int) 0 0 [.ref (ad 13), .int p1] (cW cI cB cS n ad bf M) (some (.int q)) (cW cI cB cS n ad bf M) := by
  refine Ct.ofW (by decide) (Nat.le_of_ble_eq_true rfl) ?_
  intro p e s m args below meth c ls C hr hlocks _ hw hl
  have hx := C.1
  have hb := C.2.1
  have hA : ∀ q, s.heap.size ≤ q → va_A (cW cI cB cS n ad bf M) s.heap.size q := fun q h => Or.inr h
  have hl : lv_has ls 2 [(0, .ref (ad 13)), (1, .int p1)] := hl
  unfold fX0_bidOf at hf
  refine lv_iload_n hx hb dX0_bidOf_0 rfl (lv_at hl 1 rfl) ?_
  refine lv_if_lt (tgt := 27) hx hb dX0_bidOf_1 (by decide) (fun h1 => ?_) (fun h1 => ?_)
  · have hf := it_t h1 hf
    refine lv_bipush (v := (-9)) hx hb dX0_bidOf_27 ib_m9 ?_
    obtain rfl := Option.some.inj hf
    exact qt_i C hr hlocks hw dX0_bidOf_29
  · have hf := it_f h1 hf
    refine lv_iload_n hx hb dX0_bidOf_4 rfl (lv_at hl 1 rfl) ?_
    refine lv_aload_n hx hb dX0_bidOf_5 rfl (lv_at hl 0 rfl) ?_
    refine cg_0_74 C hw dX0_bidOf_6 ?_
    refine lv_icmp_ge (tgt := 27) hx hb dX0_bidOf_9 (by decide) (fun h2 => ?_) (fun h2 => ?_)
    · have hf := it_t h2 hf
      refine lv_bipush (v := (-9)) hx hb dX0_bidOf_27 ib_m9 ?_
      obtain rfl := Option.some.inj hf
      exact qt_i C hr hlocks hw dX0_bidOf_29
    · have hf := it_f h2 hf
      refine lv_iload_n hx hb dX0_bidOf_12 rfl (lv_at hl 1 rfl) ?_
      refine lv_bipush (v := 99) hx hb dX0_bidOf_13 ib_99 ?_
      refine lv_icmp_ge (tgt := 27) hx hb dX0_bidOf_15 (by decide) (fun h3 => ?_) (fun h3 => ?_)
      · have hf := it_t h3 hf
        refine lv_bipush (v := (-9)) hx hb dX0_bidOf_27 ib_m9 ?_
        obtain rfl := Option.some.inj hf
        exact qt_i C hr hlocks hw dX0_bidOf_29
      · have hf := it_f h3 hf
        refine lv_aload_n hx hb dX0_bidOf_18 rfl (lv_at hl 0 rfl) ?_
        refine cg_0_24 C hw dX0_bidOf_19 ?_
        refine lv_iload_n hx hb dX0_bidOf_22 rfl (lv_at hl 1 rfl) ?_
        obtain ⟨g4, hf⟩ := gd_inv hf
        refine cl_16 C hw g4 dX0_bidOf_23 ?_
        refine lv_goto (tgt := 29) hx hb dX0_bidOf_24 (by decide) ?_
        obtain rfl := Option.some.inj hf
        exact qt_i C hr hlocks hw dX0_bidOf_29
theorem cfX2_write : cf yX2_write cX2_write 3 none 2 := ⟨tg_506, by decide +kernel, tg_6⟩
set_option maxHeartbeats 4000000 in
theorem kX2_write (l : Launch) (D : va_G) (cI cB cS : ClassId) (n : Nat) (ad : Nat → Nat) (bf : Nat → Option Nat) (hcg : bok n ad bf) {p1 : Int32} {p2 : Int32} {M : MS} {q : MS} (hf : fX2_write n p1 p2 M = some q) : Ct l D cI cB cS yX2_write cX2_write 3 none 0 0 [.ref (ad 19), .int p1, .int p2] (cW cI cB cS n ad bf M) none (cW cI cB cS n ad bf q) := by
  refine Ct.ofW (by decide) (Nat.le_of_ble_eq_true rfl) ?_
  intro p e s m args below meth c ls C hr hlocks _ hw hl
  have hx := C.1
  have hb := C.2.1
  have hA : ∀ q, s.heap.size ≤ q → va_A (cW cI cB cS n ad bf M) s.heap.size q := fun q h => Or.inr h
  have hl : lv_has ls 3 [(0, .ref (ad 19)), (1, .int p1), (2, .int p2)] := hl
  unfold fX2_write at hf
  refine lv_aload_n hx hb dX2_write_0 rfl (lv_at hl 0 rfl) ?_
  refine cg_2_18 C hw dX2_write_1 ?_
  refine lv_bipush (v := 6) hx hb dX2_write_4 ib_6 ?_
  refine lv_icmp_ge (tgt := 39) hx hb dX2_write_6 (by decide) (fun h1 => ?_) (fun h1 => ?_)
  · have hf := it_t h1 hf
    obtain rfl := Option.some.inj hf
    exact qt_v C hr hlocks hw dX2_write_39
  · have hf := it_f h1 hf
    refine lv_aload_n hx hb dX2_write_9 rfl (lv_at hl 0 rfl) ?_
    refine cg_2_9 C hw dX2_write_10 ?_
    refine lv_aload_n hx hb dX2_write_13 rfl (lv_at hl 0 rfl) ?_
    refine cg_2_18 C hw dX2_write_14 ?_
    refine lv_iload_n hx hb dX2_write_17 rfl (lv_at hl 1 rfl) ?_
    obtain ⟨g2, hf⟩ := gd_inv hf
    refine cs_18 C hw g2 dX2_write_18 (fun H locs hw => ?_)
    refine lv_aload_n hx hb dX2_write_19 rfl (lv_at hl 0 rfl) ?_
    refine cg_2_15 C hw dX2_write_20 ?_
    refine lv_aload_n hx hb dX2_write_23 rfl (lv_at hl 0 rfl) ?_
    refine cg_2_18 C hw dX2_write_24 ?_
    refine lv_iload_n hx hb dX2_write_27 rfl (lv_at hl 2 rfl) ?_
    obtain ⟨g3, hf⟩ := gd_inv hf
    refine cs_19 C hw g3 dX2_write_28 (fun H locs hw => ?_)
    refine lv_aload_n hx hb dX2_write_29 rfl (lv_at hl 0 rfl) ?_
    refine lv_dup hx hb dX2_write_30 rfl ?_
    refine cg_2_18 C hw dX2_write_31 ?_
    refine lv_iconst (v := 1) hx hb dX2_write_34 ic_1 ?_
    refine lv_iadd hx hb dX2_write_35 ?_
    refine cp_2_18 C hw dX2_write_36 (fun H locs hw => ?_)
    obtain rfl := Option.some.inj hf
    exact qt_v C hr hlocks hw dX2_write_39
theorem cfX2_keepOnly : cf yX2_keepOnly cX2_keepOnly 2 none 1 := ⟨tg_288, by decide +kernel, tg_6⟩
set_option maxHeartbeats 4000000 in
theorem kX2_keepOnly (l : Launch) (D : va_G) (cI cB cS : ClassId) (n : Nat) (ad : Nat → Nat) (bf : Nat → Option Nat) (hcg : bok n ad bf) (p1 : Int32) (M : MS) : Ct l D cI cB cS yX2_keepOnly cX2_keepOnly 2 none 0 0 [.ref (ad 19), .int p1] (cW cI cB cS n ad bf M) none (cW cI cB cS n ad bf (fX2_keepOnly n p1 M)) := by
  obtain ⟨q, hf⟩ : ∃ q, fX2_keepOnly n p1 M = q := ⟨_, rfl⟩
  rw [hf]
  refine Ct.ofW (by decide) (Nat.le_of_ble_eq_true rfl) ?_
  intro p e s m args below meth c ls C hr hlocks _ hw hl
  have hx := C.1
  have hb := C.2.1
  have hA : ∀ q, s.heap.size ≤ q → va_A (cW cI cB cS n ad bf M) s.heap.size q := fun q h => Or.inr h
  have hl : lv_has ls 2 [(0, .ref (ad 19)), (1, .int p1)] := hl
  unfold fX2_keepOnly at hf
  refine lv_aload_n hx hb dX2_keepOnly_0 rfl (lv_at hl 0 rfl) ?_
  refine lv_iload_n hx hb dX2_keepOnly_1 rfl (lv_at hl 1 rfl) ?_
  refine cp_2_18 C hw dX2_keepOnly_2 (fun H locs hw => ?_)
  subst hf
  exact qt_v C hr hlocks hw dX2_keepOnly_5
theorem cfX2_hasOf : cf yX2_hasOf cX2_hasOf 3 (some .boolean) 1 := ⟨tg_522, by decide +kernel, tg_6⟩
set_option maxHeartbeats 4000000 in
theorem wX2_hasOf_2 {p : Program} {l : Launch} {e : Env} {s : State} {m : MethodId} {args : Array Value} {below : List Frame} {meth : Method} {c : Code} {D : va_G} {cI cB cS : ClassId} {n : Nat} {ad : Nat → Nat} {bf : Nat → Option Nat} {ws0 : va_W} {v1 : Int32} {M : MS} (C : cx p c cX2_hasOf 3 s args m RX2 D cI cB cS) (hr : meth.sig.returnType = (some .boolean)) (hlocks : meth.locks = false) (hA : ∀ q, s.heap.size ≤ q → va_A ws0 s.heap.size q) {k : Unit → Option Int32} {q : Int32}
    (hcg : bok n ad bf) : ∀ (fu : Nat) (v2 : Int32) (H : Heap) (locs : List Loc) (ls : Array Slot), wd D (va_A ws0 s.heap.size) s.heap (cW cI cB cS n ad bf M) H locs → lv_has ls 3 [(0, .ref (ad 19)), (1, .int v1), (2, .int v2)] → fX2_hasOf_2 n fu k v1 v2 M = some q →
    (∀  (H : Heap) (locs : List Loc) (ls : Array Slot), wd D (va_A ws0 s.heap.size) s.heap (cW cI cB cS n ad bf M) H locs → lv_has ls 3 [] → k () = some q → W p l e { frames := 0, cells := 0, slots := 0, locals := 0 } s m args below meth c H locs 0 0 (Qt D below args s ws0 (some (.int q)) (cW cI cB cS n ad bf M)) (F0 m 34 ls [])) →
    W p l e { frames := 0, cells := 0, slots := 0, locals := 0 } s m args below meth c H locs 0 0 (Qt D below args s ws0 (some (.int q)) (cW cI cB cS n ad bf M)) (F0 m 2 ls []) := by
  have hx := C.1
  have hb := C.2.1
  intro fu
  induction fu with
  | zero => intro v2 H locs ls hw hl hf hk; rw [fX2_hasOf_2] at hf; cases hf
  | succ fu ih =>
      intro v2 H locs ls hw hl hf hk
      rw [fX2_hasOf_2] at hf
      refine lv_iload_n hx hb dX2_hasOf_2 rfl (lv_at hl 2 rfl) ?_
      refine lv_aload_n hx hb dX2_hasOf_3 rfl (lv_at hl 0 rfl) ?_
      refine cg_2_18 C hw dX2_hasOf_4 ?_
      refine lv_icmp_ge (tgt := 34) hx hb dX2_hasOf_7 (by decide) (fun h1 => ?_) (fun h1 => ?_)
      · have hf := it_t h1 hf
        exact hk  _ _ _ hw (lv_sub hl [] rfl) hf
      · have hf := it_f h1 hf
        refine lv_iload_n hx hb dX2_hasOf_10 rfl (lv_at hl 2 rfl) ?_
        refine lv_bipush (v := 6) hx hb dX2_hasOf_11 ib_6 ?_
        refine lv_icmp_ge (tgt := 34) hx hb dX2_hasOf_13 (by decide) (fun h2 => ?_) (fun h2 => ?_)
        · have hf := it_t h2 hf
          exact hk  _ _ _ hw (lv_sub hl [] rfl) hf
        · have hf := it_f h2 hf
          refine lv_aload_n hx hb dX2_hasOf_16 rfl (lv_at hl 0 rfl) ?_
          refine cg_2_9 C hw dX2_hasOf_17 ?_
          refine lv_iload_n hx hb dX2_hasOf_20 rfl (lv_at hl 2 rfl) ?_
          obtain ⟨g3, hf⟩ := gd_inv hf
          refine cl_18 C hw g3 dX2_hasOf_21 ?_
          refine lv_iload_n hx hb dX2_hasOf_22 rfl (lv_at hl 1 rfl) ?_
          refine lv_icmp_ne (tgt := 28) hx hb dX2_hasOf_23 (by decide) (fun h4 => ?_) (fun h4 => ?_)
          · have hf := it_f h4 hf
            refine lv_iinc (v := (v2 + 1)) (lv' := [(2, .int (v2 + 1)), (0, .ref (ad 19)), (1, .int v1)]) hx hb dX2_hasOf_28 hl (k := 2) rfl (iv_1 _) (by decide) rfl (fun ls hl => ?_)
            refine lv_goto (tgt := 2) hx hb dX2_hasOf_31 (by decide) ?_
            exact ih _ _ _ _ hw (lv_sub hl [1, 2, 0] rfl) hf hk
          · have hf := it_t h4 hf
            refine lv_iconst (v := 1) hx hb dX2_hasOf_26 ic_1 ?_
            obtain rfl := Option.some.inj hf
            exact qt_z C hr hlocks (Or.inr rfl) hw dX2_hasOf_27
set_option maxHeartbeats 4000000 in
theorem kX2_hasOf (l : Launch) (D : va_G) (cI cB cS : ClassId) (n : Nat) (ad : Nat → Nat) (bf : Nat → Option Nat) (hcg : bok n ad bf) {p1 : Int32} {M : MS} {q : Int32} (hf : fX2_hasOf n p1 M = some q) : Ct l D cI cB cS yX2_hasOf cX2_hasOf 3 (some .boolean) 0 0 [.ref (ad 19), .int p1] (cW cI cB cS n ad bf M) (some (.int q)) (cW cI cB cS n ad bf M) := by
  refine Ct.ofW (by decide) (Nat.le_of_ble_eq_true rfl) ?_
  intro p e s m args below meth c ls C hr hlocks _ hw hl
  have hx := C.1
  have hb := C.2.1
  have hA : ∀ q, s.heap.size ≤ q → va_A (cW cI cB cS n ad bf M) s.heap.size q := fun q h => Or.inr h
  have hl : lv_has ls 3 [(0, .ref (ad 19)), (1, .int p1)] := hl
  unfold fX2_hasOf at hf
  refine lv_iconst (v := 0) hx hb dX2_hasOf_0 ic_0 ?_
  refine lv_istore_n (lv' := [(2, .int 0), (0, .ref (ad 19)), (1, .int p1)]) hx hb dX2_hasOf_1 rfl hl (by decide) rfl (fun ls hl => ?_)
  refine wX2_hasOf_2 C hr hlocks hA hcg 300 _ _ _ _ hw (lv_sub hl [1, 2, 0] rfl) hf (fun  H locs ls hw hl hf => ?_)
  refine lv_iconst (v := 0) hx hb dX2_hasOf_34 ic_0 ?_
  obtain rfl := Option.some.inj hf
  exact qt_z C hr hlocks (Or.inl rfl) hw dX2_hasOf_35
theorem cfX2_agrees : cf yX2_agrees cX2_agrees 4 (some .boolean) 2 := ⟨tg_526, by decide +kernel, tg_6⟩
set_option maxHeartbeats 4000000 in
theorem wX2_agrees_2 {p : Program} {l : Launch} {e : Env} {s : State} {m : MethodId} {args : Array Value} {below : List Frame} {meth : Method} {c : Code} {D : va_G} {cI cB cS : ClassId} {n : Nat} {ad : Nat → Nat} {bf : Nat → Option Nat} {ws0 : va_W} {v1 : Int32} {v2 : Int32} {M : MS} (C : cx p c cX2_agrees 4 s args m RX2 D cI cB cS) (hr : meth.sig.returnType = (some .boolean)) (hlocks : meth.locks = false) (hA : ∀ q, s.heap.size ≤ q → va_A ws0 s.heap.size q) {k : Unit → Option Int32} {q : Int32}
    (hcg : bok n ad bf) : ∀ (fu : Nat) (v3 : Int32) (H : Heap) (locs : List Loc) (ls : Array Slot), wd D (va_A ws0 s.heap.size) s.heap (cW cI cB cS n ad bf M) H locs → lv_has ls 4 [(0, .ref (ad 19)), (1, .int v1), (2, .int v2), (3, .int v3)] → fX2_agrees_2 n fu k v1 v2 v3 M = some q →
    (∀  (H : Heap) (locs : List Loc) (ls : Array Slot), wd D (va_A ws0 s.heap.size) s.heap (cW cI cB cS n ad bf M) H locs → lv_has ls 4 [] → k () = some q → W p l e { frames := 0, cells := 0, slots := 0, locals := 0 } s m args below meth c H locs 0 0 (Qt D below args s ws0 (some (.int q)) (cW cI cB cS n ad bf M)) (F0 m 44 ls [])) →
    W p l e { frames := 0, cells := 0, slots := 0, locals := 0 } s m args below meth c H locs 0 0 (Qt D below args s ws0 (some (.int q)) (cW cI cB cS n ad bf M)) (F0 m 2 ls []) := by
  have hx := C.1
  have hb := C.2.1
  intro fu
  induction fu with
  | zero => intro v3 H locs ls hw hl hf hk; rw [fX2_agrees_2] at hf; cases hf
  | succ fu ih =>
      intro v3 H locs ls hw hl hf hk
      rw [fX2_agrees_2] at hf
      refine lv_iload_n hx hb dX2_agrees_2 rfl (lv_at hl 3 rfl) ?_
      refine lv_aload_n hx hb dX2_agrees_3 rfl (lv_at hl 0 rfl) ?_
      refine cg_2_18 C hw dX2_agrees_4 ?_
      refine lv_icmp_ge (tgt := 44) hx hb dX2_agrees_7 (by decide) (fun h1 => ?_) (fun h1 => ?_)
      · have hf := it_t h1 hf
        exact hk  _ _ _ hw (lv_sub hl [] rfl) hf
      · have hf := it_f h1 hf
        refine lv_iload_n hx hb dX2_agrees_10 rfl (lv_at hl 3 rfl) ?_
        refine lv_bipush (v := 6) hx hb dX2_agrees_11 ib_6 ?_
        refine lv_icmp_ge (tgt := 44) hx hb dX2_agrees_13 (by decide) (fun h2 => ?_) (fun h2 => ?_)
        · have hf := it_t h2 hf
          exact hk  _ _ _ hw (lv_sub hl [] rfl) hf
        · have hf := it_f h2 hf
          refine lv_aload_n hx hb dX2_agrees_16 rfl (lv_at hl 0 rfl) ?_
          refine cg_2_9 C hw dX2_agrees_17 ?_
          refine lv_iload_n hx hb dX2_agrees_20 rfl (lv_at hl 3 rfl) ?_
          obtain ⟨g3, hf⟩ := gd_inv hf
          refine cl_18 C hw g3 dX2_agrees_21 ?_
          refine lv_iload_n hx hb dX2_agrees_22 rfl (lv_at hl 1 rfl) ?_
          refine lv_icmp_ne (tgt := 38) hx hb dX2_agrees_23 (by decide) (fun h4 => ?_) (fun h4 => ?_)
          · have hf := it_f h4 hf
            refine lv_iinc (v := (v3 + 1)) (lv' := [(3, .int (v3 + 1)), (0, .ref (ad 19)), (1, .int v1), (2, .int v2)]) hx hb dX2_agrees_38 hl (k := 3) rfl (iv_1 _) (by decide) rfl (fun ls hl => ?_)
            refine lv_goto (tgt := 2) hx hb dX2_agrees_41 (by decide) ?_
            exact ih _ _ _ _ hw (lv_sub hl [1, 2, 3, 0] rfl) hf hk
          · have hf := it_t h4 hf
            refine lv_aload_n hx hb dX2_agrees_26 rfl (lv_at hl 0 rfl) ?_
            refine cg_2_15 C hw dX2_agrees_27 ?_
            refine lv_iload_n hx hb dX2_agrees_30 rfl (lv_at hl 3 rfl) ?_
            obtain ⟨g5, hf⟩ := gd_inv hf
            refine cl_19 C hw g5 dX2_agrees_31 ?_
            refine lv_iload_n hx hb dX2_agrees_32 rfl (lv_at hl 2 rfl) ?_
            refine lv_icmp_eq (tgt := 38) hx hb dX2_agrees_33 (by decide) (fun h6 => ?_) (fun h6 => ?_)
            · have hf := it_t h6 hf
              refine lv_iinc (v := (v3 + 1)) (lv' := [(3, .int (v3 + 1)), (0, .ref (ad 19)), (1, .int v1), (2, .int v2)]) hx hb dX2_agrees_38 hl (k := 3) rfl (iv_1 _) (by decide) rfl (fun ls hl => ?_)
              refine lv_goto (tgt := 2) hx hb dX2_agrees_41 (by decide) ?_
              exact ih _ _ _ _ hw (lv_sub hl [1, 2, 3, 0] rfl) hf hk
            · have hf := it_f h6 hf
              refine lv_iconst (v := 0) hx hb dX2_agrees_36 ic_0 ?_
              obtain rfl := Option.some.inj hf
              exact qt_z C hr hlocks (Or.inl rfl) hw dX2_agrees_37
set_option maxHeartbeats 4000000 in
theorem kX2_agrees (l : Launch) (D : va_G) (cI cB cS : ClassId) (n : Nat) (ad : Nat → Nat) (bf : Nat → Option Nat) (hcg : bok n ad bf) {p1 : Int32} {p2 : Int32} {M : MS} {q : Int32} (hf : fX2_agrees n p1 p2 M = some q) : Ct l D cI cB cS yX2_agrees cX2_agrees 4 (some .boolean) 0 0 [.ref (ad 19), .int p1, .int p2] (cW cI cB cS n ad bf M) (some (.int q)) (cW cI cB cS n ad bf M) := by
  refine Ct.ofW (by decide) (Nat.le_of_ble_eq_true rfl) ?_
  intro p e s m args below meth c ls C hr hlocks _ hw hl
  have hx := C.1
  have hb := C.2.1
  have hA : ∀ q, s.heap.size ≤ q → va_A (cW cI cB cS n ad bf M) s.heap.size q := fun q h => Or.inr h
  have hl : lv_has ls 4 [(0, .ref (ad 19)), (1, .int p1), (2, .int p2)] := hl
  unfold fX2_agrees at hf
  refine lv_iconst (v := 0) hx hb dX2_agrees_0 ic_0 ?_
  refine lv_istore_n (lv' := [(3, .int 0), (0, .ref (ad 19)), (1, .int p1), (2, .int p2)]) hx hb dX2_agrees_1 rfl hl (by decide) rfl (fun ls hl => ?_)
  refine wX2_agrees_2 C hr hlocks hA hcg 300 _ _ _ _ hw (lv_sub hl [1, 2, 3, 0] rfl) hf (fun  H locs ls hw hl hf => ?_)
  refine lv_iconst (v := 1) hx hb dX2_agrees_44 ic_1 ?_
  obtain rfl := Option.some.inj hf
  exact qt_z C hr hlocks (Or.inr rfl) hw dX2_agrees_45
theorem cfX5_lay : cf yX5_lay cX5_lay 5 none 2 := ⟨tg_228, by decide +kernel, tg_4⟩
set_option maxHeartbeats 4000000 in
theorem wX5_lay_40 {p : Program} {l : Launch} {e : Env} {s : State} {m : MethodId} {args : Array Value} {below : List Frame} {meth : Method} {c : Code} {D : va_G} {cI cB cS : ClassId} {n : Nat} {ad : Nat → Nat} {bf : Nat → Option Nat} {ws0 : va_W} {v1 : Int32} {v2 : Int32} {v3 : Int32} (C : cx p c cX5_lay 5 s args m RX5 D cI cB cS) (hr : meth.sig.returnType = none) (hlocks : meth.locks = false) (hA : ∀ q, s.heap.size ≤ q → va_A ws0 s.heap.size q) {k : MS → Option MS} {q : MS}
    (hcg : bok n ad bf) : ∀ (fu : Nat) (v4 : Int32) (M : MS) (H : Heap) (locs : List Loc) (ls : Array Slot), wd D (va_A ws0 s.heap.size) s.heap (cW cI cB cS n ad bf M) H locs → lv_has ls 5 [(0, .ref (ad 11)), (1, .int v1), (2, .int v2), (3, .int v3), (4, .int v4)] → fX5_lay_40 n fu k v2 v4 M = some q →
    (∀  (M1 : MS) (H : Heap) (locs : List Loc) (ls : Array Slot), wd D (va_A ws0 s.heap.size) s.heap (cW cI cB cS n ad bf M1) H locs → lv_has ls 5 [(0, .ref (ad 11)), (1, .int v1), (2, .int v2), (3, .int v3)] → k  M1 = some q → W p l e { frames := 0, cells := 0, slots := 0, locals := 0 } s m args below meth c H locs 0 0 (Qt D below args s ws0 none (cW cI cB cS 0 ad bf q)) (F0 m 116 ls [])) →
    W p l e { frames := 0, cells := 0, slots := 0, locals := 0 } s m args below meth c H locs 0 0 (Qt D below args s ws0 none (cW cI cB cS 0 ad bf q)) (F0 m 40 ls []) := by
  have hx := C.1
  have hb := C.2.1
  intro fu
  induction fu with
  | zero => intro v4 M H locs ls hw hl hf hk; rw [fX5_lay_40] at hf; cases hf
  | succ fu ih =>
      intro v4 M H locs ls hw hl hf hk
      rw [fX5_lay_40] at hf
      refine lv_iload hx hb dX5_lay_40 (lv_at hl 4 rfl) ?_
      refine lv_iload_n hx hb dX5_lay_42 rfl (lv_at hl 2 rfl) ?_
      refine lv_icmp_ge (tgt := 116) hx hb dX5_lay_43 (by decide) (fun h2 => ?_) (fun h2 => ?_)
      · have hf := it_t h2 hf
        exact hk _ _ _ _ hw (lv_sub hl [0, 1, 2, 3] rfl) hf
      · have hf := it_f h2 hf
        refine lv_aload_n hx hb dX5_lay_46 rfl (lv_at hl 0 rfl) ?_
        refine lv_dup hx hb dX5_lay_47 rfl ?_
        refine cg_5_30 C hw dX5_lay_48 ?_
        refine lv_iload hx hb dX5_lay_51 (lv_at hl 4 rfl) ?_
        refine lv_iload_n hx hb dX5_lay_53 rfl (lv_at hl 2 rfl) ?_
        refine lv_iconst (v := 2) hx hb dX5_lay_54 ic_2 ?_
        refine lv_idiv hx hb dX5_lay_55 (by decide) ?_
        refine lv_icmp_ge (tgt := 68) hx hb dX5_lay_56 (by decide) (fun h3 => ?_) (fun h3 => ?_)
        · have hf := it_t h3 hf
          refine lv_iconst (v := 0) hx hb dX5_lay_68 ic_0 ?_
          refine lv_ior hx hb dX5_lay_69 ?_
          refine cp_5_30 C hw dX5_lay_70 (fun H locs hw => ?_)
          refine lv_aload_n hx hb dX5_lay_73 rfl (lv_at hl 0 rfl) ?_
          refine lv_dup hx hb dX5_lay_74 rfl ?_
          refine cg_5_33 C hw dX5_lay_75 ?_
          refine lv_iload hx hb dX5_lay_78 (lv_at hl 4 rfl) ?_
          refine lv_iload_n hx hb dX5_lay_80 rfl (lv_at hl 2 rfl) ?_
          refine lv_iconst (v := 1) hx hb dX5_lay_81 ic_1 ?_
          refine lv_isub hx hb dX5_lay_82 ?_
          refine lv_icmp_ne (tgt := 95) hx hb dX5_lay_83 (by decide) (fun h4 => ?_) (fun h4 => ?_)
          · have hf := it_f h4 hf
            refine lv_iconst (v := 0) hx hb dX5_lay_95 ic_0 ?_
            refine lv_ior hx hb dX5_lay_96 ?_
            refine cp_5_33 C hw dX5_lay_97 (fun H locs hw => ?_)
            refine lv_aload_n hx hb dX5_lay_100 rfl (lv_at hl 0 rfl) ?_
            refine lv_dup hx hb dX5_lay_101 rfl ?_
            refine cg_5_27 C hw dX5_lay_102 ?_
            refine lv_iconst (v := 1) hx hb dX5_lay_105 ic_1 ?_
            refine lv_iadd hx hb dX5_lay_106 ?_
            refine cp_5_27 C hw dX5_lay_107 (fun H locs hw => ?_)
            refine lv_iinc (v := (v4 + 1)) (lv' := [(4, .int (v4 + 1)), (0, .ref (ad 11)), (1, .int v1), (2, .int v2), (3, .int v3)]) hx hb dX5_lay_110 hl (k := 4) rfl (iv_1 _) (by decide) rfl (fun ls hl => ?_)
            refine lv_goto (tgt := 40) hx hb dX5_lay_113 (by decide) ?_
            exact ih _ _ _ _ _ hw (lv_sub hl [1, 2, 3, 4, 0] rfl) hf hk
          · have hf := it_t h4 hf
            refine lv_iconst (v := 1) hx hb dX5_lay_86 ic_1 ?_
            refine lv_aload_n hx hb dX5_lay_87 rfl (lv_at hl 0 rfl) ?_
            refine cg_5_27 C hw dX5_lay_88 ?_
            refine lv_ishl hx hb dX5_lay_91 ?_
            refine lv_goto (tgt := 96) hx hb dX5_lay_92 (by decide) ?_
            refine lv_ior hx hb dX5_lay_96 ?_
            refine cp_5_33 C hw dX5_lay_97 (fun H locs hw => ?_)
            refine lv_aload_n hx hb dX5_lay_100 rfl (lv_at hl 0 rfl) ?_
            refine lv_dup hx hb dX5_lay_101 rfl ?_
            refine cg_5_27 C hw dX5_lay_102 ?_
            refine lv_iconst (v := 1) hx hb dX5_lay_105 ic_1 ?_
            refine lv_iadd hx hb dX5_lay_106 ?_
            refine cp_5_27 C hw dX5_lay_107 (fun H locs hw => ?_)
            refine lv_iinc (v := (v4 + 1)) (lv' := [(4, .int (v4 + 1)), (0, .ref (ad 11)), (1, .int v1), (2, .int v2), (3, .int v3)]) hx hb dX5_lay_110 hl (k := 4) rfl (iv_1 _) (by decide) rfl (fun ls hl => ?_)
            refine lv_goto (tgt := 40) hx hb dX5_lay_113 (by decide) ?_
            exact ih _ _ _ _ _ hw (lv_sub hl [1, 2, 3, 4, 0] rfl) hf hk
        · have hf := it_f h3 hf
          refine lv_iconst (v := 1) hx hb dX5_lay_59 ic_1 ?_
          refine lv_aload_n hx hb dX5_lay_60 rfl (lv_at hl 0 rfl) ?_
          refine cg_5_27 C hw dX5_lay_61 ?_
          refine lv_ishl hx hb dX5_lay_64 ?_
          refine lv_goto (tgt := 69) hx hb dX5_lay_65 (by decide) ?_
          refine lv_ior hx hb dX5_lay_69 ?_
          refine cp_5_30 C hw dX5_lay_70 (fun H locs hw => ?_)
          refine lv_aload_n hx hb dX5_lay_73 rfl (lv_at hl 0 rfl) ?_
          refine lv_dup hx hb dX5_lay_74 rfl ?_
          refine cg_5_33 C hw dX5_lay_75 ?_
          refine lv_iload hx hb dX5_lay_78 (lv_at hl 4 rfl) ?_
          refine lv_iload_n hx hb dX5_lay_80 rfl (lv_at hl 2 rfl) ?_
          refine lv_iconst (v := 1) hx hb dX5_lay_81 ic_1 ?_
          refine lv_isub hx hb dX5_lay_82 ?_
          refine lv_icmp_ne (tgt := 95) hx hb dX5_lay_83 (by decide) (fun h5 => ?_) (fun h5 => ?_)
          · have hf := it_f h5 hf
            refine lv_iconst (v := 0) hx hb dX5_lay_95 ic_0 ?_
            refine lv_ior hx hb dX5_lay_96 ?_
            refine cp_5_33 C hw dX5_lay_97 (fun H locs hw => ?_)
            refine lv_aload_n hx hb dX5_lay_100 rfl (lv_at hl 0 rfl) ?_
            refine lv_dup hx hb dX5_lay_101 rfl ?_
            refine cg_5_27 C hw dX5_lay_102 ?_
            refine lv_iconst (v := 1) hx hb dX5_lay_105 ic_1 ?_
            refine lv_iadd hx hb dX5_lay_106 ?_
            refine cp_5_27 C hw dX5_lay_107 (fun H locs hw => ?_)
            refine lv_iinc (v := (v4 + 1)) (lv' := [(4, .int (v4 + 1)), (0, .ref (ad 11)), (1, .int v1), (2, .int v2), (3, .int v3)]) hx hb dX5_lay_110 hl (k := 4) rfl (iv_1 _) (by decide) rfl (fun ls hl => ?_)
            refine lv_goto (tgt := 40) hx hb dX5_lay_113 (by decide) ?_
            exact ih _ _ _ _ _ hw (lv_sub hl [1, 2, 3, 4, 0] rfl) hf hk
          · have hf := it_t h5 hf
            refine lv_iconst (v := 1) hx hb dX5_lay_86 ic_1 ?_
            refine lv_aload_n hx hb dX5_lay_87 rfl (lv_at hl 0 rfl) ?_
            refine cg_5_27 C hw dX5_lay_88 ?_
            refine lv_ishl hx hb dX5_lay_91 ?_
            refine lv_goto (tgt := 96) hx hb dX5_lay_92 (by decide) ?_
            refine lv_ior hx hb dX5_lay_96 ?_
            refine cp_5_33 C hw dX5_lay_97 (fun H locs hw => ?_)
            refine lv_aload_n hx hb dX5_lay_100 rfl (lv_at hl 0 rfl) ?_
            refine lv_dup hx hb dX5_lay_101 rfl ?_
            refine cg_5_27 C hw dX5_lay_102 ?_
            refine lv_iconst (v := 1) hx hb dX5_lay_105 ic_1 ?_
            refine lv_iadd hx hb dX5_lay_106 ?_
            refine cp_5_27 C hw dX5_lay_107 (fun H locs hw => ?_)
            refine lv_iinc (v := (v4 + 1)) (lv' := [(4, .int (v4 + 1)), (0, .ref (ad 11)), (1, .int v1), (2, .int v2), (3, .int v3)]) hx hb dX5_lay_110 hl (k := 4) rfl (iv_1 _) (by decide) rfl (fun ls hl => ?_)
            refine lv_goto (tgt := 40) hx hb dX5_lay_113 (by decide) ?_
            exact ih _ _ _ _ _ hw (lv_sub hl [1, 2, 3, 4, 0] rfl) hf hk
set_option maxHeartbeats 4000000 in
theorem wX5_lay_32 {p : Program} {l : Launch} {e : Env} {s : State} {m : MethodId} {args : Array Value} {below : List Frame} {meth : Method} {c : Code} {D : va_G} {cI cB cS : ClassId} {n : Nat} {ad : Nat → Nat} {bf : Nat → Option Nat} {ws0 : va_W} {v1 : Int32} {v2 : Int32} (C : cx p c cX5_lay 5 s args m RX5 D cI cB cS) (hr : meth.sig.returnType = none) (hlocks : meth.locks = false) (hA : ∀ q, s.heap.size ≤ q → va_A ws0 s.heap.size q) {k : MS → Option MS} {q : MS}
    (hcg : bok n ad bf) : ∀ (fu : Nat) (v3 : Int32) (M : MS) (H : Heap) (locs : List Loc) (ls : Array Slot), wd D (va_A ws0 s.heap.size) s.heap (cW cI cB cS n ad bf M) H locs → lv_has ls 5 [(0, .ref (ad 11)), (1, .int v1), (2, .int v2), (3, .int v3)] → fX5_lay_32 n fu k v1 v2 v3 M = some q →
    (∀  (M1 : MS) (H : Heap) (locs : List Loc) (ls : Array Slot), wd D (va_A ws0 s.heap.size) s.heap (cW cI cB cS n ad bf M1) H locs → lv_has ls 5 [] → k  M1 = some q → W p l e { frames := 0, cells := 0, slots := 0, locals := 0 } s m args below meth c H locs 0 0 (Qt D below args s ws0 none (cW cI cB cS 0 ad bf q)) (F0 m 122 ls [])) →
    W p l e { frames := 0, cells := 0, slots := 0, locals := 0 } s m args below meth c H locs 0 0 (Qt D below args s ws0 none (cW cI cB cS 0 ad bf q)) (F0 m 32 ls []) := by
  have hx := C.1
  have hb := C.2.1
  intro fu
  induction fu with
  | zero => intro v3 M H locs ls hw hl hf hk; rw [fX5_lay_32] at hf; cases hf
  | succ fu ih =>
      intro v3 M H locs ls hw hl hf hk
      rw [fX5_lay_32] at hf
      refine lv_iload_n hx hb dX5_lay_32 rfl (lv_at hl 3 rfl) ?_
      refine lv_iload_n hx hb dX5_lay_33 rfl (lv_at hl 1 rfl) ?_
      refine lv_icmp_ge (tgt := 122) hx hb dX5_lay_34 (by decide) (fun h1 => ?_) (fun h1 => ?_)
      · have hf := it_t h1 hf
        exact hk _ _ _ _ hw (lv_sub hl [] rfl) hf
      · have hf := it_f h1 hf
        refine lv_iconst (v := 0) hx hb dX5_lay_37 ic_0 ?_
        refine lv_istore (lv' := [(4, .int 0), (0, .ref (ad 11)), (1, .int v1), (2, .int v2), (3, .int v3)]) hx hb dX5_lay_38 hl (by decide) rfl (fun ls hl => ?_)
        refine wX5_lay_40 C hr hlocks hA hcg 300 _ _ _ _ _ hw (lv_sub hl [1, 2, 3, 4, 0] rfl) hf (fun M6 H locs ls hw hl hf => ?_)
        refine lv_iinc (v := (v3 + 1)) (lv' := [(3, .int (v3 + 1)), (0, .ref (ad 11)), (1, .int v1), (2, .int v2)]) hx hb dX5_lay_116 hl (k := 3) rfl (iv_1 _) (by decide) rfl (fun ls hl => ?_)
        refine lv_goto (tgt := 32) hx hb dX5_lay_119 (by decide) ?_
        exact ih _ _ _ _ _ hw (lv_sub hl [1, 2, 3, 0] rfl) hf hk
set_option maxHeartbeats 4000000 in
theorem kX5_lay (l : Launch) (D : va_G) (cI cB cS : ClassId) (n : Nat) (ad : Nat → Nat) (bf : Nat → Option Nat) (hcg : bok n ad bf) {p1 : Int32} {p2 : Int32} {M : MS} {q : MS} (hf : fX5_lay n p1 p2 M = some q) : Ct l D cI cB cS yX5_lay cX5_lay 5 none 0 0 [.ref (ad 11), .int p1, .int p2] (cW cI cB cS n ad bf M) none (cW cI cB cS 0 ad bf q) := by
  refine Ct.ofW (by decide) (Nat.le_of_ble_eq_true rfl) ?_
  intro p e s m args below meth c ls C hr hlocks _ hw hl
  have hx := C.1
  have hb := C.2.1
  have hA : ∀ q, s.heap.size ≤ q → va_A (cW cI cB cS n ad bf M) s.heap.size q := fun q h => Or.inr h
  have hl : lv_has ls 5 [(0, .ref (ad 11)), (1, .int p1), (2, .int p2)] := hl
  unfold fX5_lay at hf
  refine lv_aload_n hx hb dX5_lay_0 rfl (lv_at hl 0 rfl) ?_
  refine lv_iconst (v := 0) hx hb dX5_lay_1 ic_0 ?_
  refine cp_count0 C hw dX5_lay_2 (fun H locs hw => ?_)
  refine lv_aload_n hx hb dX5_lay_5 rfl (lv_at hl 0 rfl) ?_
  refine lv_iconst (v := 0) hx hb dX5_lay_6 ic_0 ?_
  refine cp_5_21 C hw dX5_lay_7 (fun H locs hw => ?_)
  refine lv_aload_n hx hb dX5_lay_10 rfl (lv_at hl 0 rfl) ?_
  refine lv_iload_n hx hb dX5_lay_11 rfl (lv_at hl 2 rfl) ?_
  refine cp_5_24 C hw dX5_lay_12 (fun H locs hw => ?_)
  refine lv_aload_n hx hb dX5_lay_15 rfl (lv_at hl 0 rfl) ?_
  refine lv_iconst (v := 0) hx hb dX5_lay_16 ic_0 ?_
  refine cp_5_27 C hw dX5_lay_17 (fun H locs hw => ?_)
  refine lv_aload_n hx hb dX5_lay_20 rfl (lv_at hl 0 rfl) ?_
  refine lv_iconst (v := 0) hx hb dX5_lay_21 ic_0 ?_
  refine cp_5_30 C hw dX5_lay_22 (fun H locs hw => ?_)
  refine lv_aload_n hx hb dX5_lay_25 rfl (lv_at hl 0 rfl) ?_
  refine lv_iconst (v := 0) hx hb dX5_lay_26 ic_0 ?_
  refine cp_5_33 C hw dX5_lay_27 (fun H locs hw => ?_)
  refine lv_iconst (v := 0) hx hb dX5_lay_30 ic_0 ?_
  refine lv_istore_n (lv' := [(3, .int 0), (0, .ref (ad 11)), (1, .int p1), (2, .int p2)]) hx hb dX5_lay_31 rfl hl (by decide) rfl (fun ls hl => ?_)
  refine wX5_lay_32 C hr hlocks hA (bok0 hcg) 300 _ _ _ _ _ hw (lv_sub hl [1, 2, 3, 0] rfl) hf (fun M7 H locs ls hw hl hf => ?_)
  obtain rfl := Option.some.inj hf
  exact qt_v C hr hlocks hw dX5_lay_122
theorem cfX5_isThere : cf yX5_isThere cX5_isThere 1 (some .boolean) 0 := ⟨tg_366, by decide +kernel, tg_4⟩
set_option maxHeartbeats 4000000 in
theorem kX5_isThere (l : Launch) (D : va_G) (cI cB cS : ClassId) (n : Nat) (ad : Nat → Nat) (bf : Nat → Option Nat) (hcg : bok n ad bf) (M : MS) : Ct l D cI cB cS yX5_isThere cX5_isThere 1 (some .boolean) 0 0 [.ref (ad 11)] (cW cI cB cS n ad bf M) (some (.int (fX5_isThere n M))) (cW cI cB cS n ad bf M) := by
  obtain ⟨q, hf⟩ : ∃ q, fX5_isThere n M = q := ⟨_, rfl⟩
  rw [hf]
  refine Ct.ofW (by decide) (Nat.le_of_ble_eq_true rfl) ?_
  intro p e s m args below meth c ls C hr hlocks _ hw hl
  have hx := C.1
  have hb := C.2.1
  have hA : ∀ q, s.heap.size ≤ q → va_A (cW cI cB cS n ad bf M) s.heap.size q := fun q h => Or.inr h
  have hl : lv_has ls 1 [(0, .ref (ad 11))] := hl
  unfold fX5_isThere at hf
  refine lv_aload_n hx hb dX5_isThere_0 rfl (lv_at hl 0 rfl) ?_
  refine cg_5_17 C hw dX5_isThere_1 ?_
  refine lv_if_le (tgt := 11) hx hb dX5_isThere_4 (by decide) (fun h1 => ?_) (fun h1 => ?_)
  · have hf := it_t h1 hf
    refine lv_iconst (v := 0) hx hb dX5_isThere_11 ic_0 ?_
    subst hf
    exact qt_z C hr hlocks (Or.inl rfl) hw dX5_isThere_12
  · have hf := it_f h1 hf
    refine lv_iconst (v := 1) hx hb dX5_isThere_7 ic_1 ?_
    refine lv_goto (tgt := 12) hx hb dX5_isThere_8 (by decide) ?_
    subst hf
    exact qt_z C hr hlocks (Or.inr rfl) hw dX5_isThere_12
theorem zX5_isThere (n : Nat) (M : MS) : fX5_isThere n M = 0 ∨ fX5_isThere n M = 1 := by
  unfold fX5_isThere
  (repeat' split) <;> first | exact Or.inl rfl | exact Or.inr rfl | exact zX8_isBelow _ _ | exact zX8_isIn _ _ | exact zX8_isLot _ | exact zX8_isLane _ | exact zX8_isAmong _ _ _ | exact zX1_wearsHat | exact zX3_wearsHat
theorem cfX5_setOfAll : cf yX5_setOfAll cX5_setOfAll 1 (some .int) 0 := ⟨tg_485, by decide +kernel, tg_4⟩
set_option maxHeartbeats 4000000 in
theorem kX5_setOfAll (l : Launch) (D : va_G) (cI cB cS : ClassId) (n : Nat) (ad : Nat → Nat) (bf : Nat → Option Nat) (hcg : bok n ad bf) (M : MS) : Ct l D cI cB cS yX5_setOfAll cX5_setOfAll 1 (some .int) 0 0 [.ref (ad 11)] (cW cI cB cS n ad bf M) (some (.int (fX5_setOfAll n M))) (cW cI cB cS n ad bf M) := by
  obtain ⟨q, hf⟩ : ∃ q, fX5_setOfAll n M = q := ⟨_, rfl⟩
  rw [hf]
  refine Ct.ofW (by decide) (Nat.le_of_ble_eq_true rfl) ?_
  intro p e s m args below meth c ls C hr hlocks _ hw hl
  have hx := C.1
  have hb := C.2.1
  have hA : ∀ q, s.heap.size ≤ q → va_A (cW cI cB cS n ad bf M) s.heap.size q := fun q h => Or.inr h
  have hl : lv_has ls 1 [(0, .ref (ad 11))] := hl
  unfold fX5_setOfAll at hf
  refine lv_iconst (v := 1) hx hb dX5_setOfAll_0 ic_1 ?_
  refine lv_aload_n hx hb dX5_setOfAll_1 rfl (lv_at hl 0 rfl) ?_
  refine cg_5_17 C hw dX5_setOfAll_2 ?_
  refine lv_ishl hx hb dX5_setOfAll_5 ?_
  refine lv_iconst (v := 1) hx hb dX5_setOfAll_6 ic_1 ?_
  refine lv_isub hx hb dX5_setOfAll_7 ?_
  subst hf
  exact qt_i C hr hlocks hw dX5_setOfAll_8
theorem cfX5_isFreeFor : cf yX5_isFreeFor cX5_isFreeFor 5 (some .boolean) 2 := ⟨tg_325, by decide +kernel, tg_4⟩
set_option maxHeartbeats 4000000 in
theorem wX5_isFreeFor_2 {p : Program} {l : Launch} {e : Env} {s : State} {m : MethodId} {args : Array Value} {below : List Frame} {meth : Method} {c : Code} {D : va_G} {cI cB cS : ClassId} {n : Nat} {ad : Nat → Nat} {bf : Nat → Option Nat} {ws0 : va_W} {v1 : Nat} {v2 : Int32} {M : MS} (C : cx p c cX5_isFreeFor 5 s args m RX5 D cI cB cS) (hr : meth.sig.returnType = (some .boolean)) (hlocks : meth.locks = false) (hA : ∀ q, s.heap.size ≤ q → va_A ws0 s.heap.size q) (hv1 : v1 < n) {k : Unit → Option Int32} {q : Int32}
    (hcg : bok n ad bf) : ∀ (fu : Nat) (v3 : Int32) (H : Heap) (locs : List Loc) (ls : Array Slot), wd D (va_A ws0 s.heap.size) s.heap (cW cI cB cS n ad bf M) H locs → lv_has ls 5 [(0, .ref (ad 11)), (1, .ref (ad (30 + v1))), (2, .int v2), (3, .int v3)] → fX5_isFreeFor_2 n fu k v1 v2 v3 M = some q →
    (∀  (H : Heap) (locs : List Loc) (ls : Array Slot), wd D (va_A ws0 s.heap.size) s.heap (cW cI cB cS n ad bf M) H locs → lv_has ls 5 [] → k () = some q → W p l e { frames := 2, cells := 0, slots := 0, locals := 42 } s m args below meth c H locs 0 0 (Qt D below args s ws0 (some (.int q)) (cW cI cB cS n ad bf M)) (F0 m 43 ls [])) →
    W p l e { frames := 2, cells := 0, slots := 0, locals := 42 } s m args below meth c H locs 0 0 (Qt D below args s ws0 (some (.int q)) (cW cI cB cS n ad bf M)) (F0 m 2 ls []) := by
  have hx := C.1
  have hb := C.2.1
  intro fu
  induction fu with
  | zero => intro v3 H locs ls hw hl hf hk; rw [fX5_isFreeFor_2] at hf; cases hf
  | succ fu ih =>
      intro v3 H locs ls hw hl hf hk
      rw [fX5_isFreeFor_2] at hf
      refine lv_iload_n hx hb dX5_isFreeFor_2 rfl (lv_at hl 3 rfl) ?_
      refine lv_bipush (v := 6) hx hb dX5_isFreeFor_3 ib_6 ?_
      refine lv_icmp_ge (tgt := 43) hx hb dX5_isFreeFor_5 (by decide) (fun h1 => ?_) (fun h1 => ?_)
      · have hf := it_t h1 hf
        exact hk  _ _ _ hw (lv_sub hl [] rfl) hf
      · have hf := it_f h1 hf
        refine lv_aload_n hx hb dX5_isFreeFor_8 rfl (lv_at hl 0 rfl) ?_
        refine lv_iload_n hx hb dX5_isFreeFor_9 rfl (lv_at hl 3 rfl) ?_
        refine ct_V1 (q0 := 11) (ci := 5) (rest := []) C hw hA (kX5_buyerOf l D cI cB cS n ad bf hcg _ _) cfX5_buyerOf tg_326 tg_294 tg_295 ⟨(Nat.le_of_ble_eq_true rfl), (Nat.le_of_ble_eq_true rfl)⟩ ⟨(Nat.le_of_ble_eq_true rfl), (Nat.le_of_ble_eq_true rfl)⟩ rfl rfl rfl rfl hl.1 rfl (Nat.le_of_ble_eq_true rfl) dX5_isFreeFor_10 (fun H locs hw => ?_)
        rcases em_o (fX5_buyerOf n v3) with h2 | ⟨j3, h2⟩
        · rw [h2]
          have hf := om_n h2 hf
          refine lv_astoreN (lv' := [(4, .null), (0, .ref (ad 11)), (1, .ref (ad (30 + v1))), (2, .int v2), (3, .int v3)]) hx hb dX5_isFreeFor_13 hl (by decide) rfl (fun ls hl => ?_)
          refine lv_aloadN hx hb dX5_isFreeFor_15 (lv_at hl 0 rfl) ?_
          refine lv_ifnullN (tgt := 37) hx hb dX5_isFreeFor_17 (by decide) ?_
          refine lv_iinc (v := (v3 + 1)) (lv' := [(3, .int (v3 + 1)), (4, .null), (0, .ref (ad 11)), (1, .ref (ad (30 + v1))), (2, .int v2)]) hx hb dX5_isFreeFor_37 hl (k := 4) rfl (iv_1 _) (by decide) rfl (fun ls hl => ?_)
          refine lv_goto (tgt := 2) hx hb dX5_isFreeFor_40 (by decide) ?_
          exact ih _ _ _ _ hw (lv_sub hl [2, 3, 4, 0] rfl) hf hk
        · rw [h2]
          have hf := om_s h2 hf
          have hj3 := buyerOf_lt hcg.1 h2
          refine lv_astore (lv' := [(4, .ref (ad (30 + j3))), (0, .ref (ad 11)), (1, .ref (ad (30 + v1))), (2, .int v2), (3, .int v3)]) hx hb dX5_isFreeFor_13 hl (by decide) rfl (fun ls hl => ?_)
          refine lv_aload hx hb dX5_isFreeFor_15 (lv_at hl 0 rfl) ?_
          refine lv_ifnull hx hb dX5_isFreeFor_17 ?_
          refine lv_aload hx hb dX5_isFreeFor_20 (lv_at hl 0 rfl) ?_
          refine lv_aload_n hx hb dX5_isFreeFor_22 rfl (lv_at hl 2 rfl) ?_
          refine cb_acmp (tgt := 37) hj3 hv1 C hw dX5_isFreeFor_23 (by decide) (fun h4 => ?_) (fun h4 => ?_)
          · have hf := it_t h4 hf
            refine lv_iinc (v := (v3 + 1)) (lv' := [(3, .int (v3 + 1)), (4, .ref (ad (30 + j3))), (0, .ref (ad 11)), (1, .ref (ad (30 + v1))), (2, .int v2)]) hx hb dX5_isFreeFor_37 hl (k := 4) rfl (iv_1 _) (by decide) rfl (fun ls hl => ?_)
            refine lv_goto (tgt := 2) hx hb dX5_isFreeFor_40 (by decide) ?_
            exact ih _ _ _ _ hw (lv_sub hl [2, 3, 4, 0] rfl) hf hk
          · have hf := it_f h4 hf
            refine lv_aload hx hb dX5_isFreeFor_26 (lv_at hl 0 rfl) ?_
            refine cg_5_44 hj3 C hw dX5_isFreeFor_28 ?_
            refine lv_iload_n hx hb dX5_isFreeFor_31 rfl (lv_at hl 3 rfl) ?_
            refine lv_icmp_ne (tgt := 37) hx hb dX5_isFreeFor_32 (by decide) (fun h5 => ?_) (fun h5 => ?_)
            · have hf := it_f h5 hf
              refine lv_iinc (v := (v3 + 1)) (lv' := [(3, .int (v3 + 1)), (4, .ref (ad (30 + j3))), (0, .ref (ad 11)), (1, .ref (ad (30 + v1))), (2, .int v2)]) hx hb dX5_isFreeFor_37 hl (k := 4) rfl (iv_1 _) (by decide) rfl (fun ls hl => ?_)
              refine lv_goto (tgt := 2) hx hb dX5_isFreeFor_40 (by decide) ?_
              exact ih _ _ _ _ hw (lv_sub hl [2, 3, 4, 0] rfl) hf hk
            · have hf := it_t h5 hf
              refine lv_iconst (v := 0) hx hb dX5_isFreeFor_35 ic_0 ?_
              obtain rfl := Option.some.inj hf
              exact qt_z C hr hlocks (Or.inl rfl) hw dX5_isFreeFor_36
set_option maxHeartbeats 4000000 in
theorem kX5_isFreeFor (l : Launch) (D : va_G) (cI cB cS : ClassId) (n : Nat) (ad : Nat → Nat) (bf : Nat → Option Nat) (hcg : bok n ad bf) {p1 : Nat} (hp1 : p1 < n) {p2 : Int32} {M : MS} {q : Int32} (hf : fX5_isFreeFor n p1 p2 M = some q) : Ct l D cI cB cS yX5_isFreeFor cX5_isFreeFor 5 (some .boolean) 2 42 [.ref (ad 11), .ref (ad (30 + p1)), .int p2] (cW cI cB cS n ad bf M) (some (.int q)) (cW cI cB cS n ad bf M) := by
  refine Ct.ofW (by decide) (Nat.le_of_ble_eq_true rfl) ?_
  intro p e s m args below meth c ls C hr hlocks _ hw hl
  have hx := C.1
  have hb := C.2.1
  have hA : ∀ q, s.heap.size ≤ q → va_A (cW cI cB cS n ad bf M) s.heap.size q := fun q h => Or.inr h
  have hl : lv_has ls 5 [(0, .ref (ad 11)), (1, .ref (ad (30 + p1))), (2, .int p2)] := hl
  unfold fX5_isFreeFor at hf
  refine lv_iconst (v := 0) hx hb dX5_isFreeFor_0 ic_0 ?_
  refine lv_istore_n (lv' := [(3, .int 0), (0, .ref (ad 11)), (1, .ref (ad (30 + p1))), (2, .int p2)]) hx hb dX5_isFreeFor_1 rfl hl (by decide) rfl (fun ls hl => ?_)
  refine wX5_isFreeFor_2 C hr hlocks hA hp1 hcg 300 _ _ _ _ hw (lv_sub hl [1, 2, 3, 0] rfl) hf (fun  H locs ls hw hl hf => ?_)
  refine lv_iconst (v := 1) hx hb dX5_isFreeFor_43 ic_1 ?_
  obtain rfl := Option.some.inj hf
  exact qt_z C hr hlocks (Or.inr rfl) hw dX5_isFreeFor_44
theorem cfX5_shows : cf yX5_shows cX5_shows 3 (some .boolean) 1 := ⟨tg_312, by decide +kernel, tg_4⟩
set_option maxHeartbeats 4000000 in
theorem kX5_shows (l : Launch) (D : va_G) (cI cB cS : ClassId) (n : Nat) (ad : Nat → Nat) (bf : Nat → Option Nat) (hcg : bok n ad bf) {p1 : Nat} (hp1 : p1 < n) {M : MS} {q : Int32} (hf : fX5_shows n p1 M = some q) : Ct l D cI cB cS yX5_shows cX5_shows 3 (some .boolean) 3 66 [.ref (ad 11), .ref (ad (30 + p1))] (cW cI cB cS n ad bf M) (some (.int q)) (cW cI cB cS n ad bf M) := by
  refine Ct.ofW (by decide) (Nat.le_of_ble_eq_true rfl) ?_
  intro p e s m args below meth c ls C hr hlocks _ hw hl
  have hx := C.1
  have hb := C.2.1
  have hA : ∀ q, s.heap.size ≤ q → va_A (cW cI cB cS n ad bf M) s.heap.size q := fun q h => Or.inr h
  have hl : lv_has ls 3 [(0, .ref (ad 11)), (1, .ref (ad (30 + p1)))] := hl
  unfold fX5_shows at hf
  refine lv_aload_n hx hb dX5_shows_0 rfl (lv_at hl 1 rfl) ?_
  refine cg_5_44 hp1 C hw dX5_shows_1 ?_
  refine lv_aload_n hx hb dX5_shows_4 rfl (lv_at hl 0 rfl) ?_
  refine cg_5_24 C hw dX5_shows_5 ?_
  refine lv_isub hx hb dX5_shows_8 ?_
  refine lv_istore_n (lv' := [(2, .int ((M 22 p1) - (M 10 2))), (0, .ref (ad 11)), (1, .ref (ad (30 + p1)))]) hx hb dX5_shows_9 rfl hl (by decide) rfl (fun ls hl => ?_)
  refine lv_aload_n hx hb dX5_shows_10 rfl (lv_at hl 2 rfl) ?_
  refine cb_vhat (rest := []) hp1 C hw hA tg_313 ⟨(Nat.le_of_ble_eq_true rfl), (Nat.le_of_ble_eq_true rfl)⟩ ⟨(Nat.le_of_ble_eq_true rfl), (Nat.le_of_ble_eq_true rfl)⟩ hl.1 (Nat.le_of_ble_eq_true rfl) dX5_shows_11 (fun H locs hw => ?_)
  refine lv_if_eq (tgt := 30) hx hb dX5_shows_14 (by decide) (fun h1 => ?_) (fun h1 => ?_)
  · have hf := it_t h1 hf
    refine lv_iconst (v := 1) hx hb dX5_shows_30 ic_1 ?_
    refine lv_goto (tgt := 35) hx hb dX5_shows_31 (by decide) ?_
    obtain rfl := Option.some.inj hf
    exact qt_z C hr hlocks (Or.inr rfl) hw dX5_shows_35
  · have hf := it_f h1 hf
    refine lv_iload_n hx hb dX5_shows_17 rfl (lv_at hl 0 rfl) ?_
    refine lv_if_lt (tgt := 30) hx hb dX5_shows_18 (by decide) (fun h2 => ?_) (fun h2 => ?_)
    · have hf := it_t h2 hf
      refine lv_iconst (v := 1) hx hb dX5_shows_30 ic_1 ?_
      refine lv_goto (tgt := 35) hx hb dX5_shows_31 (by decide) ?_
      obtain rfl := Option.some.inj hf
      exact qt_z C hr hlocks (Or.inr rfl) hw dX5_shows_35
    · have hf := it_f h2 hf
      refine lv_aload_n hx hb dX5_shows_21 rfl (lv_at hl 1 rfl) ?_
      refine lv_aload_n hx hb dX5_shows_22 rfl (lv_at hl 2 rfl) ?_
      refine lv_iload_n hx hb dX5_shows_23 rfl (lv_at hl 0 rfl) ?_
      obtain ⟨r3, e4, hf⟩ := bd hf
      refine ct_V1 (q0 := 11) (ci := 5) (rest := []) C hw hA (kX5_isFreeFor l D cI cB cS n ad bf hcg hp1 e4) cfX5_isFreeFor tg_322 tg_323 tg_324 ⟨(Nat.le_of_ble_eq_true rfl), (Nat.le_of_ble_eq_true rfl)⟩ ⟨(Nat.le_of_ble_eq_true rfl), (Nat.le_of_ble_eq_true rfl)⟩ rfl rfl rfl rfl hl.1 rfl (Nat.le_of_ble_eq_true rfl) dX5_shows_24 (fun H locs hw => ?_)
      refine lv_if_eq (tgt := 34) hx hb dX5_shows_27 (by decide) (fun h5 => ?_) (fun h5 => ?_)
      · have hf := it_t h5 hf
        refine lv_iconst (v := 0) hx hb dX5_shows_34 ic_0 ?_
        obtain rfl := Option.some.inj hf
        exact qt_z C hr hlocks (Or.inl rfl) hw dX5_shows_35
      · have hf := it_f h5 hf
        refine lv_iconst (v := 1) hx hb dX5_shows_30 ic_1 ?_
        refine lv_goto (tgt := 35) hx hb dX5_shows_31 (by decide) ?_
        obtain rfl := Option.some.inj hf
        exact qt_z C hr hlocks (Or.inr rfl) hw dX5_shows_35
theorem cfX6_lay : cf yX6_lay cX6_lay 4 none 2 := ⟨tg_542, by decide +kernel, tg_2⟩
set_option maxHeartbeats 4000000 in
theorem wX6_lay_12 {p : Program} {l : Launch} {e : Env} {s : State} {m : MethodId} {args : Array Value} {below : List Frame} {meth : Method} {c : Code} {D : va_G} {cI cB cS : ClassId} {n : Nat} {ad : Nat → Nat} {bf : Nat → Option Nat} {ws0 : va_W} {v0 : Nat} (C : cx p c cX6_lay 4 s args m RX6 D cI cB cS) (hr : meth.sig.returnType = none) (hlocks : meth.locks = false) (hA : ∀ q, s.heap.size ≤ q → va_A ws0 s.heap.size q) (hv0 : v0 < 4) {k : MS → Option MS} {q : MS}
    (hcg : bok n ad bf) : ∀ (fu : Nat) (v3 : Int32) (M : MS) (H : Heap) (locs : List Loc) (ls : Array Slot), wd D (va_A ws0 s.heap.size) s.heap (cW cI cB cS n ad bf M) H locs → lv_has ls 4 [(0, .ref (ad (2 + v0))), (3, .int v3)] → fX6_lay_12 n fu k v0 v3 M = some q →
    (∀  (M1 : MS) (H : Heap) (locs : List Loc) (ls : Array Slot), wd D (va_A ws0 s.heap.size) s.heap (cW cI cB cS n ad bf M1) H locs → lv_has ls 4 [] → k  M1 = some q → W p l e { frames := 0, cells := 0, slots := 0, locals := 0 } s m args below meth c H locs 0 0 (Qt D below args s ws0 none (cW cI cB cS n ad bf q)) (F0 m 31 ls [])) →
    W p l e { frames := 0, cells := 0, slots := 0, locals := 0 } s m args below meth c H locs 0 0 (Qt D below args s ws0 none (cW cI cB cS n ad bf q)) (F0 m 12 ls []) := by
  have hx := C.1
  have hb := C.2.1
  intro fu
  induction fu with
  | zero => intro v3 M H locs ls hw hl hf hk; rw [fX6_lay_12] at hf; cases hf
  | succ fu ih =>
      intro v3 M H locs ls hw hl hf hk
      rw [fX6_lay_12] at hf
      refine lv_iload_n hx hb dX6_lay_12 rfl (lv_at hl 1 rfl) ?_
      refine lv_bipush (v := 60) hx hb dX6_lay_13 ib_60 ?_
      refine lv_icmp_ge (tgt := 31) hx hb dX6_lay_15 (by decide) (fun h1 => ?_) (fun h1 => ?_)
      · have hf := it_t h1 hf
        exact hk _ _ _ _ hw (lv_sub hl [] rfl) hf
      · have hf := it_f h1 hf
        refine lv_aload_n hx hb dX6_lay_18 rfl (lv_at hl 0 rfl) ?_
        refine cg_6_9 hv0 C hw dX6_lay_19 ?_
        refine lv_iload_n hx hb dX6_lay_22 rfl (lv_at hl 1 rfl) ?_
        refine lv_iconst (v := 0) hx hb dX6_lay_23 ic_0 ?_
        obtain ⟨g2, hf⟩ := gd_inv hf
        refine cs_ce hv0 C hw g2 dX6_lay_24 (fun H locs hw => ?_)
        refine lv_iinc (v := (v3 + 1)) (lv' := [(3, .int (v3 + 1)), (0, .ref (ad (2 + v0)))]) hx hb dX6_lay_25 hl (k := 1) rfl (iv_1 _) (by decide) rfl (fun ls hl => ?_)
        refine lv_goto (tgt := 12) hx hb dX6_lay_28 (by decide) ?_
        exact ih _ _ _ _ _ hw (lv_sub hl [1, 0] rfl) hf hk
set_option maxHeartbeats 4000000 in
theorem kX6_lay (l : Launch) (D : va_G) (cI cB cS : ClassId) (n : Nat) (ad : Nat → Nat) (bf : Nat → Option Nat) (hcg : bok n ad bf) {p0 : Nat} (hp0 : p0 < 4) {p1 : Int32} {p2 : Int32} {M : MS} {q : MS} (hf : fX6_lay n p0 p1 p2 M = some q) : Ct l D cI cB cS yX6_lay cX6_lay 4 none 0 0 [.ref (ad (2 + p0)), .int p1, .int p2] (cW cI cB cS n ad bf M) none (cW cI cB cS n ad bf q) := by
  refine Ct.ofW (by decide) (Nat.le_of_ble_eq_true rfl) ?_
  intro p e s m args below meth c ls C hr hlocks _ hw hl
  have hx := C.1
  have hb := C.2.1
  have hA : ∀ q, s.heap.size ≤ q → va_A (cW cI cB cS n ad bf M) s.heap.size q := fun q h => Or.inr h
  have hl : lv_has ls 4 [(0, .ref (ad (2 + p0))), (1, .int p1), (2, .int p2)] := hl
  unfold fX6_lay at hf
  refine lv_aload_n hx hb dX6_lay_0 rfl (lv_at hl 0 rfl) ?_
  refine lv_iload_n hx hb dX6_lay_1 rfl (lv_at hl 1 rfl) ?_
  refine cp_6_15 hp0 C hw dX6_lay_2 (fun H locs hw => ?_)
  refine lv_aload_n hx hb dX6_lay_5 rfl (lv_at hl 0 rfl) ?_
  refine lv_iload_n hx hb dX6_lay_6 rfl (lv_at hl 2 rfl) ?_
  refine cp_6_19 hp0 C hw dX6_lay_7 (fun H locs hw => ?_)
  refine lv_iconst (v := 0) hx hb dX6_lay_10 ic_0 ?_
  refine lv_istore_n (lv' := [(3, .int 0), (0, .ref (ad (2 + p0))), (1, .int p1), (2, .int p2)]) hx hb dX6_lay_11 rfl hl (by decide) rfl (fun ls hl => ?_)
  refine wX6_lay_12 C hr hlocks hA hp0 hcg 300 _ _ _ _ _ hw (lv_sub hl [1, 0] rfl) hf (fun M3 H locs ls hw hl hf => ?_)
  obtain rfl := Option.some.inj hf
  exact qt_v C hr hlocks hw dX6_lay_31
