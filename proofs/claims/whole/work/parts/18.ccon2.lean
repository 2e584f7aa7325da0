theorem cfX6_holds : cf yX6_holds cX6_holds 3 (some .boolean) 2 := ⟨tg_196, by decide +kernel, tg_2⟩
set_option maxHeartbeats 4000000 in
theorem kX6_holds (l : Launch) (D : va_G) (cI cB cS : ClassId) (n : Nat) (ad : Nat → Nat) (bf : Nat → Option Nat) (hcg : bok n ad bf) {p0 : Nat} (hp0 : p0 < 4) (p1 : Int32) (p2 : Int32) (M : MS) : Ct l D cI cB cS yX6_holds cX6_holds 3 (some .boolean) 0 0 [.ref (ad (2 + p0)), .int p1, .int p2] (cW cI cB cS n ad bf M) (some (.int (fX6_holds n p0 p1 p2 M))) (cW cI cB cS n ad bf M) := by
  obtain ⟨q, hf⟩ : ∃ q, fX6_holds n p0 p1 p2 M = q := ⟨_, rfl⟩
  rw [hf]
  refine Ct.ofW (by decide) (Nat.le_of_ble_eq_true rfl) ?_
  intro p e s m args below meth c ls C hr hlocks _ hw hl
  have hx := C.1
  have hb := C.2.1
  have hA : ∀ q, s.heap.size ≤ q → va_A (cW cI cB cS n ad bf M) s.heap.size q := fun q h => Or.inr h
  have hl : lv_has ls 3 [(0, .ref (ad (2 + p0))), (1, .int p1), (2, .int p2)] := hl
  unfold fX6_holds at hf
  refine lv_iload_n hx hb dX6_holds_0 rfl (lv_at hl 1 rfl) ?_
  refine lv_if_lt (tgt := 26) hx hb dX6_holds_1 (by decide) (fun h1 => ?_) (fun h1 => ?_)
  · have hf := it_t h1 hf
    refine lv_iconst (v := 0) hx hb dX6_holds_26 ic_0 ?_
    subst hf
    exact qt_z C hr hlocks (Or.inl rfl) hw dX6_holds_27
  · have hf := it_f h1 hf
    refine lv_iload_n hx hb dX6_holds_4 rfl (lv_at hl 1 rfl) ?_
    refine lv_aload_n hx hb dX6_holds_5 rfl (lv_at hl 0 rfl) ?_
    refine cg_6_19 hp0 C hw dX6_holds_6 ?_
    refine lv_icmp_gt (tgt := 26) hx hb dX6_holds_9 (by decide) (fun h2 => ?_) (fun h2 => ?_)
    · have hf := it_t h2 hf
      refine lv_iconst (v := 0) hx hb dX6_holds_26 ic_0 ?_
      subst hf
      exact qt_z C hr hlocks (Or.inl rfl) hw dX6_holds_27
    · have hf := it_f h2 hf
      refine lv_iload_n hx hb dX6_holds_12 rfl (lv_at hl 2 rfl) ?_
      refine lv_aload_n hx hb dX6_holds_13 rfl (lv_at hl 0 rfl) ?_
      refine cg_6_19 hp0 C hw dX6_holds_14 ?_
      refine lv_iload_n hx hb dX6_holds_17 rfl (lv_at hl 1 rfl) ?_
      refine lv_isub hx hb dX6_holds_18 ?_
      refine lv_icmp_gt (tgt := 26) hx hb dX6_holds_19 (by decide) (fun h3 => ?_) (fun h3 => ?_)
      · have hf := it_t h3 hf
        refine lv_iconst (v := 0) hx hb dX6_holds_26 ic_0 ?_
        subst hf
        exact qt_z C hr hlocks (Or.inl rfl) hw dX6_holds_27
      · have hf := it_f h3 hf
        refine lv_iconst (v := 1) hx hb dX6_holds_22 ic_1 ?_
        refine lv_goto (tgt := 27) hx hb dX6_holds_23 (by decide) ?_
        subst hf
        exact qt_z C hr hlocks (Or.inr rfl) hw dX6_holds_27
theorem zX6_holds (n : Nat) (p0 : Nat) (p1 : Int32) (p2 : Int32) (M : MS) : fX6_holds n p0 p1 p2 M = 0 ∨ fX6_holds n p0 p1 p2 M = 1 := by
  unfold fX6_holds
  (repeat' split) <;> first | exact Or.inl rfl | exact Or.inr rfl | exact zX8_isBelow _ _ | exact zX8_isIn _ _ | exact zX8_isLot _ | exact zX8_isLane _ | exact zX8_isAmong _ _ _ | exact zX1_wearsHat | exact zX3_wearsHat | exact zX5_isThere _ _
theorem cfX6_faultOfTaking : cf yX6_faultOfTaking cX6_faultOfTaking 4 (some .int) 3 := ⟨tg_192, by decide +kernel, tg_2⟩
set_option maxHeartbeats 4000000 in
theorem kX6_faultOfTaking (l : Launch) (D : va_G) (cI cB cS : ClassId) (n : Nat) (ad : Nat → Nat) (bf : Nat → Option Nat) (hcg : bok n ad bf) {p0 : Nat} (hp0 : p0 < 4) (p1 : Int32) (p2 : Int32) (p3 : Int32) (M : MS) : Ct l D cI cB cS yX6_faultOfTaking cX6_faultOfTaking 4 (some .int) 1 22 [.ref (ad (2 + p0)), .int p1, .int p2, .int p3] (cW cI cB cS n ad bf M) (some (.int (fX6_faultOfTaking n p0 p1 p2 p3 M))) (cW cI cB cS n ad bf M) := by
  obtain ⟨q, hf⟩ : ∃ q, fX6_faultOfTaking n p0 p1 p2 p3 M = q := ⟨_, rfl⟩
  rw [hf]
  refine Ct.ofW (by decide) (Nat.le_of_ble_eq_true rfl) ?_
  intro p e s m args below meth c ls C hr hlocks _ hw hl
  have hx := C.1
  have hb := C.2.1
  have hA : ∀ q, s.heap.size ≤ q → va_A (cW cI cB cS n ad bf M) s.heap.size q := fun q h => Or.inr h
  have hl : lv_has ls 4 [(0, .ref (ad (2 + p0))), (1, .int p1), (2, .int p2), (3, .int p3)] := hl
  unfold fX6_faultOfTaking at hf
  refine lv_aload_n hx hb dX6_faultOfTaking_0 rfl (lv_at hl 0 rfl) ?_
  refine cg_6_15 hp0 C hw dX6_faultOfTaking_1 ?_
  refine lv_iconst (v := (-1)) hx hb dX6_faultOfTaking_4 ic_m1 ?_
  refine lv_icmp_ne (tgt := 10) hx hb dX6_faultOfTaking_5 (by decide) (fun h1 => ?_) (fun h1 => ?_)
  · have hf := it_f h1 hf
    refine lv_aload_n hx hb dX6_faultOfTaking_10 rfl (lv_at hl 0 rfl) ?_
    refine cg_6_15 hp0 C hw dX6_faultOfTaking_11 ?_
    refine lv_iload_n hx hb dX6_faultOfTaking_14 rfl (lv_at hl 1 rfl) ?_
    refine lv_icmp_eq (tgt := 20) hx hb dX6_faultOfTaking_15 (by decide) (fun h2 => ?_) (fun h2 => ?_)
    · have hf := it_t h2 hf
      refine lv_iload_n hx hb dX6_faultOfTaking_20 rfl (lv_at hl 3 rfl) ?_
      refine lv_if_ge (tgt := 26) hx hb dX6_faultOfTaking_21 (by decide) (fun h3 => ?_) (fun h3 => ?_)
      · have hf := it_t h3 hf
        refine lv_aload_n hx hb dX6_faultOfTaking_26 rfl (lv_at hl 0 rfl) ?_
        refine lv_iload_n hx hb dX6_faultOfTaking_27 rfl (lv_at hl 2 rfl) ?_
        refine lv_iload_n hx hb dX6_faultOfTaking_28 rfl (lv_at hl 3 rfl) ?_
        refine ct_V1 (q0 := 2 + p0) (ci := 6) (rest := []) C hw hA (kX6_holds l D cI cB cS n ad bf hcg hp0 _ _ _) cfX6_holds tg_193 tg_194 tg_195 ⟨(Nat.le_of_ble_eq_true rfl), (Nat.le_of_ble_eq_true rfl)⟩ ⟨(Nat.le_of_ble_eq_true rfl), (Nat.le_of_ble_eq_true rfl)⟩ rfl rfl rfl (cW_sh hp0) hl.1 rfl (Nat.le_of_ble_eq_true rfl) dX6_faultOfTaking_29 (fun H locs hw => ?_)
        refine lv_if_eq (tgt := 39) hx hb dX6_faultOfTaking_32 (by decide) (fun h4 => ?_) (fun h4 => ?_)
        · have hf := it_t h4 hf
          refine lv_iconst (v := 3) hx hb dX6_faultOfTaking_39 ic_3 ?_
          subst hf
          exact qt_i C hr hlocks hw dX6_faultOfTaking_40
        · have hf := it_f h4 hf
          refine lv_iconst (v := 0) hx hb dX6_faultOfTaking_35 ic_0 ?_
          refine lv_goto (tgt := 40) hx hb dX6_faultOfTaking_36 (by decide) ?_
          subst hf
          exact qt_i C hr hlocks hw dX6_faultOfTaking_40
      · have hf := it_f h3 hf
        refine lv_iconst (v := 4) hx hb dX6_faultOfTaking_24 ic_4 ?_
        subst hf
        exact qt_i C hr hlocks hw dX6_faultOfTaking_25
    · have hf := it_f h2 hf
      refine lv_iconst (v := 2) hx hb dX6_faultOfTaking_18 ic_2 ?_
      subst hf
      exact qt_i C hr hlocks hw dX6_faultOfTaking_19
  · have hf := it_t h1 hf
    refine lv_iconst (v := 1) hx hb dX6_faultOfTaking_8 ic_1 ?_
    subst hf
    exact qt_i C hr hlocks hw dX6_faultOfTaking_9
theorem cfX6_at : cf yX6_at cX6_at 2 (some .int) 1 := ⟨tg_210, by decide +kernel, tg_2⟩
set_option maxHeartbeats 4000000 in
theorem kX6_at (l : Launch) (D : va_G) (cI cB cS : ClassId) (n : Nat) (ad : Nat → Nat) (bf : Nat → Option Nat) (hcg : bok n ad bf) {p0 : Nat} (hp0 : p0 < 4) {p1 : Int32} {M : MS} {q : Int32} (hf : fX6_at n p0 p1 M = some q) : Ct l D cI cB cS yX6_at cX6_at 2 (some .int) 1 21 [.ref (ad (2 + p0)), .int p1] (cW cI cB cS n ad bf M) (some (.int q)) (cW cI cB cS n ad bf M) := by
  refine Ct.ofW (by decide) (Nat.le_of_ble_eq_true rfl) ?_
  intro p e s m args below meth c ls C hr hlocks _ hw hl
  have hx := C.1
  have hb := C.2.1
  have hA : ∀ q, s.heap.size ≤ q → va_A (cW cI cB cS n ad bf M) s.heap.size q := fun q h => Or.inr h
  have hl : lv_has ls 2 [(0, .ref (ad (2 + p0))), (1, .int p1)] := hl
  unfold fX6_at at hf
  refine lv_iload_n hx hb dX6_at_0 rfl (lv_at hl 1 rfl) ?_
  refine lv_aload_n hx hb dX6_at_1 rfl (lv_at hl 0 rfl) ?_
  refine cg_6_19 hp0 C hw dX6_at_2 ?_
  refine ct_SN1 (rest := []) C hw hA (kX8_isBelow l D cI cB cS _ _ _) cfX8_isBelow tn_19 tg_184 ⟨(Nat.le_of_ble_eq_true rfl), (Nat.le_of_ble_eq_true rfl)⟩ ⟨(Nat.le_of_ble_eq_true rfl), (Nat.le_of_ble_eq_true rfl)⟩ rfl hl.1 rfl (Nat.le_of_ble_eq_true rfl) dX6_at_5 (fun H locs hw => ?_)
  refine lv_if_eq (tgt := 26) hx hb dX6_at_8 (by decide) (fun h1 => ?_) (fun h1 => ?_)
  · have hf := it_t h1 hf
    refine lv_iconst (v := 0) hx hb dX6_at_26 ic_0 ?_
    obtain rfl := Option.some.inj hf
    exact qt_i C hr hlocks hw dX6_at_27
  · have hf := it_f h1 hf
    refine lv_iload_n hx hb dX6_at_11 rfl (lv_at hl 1 rfl) ?_
    refine lv_bipush (v := 60) hx hb dX6_at_12 ib_60 ?_
    refine lv_icmp_ge (tgt := 26) hx hb dX6_at_14 (by decide) (fun h2 => ?_) (fun h2 => ?_)
    · have hf := it_t h2 hf
      refine lv_iconst (v := 0) hx hb dX6_at_26 ic_0 ?_
      obtain rfl := Option.some.inj hf
      exact qt_i C hr hlocks hw dX6_at_27
    · have hf := it_f h2 hf
      refine lv_aload_n hx hb dX6_at_17 rfl (lv_at hl 0 rfl) ?_
      refine cg_6_9 hp0 C hw dX6_at_18 ?_
      refine lv_iload_n hx hb dX6_at_21 rfl (lv_at hl 1 rfl) ?_
      obtain ⟨g3, hf⟩ := gd_inv hf
      refine cl_ce hp0 C hw g3 dX6_at_22 ?_
      refine lv_goto (tgt := 27) hx hb dX6_at_23 (by decide) ?_
      obtain rfl := Option.some.inj hf
      exact qt_i C hr hlocks hw dX6_at_27
theorem cfX6_cut : cf yX6_cut cX6_cut 2 (some .int) 1 := ⟨tg_558, by decide +kernel, tg_2⟩
set_option maxHeartbeats 4000000 in
theorem kX6_cut (l : Launch) (D : va_G) (cI cB cS : ClassId) (n : Nat) (ad : Nat → Nat) (bf : Nat → Option Nat) (hcg : bok n ad bf) {p0 : Nat} (hp0 : p0 < 4) (p1 : Int32) (M : MS) : Ct l D cI cB cS yX6_cut cX6_cut 2 (some .int) 0 0 [.ref (ad (2 + p0)), .int p1] (cW cI cB cS n ad bf M) (some (.int (fX6_cut n p0 p1 M))) (cW cI cB cS n ad bf M) := by
  obtain ⟨q, hf⟩ : ∃ q, fX6_cut n p0 p1 M = q := ⟨_, rfl⟩
  rw [hf]
  refine Ct.ofW (by decide) (Nat.le_of_ble_eq_true rfl) ?_
  intro p e s m args below meth c ls C hr hlocks _ hw hl
  have hx := C.1
  have hb := C.2.1
  have hA : ∀ q, s.heap.size ≤ q → va_A (cW cI cB cS n ad bf M) s.heap.size q := fun q h => Or.inr h
  have hl : lv_has ls 2 [(0, .ref (ad (2 + p0))), (1, .int p1)] := hl
  unfold fX6_cut at hf
  refine lv_aload_n hx hb dX6_cut_0 rfl (lv_at hl 0 rfl) ?_
  refine cg_6_15 hp0 C hw dX6_cut_1 ?_
  refine lv_if_ne (tgt := 10) hx hb dX6_cut_4 (by decide) (fun h1 => ?_) (fun h1 => ?_)
  · have hf := it_f h1 hf
    refine lv_aload_n hx hb dX6_cut_10 rfl (lv_at hl 0 rfl) ?_
    refine cg_6_15 hp0 C hw dX6_cut_11 ?_
    refine lv_iconst (v := 1) hx hb dX6_cut_14 ic_1 ?_
    refine lv_icmp_ne (tgt := 23) hx hb dX6_cut_15 (by decide) (fun h2 => ?_) (fun h2 => ?_)
    · have hf := it_f h2 hf
      refine lv_iload_n hx hb dX6_cut_23 rfl (lv_at hl 1 rfl) ?_
      subst hf
      exact qt_i C hr hlocks hw dX6_cut_24
    · have hf := it_t h2 hf
      refine lv_iload_n hx hb dX6_cut_18 rfl (lv_at hl 1 rfl) ?_
      refine lv_i2s (v := (p1.toInt16.toInt32)) hx hb dX6_cut_19 rfl ?_
      refine lv_goto (tgt := 24) hx hb dX6_cut_20 (by decide) ?_
      subst hf
      exact qt_i C hr hlocks hw dX6_cut_24
  · have hf := it_t h1 hf
    refine lv_iload_n hx hb dX6_cut_7 rfl (lv_at hl 1 rfl) ?_
    refine lv_i2b (v := (p1.toInt8.toInt32)) hx hb dX6_cut_8 rfl ?_
    subst hf
    exact qt_i C hr hlocks hw dX6_cut_9
theorem cfX6_write : cf yX6_write cX6_write 3 none 2 := ⟨tg_554, by decide +kernel, tg_2⟩
set_option maxHeartbeats 4000000 in
theorem kX6_write (l : Launch) (D : va_G) (cI cB cS : ClassId) (n : Nat) (ad : Nat → Nat) (bf : Nat → Option Nat) (hcg : bok n ad bf) {p0 : Nat} (hp0 : p0 < 4) {p1 : Int32} {p2 : Int32} {M : MS} {q : MS} (hf : fX6_write n p0 p1 p2 M = some q) : Ct l D cI cB cS yX6_write cX6_write 3 none 1 21 [.ref (ad (2 + p0)), .int p1, .int p2] (cW cI cB cS n ad bf M) none (cW cI cB cS n ad bf q) := by
  refine Ct.ofW (by decide) (Nat.le_of_ble_eq_true rfl) ?_
  intro p e s m args below meth c ls C hr hlocks _ hw hl
  have hx := C.1
  have hb := C.2.1
  have hA : ∀ q, s.heap.size ≤ q → va_A (cW cI cB cS n ad bf M) s.heap.size q := fun q h => Or.inr h
  have hl : lv_has ls 3 [(0, .ref (ad (2 + p0))), (1, .int p1), (2, .int p2)] := hl
  unfold fX6_write at hf
  refine lv_iload_n hx hb dX6_write_0 rfl (lv_at hl 1 rfl) ?_
  refine lv_aload_n hx hb dX6_write_1 rfl (lv_at hl 0 rfl) ?_
  refine cg_6_19 hp0 C hw dX6_write_2 ?_
  refine ct_SN1 (rest := []) C hw hA (kX8_isBelow l D cI cB cS _ _ _) cfX8_isBelow tn_19 tg_184 ⟨(Nat.le_of_ble_eq_true rfl), (Nat.le_of_ble_eq_true rfl)⟩ ⟨(Nat.le_of_ble_eq_true rfl), (Nat.le_of_ble_eq_true rfl)⟩ rfl hl.1 rfl (Nat.le_of_ble_eq_true rfl) dX6_write_5 (fun H locs hw => ?_)
  refine lv_if_eq (tgt := 28) hx hb dX6_write_8 (by decide) (fun h1 => ?_) (fun h1 => ?_)
  · have hf := it_t h1 hf
    obtain rfl := Option.some.inj hf
    exact qt_v C hr hlocks hw dX6_write_28
  · have hf := it_f h1 hf
    refine lv_iload_n hx hb dX6_write_11 rfl (lv_at hl 1 rfl) ?_
    refine lv_bipush (v := 60) hx hb dX6_write_12 ib_60 ?_
    refine lv_icmp_ge (tgt := 28) hx hb dX6_write_14 (by decide) (fun h2 => ?_) (fun h2 => ?_)
    · have hf := it_t h2 hf
      obtain rfl := Option.some.inj hf
      exact qt_v C hr hlocks hw dX6_write_28
    · have hf := it_f h2 hf
      refine lv_aload_n hx hb dX6_write_17 rfl (lv_at hl 0 rfl) ?_
      refine cg_6_9 hp0 C hw dX6_write_18 ?_
      refine lv_iload_n hx hb dX6_write_21 rfl (lv_at hl 1 rfl) ?_
      refine lv_aload_n hx hb dX6_write_22 rfl (lv_at hl 0 rfl) ?_
      refine lv_iload_n hx hb dX6_write_23 rfl (lv_at hl 2 rfl) ?_
      refine ct_V1 (q0 := 2 + p0) (ci := 6) (rest := [.int p1, .ref (ad (6 + p0))]) C hw hA (kX6_cut l D cI cB cS n ad bf hcg hp0 _ _) cfX6_cut tg_555 tg_557 ts_yX6_cut ⟨(Nat.le_of_ble_eq_true rfl), (Nat.le_of_ble_eq_true rfl)⟩ ⟨(Nat.le_of_ble_eq_true rfl), (Nat.le_of_ble_eq_true rfl)⟩ rfl rfl rfl (cW_sh hp0) hl.1 rfl (Nat.le_of_ble_eq_true rfl) dX6_write_24 (fun H locs hw => ?_)
      obtain ⟨g3, hf⟩ := gd_inv hf
      refine cs_ce hp0 C hw g3 dX6_write_27 (fun H locs hw => ?_)
      obtain rfl := Option.some.inj hf
      exact qt_v C hr hlocks hw dX6_write_28
theorem cfX8_ofBuyer : cf yX8_ofBuyer cX8_ofBuyer 4 (some .int) 2 := ⟨tg_292, by decide +kernel, tg_1⟩
set_option maxHeartbeats 4000000 in
theorem kX8_ofBuyer (l : Launch) (D : va_G) (cI cB cS : ClassId) (n : Nat) (ad : Nat → Nat) (bf : Nat → Option Nat) (hcg : bok n ad bf) {p1 : Int32} {p2 : Int32} {M : MS} {q : Int32} (hf : fX8_ofBuyer n p1 p2 M = some q) : Ct l D cI cB cS yX8_ofBuyer cX8_ofBuyer 4 (some .int) 4 88 [.ref (ad 0), .int p1, .int p2] (cW cI cB cS n ad bf M) (some (.int q)) (cW cI cB cS n ad bf M) := by
  refine Ct.ofW (by decide) (Nat.le_of_ble_eq_true rfl) ?_
  intro p e s m args below meth c ls C hr hlocks _ hw hl
  have hx := C.1
  have hb := C.2.1
  have hA : ∀ q, s.heap.size ≤ q → va_A (cW cI cB cS n ad bf M) s.heap.size q := fun q h => Or.inr h
  have hl : lv_has ls 4 [(0, .ref (ad 0)), (1, .int p1), (2, .int p2)] := hl
  unfold fX8_ofBuyer at hf
  refine lv_aload_n hx hb dX8_ofBuyer_0 rfl (lv_at hl 0 rfl) ?_
  refine cg_8_28 C hw dX8_ofBuyer_1 ?_
  refine lv_iload_n hx hb dX8_ofBuyer_4 rfl (lv_at hl 1 rfl) ?_
  refine ct_V1 (q0 := 11) (ci := 5) (rest := []) C hw hA (kX5_buyerOf l D cI cB cS n ad bf hcg _ _) cfX5_buyerOf tg_293 tg_294 tg_295 ⟨(Nat.le_of_ble_eq_true rfl), (Nat.le_of_ble_eq_true rfl)⟩ ⟨(Nat.le_of_ble_eq_true rfl), (Nat.le_of_ble_eq_true rfl)⟩ rfl rfl rfl rfl hl.1 rfl (Nat.le_of_ble_eq_true rfl) dX8_ofBuyer_5 (fun H locs hw => ?_)
  rcases em_o (fX5_buyerOf n p1) with h1 | ⟨j2, h1⟩
  · rw [h1]
    have hf := om_n h1 hf
    refine lv_astore_nN (lv' := [(3, .null), (0, .ref (ad 0)), (1, .int p1), (2, .int p2)]) hx hb dX8_ofBuyer_8 rfl hl (by decide) rfl (fun ls hl => ?_)
    refine lv_aload_nN hx hb dX8_ofBuyer_9 rfl (lv_at hl 0 rfl) ?_
    refine lv_ifnonnullN hx hb dX8_ofBuyer_10 ?_
    refine lv_iconst (v := (-1)) hx hb dX8_ofBuyer_13 ic_m1 ?_
    obtain rfl := Option.some.inj hf
    exact qt_i C hr hlocks hw dX8_ofBuyer_14
  · rw [h1]
    have hf := om_s h1 hf
    have hj2 := buyerOf_lt hcg.1 h1
    refine lv_astore_n (lv' := [(3, .ref (ad (30 + j2))), (0, .ref (ad 0)), (1, .int p1), (2, .int p2)]) hx hb dX8_ofBuyer_8 rfl hl (by decide) rfl (fun ls hl => ?_)
    refine lv_aload_n hx hb dX8_ofBuyer_9 rfl (lv_at hl 0 rfl) ?_
    refine lv_ifnonnull (tgt := 15) hx hb dX8_ofBuyer_10 (by decide) ?_
    refine lv_iload_n hx hb dX8_ofBuyer_15 rfl (lv_at hl 3 rfl) ?_
    rcases Decidable.em (p2 = 0) with h3 | h3
    · have hf := it_t h3 hf
      refine lv_tableIn (off := 32) (tgt := 48) hx hb dX8_ofBuyer_16 (by rw [h3]; decide) (by rw [h3]; decide) (by rw [h3]; rfl) (by decide) ?_
      refine lv_aload_n hx hb dX8_ofBuyer_48 rfl (lv_at hl 0 rfl) ?_
      refine cb_vkind (rest := []) hj2 C hw hA tg_298 ⟨(Nat.le_of_ble_eq_true rfl), (Nat.le_of_ble_eq_true rfl)⟩ ⟨(Nat.le_of_ble_eq_true rfl), (Nat.le_of_ble_eq_true rfl)⟩ hl.1 (Nat.le_of_ble_eq_true rfl) dX8_ofBuyer_49 (fun H locs hw => ?_)
      obtain rfl := Option.some.inj hf
      exact qt_i C hr hlocks hw dX8_ofBuyer_52
    · have hf := it_f h3 hf
      rcases Decidable.em (p2 = 1) with h4 | h4
      · have hf := it_t h4 hf
        refine lv_tableIn (off := 37) (tgt := 53) hx hb dX8_ofBuyer_16 (by rw [h4]; decide) (by rw [h4]; decide) (by rw [h4]; rfl) (by decide) ?_
        refine lv_aload_n hx hb dX8_ofBuyer_53 rfl (lv_at hl 0 rfl) ?_
        refine cg_8_93 hj2 C hw dX8_ofBuyer_54 ?_
        obtain rfl := Option.some.inj hf
        exact qt_i C hr hlocks hw dX8_ofBuyer_57
      · have hf := it_f h4 hf
        rcases Decidable.em (p2 = 2) with h5 | h5
        · have hf := it_t h5 hf
          refine lv_tableIn (off := 42) (tgt := 58) hx hb dX8_ofBuyer_16 (by rw [h5]; decide) (by rw [h5]; decide) (by rw [h5]; rfl) (by decide) ?_
          refine lv_aload_n hx hb dX8_ofBuyer_58 rfl (lv_at hl 0 rfl) ?_
          refine cg_8_96 hj2 C hw dX8_ofBuyer_59 ?_
          obtain rfl := Option.some.inj hf
          exact qt_i C hr hlocks hw dX8_ofBuyer_62
        · have hf := it_f h5 hf
          rcases Decidable.em (p2 = 3) with h6 | h6
          · have hf := it_t h6 hf
            refine lv_tableIn (off := 47) (tgt := 63) hx hb dX8_ofBuyer_16 (by rw [h6]; decide) (by rw [h6]; decide) (by rw [h6]; rfl) (by decide) ?_
            refine lv_aload_n hx hb dX8_ofBuyer_63 rfl (lv_at hl 1 rfl) ?_
            refine cg_8_28 C hw dX8_ofBuyer_64 ?_
            refine lv_aload_n hx hb dX8_ofBuyer_67 rfl (lv_at hl 0 rfl) ?_
            obtain ⟨r7, e8, hf⟩ := bd hf
            refine ct_V1 (q0 := 11) (ci := 5) (rest := []) C hw hA (kX5_shows l D cI cB cS n ad bf hcg hj2 e8) cfX5_shows tg_309 tg_310 tg_311 ⟨(Nat.le_of_ble_eq_true rfl), (Nat.le_of_ble_eq_true rfl)⟩ ⟨(Nat.le_of_ble_eq_true rfl), (Nat.le_of_ble_eq_true rfl)⟩ rfl rfl rfl rfl hl.1 rfl (Nat.le_of_ble_eq_true rfl) dX8_ofBuyer_68 (fun H locs hw => ?_)
            refine lv_if_eq (tgt := 78) hx hb dX8_ofBuyer_71 (by decide) (fun h9 => ?_) (fun h9 => ?_)
            · have hf := it_t h9 hf
              refine lv_iconst (v := 0) hx hb dX8_ofBuyer_78 ic_0 ?_
              obtain rfl := Option.some.inj hf
              exact qt_i C hr hlocks hw dX8_ofBuyer_79
            · have hf := it_f h9 hf
              refine lv_iconst (v := 1) hx hb dX8_ofBuyer_74 ic_1 ?_
              refine lv_goto (tgt := 79) hx hb dX8_ofBuyer_75 (by decide) ?_
              obtain rfl := Option.some.inj hf
              exact qt_i C hr hlocks hw dX8_ofBuyer_79
          · have hf := it_f h6 hf
            refine lv_tableOut (tgt := 80) hx hb dX8_ofBuyer_16 (sw_out3 h3 h4 h5 h6) (by decide) ?_
            refine lv_bipush (v := (-2)) hx hb dX8_ofBuyer_80 ib_m2 ?_
            obtain rfl := Option.some.inj hf
            exact qt_i C hr hlocks hw dX8_ofBuyer_82
theorem cfX8_worth : cf yX8_worth cX8_worth 6 (some .int) 3 := ⟨tg_330, by decide +kernel, tg_1⟩
set_option maxHeartbeats 4000000 in
theorem kX8_worth (l : Launch) (D : va_G) (cI cB cS : ClassId) (n : Nat) (ad : Nat → Nat) (bf : Nat → Option Nat) (hcg : bok n ad bf) {p1 : Int32} {p2 : Int32} {p3 : Int32} {M : MS} {q : (Int32 × MS)} (hf : fX8_worth n p1 p2 p3 M = some q) : Ct l D cI cB cS yX8_worth cX8_worth 6 (some .int) 2 42 [.ref (ad 0), .int p1, .int p2, .int p3] (cW cI cB cS n ad bf M) (some (.int q.1)) (cW cI cB cS n ad bf q.2) := by
  refine Ct.ofW (by decide) (Nat.le_of_ble_eq_true rfl) ?_
  intro p e s m args below meth c ls C hr hlocks _ hw hl
  have hx := C.1
  have hb := C.2.1
  have hA : ∀ q, s.heap.size ≤ q → va_A (cW cI cB cS n ad bf M) s.heap.size q := fun q h => Or.inr h
  have hl : lv_has ls 6 [(0, .ref (ad 0)), (1, .int p1), (2, .int p2), (3, .int p3)] := hl
  unfold fX8_worth at hf
  refine lv_aload_n hx hb dX8_worth_0 rfl (lv_at hl 0 rfl) ?_
  refine cg_8_28 C hw dX8_worth_1 ?_
  refine lv_iload_n hx hb dX8_worth_4 rfl (lv_at hl 1 rfl) ?_
  refine ct_V1 (q0 := 11) (ci := 5) (rest := []) C hw hA (kX5_buyerOf l D cI cB cS n ad bf hcg _ _) cfX5_buyerOf tg_293 tg_294 tg_295 ⟨(Nat.le_of_ble_eq_true rfl), (Nat.le_of_ble_eq_true rfl)⟩ ⟨(Nat.le_of_ble_eq_true rfl), (Nat.le_of_ble_eq_true rfl)⟩ rfl rfl rfl rfl hl.1 rfl (Nat.le_of_ble_eq_true rfl) dX8_worth_5 (fun H locs hw => ?_)
  rcases em_o (fX5_buyerOf n p1) with h1 | ⟨j2, h1⟩
  · rw [h1]
    have hf := om_n h1 hf
    refine lv_astoreN (lv' := [(4, .null), (0, .ref (ad 0)), (1, .int p1), (2, .int p2), (3, .int p3)]) hx hb dX8_worth_8 hl (by decide) rfl (fun ls hl => ?_)
    refine lv_aloadN hx hb dX8_worth_10 (lv_at hl 0 rfl) ?_
    refine lv_ifnullN (tgt := 22) hx hb dX8_worth_12 (by decide) ?_
    refine lv_iconst (v := (-1)) hx hb dX8_worth_22 ic_m1 ?_
    obtain rfl := Option.some.inj hf
    exact qt_i C hr hlocks hw dX8_worth_23
  · rw [h1]
    have hf := om_s h1 hf
    have hj2 := buyerOf_lt hcg.1 h1
    refine lv_astore (lv' := [(4, .ref (ad (30 + j2))), (0, .ref (ad 0)), (1, .int p1), (2, .int p2), (3, .int p3)]) hx hb dX8_worth_8 hl (by decide) rfl (fun ls hl => ?_)
    refine lv_aload hx hb dX8_worth_10 (lv_at hl 0 rfl) ?_
    refine lv_ifnull hx hb dX8_worth_12 ?_
    refine lv_iload_n hx hb dX8_worth_15 rfl (lv_at hl 3 rfl) ?_
    refine ct_S1 (rest := []) C hw hA (kX8_isLot l D cI cB cS _ _) cfX8_isLot tg_331 tg_332 ⟨(Nat.le_of_ble_eq_true rfl), (Nat.le_of_ble_eq_true rfl)⟩ ⟨(Nat.le_of_ble_eq_true rfl), (Nat.le_of_ble_eq_true rfl)⟩ rfl hl.1 rfl (Nat.le_of_ble_eq_true rfl) dX8_worth_16 (fun H locs hw => ?_)
    refine lv_if_ne (tgt := 24) hx hb dX8_worth_19 (by decide) (fun h3 => ?_) (fun h3 => ?_)
    · have hf := it_f h3 hf
      refine lv_iload_n hx hb dX8_worth_24 rfl (lv_at hl 4 rfl) ?_
      refine lv_if_lt (tgt := 34) hx hb dX8_worth_25 (by decide) (fun h4 => ?_) (fun h4 => ?_)
      · have hf := it_t h4 hf
        refine lv_bipush (v := (-2)) hx hb dX8_worth_34 ib_m2 ?_
        obtain rfl := Option.some.inj hf
        exact qt_i C hr hlocks hw dX8_worth_36
      · have hf := it_f h4 hf
        refine lv_iload_n hx hb dX8_worth_28 rfl (lv_at hl 4 rfl) ?_
        refine lv_bipush (v := 99) hx hb dX8_worth_29 ib_99 ?_
        refine lv_icmp_le (tgt := 37) hx hb dX8_worth_31 (by decide) (fun h5 => ?_) (fun h5 => ?_)
        · have hf := it_t h5 hf
          refine lv_aload hx hb dX8_worth_37 (lv_at hl 0 rfl) ?_
          refine cg_8_106 hj2 C hw dX8_worth_39 ?_
          refine lv_iload_n hx hb dX8_worth_42 rfl (lv_at hl 3 rfl) ?_
          obtain ⟨g6, hf⟩ := gd_inv hf
          refine cl_w hj2 C hw g6 dX8_worth_43 ?_
          refine lv_istore (lv' := [(5, .int (M 23 (6 * p2.toNatClampNeg + j2))), (4, .ref (ad (30 + j2))), (0, .ref (ad 0)), (1, .int p1), (2, .int p2), (3, .int p3)]) hx hb dX8_worth_44 hl (by decide) rfl (fun ls hl => ?_)
          refine lv_aload hx hb dX8_worth_46 (lv_at hl 1 rfl) ?_
          refine cg_8_106 hj2 C hw dX8_worth_48 ?_
          refine lv_iload_n hx hb dX8_worth_51 rfl (lv_at hl 4 rfl) ?_
          refine lv_iload_n hx hb dX8_worth_52 rfl (lv_at hl 5 rfl) ?_
          obtain ⟨g7, hf⟩ := gd_inv hf
          refine cs_w hcg.1 hj2 C hw g7 dX8_worth_53 (fun H locs hw => ?_)
          refine lv_iload hx hb dX8_worth_54 (lv_at hl 0 rfl) ?_
          obtain rfl := Option.some.inj hf
          exact qt_i C hr hlocks hw dX8_worth_56
        · have hf := it_f h5 hf
          refine lv_bipush (v := (-2)) hx hb dX8_worth_34 ib_m2 ?_
          obtain rfl := Option.some.inj hf
          exact qt_i C hr hlocks hw dX8_worth_36
    · have hf := it_t h3 hf
      refine lv_iconst (v := (-1)) hx hb dX8_worth_22 ic_m1 ?_
      obtain rfl := Option.some.inj hf
      exact qt_i C hr hlocks hw dX8_worth_23
theorem cfX8_limit : cf yX8_limit cX8_limit 4 (some .int) 2 := ⟨tg_337, by decide +kernel, tg_1⟩
set_option maxHeartbeats 4000000 in
theorem kX8_limit (l : Launch) (D : va_G) (cI cB cS : ClassId) (n : Nat) (ad : Nat → Nat) (bf : Nat → Option Nat) (hcg : bok n ad bf) {p1 : Int32} {p2 : Int32} {M : MS} {q : Int32} (hf : fX8_limit n p1 p2 M = some q) : Ct l D cI cB cS yX8_limit cX8_limit 4 (some .int) 2 43 [.ref (ad 0), .int p1, .int p2] (cW cI cB cS n ad bf M) (some (.int q)) (cW cI cB cS n ad bf M) := by
  refine Ct.ofW (by decide) (Nat.le_of_ble_eq_true rfl) ?_
  intro p e s m args below meth c ls C hr hlocks _ hw hl
  have hx := C.1
  have hb := C.2.1
  have hA : ∀ q, s.heap.size ≤ q → va_A (cW cI cB cS n ad bf M) s.heap.size q := fun q h => Or.inr h
  have hl : lv_has ls 4 [(0, .ref (ad 0)), (1, .int p1), (2, .int p2)] := hl
  unfold fX8_limit at hf
  refine lv_aload_n hx hb dX8_limit_0 rfl (lv_at hl 0 rfl) ?_
  refine cg_8_28 C hw dX8_limit_1 ?_
  refine lv_iload_n hx hb dX8_limit_4 rfl (lv_at hl 1 rfl) ?_
  refine ct_V1 (q0 := 11) (ci := 5) (rest := []) C hw hA (kX5_buyerOf l D cI cB cS n ad bf hcg _ _) cfX5_buyerOf tg_293 tg_294 tg_295 ⟨(Nat.le_of_ble_eq_true rfl), (Nat.le_of_ble_eq_true rfl)⟩ ⟨(Nat.le_of_ble_eq_true rfl), (Nat.le_of_ble_eq_true rfl)⟩ rfl rfl rfl rfl hl.1 rfl (Nat.le_of_ble_eq_true rfl) dX8_limit_5 (fun H locs hw => ?_)
  rcases em_o (fX5_buyerOf n p1) with h1 | ⟨j2, h1⟩
  · rw [h1]
    have hf := om_n h1 hf
    refine lv_astore_nN (lv' := [(3, .null), (0, .ref (ad 0)), (1, .int p1), (2, .int p2)]) hx hb dX8_limit_8 rfl hl (by decide) rfl (fun ls hl => ?_)
    refine lv_aload_nN hx hb dX8_limit_9 rfl (lv_at hl 0 rfl) ?_
    refine lv_ifnullN (tgt := 20) hx hb dX8_limit_10 (by decide) ?_
    refine lv_iconst (v := (-1)) hx hb dX8_limit_20 ic_m1 ?_
    obtain rfl := Option.some.inj hf
    exact qt_i C hr hlocks hw dX8_limit_21
  · rw [h1]
    have hf := om_s h1 hf
    have hj2 := buyerOf_lt hcg.1 h1
    refine lv_astore_n (lv' := [(3, .ref (ad (30 + j2))), (0, .ref (ad 0)), (1, .int p1), (2, .int p2)]) hx hb dX8_limit_8 rfl hl (by decide) rfl (fun ls hl => ?_)
    refine lv_aload_n hx hb dX8_limit_9 rfl (lv_at hl 0 rfl) ?_
    refine lv_ifnull hx hb dX8_limit_10 ?_
    refine lv_iload_n hx hb dX8_limit_13 rfl (lv_at hl 3 rfl) ?_
    refine ct_S1 (rest := []) C hw hA (kX8_isLot l D cI cB cS _ _) cfX8_isLot tg_331 tg_332 ⟨(Nat.le_of_ble_eq_true rfl), (Nat.le_of_ble_eq_true rfl)⟩ ⟨(Nat.le_of_ble_eq_true rfl), (Nat.le_of_ble_eq_true rfl)⟩ rfl hl.1 rfl (Nat.le_of_ble_eq_true rfl) dX8_limit_14 (fun H locs hw => ?_)
    refine lv_if_ne (tgt := 22) hx hb dX8_limit_17 (by decide) (fun h3 => ?_) (fun h3 => ?_)
    · have hf := it_f h3 hf
      refine lv_aload_n hx hb dX8_limit_22 rfl (lv_at hl 0 rfl) ?_
      refine lv_aload_n hx hb dX8_limit_23 rfl (lv_at hl 0 rfl) ?_
      refine cg_8_106 hj2 C hw dX8_limit_24 ?_
      refine lv_iload_n hx hb dX8_limit_27 rfl (lv_at hl 3 rfl) ?_
      obtain ⟨g4, hf⟩ := gd_inv hf
      refine cl_w hj2 C hw g4 dX8_limit_28 ?_
      refine lv_aload_n hx hb dX8_limit_29 rfl (lv_at hl 0 rfl) ?_
      refine cg_8_96 hj2 C hw dX8_limit_30 ?_
      refine cb_vlim (rest := []) hj2 C hw hA tg_338 ⟨(Nat.le_of_ble_eq_true rfl), (Nat.le_of_ble_eq_true rfl)⟩ ⟨(Nat.le_of_ble_eq_true rfl), (Nat.le_of_ble_eq_true rfl)⟩ hl.1 (Nat.le_of_ble_eq_true rfl) dX8_limit_33 (fun H locs hw => ?_)
      obtain rfl := Option.some.inj hf
      exact qt_i C hr hlocks hw dX8_limit_36
    · have hf := it_t h3 hf
      refine lv_iconst (v := (-1)) hx hb dX8_limit_20 ic_m1 ?_
      obtain rfl := Option.some.inj hf
      exact qt_i C hr hlocks hw dX8_limit_21
theorem cfX8_sit : cf yX8_sit cX8_sit 5 (some .int) 2 := ⟨tg_357, by decide +kernel, tg_1⟩
set_option maxHeartbeats 4000000 in
theorem kX8_sit (l : Launch) (D : va_G) (cI cB cS : ClassId) (n : Nat) (ad : Nat → Nat) (bf : Nat → Option Nat) (hcg : bok n ad bf) {p1 : Int32} {p2 : Int32} {M : MS} {q : (Int32 × MS)} (hf : fX8_sit n p1 p2 M = some q) : Ct l D cI cB cS yX8_sit cX8_sit 5 (some .int) 3 66 [.ref (ad 0), .int p1, .int p2] (cW cI cB cS n ad bf M) (some (.int q.1)) (cW cI cB cS n ad bf q.2) := by
  refine Ct.ofW (by decide) (Nat.le_of_ble_eq_true rfl) ?_
  intro p e s m args below meth c ls C hr hlocks _ hw hl
  have hx := C.1
  have hb := C.2.1
  have hA : ∀ q, s.heap.size ≤ q → va_A (cW cI cB cS n ad bf M) s.heap.size q := fun q h => Or.inr h
  have hl : lv_has ls 5 [(0, .ref (ad 0)), (1, .int p1), (2, .int p2)] := hl
  unfold fX8_sit at hf
  refine lv_aload_n hx hb dX8_sit_0 rfl (lv_at hl 0 rfl) ?_
  refine cg_8_28 C hw dX8_sit_1 ?_
  refine lv_iload_n hx hb dX8_sit_4 rfl (lv_at hl 1 rfl) ?_
  refine ct_V1 (q0 := 11) (ci := 5) (rest := []) C hw hA (kX5_buyerOf l D cI cB cS n ad bf hcg _ _) cfX5_buyerOf tg_293 tg_294 tg_295 ⟨(Nat.le_of_ble_eq_true rfl), (Nat.le_of_ble_eq_true rfl)⟩ ⟨(Nat.le_of_ble_eq_true rfl), (Nat.le_of_ble_eq_true rfl)⟩ rfl rfl rfl rfl hl.1 rfl (Nat.le_of_ble_eq_true rfl) dX8_sit_5 (fun H locs hw => ?_)
  rcases em_o (fX5_buyerOf n p1) with h1 | ⟨j2, h1⟩
  · rw [h1]
    have hf := om_n h1 hf
    refine lv_astore_nN (lv' := [(3, .null), (0, .ref (ad 0)), (1, .int p1), (2, .int p2)]) hx hb dX8_sit_8 rfl hl (by decide) rfl (fun ls hl => ?_)
    refine lv_aload_nN hx hb dX8_sit_9 rfl (lv_at hl 0 rfl) ?_
    refine lv_ifnullN (tgt := 27) hx hb dX8_sit_10 (by decide) ?_
    refine lv_iconst (v := (-1)) hx hb dX8_sit_27 ic_m1 ?_
    obtain rfl := Option.some.inj hf
    exact qt_i C hr hlocks hw dX8_sit_28
  · rw [h1]
    have hf := om_s h1 hf
    have hj2 := buyerOf_lt hcg.1 h1
    refine lv_astore_n (lv' := [(3, .ref (ad (30 + j2))), (0, .ref (ad 0)), (1, .int p1), (2, .int p2)]) hx hb dX8_sit_8 rfl hl (by decide) rfl (fun ls hl => ?_)
    refine lv_aload_n hx hb dX8_sit_9 rfl (lv_at hl 0 rfl) ?_
    refine lv_ifnull hx hb dX8_sit_10 ?_
    refine lv_iload_n hx hb dX8_sit_13 rfl (lv_at hl 3 rfl) ?_
    refine lv_aload_n hx hb dX8_sit_14 rfl (lv_at hl 1 rfl) ?_
    refine cg_8_28 C hw dX8_sit_15 ?_
    refine cg_8_114 C hw dX8_sit_18 ?_
    refine ct_S1 (rest := []) C hw hA (kX8_isBelow l D cI cB cS _ _ _) cfX8_isBelow tg_183 tg_184 ⟨(Nat.le_of_ble_eq_true rfl), (Nat.le_of_ble_eq_true rfl)⟩ ⟨(Nat.le_of_ble_eq_true rfl), (Nat.le_of_ble_eq_true rfl)⟩ rfl hl.1 rfl (Nat.le_of_ble_eq_true rfl) dX8_sit_21 (fun H locs hw => ?_)
    refine lv_if_ne (tgt := 29) hx hb dX8_sit_24 (by decide) (fun h3 => ?_) (fun h3 => ?_)
    · have hf := it_f h3 hf
      refine lv_aload_n hx hb dX8_sit_29 rfl (lv_at hl 1 rfl) ?_
      refine cg_8_28 C hw dX8_sit_30 ?_
      refine lv_aload_n hx hb dX8_sit_33 rfl (lv_at hl 0 rfl) ?_
      refine lv_iload_n hx hb dX8_sit_34 rfl (lv_at hl 3 rfl) ?_
      obtain ⟨r4, e5, hf⟩ := bd hf
      refine ct_V1 (q0 := 11) (ci := 5) (rest := []) C hw hA (kX5_isFreeFor l D cI cB cS n ad bf hcg hj2 e5) cfX5_isFreeFor tg_358 tg_323 tg_324 ⟨(Nat.le_of_ble_eq_true rfl), (Nat.le_of_ble_eq_true rfl)⟩ ⟨(Nat.le_of_ble_eq_true rfl), (Nat.le_of_ble_eq_true rfl)⟩ rfl rfl rfl rfl hl.1 rfl (Nat.le_of_ble_eq_true rfl) dX8_sit_35 (fun H locs hw => ?_)
      refine lv_if_ne (tgt := 44) hx hb dX8_sit_38 (by decide) (fun h6 => ?_) (fun h6 => ?_)
      · have hf := it_f h6 hf
        refine lv_aload_n hx hb dX8_sit_44 rfl (lv_at hl 0 rfl) ?_
        refine cg_8_93 hj2 C hw dX8_sit_45 ?_
        refine lv_istore (lv' := [(4, .int (M 22 j2)), (3, .ref (ad (30 + j2))), (0, .ref (ad 0)), (1, .int p1), (2, .int p2)]) hx hb dX8_sit_48 hl (by decide) rfl (fun ls hl => ?_)
        refine lv_aload_n hx hb dX8_sit_50 rfl (lv_at hl 1 rfl) ?_
        refine lv_iload_n hx hb dX8_sit_51 rfl (lv_at hl 4 rfl) ?_
        refine cp_8_93 hj2 C hw dX8_sit_52 (fun H locs hw => ?_)
        refine lv_iload hx hb dX8_sit_55 (lv_at hl 0 rfl) ?_
        obtain rfl := Option.some.inj hf
        exact qt_i C hr hlocks hw dX8_sit_57
      · have hf := it_t h6 hf
        refine lv_bipush (v := (-3)) hx hb dX8_sit_41 ib_m3 ?_
        obtain rfl := Option.some.inj hf
        exact qt_i C hr hlocks hw dX8_sit_43
    · have hf := it_t h3 hf
      refine lv_iconst (v := (-1)) hx hb dX8_sit_27 ic_m1 ?_
      obtain rfl := Option.some.inj hf
      exact qt_i C hr hlocks hw dX8_sit_28
theorem cfX8_law : cf yX8_law cX8_law 3 (some .int) 1 := ⟨tg_362, by decide +kernel, tg_1⟩
set_option maxHeartbeats 4000000 in
theorem kX8_law (l : Launch) (D : va_G) (cI cB cS : ClassId) (n : Nat) (ad : Nat → Nat) (bf : Nat → Option Nat) (hcg : bok n ad bf) (p1 : Int32) (M : MS) : Ct l D cI cB cS yX8_law cX8_law 3 (some .int) 1 21 [.ref (ad 0), .int p1] (cW cI cB cS n ad bf M) (some (.int (fX8_law n p1 M).1)) (cW cI cB cS n ad bf (fX8_law n p1 M).2) := by
  obtain ⟨q, hf⟩ : ∃ q, fX8_law n p1 M = q := ⟨_, rfl⟩
  rw [hf]
  refine Ct.ofW (by decide) (Nat.le_of_ble_eq_true rfl) ?_
  intro p e s m args below meth c ls C hr hlocks _ hw hl
  have hx := C.1
  have hb := C.2.1
  have hA : ∀ q, s.heap.size ≤ q → va_A (cW cI cB cS n ad bf M) s.heap.size q := fun q h => Or.inr h
  have hl : lv_has ls 3 [(0, .ref (ad 0)), (1, .int p1)] := hl
  unfold fX8_law at hf
  refine lv_iload_n hx hb dX8_law_0 rfl (lv_at hl 1 rfl) ?_
  refine lv_iconst (v := 3) hx hb dX8_law_1 ic_3 ?_
  refine ct_S1 (rest := []) C hw hA (kX8_isBelow l D cI cB cS _ _ _) cfX8_isBelow tg_183 tg_184 ⟨(Nat.le_of_ble_eq_true rfl), (Nat.le_of_ble_eq_true rfl)⟩ ⟨(Nat.le_of_ble_eq_true rfl), (Nat.le_of_ble_eq_true rfl)⟩ rfl hl.1 rfl (Nat.le_of_ble_eq_true rfl) dX8_law_2 (fun H locs hw => ?_)
  refine lv_if_ne (tgt := 11) hx hb dX8_law_5 (by decide) (fun h1 => ?_) (fun h1 => ?_)
  · have hf := it_f h1 hf
    refine lv_aload_n hx hb dX8_law_11 rfl (lv_at hl 0 rfl) ?_
    refine cg_8_28 C hw dX8_law_12 ?_
    refine ct_V1 (q0 := 11) (ci := 5) (rest := []) C hw hA (kX5_isThere l D cI cB cS n ad bf hcg _) cfX5_isThere tg_363 tg_364 tg_365 ⟨(Nat.le_of_ble_eq_true rfl), (Nat.le_of_ble_eq_true rfl)⟩ ⟨(Nat.le_of_ble_eq_true rfl), (Nat.le_of_ble_eq_true rfl)⟩ rfl rfl rfl rfl hl.1 rfl (Nat.le_of_ble_eq_true rfl) dX8_law_15 (fun H locs hw => ?_)
    refine lv_if_ne (tgt := 24) hx hb dX8_law_18 (by decide) (fun h2 => ?_) (fun h2 => ?_)
    · have hf := it_f h2 hf
      refine lv_aload_n hx hb dX8_law_24 rfl (lv_at hl 0 rfl) ?_
      refine cg_8_28 C hw dX8_law_25 ?_
      refine cg_8_129 C hw dX8_law_28 ?_
      refine lv_istore_n (lv' := [(2, .int (M 10 3)), (0, .ref (ad 0)), (1, .int p1)]) hx hb dX8_law_31 rfl hl (by decide) rfl (fun ls hl => ?_)
      refine lv_aload_n hx hb dX8_law_32 rfl (lv_at hl 1 rfl) ?_
      refine cg_8_28 C hw dX8_law_33 ?_
      refine lv_iload_n hx hb dX8_law_36 rfl (lv_at hl 2 rfl) ?_
      refine cp_8_129 C hw dX8_law_37 (fun H locs hw => ?_)
      refine lv_iload_n hx hb dX8_law_40 rfl (lv_at hl 0 rfl) ?_
      subst hf
      exact qt_i C hr hlocks hw dX8_law_41
    · have hf := it_t h2 hf
      refine lv_bipush (v := (-3)) hx hb dX8_law_21 ib_m3 ?_
      subst hf
      exact qt_i C hr hlocks hw dX8_law_23
  · have hf := it_t h1 hf
    refine lv_bipush (v := (-2)) hx hb dX8_law_8 ib_m2 ?_
    subst hf
    exact qt_i C hr hlocks hw dX8_law_10
theorem cfX8_sellTo : cf yX8_sellTo cX8_sellTo 3 none 2 := ⟨tg_374, by decide +kernel, tg_1⟩
set_option maxHeartbeats 4000000 in
theorem kX8_sellTo (l : Launch) (D : va_G) (cI cB cS : ClassId) (n : Nat) (ad : Nat → Nat) (bf : Nat → Option Nat) (hcg : bok n ad bf) {p1 : Int32} {p2 : Int32} {M : MS} {q : MS} (hf : fX8_sellTo n p1 p2 M = some q) : Ct l D cI cB cS yX8_sellTo cX8_sellTo 3 none 4 87 [.ref (ad 0), .int p1, .int p2] (cW cI cB cS n ad bf M) none (cW cI cB cS n ad bf q) := by
  refine Ct.ofW (by decide) (Nat.le_of_ble_eq_true rfl) ?_
  intro p e s m args below meth c ls C hr hlocks _ hw hl
  have hx := C.1
  have hb := C.2.1
  have hA : ∀ q, s.heap.size ≤ q → va_A (cW cI cB cS n ad bf M) s.heap.size q := fun q h => Or.inr h
  have hl : lv_has ls 3 [(0, .ref (ad 0)), (1, .int p1), (2, .int p2)] := hl
  unfold fX8_sellTo at hf
  refine lv_aload_n hx hb dX8_sellTo_0 rfl (lv_at hl 0 rfl) ?_
  refine cg_8_37 C hw dX8_sellTo_1 ?_
  refine lv_iload_n hx hb dX8_sellTo_4 rfl (lv_at hl 1 rfl) ?_
  obtain ⟨r1, e2, hf⟩ := bd hf
  refine ct_V0 (q0 := 13) (ci := 0) (rest := []) C hw hA (kX0_gather l D cI cB cS n ad bf hcg e2) cfX0_gather tg_375 tg_376 tg_377 ⟨(Nat.le_of_ble_eq_true rfl), (Nat.le_of_ble_eq_true rfl)⟩ ⟨(Nat.le_of_ble_eq_true rfl), (Nat.le_of_ble_eq_true rfl)⟩ rfl rfl rfl rfl hl.1 rfl (Nat.le_of_ble_eq_true rfl) dX8_sellTo_5 (fun H locs hw => ?_)
  refine lv_aload_n hx hb dX8_sellTo_8 rfl (lv_at hl 0 rfl) ?_
  refine cg_8_37 C hw dX8_sellTo_9 ?_
  refine lv_iload_n hx hb dX8_sellTo_12 rfl (lv_at hl 2 rfl) ?_
  obtain ⟨r3, e4, hf⟩ := bd hf
  refine ct_V0 (q0 := 13) (ci := 0) (rest := []) C hw hA (kX0_offer l D cI cB cS n ad bf hcg e4) cfX0_offer tg_384 tg_385 tg_386 ⟨(Nat.le_of_ble_eq_true rfl), (Nat.le_of_ble_eq_true rfl)⟩ ⟨(Nat.le_of_ble_eq_true rfl), (Nat.le_of_ble_eq_true rfl)⟩ rfl rfl rfl rfl hl.1 rfl (Nat.le_of_ble_eq_true rfl) dX8_sellTo_13 (fun H locs hw => ?_)
  refine lv_aload_n hx hb dX8_sellTo_16 rfl (lv_at hl 0 rfl) ?_
  refine cg_8_37 C hw dX8_sellTo_17 ?_
  obtain ⟨r5, e6, hf⟩ := bd hf
  refine ct_V0 (q0 := 13) (ci := 0) (rest := []) C hw hA (kX0_hold l D cI cB cS n ad bf hcg e6) cfX0_hold tg_390 tg_391 tg_392 ⟨(Nat.le_of_ble_eq_true rfl), (Nat.le_of_ble_eq_true rfl)⟩ ⟨(Nat.le_of_ble_eq_true rfl), (Nat.le_of_ble_eq_true rfl)⟩ rfl rfl rfl rfl hl.1 rfl (Nat.le_of_ble_eq_true rfl) dX8_sellTo_20 (fun H locs hw => ?_)
  obtain rfl := Option.some.inj hf
  exact qt_v C hr hlocks hw dX8_sellTo_23
theorem cfX8_sale : cf yX8_sale cX8_sale 3 (some .int) 2 := ⟨tg_370, by decide +kernel, tg_1⟩
set_option maxHeartbeats 4000000 in
theorem kX8_sale (l : Launch) (D : va_G) (cI cB cS : ClassId) (n : Nat) (ad : Nat → Nat) (bf : Nat → Option Nat) (hcg : bok n ad bf) {p1 : Int32} {p2 : Int32} {M : MS} {q : (Int32 × MS)} (hf : fX8_sale n p1 p2 M = some q) : Ct l D cI cB cS yX8_sale cX8_sale 3 (some .int) 5 109 [.ref (ad 0), .int p1, .int p2] (cW cI cB cS n ad bf M) (some (.int q.1)) (cW cI cB cS n ad bf q.2) := by
  refine Ct.ofW (by decide) (Nat.le_of_ble_eq_true rfl) ?_
  intro p e s m args below meth c ls C hr hlocks _ hw hl
  have hx := C.1
  have hb := C.2.1
  have hA : ∀ q, s.heap.size ≤ q → va_A (cW cI cB cS n ad bf M) s.heap.size q := fun q h => Or.inr h
  have hl : lv_has ls 3 [(0, .ref (ad 0)), (1, .int p1), (2, .int p2)] := hl
  unfold fX8_sale at hf
  refine lv_iload_n hx hb dX8_sale_0 rfl (lv_at hl 1 rfl) ?_
  refine ct_S1 (rest := []) C hw hA (kX8_isLot l D cI cB cS _ _) cfX8_isLot tg_331 tg_332 ⟨(Nat.le_of_ble_eq_true rfl), (Nat.le_of_ble_eq_true rfl)⟩ ⟨(Nat.le_of_ble_eq_true rfl), (Nat.le_of_ble_eq_true rfl)⟩ rfl hl.1 rfl (Nat.le_of_ble_eq_true rfl) dX8_sale_1 (fun H locs hw => ?_)
  refine lv_if_ne (tgt := 9) hx hb dX8_sale_4 (by decide) (fun h1 => ?_) (fun h1 => ?_)
  · have hf := it_f h1 hf
    refine lv_iload_n hx hb dX8_sale_9 rfl (lv_at hl 2 rfl) ?_
    refine lv_iconst (v := 3) hx hb dX8_sale_10 ic_3 ?_
    refine ct_S1 (rest := []) C hw hA (kX8_isBelow l D cI cB cS _ _ _) cfX8_isBelow tg_183 tg_184 ⟨(Nat.le_of_ble_eq_true rfl), (Nat.le_of_ble_eq_true rfl)⟩ ⟨(Nat.le_of_ble_eq_true rfl), (Nat.le_of_ble_eq_true rfl)⟩ rfl hl.1 rfl (Nat.le_of_ble_eq_true rfl) dX8_sale_11 (fun H locs hw => ?_)
    refine lv_if_ne (tgt := 20) hx hb dX8_sale_14 (by decide) (fun h2 => ?_) (fun h2 => ?_)
    · have hf := it_f h2 hf
      refine lv_aload_n hx hb dX8_sale_20 rfl (lv_at hl 0 rfl) ?_
      refine cg_8_28 C hw dX8_sale_21 ?_
      refine ct_V1 (q0 := 11) (ci := 5) (rest := []) C hw hA (kX5_isThere l D cI cB cS n ad bf hcg _) cfX5_isThere tg_363 tg_364 tg_365 ⟨(Nat.le_of_ble_eq_true rfl), (Nat.le_of_ble_eq_true rfl)⟩ ⟨(Nat.le_of_ble_eq_true rfl), (Nat.le_of_ble_eq_true rfl)⟩ rfl rfl rfl rfl hl.1 rfl (Nat.le_of_ble_eq_true rfl) dX8_sale_24 (fun H locs hw => ?_)
      refine lv_if_ne (tgt := 33) hx hb dX8_sale_27 (by decide) (fun h3 => ?_) (fun h3 => ?_)
      · have hf := it_f h3 hf
        refine lv_aload_n hx hb dX8_sale_33 rfl (lv_at hl 0 rfl) ?_
        refine lv_bipush (v := 63) hx hb dX8_sale_34 ib_63 ?_
        refine lv_iload_n hx hb dX8_sale_36 rfl (lv_at hl 1 rfl) ?_
        obtain ⟨r4, e5, hf⟩ := bd hf
        refine ct_V0 (q0 := 0) (ci := 8) (rest := []) C hw hA (kX8_sellTo l D cI cB cS n ad bf hcg e5) cfX8_sellTo tg_371 tg_373 ts_yX8_sellTo ⟨(Nat.le_of_ble_eq_true rfl), (Nat.le_of_ble_eq_true rfl)⟩ ⟨(Nat.le_of_ble_eq_true rfl), (Nat.le_of_ble_eq_true rfl)⟩ rfl rfl rfl rfl hl.1 rfl (Nat.le_of_ble_eq_true rfl) dX8_sale_37 (fun H locs hw => ?_)
        refine lv_iload_n hx hb dX8_sale_40 rfl (lv_at hl 2 rfl) ?_
        refine lv_if_ne (tgt := 52) hx hb dX8_sale_41 (by decide) (fun h6 => ?_) (fun h6 => ?_)
        · have hf := it_f h6 hf
          refine lv_iload_n hx hb dX8_sale_52 rfl (lv_at hl 2 rfl) ?_
          refine lv_iconst (v := 1) hx hb dX8_sale_53 ic_1 ?_
          refine lv_icmp_ne (tgt := 67) hx hb dX8_sale_54 (by decide) (fun h7 => ?_) (fun h7 => ?_)
          · have hf := it_f h7 hf
            refine lv_aload_n hx hb dX8_sale_67 rfl (lv_at hl 0 rfl) ?_
            refine cg_8_37 C hw dX8_sale_68 ?_
            refine cg_8_142 C hw dX8_sale_71 ?_
            obtain rfl := Option.some.inj hf
            exact qt_i C hr hlocks hw dX8_sale_74
          · have hf := it_t h7 hf
            refine lv_aload_n hx hb dX8_sale_57 rfl (lv_at hl 0 rfl) ?_
            refine cg_8_37 C hw dX8_sale_58 ?_
            refine cg_8_139 C hw dX8_sale_61 ?_
            refine lv_goto (tgt := 74) hx hb dX8_sale_64 (by decide) ?_
            obtain rfl := Option.some.inj hf
            exact qt_i C hr hlocks hw dX8_sale_74
        · have hf := it_t h6 hf
          refine lv_aload_n hx hb dX8_sale_44 rfl (lv_at hl 0 rfl) ?_
          refine cg_8_37 C hw dX8_sale_45 ?_
          refine cg_8_136 C hw dX8_sale_48 ?_
          obtain rfl := Option.some.inj hf
          exact qt_i C hr hlocks hw dX8_sale_51
      · have hf := it_t h3 hf
        refine lv_bipush (v := (-3)) hx hb dX8_sale_30 ib_m3 ?_
        obtain rfl := Option.some.inj hf
        exact qt_i C hr hlocks hw dX8_sale_32
    · have hf := it_t h2 hf
      refine lv_bipush (v := (-2)) hx hb dX8_sale_17 ib_m2 ?_
      obtain rfl := Option.some.inj hf
      exact qt_i C hr hlocks hw dX8_sale_19
  · have hf := it_t h1 hf
    refine lv_iconst (v := (-1)) hx hb dX8_sale_7 ic_m1 ?_
    obtain rfl := Option.some.inj hf
    exact qt_i C hr hlocks hw dX8_sale_8
theorem cfX8_bid : cf yX8_bid cX8_bid 3 (some .int) 2 := ⟨tg_421, by decide +kernel, tg_1⟩
set_option maxHeartbeats 4000000 in
theorem kX8_bid (l : Launch) (D : va_G) (cI cB cS : ClassId) (n : Nat) (ad : Nat → Nat) (bf : Nat → Option Nat) (hcg : bok n ad bf) {p1 : Int32} {p2 : Int32} {M : MS} {q : (Int32 × MS)} (hf : fX8_bid n p1 p2 M = some q) : Ct l D cI cB cS yX8_bid cX8_bid 3 (some .int) 5 109 [.ref (ad 0), .int p1, .int p2] (cW cI cB cS n ad bf M) (some (.int q.1)) (cW cI cB cS n ad bf q.2) := by
  refine Ct.ofW (by decide) (Nat.le_of_ble_eq_true rfl) ?_
  intro p e s m args below meth c ls C hr hlocks _ hw hl
  have hx := C.1
  have hb := C.2.1
  have hA : ∀ q, s.heap.size ≤ q → va_A (cW cI cB cS n ad bf M) s.heap.size q := fun q h => Or.inr h
  have hl : lv_has ls 3 [(0, .ref (ad 0)), (1, .int p1), (2, .int p2)] := hl
  unfold fX8_bid at hf
  refine lv_iload_n hx hb dX8_bid_0 rfl (lv_at hl 1 rfl) ?_
  refine ct_S1 (rest := []) C hw hA (kX8_isLot l D cI cB cS _ _) cfX8_isLot tg_331 tg_332 ⟨(Nat.le_of_ble_eq_true rfl), (Nat.le_of_ble_eq_true rfl)⟩ ⟨(Nat.le_of_ble_eq_true rfl), (Nat.le_of_ble_eq_true rfl)⟩ rfl hl.1 rfl (Nat.le_of_ble_eq_true rfl) dX8_bid_1 (fun H locs hw => ?_)
  refine lv_if_eq (tgt := 11) hx hb dX8_bid_4 (by decide) (fun h1 => ?_) (fun h1 => ?_)
  · have hf := it_t h1 hf
    refine lv_iconst (v := (-1)) hx hb dX8_bid_11 ic_m1 ?_
    obtain rfl := Option.some.inj hf
    exact qt_i C hr hlocks hw dX8_bid_12
  · have hf := it_f h1 hf
    refine lv_iload_n hx hb dX8_bid_7 rfl (lv_at hl 2 rfl) ?_
    refine lv_if_ge (tgt := 13) hx hb dX8_bid_8 (by decide) (fun h2 => ?_) (fun h2 => ?_)
    · have hf := it_t h2 hf
      refine lv_aload_n hx hb dX8_bid_13 rfl (lv_at hl 0 rfl) ?_
      refine cg_8_28 C hw dX8_bid_14 ?_
      refine ct_V1 (q0 := 11) (ci := 5) (rest := []) C hw hA (kX5_isThere l D cI cB cS n ad bf hcg _) cfX5_isThere tg_363 tg_364 tg_365 ⟨(Nat.le_of_ble_eq_true rfl), (Nat.le_of_ble_eq_true rfl)⟩ ⟨(Nat.le_of_ble_eq_true rfl), (Nat.le_of_ble_eq_true rfl)⟩ rfl rfl rfl rfl hl.1 rfl (Nat.le_of_ble_eq_true rfl) dX8_bid_17 (fun H locs hw => ?_)
      refine lv_if_ne (tgt := 26) hx hb dX8_bid_20 (by decide) (fun h3 => ?_) (fun h3 => ?_)
      · have hf := it_f h3 hf
        refine lv_aload_n hx hb dX8_bid_26 rfl (lv_at hl 0 rfl) ?_
        refine lv_bipush (v := 63) hx hb dX8_bid_27 ib_63 ?_
        refine lv_iload_n hx hb dX8_bid_29 rfl (lv_at hl 1 rfl) ?_
        obtain ⟨r4, e5, hf⟩ := bd hf
        refine ct_V0 (q0 := 0) (ci := 8) (rest := []) C hw hA (kX8_sellTo l D cI cB cS n ad bf hcg e5) cfX8_sellTo tg_371 tg_373 ts_yX8_sellTo ⟨(Nat.le_of_ble_eq_true rfl), (Nat.le_of_ble_eq_true rfl)⟩ ⟨(Nat.le_of_ble_eq_true rfl), (Nat.le_of_ble_eq_true rfl)⟩ rfl rfl rfl rfl hl.1 rfl (Nat.le_of_ble_eq_true rfl) dX8_bid_30 (fun H locs hw => ?_)
        refine lv_aload_n hx hb dX8_bid_33 rfl (lv_at hl 0 rfl) ?_
        refine cg_8_37 C hw dX8_bid_34 ?_
        refine lv_iload_n hx hb dX8_bid_37 rfl (lv_at hl 2 rfl) ?_
        obtain ⟨r6, e7, hf⟩ := bd hf
        refine ct_V1 (q0 := 13) (ci := 0) (rest := []) C hw hA (kX0_bidOf l D cI cB cS n ad bf hcg e7) cfX0_bidOf tg_422 tg_423 tg_424 ⟨(Nat.le_of_ble_eq_true rfl), (Nat.le_of_ble_eq_true rfl)⟩ ⟨(Nat.le_of_ble_eq_true rfl), (Nat.le_of_ble_eq_true rfl)⟩ rfl rfl rfl rfl hl.1 rfl (Nat.le_of_ble_eq_true rfl) dX8_bid_38 (fun H locs hw => ?_)
        obtain rfl := Option.some.inj hf
        exact qt_i C hr hlocks hw dX8_bid_41
      · have hf := it_t h3 hf
        refine lv_bipush (v := (-3)) hx hb dX8_bid_23 ib_m3 ?_
        obtain rfl := Option.some.inj hf
        exact qt_i C hr hlocks hw dX8_bid_25
    · have hf := it_f h2 hf
      refine lv_iconst (v := (-1)) hx hb dX8_bid_11 ic_m1 ?_
      obtain rfl := Option.some.inj hf
      exact qt_i C hr hlocks hw dX8_bid_12
theorem cfX8_ends : cf yX8_ends cX8_ends 3 (some .int) 2 := ⟨tg_429, by decide +kernel, tg_1⟩
set_option maxHeartbeats 4000000 in
theorem kX8_ends (l : Launch) (D : va_G) (cI cB cS : ClassId) (n : Nat) (ad : Nat → Nat) (bf : Nat → Option Nat) (hcg : bok n ad bf) {p1 : Int32} {p2 : Int32} {M : MS} {q : (Int32 × MS)} (hf : fX8_ends n p1 p2 M = some q) : Ct l D cI cB cS yX8_ends cX8_ends 3 (some .int) 5 109 [.ref (ad 0), .int p1, .int p2] (cW cI cB cS n ad bf M) (some (.int q.1)) (cW cI cB cS n ad bf q.2) := by
  refine Ct.ofW (by decide) (Nat.le_of_ble_eq_true rfl) ?_
  intro p e s m args below meth c ls C hr hlocks _ hw hl
  have hx := C.1
  have hb := C.2.1
  have hA : ∀ q, s.heap.size ≤ q → va_A (cW cI cB cS n ad bf M) s.heap.size q := fun q h => Or.inr h
  have hl : lv_has ls 3 [(0, .ref (ad 0)), (1, .int p1), (2, .int p2)] := hl
  unfold fX8_ends at hf
  refine lv_aload_n hx hb dX8_ends_0 rfl (lv_at hl 0 rfl) ?_
  refine cg_8_28 C hw dX8_ends_1 ?_
  refine lv_iload_n hx hb dX8_ends_4 rfl (lv_at hl 1 rfl) ?_
  refine ct_V1 (q0 := 11) (ci := 5) (rest := []) C hw hA (kX5_buyerOf l D cI cB cS n ad bf hcg _ _) cfX5_buyerOf tg_293 tg_294 tg_295 ⟨(Nat.le_of_ble_eq_true rfl), (Nat.le_of_ble_eq_true rfl)⟩ ⟨(Nat.le_of_ble_eq_true rfl), (Nat.le_of_ble_eq_true rfl)⟩ rfl rfl rfl rfl hl.1 rfl (Nat.le_of_ble_eq_true rfl) dX8_ends_5 (fun H locs hw => ?_)
  rcases em_o (fX5_buyerOf n p1) with h1 | ⟨j2, h1⟩
  · rw [h1]
    have hf := om_n h1 hf
    refine lv_ifnullN (tgt := 18) hx hb dX8_ends_8 (by decide) ?_
    refine lv_iconst (v := (-1)) hx hb dX8_ends_18 ic_m1 ?_
    obtain rfl := Option.some.inj hf
    exact qt_i C hr hlocks hw dX8_ends_19
  · rw [h1]
    have hf := om_s h1 hf
    have hj2 := buyerOf_lt hcg.1 h1
    refine lv_ifnull hx hb dX8_ends_8 ?_
    refine lv_iload_n hx hb dX8_ends_11 rfl (lv_at hl 2 rfl) ?_
    refine ct_S1 (rest := []) C hw hA (kX8_isLot l D cI cB cS _ _) cfX8_isLot tg_331 tg_332 ⟨(Nat.le_of_ble_eq_true rfl), (Nat.le_of_ble_eq_true rfl)⟩ ⟨(Nat.le_of_ble_eq_true rfl), (Nat.le_of_ble_eq_true rfl)⟩ rfl hl.1 rfl (Nat.le_of_ble_eq_true rfl) dX8_ends_12 (fun H locs hw => ?_)
    refine lv_if_ne (tgt := 20) hx hb dX8_ends_15 (by decide) (fun h3 => ?_) (fun h3 => ?_)
    · have hf := it_f h3 hf
      refine lv_aload_n hx hb dX8_ends_20 rfl (lv_at hl 0 rfl) ?_
      refine lv_bipush (v := 63) hx hb dX8_ends_21 ib_63 ?_
      refine lv_iload_n hx hb dX8_ends_23 rfl (lv_at hl 2 rfl) ?_
      obtain ⟨r4, e5, hf⟩ := bd hf
      refine ct_V0 (q0 := 0) (ci := 8) (rest := []) C hw hA (kX8_sellTo l D cI cB cS n ad bf hcg e5) cfX8_sellTo tg_371 tg_373 ts_yX8_sellTo ⟨(Nat.le_of_ble_eq_true rfl), (Nat.le_of_ble_eq_true rfl)⟩ ⟨(Nat.le_of_ble_eq_true rfl), (Nat.le_of_ble_eq_true rfl)⟩ rfl rfl rfl rfl hl.1 rfl (Nat.le_of_ble_eq_true rfl) dX8_ends_24 (fun H locs hw => ?_)
      refine lv_aload_n hx hb dX8_ends_27 rfl (lv_at hl 0 rfl) ?_
      refine cg_8_37 C hw dX8_ends_28 ?_
      refine cg_8_148 C hw dX8_ends_31 ?_
      refine lv_iload_n hx hb dX8_ends_34 rfl (lv_at hl 1 rfl) ?_
      obtain ⟨g6, hf⟩ := gd_inv hf
      refine cl_12 C hw g6 dX8_ends_35 ?_
      obtain rfl := Option.some.inj hf
      exact qt_i C hr hlocks hw dX8_ends_36
    · have hf := it_t h3 hf
      refine lv_iconst (v := (-1)) hx hb dX8_ends_18 ic_m1 ?_
      obtain rfl := Option.some.inj hf
      exact qt_i C hr hlocks hw dX8_ends_19
theorem cfX8_meet : cf yX8_meet cX8_meet 2 (some .int) 1 := ⟨tg_200, by decide +kernel, tg_1⟩
set_option maxHeartbeats 4000000 in
theorem kX8_meet (l : Launch) (D : va_G) (cI cB cS : ClassId) (n : Nat) (ad : Nat → Nat) (bf : Nat → Option Nat) (hcg : bok n ad bf) (p1 : Int32) (M : MS) : Ct l D cI cB cS yX8_meet cX8_meet 2 (some .int) 0 0 [.ref (ad 0), .int p1] (cW cI cB cS n ad bf M) (some (.int (fX8_meet n p1 M).1)) (cW cI cB cS n ad bf (fX8_meet n p1 M).2) := by
  obtain ⟨q, hf⟩ : ∃ q, fX8_meet n p1 M = q := ⟨_, rfl⟩
  rw [hf]
  refine Ct.ofW (by decide) (Nat.le_of_ble_eq_true rfl) ?_
  intro p e s m args below meth c ls C hr hlocks _ hw hl
  have hx := C.1
  have hb := C.2.1
  have hA : ∀ q, s.heap.size ≤ q → va_A (cW cI cB cS n ad bf M) s.heap.size q := fun q h => Or.inr h
  have hl : lv_has ls 2 [(0, .ref (ad 0)), (1, .int p1)] := hl
  unfold fX8_meet at hf
  refine lv_aload_n hx hb dX8_meet_0 rfl (lv_at hl 0 rfl) ?_
  refine lv_iload_n hx hb dX8_meet_1 rfl (lv_at hl 1 rfl) ?_
  refine cp_8_48 C hw dX8_meet_2 (fun H locs hw => ?_)
  refine lv_bipush (v := (-10)) hx hb dX8_meet_5 ib_m10 ?_
  refine lv_iload_n hx hb dX8_meet_7 rfl (lv_at hl 1 rfl) ?_
  refine lv_isub hx hb dX8_meet_8 ?_
  subst hf
  exact qt_i C hr hlocks hw dX8_meet_9
theorem cfX8_areLotsOnce : cf yX8_areLotsOnce cX8_areLotsOnce 6 (some .boolean) 3 := ⟨tg_436, by decide +kernel, tg_1⟩
set_option maxHeartbeats 4000000 in
theorem wX8_areLotsOnce_5 {p : Program} {l : Launch} {e : Env} {s : State} {m : MethodId} {args : Array Value} {below : List Frame} {meth : Method} {c : Code} {D : va_G} {cI cB cS : ClassId} {n : Nat} {ad : Nat → Nat} {bf : Nat → Option Nat} {ws0 : va_W} {v0 : Nat} {v1 : Int32} {v2 : Int32} {M : MS} (C : cx p c cX8_areLotsOnce 6 s args m RX8 D cI cB cS) (hr : meth.sig.returnType = (some .boolean)) (hlocks : meth.locks = false) (hA : ∀ q, s.heap.size ≤ q → va_A ws0 s.heap.size q) (hv0 : v0 < 4) {k : Unit → Option Int32} {q : Int32}
    (hcg : bok n ad bf) : ∀ (fu : Nat) (v3 : Int32) (v4 : Int32) (H : Heap) (locs : List Loc) (ls : Array Slot), wd D (va_A ws0 s.heap.size) s.heap (cW cI cB cS n ad bf M) H locs → lv_has ls 6 [(0, .ref (ad (2 + v0))), (1, .int v1), (2, .int v2), (3, .int v3), (4, .int v4)] → fX8_areLotsOnce_5 n fu k v0 v1 v2 v3 v4 M = some q →
    (∀  (H : Heap) (locs : List Loc) (ls : Array Slot), wd D (va_A ws0 s.heap.size) s.heap (cW cI cB cS n ad bf M) H locs → lv_has ls 6 [] → k () = some q → W p l e { frames := 2, cells := 0, slots := 0, locals := 42 } s m args below meth c H locs 0 0 (Qt D below args s ws0 (some (.int q)) (cW cI cB cS n ad bf M)) (F0 m 53 ls [])) →
    W p l e { frames := 2, cells := 0, slots := 0, locals := 42 } s m args below meth c H locs 0 0 (Qt D below args s ws0 (some (.int q)) (cW cI cB cS n ad bf M)) (F0 m 5 ls []) := by
  have hx := C.1
  have hb := C.2.1
  intro fu
  induction fu with
  | zero => intro v3 v4 H locs ls hw hl hf hk; rw [fX8_areLotsOnce_5] at hf; cases hf
  | succ fu ih =>
      intro v3 v4 H locs ls hw hl hf hk
      rw [fX8_areLotsOnce_5] at hf
      refine lv_iload hx hb dX8_areLotsOnce_5 (lv_at hl 4 rfl) ?_
      refine lv_iload_n hx hb dX8_areLotsOnce_7 rfl (lv_at hl 2 rfl) ?_
      refine lv_icmp_ge (tgt := 53) hx hb dX8_areLotsOnce_8 (by decide) (fun h1 => ?_) (fun h1 => ?_)
      · have hf := it_t h1 hf
        exact hk  _ _ _ hw (lv_sub hl [] rfl) hf
      · have hf := it_f h1 hf
        refine lv_aload_n hx hb dX8_areLotsOnce_11 rfl (lv_at hl 0 rfl) ?_
        refine lv_iload_n hx hb dX8_areLotsOnce_12 rfl (lv_at hl 1 rfl) ?_
        refine lv_iload hx hb dX8_areLotsOnce_13 (lv_at hl 4 rfl) ?_
        refine lv_iadd hx hb dX8_areLotsOnce_15 ?_
        obtain ⟨r2, e3, hf⟩ := bd hf
        refine ct_V1 (q0 := 2 + v0) (ci := 6) (rest := []) C hw hA (kX6_at l D cI cB cS n ad bf hcg hv0 e3) cfX6_at tg_207 tg_208 tg_209 ⟨(Nat.le_of_ble_eq_true rfl), (Nat.le_of_ble_eq_true rfl)⟩ ⟨(Nat.le_of_ble_eq_true rfl), (Nat.le_of_ble_eq_true rfl)⟩ rfl rfl rfl (cW_sh hv0) hl.1 rfl (Nat.le_of_ble_eq_true rfl) dX8_areLotsOnce_16 (fun H locs hw => ?_)
        refine lv_istore (lv' := [(5, .int r2), (0, .ref (ad (2 + v0))), (1, .int v1), (2, .int v2), (3, .int v3), (4, .int v4)]) hx hb dX8_areLotsOnce_19 hl (by decide) rfl (fun ls hl => ?_)
        refine lv_iload hx hb dX8_areLotsOnce_21 (lv_at hl 0 rfl) ?_
        refine ct_S1 (rest := []) C hw hA (kX8_isLot l D cI cB cS _ _) cfX8_isLot tg_331 tg_332 ⟨(Nat.le_of_ble_eq_true rfl), (Nat.le_of_ble_eq_true rfl)⟩ ⟨(Nat.le_of_ble_eq_true rfl), (Nat.le_of_ble_eq_true rfl)⟩ rfl hl.1 rfl (Nat.le_of_ble_eq_true rfl) dX8_areLotsOnce_23 (fun H locs hw => ?_)
        refine lv_if_eq (tgt := 38) hx hb dX8_areLotsOnce_26 (by decide) (fun h4 => ?_) (fun h4 => ?_)
        · have hf := it_t h4 hf
          refine lv_iconst (v := 0) hx hb dX8_areLotsOnce_38 ic_0 ?_
          obtain rfl := Option.some.inj hf
          exact qt_z C hr hlocks (Or.inl rfl) hw dX8_areLotsOnce_39
        · have hf := it_f h4 hf
          refine lv_iload_n hx hb dX8_areLotsOnce_29 rfl (lv_at hl 4 rfl) ?_
          refine lv_iload hx hb dX8_areLotsOnce_30 (lv_at hl 0 rfl) ?_
          refine ct_S1 (rest := []) C hw hA (kX8_isIn l D cI cB cS _ _ _) cfX8_isIn tg_437 tg_381 ⟨(Nat.le_of_ble_eq_true rfl), (Nat.le_of_ble_eq_true rfl)⟩ ⟨(Nat.le_of_ble_eq_true rfl), (Nat.le_of_ble_eq_true rfl)⟩ rfl hl.1 rfl (Nat.le_of_ble_eq_true rfl) dX8_areLotsOnce_32 (fun H locs hw => ?_)
          refine lv_if_eq (tgt := 40) hx hb dX8_areLotsOnce_35 (by decide) (fun h5 => ?_) (fun h5 => ?_)
          · have hf := it_t h5 hf
            refine lv_iload_n hx hb dX8_areLotsOnce_40 rfl (lv_at hl 4 rfl) ?_
            refine lv_iconst (v := 1) hx hb dX8_areLotsOnce_41 ic_1 ?_
            refine lv_iload hx hb dX8_areLotsOnce_42 (lv_at hl 0 rfl) ?_
            refine lv_ishl hx hb dX8_areLotsOnce_44 ?_
            refine lv_ior hx hb dX8_areLotsOnce_45 ?_
            refine lv_istore_n (lv' := [(3, .int (v3 ||| ((1 : Int32) <<< (r2 &&& 31)))), (5, .int r2), (0, .ref (ad (2 + v0))), (1, .int v1), (2, .int v2), (4, .int v4)]) hx hb dX8_areLotsOnce_46 rfl hl (by decide) rfl (fun ls hl => ?_)
            refine lv_iinc (v := (v4 + 1)) (lv' := [(4, .int (v4 + 1)), (3, .int (v3 ||| ((1 : Int32) <<< (r2 &&& 31)))), (5, .int r2), (0, .ref (ad (2 + v0))), (1, .int v1), (2, .int v2)]) hx hb dX8_areLotsOnce_47 hl (k := 5) rfl (iv_1 _) (by decide) rfl (fun ls hl => ?_)
            refine lv_goto (tgt := 5) hx hb dX8_areLotsOnce_50 (by decide) ?_
            exact ih _ _ _ _ _ hw (lv_sub hl [3, 4, 5, 1, 0] rfl) hf hk
          · have hf := it_f h5 hf
            refine lv_iconst (v := 0) hx hb dX8_areLotsOnce_38 ic_0 ?_
            obtain rfl := Option.some.inj hf
            exact qt_z C hr hlocks (Or.inl rfl) hw dX8_areLotsOnce_39
set_option maxHeartbeats 4000000 in
theorem kX8_areLotsOnce (l : Launch) (D : va_G) (cI cB cS : ClassId) (n : Nat) (ad : Nat → Nat) (bf : Nat → Option Nat) (hcg : bok n ad bf) {p1 : Nat} (hp1 : p1 < 4) {p2 : Int32} {p3 : Int32} {M : MS} {q : Int32} (hf : fX8_areLotsOnce n p1 p2 p3 M = some q) : Ct l D cI cB cS yX8_areLotsOnce cX8_areLotsOnce 6 (some .boolean) 2 42 [.ref (ad (2 + p1)), .int p2, .int p3] (cW cI cB cS n ad bf M) (some (.int q)) (cW cI cB cS n ad bf M) := by
  refine Ct.ofW (by decide) (Nat.le_of_ble_eq_true rfl) ?_
  intro p e s m args below meth c ls C hr hlocks _ hw hl
  have hx := C.1
  have hb := C.2.1
  have hA : ∀ q, s.heap.size ≤ q → va_A (cW cI cB cS n ad bf M) s.heap.size q := fun q h => Or.inr h
  have hl : lv_has ls 6 [(0, .ref (ad (2 + p1))), (1, .int p2), (2, .int p3)] := hl
  unfold fX8_areLotsOnce at hf
  refine lv_iconst (v := 0) hx hb dX8_areLotsOnce_0 ic_0 ?_
  refine lv_istore_n (lv' := [(3, .int 0), (0, .ref (ad (2 + p1))), (1, .int p2), (2, .int p3)]) hx hb dX8_areLotsOnce_1 rfl hl (by decide) rfl (fun ls hl => ?_)
  refine lv_iconst (v := 0) hx hb dX8_areLotsOnce_2 ic_0 ?_
  refine lv_istore (lv' := [(4, .int 0), (3, .int 0), (0, .ref (ad (2 + p1))), (1, .int p2), (2, .int p3)]) hx hb dX8_areLotsOnce_3 hl (by decide) rfl (fun ls hl => ?_)
  refine wX8_areLotsOnce_5 C hr hlocks hA hp1 hcg 300 _ _ _ _ _ hw (lv_sub hl [2, 3, 4, 1, 0] rfl) hf (fun  H locs ls hw hl hf => ?_)
  refine lv_iconst (v := 1) hx hb dX8_areLotsOnce_53 ic_1 ?_
  obtain rfl := Option.some.inj hf
  exact qt_z C hr hlocks (Or.inr rfl) hw dX8_areLotsOnce_54
theorem cfX8_sellRow : cf yX8_sellRow cX8_sellRow 6 (some .int) 3 := ⟨tg_441, by decide +kernel, tg_1⟩
set_option maxHeartbeats 4000000 in
theorem wX8_sellRow_15 {p : Program} {l : Launch} {e : Env} {s : State} {m : MethodId} {args : Array Value} {below : List Frame} {meth : Method} {c : Code} {D : va_G} {cI cB cS : ClassId} {n : Nat} {ad : Nat → Nat} {bf : Nat → Option Nat} {ws0 : va_W} {v1 : Nat} {v2 : Int32} {v3 : Int32} (C : cx p c cX8_sellRow 6 s args m RX8 D cI cB cS) (hr : meth.sig.returnType = (some .int)) (hlocks : meth.locks = false) (hA : ∀ q, s.heap.size ≤ q → va_A ws0 s.heap.size q) (hv1 : v1 < 4) {k : Int32 → MS → Option (Int32 × MS)} {q : (Int32 × MS)}
    (hcg : bok n ad bf) : ∀ (fu : Nat) (v4 : Int32) (v5 : Int32) (M : MS) (H : Heap) (locs : List Loc) (ls : Array Slot), wd D (va_A ws0 s.heap.size) s.heap (cW cI cB cS n ad bf M) H locs → lv_has ls 6 [(0, .ref (ad 0)), (1, .ref (ad (2 + v1))), (2, .int v2), (3, .int v3), (4, .int v4), (5, .int v5)] → fX8_sellRow_15 n fu k v1 v2 v3 v4 v5 M = some q →
    (∀ (x4 : Int32) (M1 : MS) (H : Heap) (locs : List Loc) (ls : Array Slot), wd D (va_A ws0 s.heap.size) s.heap (cW cI cB cS n ad bf M1) H locs → lv_has ls 6 [(4, .int x4)] → k x4 M1 = some q → W p l e { frames := 5, cells := 0, slots := 0, locals := 108 } s m args below meth c H locs 0 0 (Qt D below args s ws0 (some (.int q.1)) (cW cI cB cS n ad bf q.2)) (F0 m 47 ls [])) →
    W p l e { frames := 5, cells := 0, slots := 0, locals := 108 } s m args below meth c H locs 0 0 (Qt D below args s ws0 (some (.int q.1)) (cW cI cB cS n ad bf q.2)) (F0 m 15 ls []) := by
  have hx := C.1
  have hb := C.2.1
  intro fu
  induction fu with
  | zero => intro v4 v5 M H locs ls hw hl hf hk; rw [fX8_sellRow_15] at hf; cases hf
  | succ fu ih =>
      intro v4 v5 M H locs ls hw hl hf hk
      rw [fX8_sellRow_15] at hf
      refine lv_iload hx hb dX8_sellRow_15 (lv_at hl 5 rfl) ?_
      refine lv_iload_n hx hb dX8_sellRow_17 rfl (lv_at hl 3 rfl) ?_
      refine lv_icmp_ge (tgt := 47) hx hb dX8_sellRow_18 (by decide) (fun h3 => ?_) (fun h3 => ?_)
      · have hf := it_t h3 hf
        exact hk _ _ _ _ _ hw (lv_sub hl [4] rfl) hf
      · have hf := it_f h3 hf
        refine lv_iload hx hb dX8_sellRow_21 (lv_at hl 4 rfl) ?_
        refine lv_aload_n hx hb dX8_sellRow_23 rfl (lv_at hl 0 rfl) ?_
        refine cg_8_37 C hw dX8_sellRow_24 ?_
        refine lv_aload_n hx hb dX8_sellRow_27 rfl (lv_at hl 1 rfl) ?_
        refine lv_iload_n hx hb dX8_sellRow_28 rfl (lv_at hl 2 rfl) ?_
        refine lv_iload hx hb dX8_sellRow_29 (lv_at hl 5 rfl) ?_
        refine lv_iadd hx hb dX8_sellRow_31 ?_
        obtain ⟨r4, e5, hf⟩ := bd hf
        refine ct_V1 (q0 := 2 + v1) (ci := 6) (rest := [.ref (ad 13), .int v4]) C hw hA (kX6_at l D cI cB cS n ad bf hcg hv1 e5) cfX6_at tg_207 tg_208 tg_209 ⟨(Nat.le_of_ble_eq_true rfl), (Nat.le_of_ble_eq_true rfl)⟩ ⟨(Nat.le_of_ble_eq_true rfl), (Nat.le_of_ble_eq_true rfl)⟩ rfl rfl rfl (cW_sh hv1) hl.1 rfl (Nat.le_of_ble_eq_true rfl) dX8_sellRow_32 (fun H locs hw => ?_)
        obtain ⟨r6, e7, hf⟩ := bd hf
        refine ct_V1 (q0 := 13) (ci := 0) (rest := [.int v4]) C hw hA (kX0_sellOn l D cI cB cS n ad bf hcg e7) cfX0_sellOn tg_442 tg_443 tg_444 ⟨(Nat.le_of_ble_eq_true rfl), (Nat.le_of_ble_eq_true rfl)⟩ ⟨(Nat.le_of_ble_eq_true rfl), (Nat.le_of_ble_eq_true rfl)⟩ rfl rfl rfl rfl hl.1 rfl (Nat.le_of_ble_eq_true rfl) dX8_sellRow_35 (fun H locs hw => ?_)
        refine lv_iadd hx hb dX8_sellRow_38 ?_
        refine lv_istore (lv' := [(4, .int (v4 + r6.1)), (0, .ref (ad 0)), (1, .ref (ad (2 + v1))), (2, .int v2), (3, .int v3), (5, .int v5)]) hx hb dX8_sellRow_39 hl (by decide) rfl (fun ls hl => ?_)
        refine lv_iinc (v := (v5 + 1)) (lv' := [(5, .int (v5 + 1)), (4, .int (v4 + r6.1)), (0, .ref (ad 0)), (1, .ref (ad (2 + v1))), (2, .int v2), (3, .int v3)]) hx hb dX8_sellRow_41 hl (k := 5) rfl (iv_1 _) (by decide) rfl (fun ls hl => ?_)
        refine lv_goto (tgt := 15) hx hb dX8_sellRow_44 (by decide) ?_
        exact ih _ _ _ _ _ _ hw (lv_sub hl [2, 3, 4, 5, 1, 0] rfl) hf hk
set_option maxHeartbeats 4000000 in
theorem kX8_sellRow (l : Launch) (D : va_G) (cI cB cS : ClassId) (n : Nat) (ad : Nat → Nat) (bf : Nat → Option Nat) (hcg : bok n ad bf) {p1 : Nat} (hp1 : p1 < 4) {p2 : Int32} {p3 : Int32} {M : MS} {q : (Int32 × MS)} (hf : fX8_sellRow n p1 p2 p3 M = some q) : Ct l D cI cB cS yX8_sellRow cX8_sellRow 6 (some .int) 5 108 [.ref (ad 0), .ref (ad (2 + p1)), .int p2, .int p3] (cW cI cB cS n ad bf M) (some (.int q.1)) (cW cI cB cS n ad bf q.2) := by
  refine Ct.ofW (by decide) (Nat.le_of_ble_eq_true rfl) ?_
  intro p e s m args below meth c ls C hr hlocks _ hw hl
  have hx := C.1
  have hb := C.2.1
  have hA : ∀ q, s.heap.size ≤ q → va_A (cW cI cB cS n ad bf M) s.heap.size q := fun q h => Or.inr h
  have hl : lv_has ls 6 [(0, .ref (ad 0)), (1, .ref (ad (2 + p1))), (2, .int p2), (3, .int p3)] := hl
  unfold fX8_sellRow at hf
  refine lv_iconst (v := 0) hx hb dX8_sellRow_0 ic_0 ?_
  refine lv_istore (lv' := [(4, .int 0), (0, .ref (ad 0)), (1, .ref (ad (2 + p1))), (2, .int p2), (3, .int p3)]) hx hb dX8_sellRow_1 hl (by decide) rfl (fun ls hl => ?_)
  refine lv_aload_n hx hb dX8_sellRow_3 rfl (lv_at hl 1 rfl) ?_
  refine cg_8_37 C hw dX8_sellRow_4 ?_
  refine lv_bipush (v := 63) hx hb dX8_sellRow_7 ib_63 ?_
  obtain ⟨r1, e2, hf⟩ := bd hf
  refine ct_V0 (q0 := 13) (ci := 0) (rest := []) C hw hA (kX0_gather l D cI cB cS n ad bf hcg e2) cfX0_gather tg_375 tg_376 tg_377 ⟨(Nat.le_of_ble_eq_true rfl), (Nat.le_of_ble_eq_true rfl)⟩ ⟨(Nat.le_of_ble_eq_true rfl), (Nat.le_of_ble_eq_true rfl)⟩ rfl rfl rfl rfl hl.1 rfl (Nat.le_of_ble_eq_true rfl) dX8_sellRow_9 (fun H locs hw => ?_)
  refine lv_iconst (v := 0) hx hb dX8_sellRow_12 ic_0 ?_
  refine lv_istore (lv' := [(5, .int 0), (4, .int 0), (0, .ref (ad 0)), (1, .ref (ad (2 + p1))), (2, .int p2), (3, .int p3)]) hx hb dX8_sellRow_13 hl (by decide) rfl (fun ls hl => ?_)
  refine wX8_sellRow_15 C hr hlocks hA hp1 hcg 300 _ _ _ _ _ _ hw (lv_sub hl [2, 3, 4, 5, 1, 0] rfl) hf (fun x8 M9 H locs ls hw hl hf => ?_)
  refine lv_iload hx hb dX8_sellRow_47 (lv_at hl 0 rfl) ?_
  obtain rfl := Option.some.inj hf
  exact qt_i C hr hlocks hw dX8_sellRow_49
theorem cfX8_row : cf yX8_row cX8_row 10 (some .int) 5 := ⟨tg_433, by decide +kernel, tg_1⟩
set_option maxHeartbeats 4000000 in
theorem kX8_row (l : Launch) (D : va_G) (cI cB cS : ClassId) (n : Nat) (ad : Nat → Nat) (bf : Nat → Option Nat) (hcg : bok n ad bf) {p1 : Int32} {p2 : Int32} {p3 : Int32} {p4 : Int32} {p5 : Int32} {M : MS} {q : (Int32 × MS)} (hf : fX8_row n p1 p2 p3 p4 p5 M = some q) : Ct l D cI cB cS yX8_row cX8_row 10 (some .int) 6 133 [.ref (ad 0), .int p1, .int p2, .int p3, .int p4, .int p5] (cW cI cB cS n ad bf M) (some (.int q.1)) (cW cI cB cS n ad bf q.2) := by
  refine Ct.ofW (by decide) (Nat.le_of_ble_eq_true rfl) ?_
  intro p e s m args below meth c ls C hr hlocks _ hw hl
  have hx := C.1
  have hb := C.2.1
  have hA : ∀ q, s.heap.size ≤ q → va_A (cW cI cB cS n ad bf M) s.heap.size q := fun q h => Or.inr h
  have hl : lv_has ls 10 [(0, .ref (ad 0)), (1, .int p1), (2, .int p2), (3, .int p3), (4, .int p4), (5, .int p5)] := hl
  unfold fX8_row at hf
  refine lv_aload_n hx hb dX8_row_0 rfl (lv_at hl 0 rfl) ?_
  refine lv_iconst (v := 0) hx hb dX8_row_1 ic_0 ?_
  refine cp_8_48 C hw dX8_row_2 (fun H locs hw => ?_)
  refine lv_aload_n hx hb dX8_row_5 rfl (lv_at hl 0 rfl) ?_
  refine lv_iload_n hx hb dX8_row_6 rfl (lv_at hl 2 rfl) ?_
  refine ct_V1 (q0 := 0) (ci := 8) (rest := []) C hw hA (kX8_sheetOf l D cI cB cS n ad bf hcg _ _) cfX8_sheetOf tg_179 tg_181 ts_yX8_sheetOf ⟨(Nat.le_of_ble_eq_true rfl), (Nat.le_of_ble_eq_true rfl)⟩ ⟨(Nat.le_of_ble_eq_true rfl), (Nat.le_of_ble_eq_true rfl)⟩ rfl rfl rfl rfl hl.1 rfl (Nat.le_of_ble_eq_true rfl) dX8_row_7 (fun H locs hw => ?_)
  rcases em_o (fX8_sheetOf p2) with h1 | ⟨j2, h1⟩
  · rw [h1]
    have hf := om_n h1 hf
    refine lv_astoreN (lv' := [(6, .null), (0, .ref (ad 0)), (1, .int p1), (2, .int p2), (3, .int p3), (4, .int p4), (5, .int p5)]) hx hb dX8_row_10 hl (by decide) rfl (fun ls hl => ?_)
    refine lv_iload_n hx hb dX8_row_12 rfl (lv_at hl 2 rfl) ?_
    refine lv_iconst (v := (-1)) hx hb dX8_row_13 ic_m1 ?_
    refine lv_icmp_eq (tgt := 28) hx hb dX8_row_14 (by decide) (fun h3 => ?_) (fun h3 => ?_)
    · have hf := it_t h3 hf
      refine lv_iconst (v := 1) hx hb dX8_row_28 ic_1 ?_
      refine lv_goto (tgt := 33) hx hb dX8_row_29 (by decide) ?_
      refine lv_istore (lv' := [(7, .int 1), (6, .null), (0, .ref (ad 0)), (1, .int p1), (2, .int p2), (3, .int p3), (4, .int p4), (5, .int p5)]) hx hb dX8_row_33 hl (by decide) rfl (fun ls hl => ?_)
      refine lv_iload hx hb dX8_row_35 (lv_at hl 0 rfl) ?_
      refine lv_if_eq (tgt := 45) hx hb dX8_row_37 (by decide) (fun hz => absurd hz (by decide)) (fun _ => ?_)
      refine lv_aloadN hx hb dX8_row_40 (lv_at hl 1 rfl) ?_
      refine lv_ifnonnullN hx hb dX8_row_42 ?_
      refine lv_iconst (v := (-1)) hx hb dX8_row_45 ic_m1 ?_
      obtain rfl := Option.some.inj hf
      exact qt_i C hr hlocks hw dX8_row_46
    · have hf := it_f h3 hf
      refine lv_aload_n hx hb dX8_row_17 rfl (lv_at hl 1 rfl) ?_
      refine cg_8_28 C hw dX8_row_18 ?_
      refine lv_iload_n hx hb dX8_row_21 rfl (lv_at hl 2 rfl) ?_
      refine ct_V1 (q0 := 11) (ci := 5) (rest := []) C hw hA (kX5_buyerOf l D cI cB cS n ad bf hcg _ _) cfX5_buyerOf tg_293 tg_294 tg_295 ⟨(Nat.le_of_ble_eq_true rfl), (Nat.le_of_ble_eq_true rfl)⟩ ⟨(Nat.le_of_ble_eq_true rfl), (Nat.le_of_ble_eq_true rfl)⟩ rfl rfl rfl rfl hl.1 rfl (Nat.le_of_ble_eq_true rfl) dX8_row_22 (fun H locs hw => ?_)
      rcases em_o (fX5_buyerOf n p1) with h4 | ⟨j5, h4⟩
      · rw [h4]
        have hf := om_n h4 hf
        refine lv_ifnullN (tgt := 32) hx hb dX8_row_25 (by decide) ?_
        refine lv_iconst (v := 0) hx hb dX8_row_32 ic_0 ?_
        refine lv_istore (lv' := [(7, .int 0), (6, .null), (0, .ref (ad 0)), (1, .int p1), (2, .int p2), (3, .int p3), (4, .int p4), (5, .int p5)]) hx hb dX8_row_33 hl (by decide) rfl (fun ls hl => ?_)
        refine lv_iload hx hb dX8_row_35 (lv_at hl 0 rfl) ?_
        refine lv_if_eq (tgt := 45) hx hb dX8_row_37 (by decide) (fun _ => ?_) (fun hz => absurd hz (by decide))
        refine lv_iconst (v := (-1)) hx hb dX8_row_45 ic_m1 ?_
        obtain rfl := Option.some.inj hf
        exact qt_i C hr hlocks hw dX8_row_46
      · rw [h4]
        have hf := om_s h4 hf
        have hj5 := buyerOf_lt hcg.1 h4
        refine lv_ifnull hx hb dX8_row_25 ?_
        refine lv_iconst (v := 1) hx hb dX8_row_28 ic_1 ?_
        refine lv_goto (tgt := 33) hx hb dX8_row_29 (by decide) ?_
        refine lv_istore (lv' := [(7, .int 1), (6, .null), (0, .ref (ad 0)), (1, .int p1), (2, .int p2), (3, .int p3), (4, .int p4), (5, .int p5)]) hx hb dX8_row_33 hl (by decide) rfl (fun ls hl => ?_)
        refine lv_iload hx hb dX8_row_35 (lv_at hl 0 rfl) ?_
        refine lv_if_eq (tgt := 45) hx hb dX8_row_37 (by decide) (fun hz => absurd hz (by decide)) (fun _ => ?_)
        refine lv_aloadN hx hb dX8_row_40 (lv_at hl 1 rfl) ?_
        refine lv_ifnonnullN hx hb dX8_row_42 ?_
        refine lv_iconst (v := (-1)) hx hb dX8_row_45 ic_m1 ?_
        obtain rfl := Option.some.inj hf
        exact qt_i C hr hlocks hw dX8_row_46
  · rw [h1]
    have hf := om_s h1 hf
    have hj2 := sheetOf_lt h1
    refine lv_astore (lv' := [(6, .ref (ad (2 + j2))), (0, .ref (ad 0)), (1, .int p1), (2, .int p2), (3, .int p3), (4, .int p4), (5, .int p5)]) hx hb dX8_row_10 hl (by decide) rfl (fun ls hl => ?_)
    refine lv_iload_n hx hb dX8_row_12 rfl (lv_at hl 2 rfl) ?_
    refine lv_iconst (v := (-1)) hx hb dX8_row_13 ic_m1 ?_
    refine lv_icmp_eq (tgt := 28) hx hb dX8_row_14 (by decide) (fun h6 => ?_) (fun h6 => ?_)
    · have hf := it_t h6 hf
      refine lv_iconst (v := 1) hx hb dX8_row_28 ic_1 ?_
      refine lv_goto (tgt := 33) hx hb dX8_row_29 (by decide) ?_
      refine lv_istore (lv' := [(7, .int 1), (6, .ref (ad (2 + j2))), (0, .ref (ad 0)), (1, .int p1), (2, .int p2), (3, .int p3), (4, .int p4), (5, .int p5)]) hx hb dX8_row_33 hl (by decide) rfl (fun ls hl => ?_)
      refine lv_iload hx hb dX8_row_35 (lv_at hl 0 rfl) ?_
      refine lv_if_eq (tgt := 45) hx hb dX8_row_37 (by decide) (fun hz => absurd hz (by decide)) (fun _ => ?_)
      refine lv_aload hx hb dX8_row_40 (lv_at hl 1 rfl) ?_
      refine lv_ifnonnull (tgt := 47) hx hb dX8_row_42 (by decide) ?_
      refine lv_iload_n hx hb dX8_row_47 rfl (lv_at hl 5 rfl) ?_
      refine ct_S1 (rest := []) C hw hA (kX8_isLane l D cI cB cS _ _) cfX8_isLane tg_186 tg_187 ⟨(Nat.le_of_ble_eq_true rfl), (Nat.le_of_ble_eq_true rfl)⟩ ⟨(Nat.le_of_ble_eq_true rfl), (Nat.le_of_ble_eq_true rfl)⟩ rfl hl.1 rfl (Nat.le_of_ble_eq_true rfl) dX8_row_48 (fun H locs hw => ?_)
      refine lv_if_ne (tgt := 57) hx hb dX8_row_51 (by decide) (fun h7 => ?_) (fun h7 => ?_)
      · have hf := it_f h7 hf
        refine lv_aload_n hx hb dX8_row_57 rfl (lv_at hl 2 rfl) ?_
        refine cg_8_28 C hw dX8_row_58 ?_
        refine ct_V1 (q0 := 11) (ci := 5) (rest := []) C hw hA (kX5_isThere l D cI cB cS n ad bf hcg _) cfX5_isThere tg_363 tg_364 tg_365 ⟨(Nat.le_of_ble_eq_true rfl), (Nat.le_of_ble_eq_true rfl)⟩ ⟨(Nat.le_of_ble_eq_true rfl), (Nat.le_of_ble_eq_true rfl)⟩ rfl rfl rfl rfl hl.1 rfl (Nat.le_of_ble_eq_true rfl) dX8_row_61 (fun H locs hw => ?_)
        refine lv_if_ne (tgt := 70) hx hb dX8_row_64 (by decide) (fun h8 => ?_) (fun h8 => ?_)
        · have hf := it_f h8 hf
          refine lv_aload hx hb dX8_row_70 (lv_at hl 1 rfl) ?_
          refine lv_iload_n hx hb dX8_row_72 rfl (lv_at hl 5 rfl) ?_
          refine lv_iload hx hb dX8_row_73 (lv_at hl 6 rfl) ?_
          refine lv_iload hx hb dX8_row_75 (lv_at hl 7 rfl) ?_
          refine ct_V1 (q0 := 2 + j2) (ci := 6) (rest := []) C hw hA (kX6_faultOfTaking l D cI cB cS n ad bf hcg hj2 _ _ _ _) cfX6_faultOfTaking tg_189 tg_190 tg_191 ⟨(Nat.le_of_ble_eq_true rfl), (Nat.le_of_ble_eq_true rfl)⟩ ⟨(Nat.le_of_ble_eq_true rfl), (Nat.le_of_ble_eq_true rfl)⟩ rfl rfl rfl (cW_sh hj2) hl.1 rfl (Nat.le_of_ble_eq_true rfl) dX8_row_77 (fun H locs hw => ?_)
          refine lv_istore (lv' := [(8, .int (fX6_faultOfTaking n j2 p3 p4 p5 (u2 M 0 0 0))), (7, .int 1), (6, .ref (ad (2 + j2))), (0, .ref (ad 0)), (1, .int p1), (2, .int p2), (3, .int p3), (4, .int p4), (5, .int p5)]) hx hb dX8_row_80 hl (by decide) rfl (fun ls hl => ?_)
          refine lv_iload hx hb dX8_row_82 (lv_at hl 0 rfl) ?_
          refine lv_if_eq (tgt := 94) hx hb dX8_row_84 (by decide) (fun h9 => ?_) (fun h9 => ?_)
          · have hf := it_t h9 hf
            refine lv_aload hx hb dX8_row_94 (lv_at hl 2 rfl) ?_
            refine lv_iload hx hb dX8_row_96 (lv_at hl 7 rfl) ?_
            refine lv_iload hx hb dX8_row_98 (lv_at hl 8 rfl) ?_
            obtain ⟨r10, e11, hf⟩ := bd hf
            refine ct_S1 (rest := []) C hw hA (kX8_areLotsOnce l D cI cB cS n ad bf hcg hj2 e11) cfX8_areLotsOnce tg_434 tg_435 ⟨(Nat.le_of_ble_eq_true rfl), (Nat.le_of_ble_eq_true rfl)⟩ ⟨(Nat.le_of_ble_eq_true rfl), (Nat.le_of_ble_eq_true rfl)⟩ rfl hl.1 rfl (Nat.le_of_ble_eq_true rfl) dX8_row_100 (fun H locs hw => ?_)
            refine lv_if_ne (tgt := 108) hx hb dX8_row_103 (by decide) (fun h12 => ?_) (fun h12 => ?_)
            · have hf := it_f h12 hf
              refine lv_aload_n hx hb dX8_row_108 rfl (lv_at hl 3 rfl) ?_
              refine lv_aload hx hb dX8_row_109 (lv_at hl 2 rfl) ?_
              refine lv_iload hx hb dX8_row_111 (lv_at hl 7 rfl) ?_
              refine lv_iload hx hb dX8_row_113 (lv_at hl 8 rfl) ?_
              obtain ⟨r13, e14, hf⟩ := bd hf
              refine ct_V1 (q0 := 0) (ci := 8) (rest := []) C hw hA (kX8_sellRow l D cI cB cS n ad bf hcg hj2 e14) cfX8_sellRow tg_438 tg_440 ts_yX8_sellRow ⟨(Nat.le_of_ble_eq_true rfl), (Nat.le_of_ble_eq_true rfl)⟩ ⟨(Nat.le_of_ble_eq_true rfl), (Nat.le_of_ble_eq_true rfl)⟩ rfl rfl rfl rfl hl.1 rfl (Nat.le_of_ble_eq_true rfl) dX8_row_115 (fun H locs hw => ?_)
              refine lv_istore (lv' := [(9, .int r13.1), (8, .int (fX6_faultOfTaking n j2 p3 p4 p5 (u2 M 0 0 0))), (7, .int 1), (6, .ref (ad (2 + j2))), (0, .ref (ad 0)), (1, .int p1), (2, .int p2), (3, .int p3), (4, .int p4), (5, .int p5)]) hx hb dX8_row_118 hl (by decide) rfl (fun ls hl => ?_)
              refine lv_iload_n hx hb dX8_row_120 rfl (lv_at hl 5 rfl) ?_
              refine lv_iconst (v := (-1)) hx hb dX8_row_121 ic_m1 ?_
              refine lv_icmp_ne (tgt := 130) hx hb dX8_row_122 (by decide) (fun h15 => ?_) (fun h15 => ?_)
              · have hf := it_f h15 hf
                refine lv_aload_n hx hb dX8_row_130 rfl (lv_at hl 4 rfl) ?_
                refine cg_8_37 C hw dX8_row_131 ?_
                refine cg_8_158 C hw dX8_row_134 ?_
                refine lv_iload_n hx hb dX8_row_137 rfl (lv_at hl 5 rfl) ?_
                obtain ⟨g16, hf⟩ := gd_inv hf
                refine cl_13 C hw g16 dX8_row_138 ?_
                obtain rfl := Option.some.inj hf
                exact qt_i C hr hlocks hw dX8_row_139
              · have hf := it_t h15 hf
                refine lv_iload hx hb dX8_row_125 (lv_at hl 0 rfl) ?_
                refine lv_goto (tgt := 139) hx hb dX8_row_127 (by decide) ?_
                obtain rfl := Option.some.inj hf
                exact qt_i C hr hlocks hw dX8_row_139
            · have hf := it_t h12 hf
              refine lv_iconst (v := (-1)) hx hb dX8_row_106 ic_m1 ?_
              obtain rfl := Option.some.inj hf
              exact qt_i C hr hlocks hw dX8_row_107
          · have hf := it_f h9 hf
            refine lv_aload_n hx hb dX8_row_87 rfl (lv_at hl 3 rfl) ?_
            refine lv_iload hx hb dX8_row_88 (lv_at hl 0 rfl) ?_
            refine ct_V1 (q0 := 0) (ci := 8) (rest := []) C hw hA (kX8_meet l D cI cB cS n ad bf hcg _ _) cfX8_meet tg_197 tg_199 ts_yX8_meet ⟨(Nat.le_of_ble_eq_true rfl), (Nat.le_of_ble_eq_true rfl)⟩ ⟨(Nat.le_of_ble_eq_true rfl), (Nat.le_of_ble_eq_true rfl)⟩ rfl rfl rfl rfl hl.1 rfl (Nat.le_of_ble_eq_true rfl) dX8_row_90 (fun H locs hw => ?_)
            obtain rfl := Option.some.inj hf
            exact qt_i C hr hlocks hw dX8_row_93
        · have hf := it_t h8 hf
          refine lv_bipush (v := (-3)) hx hb dX8_row_67 ib_m3 ?_
          obtain rfl := Option.some.inj hf
          exact qt_i C hr hlocks hw dX8_row_69
      · have hf := it_t h7 hf
        refine lv_bipush (v := (-2)) hx hb dX8_row_54 ib_m2 ?_
        obtain rfl := Option.some.inj hf
        exact qt_i C hr hlocks hw dX8_row_56
    · have hf := it_f h6 hf
      refine lv_aload_n hx hb dX8_row_17 rfl (lv_at hl 1 rfl) ?_
      refine cg_8_28 C hw dX8_row_18 ?_
      refine lv_iload_n hx hb dX8_row_21 rfl (lv_at hl 2 rfl) ?_
      refine ct_V1 (q0 := 11) (ci := 5) (rest := []) C hw hA (kX5_buyerOf l D cI cB cS n ad bf hcg _ _) cfX5_buyerOf tg_293 tg_294 tg_295 ⟨(Nat.le_of_ble_eq_true rfl), (Nat.le_of_ble_eq_true rfl)⟩ ⟨(Nat.le_of_ble_eq_true rfl), (Nat.le_of_ble_eq_true rfl)⟩ rfl rfl rfl rfl hl.1 rfl (Nat.le_of_ble_eq_true rfl) dX8_row_22 (fun H locs hw => ?_)
      rcases em_o (fX5_buyerOf n p1) with h17 | ⟨j18, h17⟩
      · rw [h17]
        have hf := om_n h17 hf
        refine lv_ifnullN (tgt := 32) hx hb dX8_row_25 (by decide) ?_
        refine lv_iconst (v := 0) hx hb dX8_row_32 ic_0 ?_
        refine lv_istore (lv' := [(7, .int 0), (6, .ref (ad (2 + j2))), (0, .ref (ad 0)), (1, .int p1), (2, .int p2), (3, .int p3), (4, .int p4), (5, .int p5)]) hx hb dX8_row_33 hl (by decide) rfl (fun ls hl => ?_)
        refine lv_iload hx hb dX8_row_35 (lv_at hl 0 rfl) ?_
        refine lv_if_eq (tgt := 45) hx hb dX8_row_37 (by decide) (fun _ => ?_) (fun hz => absurd hz (by decide))
        refine lv_iconst (v := (-1)) hx hb dX8_row_45 ic_m1 ?_
        obtain rfl := Option.some.inj hf
        exact qt_i C hr hlocks hw dX8_row_46
      · rw [h17]
        have hf := om_s h17 hf
        have hj18 := buyerOf_lt hcg.1 h17
        refine lv_ifnull hx hb dX8_row_25 ?_
        refine lv_iconst (v := 1) hx hb dX8_row_28 ic_1 ?_
        refine lv_goto (tgt := 33) hx hb dX8_row_29 (by decide) ?_
        refine lv_istore (lv' := [(7, .int 1), (6, .ref (ad (2 + j2))), (0, .ref (ad 0)), (1, .int p1), (2, .int p2), (3, .int p3), (4, .int p4), (5, .int p5)]) hx hb dX8_row_33 hl (by decide) rfl (fun ls hl => ?_)
        refine lv_iload hx hb dX8_row_35 (lv_at hl 0 rfl) ?_
        refine lv_if_eq (tgt := 45) hx hb dX8_row_37 (by decide) (fun hz => absurd hz (by decide)) (fun _ => ?_)
        refine lv_aload hx hb dX8_row_40 (lv_at hl 1 rfl) ?_
        refine lv_ifnonnull (tgt := 47) hx hb dX8_row_42 (by decide) ?_
        refine lv_iload_n hx hb dX8_row_47 rfl (lv_at hl 5 rfl) ?_
        refine ct_S1 (rest := []) C hw hA (kX8_isLane l D cI cB cS _ _) cfX8_isLane tg_186 tg_187 ⟨(Nat.le_of_ble_eq_true rfl), (Nat.le_of_ble_eq_true rfl)⟩ ⟨(Nat.le_of_ble_eq_true rfl), (Nat.le_of_ble_eq_true rfl)⟩ rfl hl.1 rfl (Nat.le_of_ble_eq_true rfl) dX8_row_48 (fun H locs hw => ?_)
        refine lv_if_ne (tgt := 57) hx hb dX8_row_51 (by decide) (fun h19 => ?_) (fun h19 => ?_)
        · have hf := it_f h19 hf
          refine lv_aload_n hx hb dX8_row_57 rfl (lv_at hl 2 rfl) ?_
          refine cg_8_28 C hw dX8_row_58 ?_
          refine ct_V1 (q0 := 11) (ci := 5) (rest := []) C hw hA (kX5_isThere l D cI cB cS n ad bf hcg _) cfX5_isThere tg_363 tg_364 tg_365 ⟨(Nat.le_of_ble_eq_true rfl), (Nat.le_of_ble_eq_true rfl)⟩ ⟨(Nat.le_of_ble_eq_true rfl), (Nat.le_of_ble_eq_true rfl)⟩ rfl rfl rfl rfl hl.1 rfl (Nat.le_of_ble_eq_true rfl) dX8_row_61 (fun H locs hw => ?_)
          refine lv_if_ne (tgt := 70) hx hb dX8_row_64 (by decide) (fun h20 => ?_) (fun h20 => ?_)
          · have hf := it_f h20 hf
            refine lv_aload hx hb dX8_row_70 (lv_at hl 1 rfl) ?_
            refine lv_iload_n hx hb dX8_row_72 rfl (lv_at hl 5 rfl) ?_
            refine lv_iload hx hb dX8_row_73 (lv_at hl 6 rfl) ?_
            refine lv_iload hx hb dX8_row_75 (lv_at hl 7 rfl) ?_
            refine ct_V1 (q0 := 2 + j2) (ci := 6) (rest := []) C hw hA (kX6_faultOfTaking l D cI cB cS n ad bf hcg hj2 _ _ _ _) cfX6_faultOfTaking tg_189 tg_190 tg_191 ⟨(Nat.le_of_ble_eq_true rfl), (Nat.le_of_ble_eq_true rfl)⟩ ⟨(Nat.le_of_ble_eq_true rfl), (Nat.le_of_ble_eq_true rfl)⟩ rfl rfl rfl (cW_sh hj2) hl.1 rfl (Nat.le_of_ble_eq_true rfl) dX8_row_77 (fun H locs hw => ?_)
            refine lv_istore (lv' := [(8, .int (fX6_faultOfTaking n j2 p3 p4 p5 (u2 M 0 0 0))), (7, .int 1), (6, .ref (ad (2 + j2))), (0, .ref (ad 0)), (1, .int p1), (2, .int p2), (3, .int p3), (4, .int p4), (5, .int p5)]) hx hb dX8_row_80 hl (by decide) rfl (fun ls hl => ?_)
            refine lv_iload hx hb dX8_row_82 (lv_at hl 0 rfl) ?_
            refine lv_if_eq (tgt := 94) hx hb dX8_row_84 (by decide) (fun h21 => ?_) (fun h21 => ?_)
            · have hf := it_t h21 hf
              refine lv_aload hx hb dX8_row_94 (lv_at hl 2 rfl) ?_
              refine lv_iload hx hb dX8_row_96 (lv_at hl 7 rfl) ?_
              refine lv_iload hx hb dX8_row_98 (lv_at hl 8 rfl) ?_
              obtain ⟨r22, e23, hf⟩ := bd hf
              refine ct_S1 (rest := []) C hw hA (kX8_areLotsOnce l D cI cB cS n ad bf hcg hj2 e23) cfX8_areLotsOnce tg_434 tg_435 ⟨(Nat.le_of_ble_eq_true rfl), (Nat.le_of_ble_eq_true rfl)⟩ ⟨(Nat.le_of_ble_eq_true rfl), (Nat.le_of_ble_eq_true rfl)⟩ rfl hl.1 rfl (Nat.le_of_ble_eq_true rfl) dX8_row_100 (fun H locs hw => ?_)
              refine lv_if_ne (tgt := 108) hx hb dX8_row_103 (by decide) (fun h24 => ?_) (fun h24 => ?_)
              · have hf := it_f h24 hf
                refine lv_aload_n hx hb dX8_row_108 rfl (lv_at hl 3 rfl) ?_
                refine lv_aload hx hb dX8_row_109 (lv_at hl 2 rfl) ?_
                refine lv_iload hx hb dX8_row_111 (lv_at hl 7 rfl) ?_
                refine lv_iload hx hb dX8_row_113 (lv_at hl 8 rfl) ?_
                obtain ⟨r25, e26, hf⟩ := bd hf
                refine ct_V1 (q0 := 0) (ci := 8) (rest := []) C hw hA (kX8_sellRow l D cI cB cS n ad bf hcg hj2 e26) cfX8_sellRow tg_438 tg_440 ts_yX8_sellRow ⟨(Nat.le_of_ble_eq_true rfl), (Nat.le_of_ble_eq_true rfl)⟩ ⟨(Nat.le_of_ble_eq_true rfl), (Nat.le_of_ble_eq_true rfl)⟩ rfl rfl rfl rfl hl.1 rfl (Nat.le_of_ble_eq_true rfl) dX8_row_115 (fun H locs hw => ?_)
                refine lv_istore (lv' := [(9, .int r25.1), (8, .int (fX6_faultOfTaking n j2 p3 p4 p5 (u2 M 0 0 0))), (7, .int 1), (6, .ref (ad (2 + j2))), (0, .ref (ad 0)), (1, .int p1), (2, .int p2), (3, .int p3), (4, .int p4), (5, .int p5)]) hx hb dX8_row_118 hl (by decide) rfl (fun ls hl => ?_)
                refine lv_iload_n hx hb dX8_row_120 rfl (lv_at hl 5 rfl) ?_
                refine lv_iconst (v := (-1)) hx hb dX8_row_121 ic_m1 ?_
                refine lv_icmp_ne (tgt := 130) hx hb dX8_row_122 (by decide) (fun h27 => ?_) (fun h27 => ?_)
                · have hf := it_f h27 hf
                  refine lv_aload_n hx hb dX8_row_130 rfl (lv_at hl 4 rfl) ?_
                  refine cg_8_37 C hw dX8_row_131 ?_
                  refine cg_8_158 C hw dX8_row_134 ?_
                  refine lv_iload_n hx hb dX8_row_137 rfl (lv_at hl 5 rfl) ?_
                  obtain ⟨g28, hf⟩ := gd_inv hf
                  refine cl_13 C hw g28 dX8_row_138 ?_
                  obtain rfl := Option.some.inj hf
                  exact qt_i C hr hlocks hw dX8_row_139
                · have hf := it_t h27 hf
                  refine lv_iload hx hb dX8_row_125 (lv_at hl 0 rfl) ?_
                  refine lv_goto (tgt := 139) hx hb dX8_row_127 (by decide) ?_
                  obtain rfl := Option.some.inj hf
                  exact qt_i C hr hlocks hw dX8_row_139
              · have hf := it_t h24 hf
                refine lv_iconst (v := (-1)) hx hb dX8_row_106 ic_m1 ?_
                obtain rfl := Option.some.inj hf
                exact qt_i C hr hlocks hw dX8_row_107
            · have hf := it_f h21 hf
              refine lv_aload_n hx hb dX8_row_87 rfl (lv_at hl 3 rfl) ?_
              refine lv_iload hx hb dX8_row_88 (lv_at hl 0 rfl) ?_
              refine ct_V1 (q0 := 0) (ci := 8) (rest := []) C hw hA (kX8_meet l D cI cB cS n ad bf hcg _ _) cfX8_meet tg_197 tg_199 ts_yX8_meet ⟨(Nat.le_of_ble_eq_true rfl), (Nat.le_of_ble_eq_true rfl)⟩ ⟨(Nat.le_of_ble_eq_true rfl), (Nat.le_of_ble_eq_true rfl)⟩ rfl rfl rfl rfl hl.1 rfl (Nat.le_of_ble_eq_true rfl) dX8_row_90 (fun H locs hw => ?_)
              obtain rfl := Option.some.inj hf
              exact qt_i C hr hlocks hw dX8_row_93
          · have hf := it_t h20 hf
            refine lv_bipush (v := (-3)) hx hb dX8_row_67 ib_m3 ?_
            obtain rfl := Option.some.inj hf
            exact qt_i C hr hlocks hw dX8_row_69
        · have hf := it_t h19 hf
          refine lv_bipush (v := (-2)) hx hb dX8_row_54 ib_m2 ?_
          obtain rfl := Option.some.inj hf
          exact qt_i C hr hlocks hw dX8_row_56
theorem cfX8_sellFrom : cf yX8_sellFrom cX8_sellFrom 4 none 3 := ⟨tg_459, by decide +kernel, tg_1⟩
set_option maxHeartbeats 4000000 in
theorem kX8_sellFrom (l : Launch) (D : va_G) (cI cB cS : ClassId) (n : Nat) (ad : Nat → Nat) (bf : Nat → Option Nat) (hcg : bok n ad bf) {p1 : Int32} {p2 : Int32} {p3 : Int32} {M : MS} {q : MS} (hf : fX8_sellFrom n p1 p2 p3 M = some q) : Ct l D cI cB cS yX8_sellFrom cX8_sellFrom 4 none 4 87 [.ref (ad 0), .int p1, .int p2, .int p3] (cW cI cB cS n ad bf M) none (cW cI cB cS n ad bf q) := by
  refine Ct.ofW (by decide) (Nat.le_of_ble_eq_true rfl) ?_
  intro p e s m args below meth c ls C hr hlocks _ hw hl
  have hx := C.1
  have hb := C.2.1
  have hA : ∀ q, s.heap.size ≤ q → va_A (cW cI cB cS n ad bf M) s.heap.size q := fun q h => Or.inr h
  have hl : lv_has ls 4 [(0, .ref (ad 0)), (1, .int p1), (2, .int p2), (3, .int p3)] := hl
  unfold fX8_sellFrom at hf
  refine lv_aload_n hx hb dX8_sellFrom_0 rfl (lv_at hl 0 rfl) ?_
  refine cg_8_37 C hw dX8_sellFrom_1 ?_
  refine lv_bipush (v := 63) hx hb dX8_sellFrom_4 ib_63 ?_
  obtain ⟨r1, e2, hf⟩ := bd hf
  refine ct_V0 (q0 := 13) (ci := 0) (rest := []) C hw hA (kX0_gather l D cI cB cS n ad bf hcg e2) cfX0_gather tg_375 tg_376 tg_377 ⟨(Nat.le_of_ble_eq_true rfl), (Nat.le_of_ble_eq_true rfl)⟩ ⟨(Nat.le_of_ble_eq_true rfl), (Nat.le_of_ble_eq_true rfl)⟩ rfl rfl rfl rfl hl.1 rfl (Nat.le_of_ble_eq_true rfl) dX8_sellFrom_6 (fun H locs hw => ?_)
  refine lv_aload_n hx hb dX8_sellFrom_9 rfl (lv_at hl 0 rfl) ?_
  refine cg_8_37 C hw dX8_sellFrom_10 ?_
  refine cg_8_148 C hw dX8_sellFrom_13 ?_
  refine lv_iload_n hx hb dX8_sellFrom_16 rfl (lv_at hl 1 rfl) ?_
  refine lv_iload_n hx hb dX8_sellFrom_17 rfl (lv_at hl 2 rfl) ?_
  obtain ⟨g3, hf⟩ := gd_inv hf
  refine cs_12 C hw g3 dX8_sellFrom_18 (fun H locs hw => ?_)
  refine lv_aload_n hx hb dX8_sellFrom_19 rfl (lv_at hl 0 rfl) ?_
  refine cg_8_37 C hw dX8_sellFrom_20 ?_
  refine lv_iload_n hx hb dX8_sellFrom_23 rfl (lv_at hl 3 rfl) ?_
  obtain ⟨r4, e5, hf⟩ := bd hf
  refine ct_V0 (q0 := 13) (ci := 0) (rest := []) C hw hA (kX0_offer l D cI cB cS n ad bf hcg e5) cfX0_offer tg_384 tg_385 tg_386 ⟨(Nat.le_of_ble_eq_true rfl), (Nat.le_of_ble_eq_true rfl)⟩ ⟨(Nat.le_of_ble_eq_true rfl), (Nat.le_of_ble_eq_true rfl)⟩ rfl rfl rfl rfl hl.1 rfl (Nat.le_of_ble_eq_true rfl) dX8_sellFrom_24 (fun H locs hw => ?_)
  refine lv_aload_n hx hb dX8_sellFrom_27 rfl (lv_at hl 0 rfl) ?_
  refine cg_8_37 C hw dX8_sellFrom_28 ?_
  obtain ⟨r6, e7, hf⟩ := bd hf
  refine ct_V0 (q0 := 13) (ci := 0) (rest := []) C hw hA (kX0_hold l D cI cB cS n ad bf hcg e7) cfX0_hold tg_390 tg_391 tg_392 ⟨(Nat.le_of_ble_eq_true rfl), (Nat.le_of_ble_eq_true rfl)⟩ ⟨(Nat.le_of_ble_eq_true rfl), (Nat.le_of_ble_eq_true rfl)⟩ rfl rfl rfl rfl hl.1 rfl (Nat.le_of_ble_eq_true rfl) dX8_sellFrom_31 (fun H locs hw => ?_)
  obtain rfl := Option.some.inj hf
  exact qt_v C hr hlocks hw dX8_sellFrom_34
theorem cfX8_gainFrom : cf yX8_gainFrom cX8_gainFrom 4 (some .int) 3 := ⟨tg_455, by decide +kernel, tg_1⟩
set_option maxHeartbeats 4000000 in
theorem kX8_gainFrom (l : Launch) (D : va_G) (cI cB cS : ClassId) (n : Nat) (ad : Nat → Nat) (bf : Nat → Option Nat) (hcg : bok n ad bf) {p1 : Nat} (hp1 : p1 < n) {p2 : Int32} {p3 : Int32} {M : MS} {q : (Int32 × MS)} (hf : fX8_gainFrom n p1 p2 p3 M = some q) : Ct l D cI cB cS yX8_gainFrom cX8_gainFrom 4 (some .int) 5 110 [.ref (ad 0), .ref (ad (30 + p1)), .int p2, .int p3] (cW cI cB cS n ad bf M) (some (.int q.1)) (cW cI cB cS n ad bf q.2) := by
  refine Ct.ofW (by decide) (Nat.le_of_ble_eq_true rfl) ?_
  intro p e s m args below meth c ls C hr hlocks _ hw hl
  have hx := C.1
  have hb := C.2.1
  have hA : ∀ q, s.heap.size ≤ q → va_A (cW cI cB cS n ad bf M) s.heap.size q := fun q h => Or.inr h
  have hl : lv_has ls 4 [(0, .ref (ad 0)), (1, .ref (ad (30 + p1))), (2, .int p2), (3, .int p3)] := hl
  unfold fX8_gainFrom at hf
  refine lv_aload_n hx hb dX8_gainFrom_0 rfl (lv_at hl 0 rfl) ?_
  refine lv_aload_n hx hb dX8_gainFrom_1 rfl (lv_at hl 1 rfl) ?_
  refine cg_8_264 hp1 C hw dX8_gainFrom_2 ?_
  refine lv_iload_n hx hb dX8_gainFrom_5 rfl (lv_at hl 2 rfl) ?_
  refine lv_iload_n hx hb dX8_gainFrom_6 rfl (lv_at hl 3 rfl) ?_
  obtain ⟨r1, e2, hf⟩ := bd hf
  refine ct_V0 (q0 := 0) (ci := 8) (rest := []) C hw hA (kX8_sellFrom l D cI cB cS n ad bf hcg e2) cfX8_sellFrom tg_456 tg_458 ts_yX8_sellFrom ⟨(Nat.le_of_ble_eq_true rfl), (Nat.le_of_ble_eq_true rfl)⟩ ⟨(Nat.le_of_ble_eq_true rfl), (Nat.le_of_ble_eq_true rfl)⟩ rfl rfl rfl rfl hl.1 rfl (Nat.le_of_ble_eq_true rfl) dX8_gainFrom_7 (fun H locs hw => ?_)
  refine lv_aload_n hx hb dX8_gainFrom_10 rfl (lv_at hl 0 rfl) ?_
  refine cg_8_37 C hw dX8_gainFrom_11 ?_
  refine cg_8_139 C hw dX8_gainFrom_14 ?_
  refine lv_aload_n hx hb dX8_gainFrom_17 rfl (lv_at hl 1 rfl) ?_
  refine cg_8_264 hp1 C hw dX8_gainFrom_18 ?_
  refine lv_icmp_ne (tgt := 41) hx hb dX8_gainFrom_21 (by decide) (fun h3 => ?_) (fun h3 => ?_)
  · have hf := it_f h3 hf
    refine lv_iconst (v := 0) hx hb dX8_gainFrom_41 ic_0 ?_
    obtain rfl := Option.some.inj hf
    exact qt_i C hr hlocks hw dX8_gainFrom_42
  · have hf := it_t h3 hf
    refine lv_aload_n hx hb dX8_gainFrom_24 rfl (lv_at hl 1 rfl) ?_
    refine cg_8_106 hp1 C hw dX8_gainFrom_25 ?_
    refine lv_iload_n hx hb dX8_gainFrom_28 rfl (lv_at hl 3 rfl) ?_
    obtain ⟨g4, hf⟩ := gd_inv hf
    refine cl_w hp1 C hw g4 dX8_gainFrom_29 ?_
    refine lv_aload_n hx hb dX8_gainFrom_30 rfl (lv_at hl 0 rfl) ?_
    refine cg_8_37 C hw dX8_gainFrom_31 ?_
    refine cg_8_136 C hw dX8_gainFrom_34 ?_
    refine lv_isub hx hb dX8_gainFrom_37 ?_
    refine lv_goto (tgt := 42) hx hb dX8_gainFrom_38 (by decide) ?_
    obtain rfl := Option.some.inj hf
    exact qt_i C hr hlocks hw dX8_gainFrom_42
theorem cfX8_gain : cf yX8_gain cX8_gain 4 (some .int) 2 := ⟨tg_451, by decide +kernel, tg_1⟩
set_option maxHeartbeats 4000000 in
theorem kX8_gain (l : Launch) (D : va_G) (cI cB cS : ClassId) (n : Nat) (ad : Nat → Nat) (bf : Nat → Option Nat) (hcg : bok n ad bf) {p1 : Int32} {p2 : Int32} {M : MS} {q : (Int32 × MS)} (hf : fX8_gain n p1 p2 M = some q) : Ct l D cI cB cS yX8_gain cX8_gain 4 (some .int) 6 133 [.ref (ad 0), .int p1, .int p2] (cW cI cB cS n ad bf M) (some (.int q.1)) (cW cI cB cS n ad bf q.2) := by
  refine Ct.ofW (by decide) (Nat.le_of_ble_eq_true rfl) ?_
  intro p e s m args below meth c ls C hr hlocks _ hw hl
  have hx := C.1
  have hb := C.2.1
  have hA : ∀ q, s.heap.size ≤ q → va_A (cW cI cB cS n ad bf M) s.heap.size q := fun q h => Or.inr h
  have hl : lv_has ls 4 [(0, .ref (ad 0)), (1, .int p1), (2, .int p2)] := hl
  unfold fX8_gain at hf
  refine lv_aload_n hx hb dX8_gain_0 rfl (lv_at hl 0 rfl) ?_
  refine cg_8_28 C hw dX8_gain_1 ?_
  refine lv_iload_n hx hb dX8_gain_4 rfl (lv_at hl 1 rfl) ?_
  refine ct_V1 (q0 := 11) (ci := 5) (rest := []) C hw hA (kX5_buyerOf l D cI cB cS n ad bf hcg _ _) cfX5_buyerOf tg_293 tg_294 tg_295 ⟨(Nat.le_of_ble_eq_true rfl), (Nat.le_of_ble_eq_true rfl)⟩ ⟨(Nat.le_of_ble_eq_true rfl), (Nat.le_of_ble_eq_true rfl)⟩ rfl rfl rfl rfl hl.1 rfl (Nat.le_of_ble_eq_true rfl) dX8_gain_5 (fun H locs hw => ?_)
  rcases em_o (fX5_buyerOf n p1) with h1 | ⟨j2, h1⟩
  · rw [h1]
    have hf := om_n h1 hf
    refine lv_astore_nN (lv' := [(3, .null), (0, .ref (ad 0)), (1, .int p1), (2, .int p2)]) hx hb dX8_gain_8 rfl hl (by decide) rfl (fun ls hl => ?_)
    refine lv_aload_nN hx hb dX8_gain_9 rfl (lv_at hl 0 rfl) ?_
    refine lv_ifnullN (tgt := 20) hx hb dX8_gain_10 (by decide) ?_
    refine lv_iconst (v := (-1)) hx hb dX8_gain_20 ic_m1 ?_
    obtain rfl := Option.some.inj hf
    exact qt_i C hr hlocks hw dX8_gain_21
  · rw [h1]
    have hf := om_s h1 hf
    have hj2 := buyerOf_lt hcg.1 h1
    refine lv_astore_n (lv' := [(3, .ref (ad (30 + j2))), (0, .ref (ad 0)), (1, .int p1), (2, .int p2)]) hx hb dX8_gain_8 rfl hl (by decide) rfl (fun ls hl => ?_)
    refine lv_aload_n hx hb dX8_gain_9 rfl (lv_at hl 0 rfl) ?_
    refine lv_ifnull hx hb dX8_gain_10 ?_
    refine lv_iload_n hx hb dX8_gain_13 rfl (lv_at hl 3 rfl) ?_
    refine ct_S1 (rest := []) C hw hA (kX8_isLot l D cI cB cS _ _) cfX8_isLot tg_331 tg_332 ⟨(Nat.le_of_ble_eq_true rfl), (Nat.le_of_ble_eq_true rfl)⟩ ⟨(Nat.le_of_ble_eq_true rfl), (Nat.le_of_ble_eq_true rfl)⟩ rfl hl.1 rfl (Nat.le_of_ble_eq_true rfl) dX8_gain_14 (fun H locs hw => ?_)
    refine lv_if_ne (tgt := 22) hx hb dX8_gain_17 (by decide) (fun h3 => ?_) (fun h3 => ?_)
    · have hf := it_f h3 hf
      refine lv_bipush (v := 100) hx hb dX8_gain_22 ib_100 ?_
      refine lv_aload_n hx hb dX8_gain_24 rfl (lv_at hl 1 rfl) ?_
      refine lv_aload_n hx hb dX8_gain_25 rfl (lv_at hl 0 rfl) ?_
      refine lv_aload_n hx hb dX8_gain_26 rfl (lv_at hl 0 rfl) ?_
      refine cg_8_93 hj2 C hw dX8_gain_27 ?_
      refine lv_iload_n hx hb dX8_gain_30 rfl (lv_at hl 3 rfl) ?_
      obtain ⟨r4, e5, hf⟩ := bd hf
      refine ct_V1 (q0 := 0) (ci := 8) (rest := [.int 100]) C hw hA (kX8_gainFrom l D cI cB cS n ad bf hcg hj2 e5) cfX8_gainFrom tg_452 tg_454 ts_yX8_gainFrom ⟨(Nat.le_of_ble_eq_true rfl), (Nat.le_of_ble_eq_true rfl)⟩ ⟨(Nat.le_of_ble_eq_true rfl), (Nat.le_of_ble_eq_true rfl)⟩ rfl rfl rfl rfl hl.1 rfl (Nat.le_of_ble_eq_true rfl) dX8_gain_31 (fun H locs hw => ?_)
      refine lv_iadd hx hb dX8_gain_34 ?_
      obtain rfl := Option.some.inj hf
      exact qt_i C hr hlocks hw dX8_gain_35
    · have hf := it_t h3 hf
      refine lv_iconst (v := (-1)) hx hb dX8_gain_20 ic_m1 ?_
      obtain rfl := Option.some.inj hf
      exact qt_i C hr hlocks hw dX8_gain_21
theorem cfX8_best : cf yX8_best cX8_best 9 (some .int) 3 := ⟨tg_463, by decide +kernel, tg_1⟩
set_option maxHeartbeats 4000000 in
theorem wX8_best_49 {p : Program} {l : Launch} {e : Env} {s : State} {m : MethodId} {args : Array Value} {below : List Frame} {meth : Method} {c : Code} {D : va_G} {cI cB cS : ClassId} {n : Nat} {ad : Nat → Nat} {bf : Nat → Option Nat} {ws0 : va_W} {v2 : Int32} {v3 : Int32} {v4 : Nat} (C : cx p c cX8_best 9 s args m RX8 D cI cB cS) (hr : meth.sig.returnType = (some .int)) (hlocks : meth.locks = false) (hA : ∀ q, s.heap.size ≤ q → va_A ws0 s.heap.size q) (hv4 : v4 < n) {k : Int32 → Int32 → MS → Option (Int32 × MS)} {q : (Int32 × MS)}
    (hcg : bok n ad bf) : ∀ (fu : Nat) (v5 : Int32) (v6 : Int32) (v7 : Int32) (M : MS) (H : Heap) (locs : List Loc) (ls : Array Slot), wd D (va_A ws0 s.heap.size) s.heap (cW cI cB cS n ad bf M) H locs → lv_has ls 9 [(0, .ref (ad 0)), (2, .int v2), (3, .int v3), (4, .ref (ad (30 + v4))), (5, .int v5), (6, .int v6), (7, .int v7)] → fX8_best_49 n fu k v2 v4 v5 v6 v7 M = some q →
    (∀ (x5 : Int32) (x6 : Int32) (M1 : MS) (H : Heap) (locs : List Loc) (ls : Array Slot), wd D (va_A ws0 s.heap.size) s.heap (cW cI cB cS n ad bf M1) H locs → lv_has ls 9 [(3, .int v3), (5, .int x5), (6, .int x6)] → k x5 x6 M1 = some q → W p l e { frames := 6, cells := 0, slots := 0, locals := 133 } s m args below meth c H locs 0 0 (Qt D below args s ws0 (some (.int q.1)) (cW cI cB cS n ad bf q.2)) (F0 m 110 ls [])) →
    W p l e { frames := 6, cells := 0, slots := 0, locals := 133 } s m args below meth c H locs 0 0 (Qt D below args s ws0 (some (.int q.1)) (cW cI cB cS n ad bf q.2)) (F0 m 49 ls []) := by
  have hx := C.1
  have hb := C.2.1
  intro fu
  induction fu with
  | zero => intro v5 v6 v7 M H locs ls hw hl hf hk; rw [fX8_best_49] at hf; cases hf
  | succ fu ih =>
      intro v5 v6 v7 M H locs ls hw hl hf hk
      rw [fX8_best_49] at hf
      refine lv_iload hx hb dX8_best_49 (lv_at hl 6 rfl) ?_
      refine lv_aload_n hx hb dX8_best_51 rfl (lv_at hl 0 rfl) ?_
      refine cg_8_28 C hw dX8_best_52 ?_
      refine cg_8_114 C hw dX8_best_55 ?_
      refine lv_icmp_ge (tgt := 110) hx hb dX8_best_58 (by decide) (fun h5 => ?_) (fun h5 => ?_)
      · have hf := it_t h5 hf
        exact hk _ _ _ _ _ _ hw (lv_sub hl [2, 4, 5] rfl) hf
      · have hf := it_f h5 hf
        refine lv_aload_n hx hb dX8_best_61 rfl (lv_at hl 0 rfl) ?_
        refine cg_8_28 C hw dX8_best_62 ?_
        refine lv_aload hx hb dX8_best_65 (lv_at hl 3 rfl) ?_
        refine lv_iload hx hb dX8_best_67 (lv_at hl 6 rfl) ?_
        obtain ⟨r6, e7, hf⟩ := bd hf
        refine ct_V1 (q0 := 11) (ci := 5) (rest := []) C hw hA (kX5_isFreeFor l D cI cB cS n ad bf hcg hv4 e7) cfX5_isFreeFor tg_358 tg_323 tg_324 ⟨(Nat.le_of_ble_eq_true rfl), (Nat.le_of_ble_eq_true rfl)⟩ ⟨(Nat.le_of_ble_eq_true rfl), (Nat.le_of_ble_eq_true rfl)⟩ rfl rfl rfl rfl hl.1 rfl (Nat.le_of_ble_eq_true rfl) dX8_best_69 (fun H locs hw => ?_)
        refine lv_if_ne (tgt := 78) hx hb dX8_best_72 (by decide) (fun h8 => ?_) (fun h8 => ?_)
        · have hf := it_f h8 hf
          refine lv_aload_n hx hb dX8_best_78 rfl (lv_at hl 0 rfl) ?_
          refine lv_aload hx hb dX8_best_79 (lv_at hl 3 rfl) ?_
          refine lv_iload hx hb dX8_best_81 (lv_at hl 6 rfl) ?_
          refine lv_iload_n hx hb dX8_best_83 rfl (lv_at hl 1 rfl) ?_
          obtain ⟨r9, e10, hf⟩ := bd hf
          refine ct_V1 (q0 := 0) (ci := 8) (rest := []) C hw hA (kX8_gainFrom l D cI cB cS n ad bf hcg hv4 e10) cfX8_gainFrom tg_452 tg_454 ts_yX8_gainFrom ⟨(Nat.le_of_ble_eq_true rfl), (Nat.le_of_ble_eq_true rfl)⟩ ⟨(Nat.le_of_ble_eq_true rfl), (Nat.le_of_ble_eq_true rfl)⟩ rfl rfl rfl rfl hl.1 rfl (Nat.le_of_ble_eq_true rfl) dX8_best_84 (fun H locs hw => ?_)
          refine lv_istore (lv' := [(8, .int r9.1), (0, .ref (ad 0)), (2, .int v2), (3, .int v3), (4, .ref (ad (30 + v4))), (5, .int v5), (6, .int v6), (7, .int v7)]) hx hb dX8_best_87 hl (by decide) rfl (fun ls hl => ?_)
          refine lv_iload hx hb dX8_best_89 (lv_at hl 0 rfl) ?_
          refine lv_iload hx hb dX8_best_91 (lv_at hl 6 rfl) ?_
          refine lv_icmp_le (tgt := 104) hx hb dX8_best_93 (by decide) (fun h11 => ?_) (fun h11 => ?_)
          · have hf := it_t h11 hf
            refine lv_iinc (v := (v7 + 1)) (lv' := [(7, .int (v7 + 1)), (8, .int r9.1), (0, .ref (ad 0)), (2, .int v2), (3, .int v3), (4, .ref (ad (30 + v4))), (5, .int v5), (6, .int v6)]) hx hb dX8_best_104 hl (k := 7) rfl (iv_1 _) (by decide) rfl (fun ls hl => ?_)
            refine lv_goto (tgt := 49) hx hb dX8_best_107 (by decide) ?_
            exact ih _ _ _ _ _ _ _ hw (lv_sub hl [2, 3, 4, 5, 6, 7, 0] rfl) hf hk
          · have hf := it_f h11 hf
            refine lv_iload hx hb dX8_best_96 (lv_at hl 0 rfl) ?_
            refine lv_istore (lv' := [(6, .int r9.1), (8, .int r9.1), (0, .ref (ad 0)), (2, .int v2), (3, .int v3), (4, .ref (ad (30 + v4))), (5, .int v5), (7, .int v7)]) hx hb dX8_best_98 hl (by decide) rfl (fun ls hl => ?_)
            refine lv_iload hx hb dX8_best_100 (lv_at hl 7 rfl) ?_
            refine lv_istore (lv' := [(5, .int v7), (6, .int r9.1), (8, .int r9.1), (0, .ref (ad 0)), (2, .int v2), (3, .int v3), (4, .ref (ad (30 + v4))), (7, .int v7)]) hx hb dX8_best_102 hl (by decide) rfl (fun ls hl => ?_)
            refine lv_iinc (v := (v7 + 1)) (lv' := [(7, .int (v7 + 1)), (5, .int v7), (6, .int r9.1), (8, .int r9.1), (0, .ref (ad 0)), (2, .int v2), (3, .int v3), (4, .ref (ad (30 + v4)))]) hx hb dX8_best_104 hl (k := 7) rfl (iv_1 _) (by decide) rfl (fun ls hl => ?_)
            refine lv_goto (tgt := 49) hx hb dX8_best_107 (by decide) ?_
            exact ih _ _ _ _ _ _ _ hw (lv_sub hl [4, 5, 6, 7, 1, 2, 0] rfl) hf hk
        · have hf := it_t h8 hf
          refine lv_goto (tgt := 104) hx hb dX8_best_75 (by decide) ?_
          refine lv_iinc (v := (v7 + 1)) (lv' := [(7, .int (v7 + 1)), (0, .ref (ad 0)), (2, .int v2), (3, .int v3), (4, .ref (ad (30 + v4))), (5, .int v5), (6, .int v6)]) hx hb dX8_best_104 hl (k := 6) rfl (iv_1 _) (by decide) rfl (fun ls hl => ?_)
          refine lv_goto (tgt := 49) hx hb dX8_best_107 (by decide) ?_
          exact ih _ _ _ _ _ _ _ hw (lv_sub hl [1, 2, 3, 4, 5, 6, 0] rfl) hf hk
set_option maxHeartbeats 4000000 in
theorem kX8_best (l : Launch) (D : va_G) (cI cB cS : ClassId) (n : Nat) (ad : Nat → Nat) (bf : Nat → Option Nat) (hcg : bok n ad bf) {p1 : Int32} {p2 : Int32} {p3 : Int32} {M : MS} {q : (Int32 × MS)} (hf : fX8_best n p1 p2 p3 M = some q) : Ct l D cI cB cS yX8_best cX8_best 9 (some .int) 6 133 [.ref (ad 0), .int p1, .int p2, .int p3] (cW cI cB cS n ad bf M) (some (.int q.1)) (cW cI cB cS n ad bf q.2) := by
  refine Ct.ofW (by decide) (Nat.le_of_ble_eq_true rfl) ?_
  intro p e s m args below meth c ls C hr hlocks _ hw hl
  have hx := C.1
  have hb := C.2.1
  have hA : ∀ q, s.heap.size ≤ q → va_A (cW cI cB cS n ad bf M) s.heap.size q := fun q h => Or.inr h
  have hl : lv_has ls 9 [(0, .ref (ad 0)), (1, .int p1), (2, .int p2), (3, .int p3)] := hl
  unfold fX8_best at hf
  refine lv_aload_n hx hb dX8_best_0 rfl (lv_at hl 0 rfl) ?_
  refine cg_8_28 C hw dX8_best_1 ?_
  refine lv_iload_n hx hb dX8_best_4 rfl (lv_at hl 1 rfl) ?_
  refine ct_V1 (q0 := 11) (ci := 5) (rest := []) C hw hA (kX5_buyerOf l D cI cB cS n ad bf hcg _ _) cfX5_buyerOf tg_293 tg_294 tg_295 ⟨(Nat.le_of_ble_eq_true rfl), (Nat.le_of_ble_eq_true rfl)⟩ ⟨(Nat.le_of_ble_eq_true rfl), (Nat.le_of_ble_eq_true rfl)⟩ rfl rfl rfl rfl hl.1 rfl (Nat.le_of_ble_eq_true rfl) dX8_best_5 (fun H locs hw => ?_)
  rcases em_o (fX5_buyerOf n p1) with h1 | ⟨j2, h1⟩
  · rw [h1]
    have hf := om_n h1 hf
    refine lv_astoreN (lv' := [(4, .null), (0, .ref (ad 0)), (1, .int p1), (2, .int p2), (3, .int p3)]) hx hb dX8_best_8 hl (by decide) rfl (fun ls hl => ?_)
    refine lv_aloadN hx hb dX8_best_10 (lv_at hl 0 rfl) ?_
    refine lv_ifnullN (tgt := 22) hx hb dX8_best_12 (by decide) ?_
    refine lv_iconst (v := (-1)) hx hb dX8_best_22 ic_m1 ?_
    obtain rfl := Option.some.inj hf
    exact qt_i C hr hlocks hw dX8_best_23
  · rw [h1]
    have hf := om_s h1 hf
    have hj2 := buyerOf_lt hcg.1 h1
    refine lv_astore (lv' := [(4, .ref (ad (30 + j2))), (0, .ref (ad 0)), (1, .int p1), (2, .int p2), (3, .int p3)]) hx hb dX8_best_8 hl (by decide) rfl (fun ls hl => ?_)
    refine lv_aload hx hb dX8_best_10 (lv_at hl 0 rfl) ?_
    refine lv_ifnull hx hb dX8_best_12 ?_
    refine lv_iload_n hx hb dX8_best_15 rfl (lv_at hl 3 rfl) ?_
    refine ct_S1 (rest := []) C hw hA (kX8_isLot l D cI cB cS _ _) cfX8_isLot tg_331 tg_332 ⟨(Nat.le_of_ble_eq_true rfl), (Nat.le_of_ble_eq_true rfl)⟩ ⟨(Nat.le_of_ble_eq_true rfl), (Nat.le_of_ble_eq_true rfl)⟩ rfl hl.1 rfl (Nat.le_of_ble_eq_true rfl) dX8_best_16 (fun H locs hw => ?_)
    refine lv_if_ne (tgt := 24) hx hb dX8_best_19 (by decide) (fun h3 => ?_) (fun h3 => ?_)
    · have hf := it_f h3 hf
      refine lv_iload_n hx hb dX8_best_24 rfl (lv_at hl 4 rfl) ?_
      refine lv_iconst (v := 2) hx hb dX8_best_25 ic_2 ?_
      refine ct_S1 (rest := []) C hw hA (kX8_isBelow l D cI cB cS _ _ _) cfX8_isBelow tg_183 tg_184 ⟨(Nat.le_of_ble_eq_true rfl), (Nat.le_of_ble_eq_true rfl)⟩ ⟨(Nat.le_of_ble_eq_true rfl), (Nat.le_of_ble_eq_true rfl)⟩ rfl hl.1 rfl (Nat.le_of_ble_eq_true rfl) dX8_best_26 (fun H locs hw => ?_)
      refine lv_if_ne (tgt := 35) hx hb dX8_best_29 (by decide) (fun h4 => ?_) (fun h4 => ?_)
      · have hf := it_f h4 hf
        refine lv_aload hx hb dX8_best_35 (lv_at hl 0 rfl) ?_
        refine cg_8_93 hj2 C hw dX8_best_37 ?_
        refine lv_istore (lv' := [(5, .int (M 22 j2)), (4, .ref (ad (30 + j2))), (0, .ref (ad 0)), (1, .int p1), (2, .int p2), (3, .int p3)]) hx hb dX8_best_40 hl (by decide) rfl (fun ls hl => ?_)
        refine lv_bipush (v := (-9)) hx hb dX8_best_42 ib_m9 ?_
        refine lv_istore (lv' := [(6, .int (-9)), (5, .int (M 22 j2)), (4, .ref (ad (30 + j2))), (0, .ref (ad 0)), (1, .int p1), (2, .int p2), (3, .int p3)]) hx hb dX8_best_44 hl (by decide) rfl (fun ls hl => ?_)
        refine lv_iconst (v := 0) hx hb dX8_best_46 ic_0 ?_
        refine lv_istore (lv' := [(7, .int 0), (6, .int (-9)), (5, .int (M 22 j2)), (4, .ref (ad (30 + j2))), (0, .ref (ad 0)), (1, .int p1), (2, .int p2), (3, .int p3)]) hx hb dX8_best_47 hl (by decide) rfl (fun ls hl => ?_)
        refine wX8_best_49 C hr hlocks hA hj2 hcg 300 _ _ _ _ _ _ _ hw (lv_sub hl [4, 6, 7, 3, 2, 1, 0] rfl) hf (fun x12 x13 M14 H locs ls hw hl hf => ?_)
        refine lv_iload_n hx hb dX8_best_110 rfl (lv_at hl 0 rfl) ?_
        refine lv_if_ne (tgt := 119) hx hb dX8_best_111 (by decide) (fun h15 => ?_) (fun h15 => ?_)
        · have hf := it_f h15 hf
          refine lv_bipush (v := 100) hx hb dX8_best_119 ib_100 ?_
          refine lv_iload hx hb dX8_best_121 (lv_at hl 2 rfl) ?_
          refine lv_iadd hx hb dX8_best_123 ?_
          obtain rfl := Option.some.inj hf
          exact qt_i C hr hlocks hw dX8_best_124
        · have hf := it_t h15 hf
          refine lv_iload hx hb dX8_best_114 (lv_at hl 1 rfl) ?_
          refine lv_goto (tgt := 124) hx hb dX8_best_116 (by decide) ?_
          obtain rfl := Option.some.inj hf
          exact qt_i C hr hlocks hw dX8_best_124
      · have hf := it_t h4 hf
        refine lv_bipush (v := (-2)) hx hb dX8_best_32 ib_m2 ?_
        obtain rfl := Option.some.inj hf
        exact qt_i C hr hlocks hw dX8_best_34
    · have hf := it_t h3 hf
      refine lv_iconst (v := (-1)) hx hb dX8_best_22 ic_m1 ?_
      obtain rfl := Option.some.inj hf
      exact qt_i C hr hlocks hw dX8_best_23
theorem cfX8_isEachLotOnce : cf yX8_isEachLotOnce cX8_isEachLotOnce 3 (some .boolean) 1 := ⟨tg_470, by decide +kernel, tg_1⟩
set_option maxHeartbeats 4000000 in
theorem wX8_isEachLotOnce_4 {p : Program} {l : Launch} {e : Env} {s : State} {m : MethodId} {args : Array Value} {below : List Frame} {meth : Method} {c : Code} {D : va_G} {cI cB cS : ClassId} {ws0 : va_W} {v0 : Int32} (C : cx p c cX8_isEachLotOnce 3 s args m RX8 D cI cB cS) (hr : meth.sig.returnType = (some .boolean)) (hlocks : meth.locks = false) (hA : ∀ q, s.heap.size ≤ q → va_A ws0 s.heap.size q) {k : Int32 → Option Int32} {q : Int32}
    (hcg : True) : ∀ (fu : Nat) (v1 : Int32) (v2 : Int32) (H : Heap) (locs : List Loc) (ls : Array Slot), wd D (va_A ws0 s.heap.size) s.heap ws0 H locs → lv_has ls 3 [(0, .int v0), (1, .int v1), (2, .int v2)] → fX8_isEachLotOnce_4 fu k v0 v1 v2 = some q →
    (∀ (x1 : Int32) (H : Heap) (locs : List Loc) (ls : Array Slot), wd D (va_A ws0 s.heap.size) s.heap ws0 H locs → lv_has ls 3 [(1, .int x1)] → k x1 = some q → W p l e { frames := 1, cells := 0, slots := 0, locals := 21 } s m args below meth c H locs 0 0 (Qt D below args s ws0 (some (.int q)) ws0) (F0 m 25 ls [])) →
    W p l e { frames := 1, cells := 0, slots := 0, locals := 21 } s m args below meth c H locs 0 0 (Qt D below args s ws0 (some (.int q)) ws0) (F0 m 4 ls []) := by
  have hx := C.1
  have hb := C.2.1
  intro fu
  induction fu with
  | zero => intro v1 v2 H locs ls hw hl hf hk; rw [fX8_isEachLotOnce_4] at hf; cases hf
  | succ fu ih =>
      intro v1 v2 H locs ls hw hl hf hk
      rw [fX8_isEachLotOnce_4] at hf
      refine lv_iload_n hx hb dX8_isEachLotOnce_4 rfl (lv_at hl 2 rfl) ?_
      refine lv_iconst (v := 4) hx hb dX8_isEachLotOnce_5 ic_4 ?_
      refine lv_icmp_ge (tgt := 25) hx hb dX8_isEachLotOnce_6 (by decide) (fun h1 => ?_) (fun h1 => ?_)
      · have hf := it_t h1 hf
        exact hk _ _ _ _ hw (lv_sub hl [1] rfl) hf
      · have hf := it_f h1 hf
        refine lv_iload_n hx hb dX8_isEachLotOnce_9 rfl (lv_at hl 1 rfl) ?_
        refine lv_iconst (v := 1) hx hb dX8_isEachLotOnce_10 ic_1 ?_
        refine lv_iload_n hx hb dX8_isEachLotOnce_11 rfl (lv_at hl 0 rfl) ?_
        refine lv_iload_n hx hb dX8_isEachLotOnce_12 rfl (lv_at hl 2 rfl) ?_
        refine ct_S1 (rest := [.int 1, .int v1]) C hw hA (kX8_lotOfOrder l D cI cB cS _ _ _) cfX8_lotOfOrder tg_471 tg_472 ⟨(Nat.le_of_ble_eq_true rfl), (Nat.le_of_ble_eq_true rfl)⟩ ⟨(Nat.le_of_ble_eq_true rfl), (Nat.le_of_ble_eq_true rfl)⟩ rfl hl.1 rfl (Nat.le_of_ble_eq_true rfl) dX8_isEachLotOnce_13 (fun H locs hw => ?_)
        refine lv_ishl hx hb dX8_isEachLotOnce_16 ?_
        refine lv_ior hx hb dX8_isEachLotOnce_17 ?_
        refine lv_istore_n (lv' := [(1, .int (v1 ||| ((1 : Int32) <<< ((fX8_lotOfOrder v0 v2) &&& 31)))), (0, .int v0), (2, .int v2)]) hx hb dX8_isEachLotOnce_18 rfl hl (by decide) rfl (fun ls hl => ?_)
        refine lv_iinc (v := (v2 + 1)) (lv' := [(2, .int (v2 + 1)), (1, .int (v1 ||| ((1 : Int32) <<< ((fX8_lotOfOrder v0 v2) &&& 31)))), (0, .int v0)]) hx hb dX8_isEachLotOnce_19 hl (k := 2) rfl (iv_1 _) (by decide) rfl (fun ls hl => ?_)
        refine lv_goto (tgt := 4) hx hb dX8_isEachLotOnce_22 (by decide) ?_
        exact ih _ _ _ _ _ hw (lv_sub hl [2, 1, 0] rfl) hf hk
set_option maxHeartbeats 4000000 in
theorem kX8_isEachLotOnce (l : Launch) (D : va_G) (cI cB cS : ClassId) (ws0 : va_W) {p1 : Int32} {q : Int32} (hf : fX8_isEachLotOnce p1 = some q) : Ct l D cI cB cS yX8_isEachLotOnce cX8_isEachLotOnce 3 (some .boolean) 1 21 [.int p1] ws0 (some (.int q)) ws0 := by
  refine Ct.ofW (by decide) (Nat.le_of_ble_eq_true rfl) ?_
  intro p e s m args below meth c ls C hr hlocks _ hw hl
  have hx := C.1
  have hb := C.2.1
  have hA : ∀ q, s.heap.size ≤ q → va_A ws0 s.heap.size q := fun q h => Or.inr h
  have hcg := trivial
  have hl : lv_has ls 3 [(0, .int p1)] := hl
  unfold fX8_isEachLotOnce at hf
  refine lv_iconst (v := 0) hx hb dX8_isEachLotOnce_0 ic_0 ?_
  refine lv_istore_n (lv' := [(1, .int 0), (0, .int p1)]) hx hb dX8_isEachLotOnce_1 rfl hl (by decide) rfl (fun ls hl => ?_)
  refine lv_iconst (v := 0) hx hb dX8_isEachLotOnce_2 ic_0 ?_
  refine lv_istore_n (lv' := [(2, .int 0), (1, .int 0), (0, .int p1)]) hx hb dX8_isEachLotOnce_3 rfl hl (by decide) rfl (fun ls hl => ?_)
  refine wX8_isEachLotOnce_4 C hr hlocks hA hcg 300 _ _ _ _ _ hw (lv_sub hl [2, 1, 0] rfl) hf (fun x2 H locs ls hw hl hf => ?_)
  refine lv_iload_n hx hb dX8_isEachLotOnce_25 rfl (lv_at hl 0 rfl) ?_
  refine lv_bipush (v := 15) hx hb dX8_isEachLotOnce_26 ib_15 ?_
  refine lv_icmp_ne (tgt := 35) hx hb dX8_isEachLotOnce_28 (by decide) (fun h3 => ?_) (fun h3 => ?_)
  · have hf := it_f h3 hf
    refine lv_iconst (v := 0) hx hb dX8_isEachLotOnce_35 ic_0 ?_
    obtain rfl := Option.some.inj hf
    exact qt_z C hr hlocks (Or.inl rfl) hw dX8_isEachLotOnce_36
  · have hf := it_t h3 hf
    refine lv_iconst (v := 1) hx hb dX8_isEachLotOnce_31 ic_1 ?_
    refine lv_goto (tgt := 36) hx hb dX8_isEachLotOnce_32 (by decide) ?_
    obtain rfl := Option.some.inj hf
    exact qt_z C hr hlocks (Or.inr rfl) hw dX8_isEachLotOnce_36
theorem cfX8_sellOrder : cf yX8_sellOrder cX8_sellOrder 4 (some .int) 1 := ⟨tg_477, by decide +kernel, tg_1⟩
set_option maxHeartbeats 4000000 in
theorem wX8_sellOrder_13 {p : Program} {l : Launch} {e : Env} {s : State} {m : MethodId} {args : Array Value} {below : List Frame} {meth : Method} {c : Code} {D : va_G} {cI cB cS : ClassId} {n : Nat} {ad : Nat → Nat} {bf : Nat → Option Nat} {ws0 : va_W} {v1 : Int32} (C : cx p c cX8_sellOrder 4 s args m RX8 D cI cB cS) (hr : meth.sig.returnType = (some .int)) (hlocks : meth.locks = false) (hA : ∀ q, s.heap.size ≤ q → va_A ws0 s.heap.size q) {k : Int32 → MS → Option (Int32 × MS)} {q : (Int32 × MS)}
    (hcg : bok n ad bf) : ∀ (fu : Nat) (v2 : Int32) (v3 : Int32) (M : MS) (H : Heap) (locs : List Loc) (ls : Array Slot), wd D (va_A ws0 s.heap.size) s.heap (cW cI cB cS n ad bf M) H locs → lv_has ls 4 [(0, .ref (ad 0)), (1, .int v1), (2, .int v2), (3, .int v3)] → fX8_sellOrder_13 n fu k v1 v2 v3 M = some q →
    (∀ (x2 : Int32) (M1 : MS) (H : Heap) (locs : List Loc) (ls : Array Slot), wd D (va_A ws0 s.heap.size) s.heap (cW cI cB cS n ad bf M1) H locs → lv_has ls 4 [(2, .int x2)] → k x2 M1 = some q → W p l e { frames := 5, cells := 0, slots := 0, locals := 108 } s m args below meth c H locs 0 0 (Qt D below args s ws0 (some (.int q.1)) (cW cI cB cS n ad bf q.2)) (F0 m 39 ls [])) →
    W p l e { frames := 5, cells := 0, slots := 0, locals := 108 } s m args below meth c H locs 0 0 (Qt D below args s ws0 (some (.int q.1)) (cW cI cB cS n ad bf q.2)) (F0 m 13 ls []) := by
  have hx := C.1
  have hb := C.2.1
  intro fu
  induction fu with
  | zero => intro v2 v3 M H locs ls hw hl hf hk; rw [fX8_sellOrder_13] at hf; cases hf
  | succ fu ih =>
      intro v2 v3 M H locs ls hw hl hf hk
      rw [fX8_sellOrder_13] at hf
      refine lv_iload_n hx hb dX8_sellOrder_13 rfl (lv_at hl 3 rfl) ?_
      refine lv_iconst (v := 4) hx hb dX8_sellOrder_14 ic_4 ?_
      refine lv_icmp_ge (tgt := 39) hx hb dX8_sellOrder_15 (by decide) (fun h3 => ?_) (fun h3 => ?_)
      · have hf := it_t h3 hf
        exact hk _ _ _ _ _ hw (lv_sub hl [2] rfl) hf
      · have hf := it_f h3 hf
        refine lv_iload_n hx hb dX8_sellOrder_18 rfl (lv_at hl 2 rfl) ?_
        refine lv_aload_n hx hb dX8_sellOrder_19 rfl (lv_at hl 0 rfl) ?_
        refine cg_8_37 C hw dX8_sellOrder_20 ?_
        refine lv_iload_n hx hb dX8_sellOrder_23 rfl (lv_at hl 1 rfl) ?_
        refine lv_iload_n hx hb dX8_sellOrder_24 rfl (lv_at hl 3 rfl) ?_
        refine ct_S1 (rest := [.ref (ad 13), .int v2]) C hw hA (kX8_lotOfOrder l D cI cB cS _ _ _) cfX8_lotOfOrder tg_471 tg_472 ⟨(Nat.le_of_ble_eq_true rfl), (Nat.le_of_ble_eq_true rfl)⟩ ⟨(Nat.le_of_ble_eq_true rfl), (Nat.le_of_ble_eq_true rfl)⟩ rfl hl.1 rfl (Nat.le_of_ble_eq_true rfl) dX8_sellOrder_25 (fun H locs hw => ?_)
        obtain ⟨r4, e5, hf⟩ := bd hf
        refine ct_V1 (q0 := 13) (ci := 0) (rest := [.int v2]) C hw hA (kX0_sellOn l D cI cB cS n ad bf hcg e5) cfX0_sellOn tg_442 tg_443 tg_444 ⟨(Nat.le_of_ble_eq_true rfl), (Nat.le_of_ble_eq_true rfl)⟩ ⟨(Nat.le_of_ble_eq_true rfl), (Nat.le_of_ble_eq_true rfl)⟩ rfl rfl rfl rfl hl.1 rfl (Nat.le_of_ble_eq_true rfl) dX8_sellOrder_28 (fun H locs hw => ?_)
        refine lv_iadd hx hb dX8_sellOrder_31 ?_
        refine lv_istore_n (lv' := [(2, .int (v2 + r4.1)), (0, .ref (ad 0)), (1, .int v1), (3, .int v3)]) hx hb dX8_sellOrder_32 rfl hl (by decide) rfl (fun ls hl => ?_)
        refine lv_iinc (v := (v3 + 1)) (lv' := [(3, .int (v3 + 1)), (2, .int (v2 + r4.1)), (0, .ref (ad 0)), (1, .int v1)]) hx hb dX8_sellOrder_33 hl (k := 3) rfl (iv_1 _) (by decide) rfl (fun ls hl => ?_)
        refine lv_goto (tgt := 13) hx hb dX8_sellOrder_36 (by decide) ?_
        exact ih _ _ _ _ _ _ hw (lv_sub hl [2, 3, 1, 0] rfl) hf hk
set_option maxHeartbeats 4000000 in
theorem kX8_sellOrder (l : Launch) (D : va_G) (cI cB cS : ClassId) (n : Nat) (ad : Nat → Nat) (bf : Nat → Option Nat) (hcg : bok n ad bf) {p1 : Int32} {M : MS} {q : (Int32 × MS)} (hf : fX8_sellOrder n p1 M = some q) : Ct l D cI cB cS yX8_sellOrder cX8_sellOrder 4 (some .int) 5 108 [.ref (ad 0), .int p1] (cW cI cB cS n ad bf M) (some (.int q.1)) (cW cI cB cS n ad bf q.2) := by
  refine Ct.ofW (by decide) (Nat.le_of_ble_eq_true rfl) ?_
  intro p e s m args below meth c ls C hr hlocks _ hw hl
  have hx := C.1
  have hb := C.2.1
  have hA : ∀ q, s.heap.size ≤ q → va_A (cW cI cB cS n ad bf M) s.heap.size q := fun q h => Or.inr h
  have hl : lv_has ls 4 [(0, .ref (ad 0)), (1, .int p1)] := hl
  unfold fX8_sellOrder at hf
  refine lv_iconst (v := 0) hx hb dX8_sellOrder_0 ic_0 ?_
  refine lv_istore_n (lv' := [(2, .int 0), (0, .ref (ad 0)), (1, .int p1)]) hx hb dX8_sellOrder_1 rfl hl (by decide) rfl (fun ls hl => ?_)
  refine lv_aload_n hx hb dX8_sellOrder_2 rfl (lv_at hl 1 rfl) ?_
  refine cg_8_37 C hw dX8_sellOrder_3 ?_
  refine lv_bipush (v := 63) hx hb dX8_sellOrder_6 ib_63 ?_
  obtain ⟨r1, e2, hf⟩ := bd hf
  refine ct_V0 (q0 := 13) (ci := 0) (rest := []) C hw hA (kX0_gather l D cI cB cS n ad bf hcg e2) cfX0_gather tg_375 tg_376 tg_377 ⟨(Nat.le_of_ble_eq_true rfl), (Nat.le_of_ble_eq_true rfl)⟩ ⟨(Nat.le_of_ble_eq_true rfl), (Nat.le_of_ble_eq_true rfl)⟩ rfl rfl rfl rfl hl.1 rfl (Nat.le_of_ble_eq_true rfl) dX8_sellOrder_8 (fun H locs hw => ?_)
  refine lv_iconst (v := 0) hx hb dX8_sellOrder_11 ic_0 ?_
  refine lv_istore_n (lv' := [(3, .int 0), (2, .int 0), (0, .ref (ad 0)), (1, .int p1)]) hx hb dX8_sellOrder_12 rfl hl (by decide) rfl (fun ls hl => ?_)
  refine wX8_sellOrder_13 C hr hlocks hA hcg 300 _ _ _ _ _ _ hw (lv_sub hl [2, 3, 1, 0] rfl) hf (fun x6 M7 H locs ls hw hl hf => ?_)
  refine lv_iload_n hx hb dX8_sellOrder_39 rfl (lv_at hl 0 rfl) ?_
  obtain rfl := Option.some.inj hf
  exact qt_i C hr hlocks hw dX8_sellOrder_40
theorem cfX8_order : cf yX8_order cX8_order 6 (some .int) 1 := ⟨tg_467, by decide +kernel, tg_1⟩
set_option maxHeartbeats 4000000 in
theorem wX8_order_36 {p : Program} {l : Launch} {e : Env} {s : State} {m : MethodId} {args : Array Value} {below : List Frame} {meth : Method} {c : Code} {D : va_G} {cI cB cS : ClassId} {n : Nat} {ad : Nat → Nat} {bf : Nat → Option Nat} {ws0 : va_W} {v1 : Int32} (C : cx p c cX8_order 6 s args m RX8 D cI cB cS) (hr : meth.sig.returnType = (some .int)) (hlocks : meth.locks = false) (hA : ∀ q, s.heap.size ≤ q → va_A ws0 s.heap.size q) {k : Int32 → Int32 → MS → Option (Int32 × MS)} {q : (Int32 × MS)}
    (hcg : bok n ad bf) : ∀ (fu : Nat) (v2 : Int32) (v3 : Int32) (v4 : Int32) (M : MS) (H : Heap) (locs : List Loc) (ls : Array Slot), wd D (va_A ws0 s.heap.size) s.heap (cW cI cB cS n ad bf M) H locs → lv_has ls 6 [(0, .ref (ad 0)), (1, .int v1), (2, .int v2), (3, .int v3), (4, .int v4)] → fX8_order_36 n fu k v2 v3 v4 M = some q →
    (∀ (x2 : Int32) (x3 : Int32) (M1 : MS) (H : Heap) (locs : List Loc) (ls : Array Slot), wd D (va_A ws0 s.heap.size) s.heap (cW cI cB cS n ad bf M1) H locs → lv_has ls 6 [(1, .int v1), (2, .int x2), (3, .int x3)] → k x2 x3 M1 = some q → W p l e { frames := 6, cells := 0, slots := 0, locals := 131 } s m args below meth c H locs 0 0 (Qt D below args s ws0 (some (.int q.1)) (cW cI cB cS n ad bf q.2)) (F0 m 81 ls [])) →
    W p l e { frames := 6, cells := 0, slots := 0, locals := 131 } s m args below meth c H locs 0 0 (Qt D below args s ws0 (some (.int q.1)) (cW cI cB cS n ad bf q.2)) (F0 m 36 ls []) := by
  have hx := C.1
  have hb := C.2.1
  intro fu
  induction fu with
  | zero => intro v2 v3 v4 M H locs ls hw hl hf hk; rw [fX8_order_36] at hf; cases hf
  | succ fu ih =>
      intro v2 v3 v4 M H locs ls hw hl hf hk
      rw [fX8_order_36] at hf
      refine lv_iload hx hb dX8_order_36 (lv_at hl 4 rfl) ?_
      refine lv_sipush (v := 256) hx hb dX8_order_38 is_256 ?_
      refine lv_icmp_ge (tgt := 81) hx hb dX8_order_41 (by decide) (fun h3 => ?_) (fun h3 => ?_)
      · have hf := it_t h3 hf
        exact hk _ _ _ _ _ _ hw (lv_sub hl [1, 2, 3] rfl) hf
      · have hf := it_f h3 hf
        refine lv_iload hx hb dX8_order_44 (lv_at hl 4 rfl) ?_
        obtain ⟨r4, e5, hf⟩ := bd hf
        refine ct_S1 (rest := []) C hw hA (kX8_isEachLotOnce l D cI cB cS _ e5) cfX8_isEachLotOnce tg_468 tg_469 ⟨(Nat.le_of_ble_eq_true rfl), (Nat.le_of_ble_eq_true rfl)⟩ ⟨(Nat.le_of_ble_eq_true rfl), (Nat.le_of_ble_eq_true rfl)⟩ rfl hl.1 rfl (Nat.le_of_ble_eq_true rfl) dX8_order_46 (fun H locs hw => ?_)
        refine lv_if_ne (tgt := 55) hx hb dX8_order_49 (by decide) (fun h6 => ?_) (fun h6 => ?_)
        · have hf := it_f h6 hf
          refine lv_aload_n hx hb dX8_order_55 rfl (lv_at hl 0 rfl) ?_
          refine lv_iload hx hb dX8_order_56 (lv_at hl 4 rfl) ?_
          obtain ⟨r7, e8, hf⟩ := bd hf
          refine ct_V1 (q0 := 0) (ci := 8) (rest := []) C hw hA (kX8_sellOrder l D cI cB cS n ad bf hcg e8) cfX8_sellOrder tg_474 tg_476 ts_yX8_sellOrder ⟨(Nat.le_of_ble_eq_true rfl), (Nat.le_of_ble_eq_true rfl)⟩ ⟨(Nat.le_of_ble_eq_true rfl), (Nat.le_of_ble_eq_true rfl)⟩ rfl rfl rfl rfl hl.1 rfl (Nat.le_of_ble_eq_true rfl) dX8_order_58 (fun H locs hw => ?_)
          refine lv_istore (lv' := [(5, .int r7.1), (0, .ref (ad 0)), (1, .int v1), (2, .int v2), (3, .int v3), (4, .int v4)]) hx hb dX8_order_61 hl (by decide) rfl (fun ls hl => ?_)
          refine lv_iload hx hb dX8_order_63 (lv_at hl 0 rfl) ?_
          refine lv_iload_n hx hb dX8_order_65 rfl (lv_at hl 3 rfl) ?_
          refine lv_icmp_le (tgt := 75) hx hb dX8_order_66 (by decide) (fun h9 => ?_) (fun h9 => ?_)
          · have hf := it_t h9 hf
            refine lv_iinc (v := (v4 + 1)) (lv' := [(4, .int (v4 + 1)), (5, .int r7.1), (0, .ref (ad 0)), (1, .int v1), (2, .int v2), (3, .int v3)]) hx hb dX8_order_75 hl (k := 5) rfl (iv_1 _) (by decide) rfl (fun ls hl => ?_)
            refine lv_goto (tgt := 36) hx hb dX8_order_78 (by decide) ?_
            exact ih _ _ _ _ _ _ _ hw (lv_sub hl [2, 3, 4, 5, 0] rfl) hf hk
          · have hf := it_f h9 hf
            refine lv_iload hx hb dX8_order_69 (lv_at hl 0 rfl) ?_
            refine lv_istore_n (lv' := [(2, .int r7.1), (5, .int r7.1), (0, .ref (ad 0)), (1, .int v1), (3, .int v3), (4, .int v4)]) hx hb dX8_order_71 rfl hl (by decide) rfl (fun ls hl => ?_)
            refine lv_iload hx hb dX8_order_72 (lv_at hl 5 rfl) ?_
            refine lv_istore_n (lv' := [(3, .int v4), (2, .int r7.1), (5, .int r7.1), (0, .ref (ad 0)), (1, .int v1), (4, .int v4)]) hx hb dX8_order_74 rfl hl (by decide) rfl (fun ls hl => ?_)
            refine lv_iinc (v := (v4 + 1)) (lv' := [(4, .int (v4 + 1)), (3, .int v4), (2, .int r7.1), (5, .int r7.1), (0, .ref (ad 0)), (1, .int v1)]) hx hb dX8_order_75 hl (k := 5) rfl (iv_1 _) (by decide) rfl (fun ls hl => ?_)
            refine lv_goto (tgt := 36) hx hb dX8_order_78 (by decide) ?_
            exact ih _ _ _ _ _ _ _ hw (lv_sub hl [4, 5, 2, 1, 0] rfl) hf hk
        · have hf := it_t h6 hf
          refine lv_goto (tgt := 75) hx hb dX8_order_52 (by decide) ?_
          refine lv_iinc (v := (v4 + 1)) (lv' := [(4, .int (v4 + 1)), (0, .ref (ad 0)), (1, .int v1), (2, .int v2), (3, .int v3)]) hx hb dX8_order_75 hl (k := 4) rfl (iv_1 _) (by decide) rfl (fun ls hl => ?_)
          refine lv_goto (tgt := 36) hx hb dX8_order_78 (by decide) ?_
          exact ih _ _ _ _ _ _ _ hw (lv_sub hl [1, 2, 3, 4, 0] rfl) hf hk
set_option maxHeartbeats 4000000 in
theorem kX8_order (l : Launch) (D : va_G) (cI cB cS : ClassId) (n : Nat) (ad : Nat → Nat) (bf : Nat → Option Nat) (hcg : bok n ad bf) {p1 : Int32} {M : MS} {q : (Int32 × MS)} (hf : fX8_order n p1 M = some q) : Ct l D cI cB cS yX8_order cX8_order 6 (some .int) 6 131 [.ref (ad 0), .int p1] (cW cI cB cS n ad bf M) (some (.int q.1)) (cW cI cB cS n ad bf q.2) := by
  refine Ct.ofW (by decide) (Nat.le_of_ble_eq_true rfl) ?_
  intro p e s m args below meth c ls C hr hlocks _ hw hl
  have hx := C.1
  have hb := C.2.1
  have hA : ∀ q, s.heap.size ≤ q → va_A (cW cI cB cS n ad bf M) s.heap.size q := fun q h => Or.inr h
  have hl : lv_has ls 6 [(0, .ref (ad 0)), (1, .int p1)] := hl
  unfold fX8_order at hf
  refine lv_iload_n hx hb dX8_order_0 rfl (lv_at hl 1 rfl) ?_
  refine lv_iconst (v := (-1)) hx hb dX8_order_1 ic_m1 ?_
  refine lv_icmp_eq (tgt := 15) hx hb dX8_order_2 (by decide) (fun h1 => ?_) (fun h1 => ?_)
  · have hf := it_t h1 hf
    refine lv_aload_n hx hb dX8_order_15 rfl (lv_at hl 0 rfl) ?_
    refine cg_8_28 C hw dX8_order_16 ?_
    refine ct_V1 (q0 := 11) (ci := 5) (rest := []) C hw hA (kX5_isThere l D cI cB cS n ad bf hcg _) cfX5_isThere tg_363 tg_364 tg_365 ⟨(Nat.le_of_ble_eq_true rfl), (Nat.le_of_ble_eq_true rfl)⟩ ⟨(Nat.le_of_ble_eq_true rfl), (Nat.le_of_ble_eq_true rfl)⟩ rfl rfl rfl rfl hl.1 rfl (Nat.le_of_ble_eq_true rfl) dX8_order_19 (fun H locs hw => ?_)
    refine lv_if_ne (tgt := 28) hx hb dX8_order_22 (by decide) (fun h2 => ?_) (fun h2 => ?_)
    · have hf := it_f h2 hf
      refine lv_bipush (v := (-9)) hx hb dX8_order_28 ib_m9 ?_
      refine lv_istore_n (lv' := [(2, .int (-9)), (0, .ref (ad 0)), (1, .int p1)]) hx hb dX8_order_30 rfl hl (by decide) rfl (fun ls hl => ?_)
      refine lv_iconst (v := 0) hx hb dX8_order_31 ic_0 ?_
      refine lv_istore_n (lv' := [(3, .int 0), (2, .int (-9)), (0, .ref (ad 0)), (1, .int p1)]) hx hb dX8_order_32 rfl hl (by decide) rfl (fun ls hl => ?_)
      refine lv_iconst (v := 0) hx hb dX8_order_33 ic_0 ?_
      refine lv_istore (lv' := [(4, .int 0), (3, .int 0), (2, .int (-9)), (0, .ref (ad 0)), (1, .int p1)]) hx hb dX8_order_34 hl (by decide) rfl (fun ls hl => ?_)
      refine wX8_order_36 C hr hlocks hA hcg 300 _ _ _ _ _ _ _ hw (lv_sub hl [3, 4, 2, 1, 0] rfl) hf (fun x10 x11 M12 H locs ls hw hl hf => ?_)
      refine lv_iload_n hx hb dX8_order_81 rfl (lv_at hl 0 rfl) ?_
      refine lv_iconst (v := (-1)) hx hb dX8_order_82 ic_m1 ?_
      refine lv_icmp_ne (tgt := 90) hx hb dX8_order_83 (by decide) (fun h13 => ?_) (fun h13 => ?_)
      · have hf := it_f h13 hf
        refine lv_iload_n hx hb dX8_order_90 rfl (lv_at hl 2 rfl) ?_
        refine lv_iload_n hx hb dX8_order_91 rfl (lv_at hl 0 rfl) ?_
        refine ct_S1 (rest := []) C hw hA (kX8_lotOfOrder l D cI cB cS _ _ _) cfX8_lotOfOrder tg_471 tg_472 ⟨(Nat.le_of_ble_eq_true rfl), (Nat.le_of_ble_eq_true rfl)⟩ ⟨(Nat.le_of_ble_eq_true rfl), (Nat.le_of_ble_eq_true rfl)⟩ rfl hl.1 rfl (Nat.le_of_ble_eq_true rfl) dX8_order_92 (fun H locs hw => ?_)
        obtain rfl := Option.some.inj hf
        exact qt_i C hr hlocks hw dX8_order_95
      · have hf := it_t h13 hf
        refine lv_iload_n hx hb dX8_order_86 rfl (lv_at hl 1 rfl) ?_
        refine lv_goto (tgt := 95) hx hb dX8_order_87 (by decide) ?_
        obtain rfl := Option.some.inj hf
        exact qt_i C hr hlocks hw dX8_order_95
    · have hf := it_t h2 hf
      refine lv_bipush (v := (-3)) hx hb dX8_order_25 ib_m3 ?_
      obtain rfl := Option.some.inj hf
      exact qt_i C hr hlocks hw dX8_order_27
  · have hf := it_f h1 hf
    refine lv_iload_n hx hb dX8_order_5 rfl (lv_at hl 1 rfl) ?_
    refine lv_iconst (v := 4) hx hb dX8_order_6 ic_4 ?_
    refine ct_S1 (rest := []) C hw hA (kX8_isBelow l D cI cB cS _ _ _) cfX8_isBelow tg_183 tg_184 ⟨(Nat.le_of_ble_eq_true rfl), (Nat.le_of_ble_eq_true rfl)⟩ ⟨(Nat.le_of_ble_eq_true rfl), (Nat.le_of_ble_eq_true rfl)⟩ rfl hl.1 rfl (Nat.le_of_ble_eq_true rfl) dX8_order_7 (fun H locs hw => ?_)
    refine lv_if_ne (tgt := 15) hx hb dX8_order_10 (by decide) (fun h14 => ?_) (fun h14 => ?_)
    · have hf := it_f h14 hf
      refine lv_aload_n hx hb dX8_order_15 rfl (lv_at hl 0 rfl) ?_
      refine cg_8_28 C hw dX8_order_16 ?_
      refine ct_V1 (q0 := 11) (ci := 5) (rest := []) C hw hA (kX5_isThere l D cI cB cS n ad bf hcg _) cfX5_isThere tg_363 tg_364 tg_365 ⟨(Nat.le_of_ble_eq_true rfl), (Nat.le_of_ble_eq_true rfl)⟩ ⟨(Nat.le_of_ble_eq_true rfl), (Nat.le_of_ble_eq_true rfl)⟩ rfl rfl rfl rfl hl.1 rfl (Nat.le_of_ble_eq_true rfl) dX8_order_19 (fun H locs hw => ?_)
      refine lv_if_ne (tgt := 28) hx hb dX8_order_22 (by decide) (fun h15 => ?_) (fun h15 => ?_)
      · have hf := it_f h15 hf
        refine lv_bipush (v := (-9)) hx hb dX8_order_28 ib_m9 ?_
        refine lv_istore_n (lv' := [(2, .int (-9)), (0, .ref (ad 0)), (1, .int p1)]) hx hb dX8_order_30 rfl hl (by decide) rfl (fun ls hl => ?_)
        refine lv_iconst (v := 0) hx hb dX8_order_31 ic_0 ?_
        refine lv_istore_n (lv' := [(3, .int 0), (2, .int (-9)), (0, .ref (ad 0)), (1, .int p1)]) hx hb dX8_order_32 rfl hl (by decide) rfl (fun ls hl => ?_)
        refine lv_iconst (v := 0) hx hb dX8_order_33 ic_0 ?_
        refine lv_istore (lv' := [(4, .int 0), (3, .int 0), (2, .int (-9)), (0, .ref (ad 0)), (1, .int p1)]) hx hb dX8_order_34 hl (by decide) rfl (fun ls hl => ?_)
        refine wX8_order_36 C hr hlocks hA hcg 300 _ _ _ _ _ _ _ hw (lv_sub hl [3, 4, 2, 1, 0] rfl) hf (fun x16 x17 M18 H locs ls hw hl hf => ?_)
        refine lv_iload_n hx hb dX8_order_81 rfl (lv_at hl 0 rfl) ?_
        refine lv_iconst (v := (-1)) hx hb dX8_order_82 ic_m1 ?_
        refine lv_icmp_ne (tgt := 90) hx hb dX8_order_83 (by decide) (fun h19 => ?_) (fun h19 => ?_)
        · have hf := it_f h19 hf
          refine lv_iload_n hx hb dX8_order_90 rfl (lv_at hl 2 rfl) ?_
          refine lv_iload_n hx hb dX8_order_91 rfl (lv_at hl 0 rfl) ?_
          refine ct_S1 (rest := []) C hw hA (kX8_lotOfOrder l D cI cB cS _ _ _) cfX8_lotOfOrder tg_471 tg_472 ⟨(Nat.le_of_ble_eq_true rfl), (Nat.le_of_ble_eq_true rfl)⟩ ⟨(Nat.le_of_ble_eq_true rfl), (Nat.le_of_ble_eq_true rfl)⟩ rfl hl.1 rfl (Nat.le_of_ble_eq_true rfl) dX8_order_92 (fun H locs hw => ?_)
          obtain rfl := Option.some.inj hf
          exact qt_i C hr hlocks hw dX8_order_95
        · have hf := it_t h19 hf
          refine lv_iload_n hx hb dX8_order_86 rfl (lv_at hl 1 rfl) ?_
          refine lv_goto (tgt := 95) hx hb dX8_order_87 (by decide) ?_
          obtain rfl := Option.some.inj hf
          exact qt_i C hr hlocks hw dX8_order_95
      · have hf := it_t h15 hf
        refine lv_bipush (v := (-3)) hx hb dX8_order_25 ib_m3 ?_
        obtain rfl := Option.some.inj hf
        exact qt_i C hr hlocks hw dX8_order_27
    · have hf := it_t h14 hf
      refine lv_iconst (v := (-1)) hx hb dX8_order_13 ic_m1 ?_
      obtain rfl := Option.some.inj hf
      exact qt_i C hr hlocks hw dX8_order_14
