/-! the making of buyers -/
theorem cfX1_init : cf yX1_init cX1_init 3 none 2 := ⟨tg_242, by decide +kernel, tg_8⟩
theorem cfX3_init : cf yX3_init cX3_init 3 none 2 := ⟨tg_239, by decide +kernel, tg_9⟩
theorem cfX4_init : cf yX4_init cX4_init 3 none 2 := ⟨tg_236, by decide +kernel, tg_10⟩
theorem cfX8_buyerBy : cf yX8_buyerBy cX8_buyerBy 3 (some (.object "DeafAuction$Buyer")) 3 := ⟨tg_231, by decide +kernel, tg_1⟩
theorem cfX5_welcome : cf yX5_welcome cX5_welcome 2 none 1 := ⟨tg_284, by decide +kernel, tg_4⟩
theorem cfX8_fillRoom : cf yX8_fillRoom cX8_fillRoom 6 none 3 := ⟨tg_224, by decide +kernel, tg_1⟩
theorem cfX8_hall : cf yX8_hall cX8_hall 8 (some .int) 4 := ⟨tg_178, by decide +kernel, tg_1⟩
set_option maxHeartbeats 4000000 in
theorem kX1_init_1 (l : Launch) (D : va_G) (cI cB cS : ClassId) (h0 : Nat) (k pu : Int32) : CtA l D cI cB cS yX1_init cX1_init 3 none 1 12 1 4 [.ref h0, .int k, .int pu] [(h0, .inr (1, [.int 0, .int 0, .null, .int 0]))] (fun v w => v = none ∧ ∃ qa, w = [(h0, .inr (1, [.int k, .int pu, .ref qa, .int k])), (qa, .inl (cI, 4, .inl (fun _ => 0)))]) := by
  refine CtA.ofW (by decide) (Nat.le_of_ble_eq_true rfl) ?_
  intro p e s m args below meth c ls C hr hlocks hnm hw hl
  have hx := C.1
  have hb := C.2.1
  have hA : ∀ q, s.heap.size ≤ q → va_A [(h0, .inr (1, [.int 0, .int 0, .null, .int 0]))] s.heap.size q := fun q h => Or.inr h
  have hl : lv_has ls 3 [(0, .ref h0), (1, .int k), (2, .int pu)] := hl
  refine lv_aload_n hx hb dX1_init_0 rfl (lv_at hl 0 rfl) ?_
  refine W.objInit hx hb C.2.2.2.1 (C.2.2.2.2.1 _ tg_243) (C.2.2.2.2.1 _ tg_19) (C.2.2.2.2.1 _ tg_20) rfl (by rw [C.2.2.1]; exact hl.1) rfl dX1_init_1 (Nat.le_of_ble_eq_true rfl) (Nat.le_of_ble_eq_true rfl) ?_
  refine W.eq (g2 := F0 m 4 ls []) rfl ?_
  refine lv_aload_n hx hb dX1_init_4 rfl (lv_at hl 0 rfl) ?_
  refine lv_iload_n hx hb dX1_init_5 rfl (lv_at hl 1 rfl) ?_
  refine va_putF (D := D) (ci := 1) (v := .int k) (ty := .int) (C := RX1) (T := TX1) (N := 4) hx hb C.2.2.2.2.1 inX1 tyX1 tyX1_ok nmX1 C.2.2.2.1 C.2.2.2.2.2.1 hw.1 hw.2.1 hw.2.2 0 rfl rfl 0 (by decide) (C.2.2.2.2.1 _ tg_244) (fun _ h9 => h9) rfl hnm rfl (by decide +kernel) rfl rfl (Nat.le_of_ble_eq_true rfl) dX1_init_6 (fun H locs h1 h2 h3 => ?_)
  have hw : wd D _ _ [(h0, .inr (1, [.int k, .int 0, .null, .int 0]))] H locs := ⟨h1, h2, h3⟩
  refine lv_aload_n hx hb dX1_init_9 rfl (lv_at hl 0 rfl) ?_
  refine lv_iload_n hx hb dX1_init_10 rfl (lv_at hl 2 rfl) ?_
  refine va_putF (D := D) (ci := 1) (v := .int pu) (ty := .int) (C := RX1) (T := TX1) (N := 4) hx hb C.2.2.2.2.1 inX1 tyX1 tyX1_ok nmX1 C.2.2.2.1 C.2.2.2.2.2.1 hw.1 hw.2.1 hw.2.2 0 rfl rfl 1 (by decide) (C.2.2.2.2.1 _ tg_246) (fun _ h9 => h9) rfl hnm rfl (by decide +kernel) rfl rfl (Nat.le_of_ble_eq_true rfl) dX1_init_11 (fun H locs h1 h2 h3 => ?_)
  have hw : wd D _ _ [(h0, .inr (1, [.int k, .int pu, .null, .int 0]))] H locs := ⟨h1, h2, h3⟩
  refine lv_aload_n hx hb dX1_init_14 rfl (lv_at hl 0 rfl) ?_
  refine lv_iconst (v := 4) hx hb dX1_init_15 ic_4 ?_
  refine c_newI (N := 4) C hw hA (by decide) (by decide) (by decide) (Nat.le_of_ble_eq_true rfl) (Nat.le_of_ble_eq_true rfl) dX1_init_16 (fun qa H hw => ?_)
  refine va_putF (D := D) (ci := 1) (v := .ref qa) (ty := .array .int) (C := RX1) (T := TX1) (N := 4) hx hb C.2.2.2.2.1 inX1 tyX1 tyX1_ok nmX1 C.2.2.2.1 C.2.2.2.2.2.1 hw.1 hw.2.1 hw.2.2 0 rfl rfl 2 (by decide) (C.2.2.2.2.1 _ tg_249) (fun _ h9 => h9) rfl hnm rfl (by decide +kernel) rfl rfl (Nat.le_of_ble_eq_true rfl) dX1_init_18 (fun H locs h1 h2 h3 => ?_)
  have hw : wd D _ _ [(h0, .inr (1, [.int k, .int pu, .ref qa, .int 0])), (qa, .inl (cI, 4, .inl (fun _ => 0)))] H locs := ⟨h1, h2, h3⟩
  refine lv_aload_n hx hb dX1_init_21 rfl (lv_at hl 0 rfl) ?_
  refine lv_iload_n hx hb dX1_init_22 rfl (lv_at hl 1 rfl) ?_
  refine va_put (D := D) (ci := 1) (v := .int k) (ty := .int) (C := RX1) (T := TX1) (N := 4) hx hb C.2.2.2.2.1 inX1 tyX1 tyX1_ok nmX1 C.2.2.2.1 C.2.2.2.2.2.1 hw.1 hw.2.1 hw.2.2 0 rfl rfl 3 (by decide) (C.2.2.2.2.1 _ tg_252) (fun _ h9 => h9) rfl (by decide +kernel) rfl rfl (Nat.le_of_ble_eq_true rfl) dX1_init_23 (fun H locs h1 h2 h3 => ?_)
  have hw : wd D _ _ [(h0, .inr (1, [.int k, .int pu, .ref qa, .int k])), (qa, .inl (cI, 4, .inl (fun _ => 0)))] H locs := ⟨h1, h2, h3⟩
  exact qtA_v C hr hlocks hw ⟨rfl, qa, rfl⟩ dX1_init_26
set_option maxHeartbeats 4000000 in
theorem kX1_init_3 (l : Launch) (D : va_G) (cI cB cS : ClassId) (h0 : Nat) (k pu : Int32) : CtA l D cI cB cS yX1_init cX1_init 3 none 1 12 1 4 [.ref h0, .int k, .int pu] [(h0, .inr (3, [.int 0, .int 0, .null, .int 0]))] (fun v w => v = none ∧ ∃ qa, w = [(h0, .inr (3, [.int k, .int pu, .ref qa, .int k])), (qa, .inl (cI, 4, .inl (fun _ => 0)))]) := by
  refine CtA.ofW (by decide) (Nat.le_of_ble_eq_true rfl) ?_
  intro p e s m args below meth c ls C hr hlocks hnm hw hl
  have hx := C.1
  have hb := C.2.1
  have hA : ∀ q, s.heap.size ≤ q → va_A [(h0, .inr (3, [.int 0, .int 0, .null, .int 0]))] s.heap.size q := fun q h => Or.inr h
  have hl : lv_has ls 3 [(0, .ref h0), (1, .int k), (2, .int pu)] := hl
  refine lv_aload_n hx hb dX1_init_0 rfl (lv_at hl 0 rfl) ?_
  refine W.objInit hx hb C.2.2.2.1 (C.2.2.2.2.1 _ tg_243) (C.2.2.2.2.1 _ tg_19) (C.2.2.2.2.1 _ tg_20) rfl (by rw [C.2.2.1]; exact hl.1) rfl dX1_init_1 (Nat.le_of_ble_eq_true rfl) (Nat.le_of_ble_eq_true rfl) ?_
  refine W.eq (g2 := F0 m 4 ls []) rfl ?_
  refine lv_aload_n hx hb dX1_init_4 rfl (lv_at hl 0 rfl) ?_
  refine lv_iload_n hx hb dX1_init_5 rfl (lv_at hl 1 rfl) ?_
  refine va_putF (D := D) (ci := 3) (v := .int k) (ty := .int) (C := RX3) (T := TX3) (N := 4) hx hb C.2.2.2.2.1 inX3 tyX3 tyX3_ok nmX3 C.2.2.2.1 C.2.2.2.2.2.1 hw.1 hw.2.1 hw.2.2 0 rfl rfl 0 (by decide) (C.2.2.2.2.1 _ tg_244) (fun _ h9 => h9) rfl hnm rfl (by decide +kernel) rfl rfl (Nat.le_of_ble_eq_true rfl) dX1_init_6 (fun H locs h1 h2 h3 => ?_)
  have hw : wd D _ _ [(h0, .inr (3, [.int k, .int 0, .null, .int 0]))] H locs := ⟨h1, h2, h3⟩
  refine lv_aload_n hx hb dX1_init_9 rfl (lv_at hl 0 rfl) ?_
  refine lv_iload_n hx hb dX1_init_10 rfl (lv_at hl 2 rfl) ?_
  refine va_putF (D := D) (ci := 3) (v := .int pu) (ty := .int) (C := RX3) (T := TX3) (N := 4) hx hb C.2.2.2.2.1 inX3 tyX3 tyX3_ok nmX3 C.2.2.2.1 C.2.2.2.2.2.1 hw.1 hw.2.1 hw.2.2 0 rfl rfl 1 (by decide) (C.2.2.2.2.1 _ tg_246) (fun _ h9 => h9) rfl hnm rfl (by decide +kernel) rfl rfl (Nat.le_of_ble_eq_true rfl) dX1_init_11 (fun H locs h1 h2 h3 => ?_)
  have hw : wd D _ _ [(h0, .inr (3, [.int k, .int pu, .null, .int 0]))] H locs := ⟨h1, h2, h3⟩
  refine lv_aload_n hx hb dX1_init_14 rfl (lv_at hl 0 rfl) ?_
  refine lv_iconst (v := 4) hx hb dX1_init_15 ic_4 ?_
  refine c_newI (N := 4) C hw hA (by decide) (by decide) (by decide) (Nat.le_of_ble_eq_true rfl) (Nat.le_of_ble_eq_true rfl) dX1_init_16 (fun qa H hw => ?_)
  refine va_putF (D := D) (ci := 3) (v := .ref qa) (ty := .array .int) (C := RX3) (T := TX3) (N := 4) hx hb C.2.2.2.2.1 inX3 tyX3 tyX3_ok nmX3 C.2.2.2.1 C.2.2.2.2.2.1 hw.1 hw.2.1 hw.2.2 0 rfl rfl 2 (by decide) (C.2.2.2.2.1 _ tg_249) (fun _ h9 => h9) rfl hnm rfl (by decide +kernel) rfl rfl (Nat.le_of_ble_eq_true rfl) dX1_init_18 (fun H locs h1 h2 h3 => ?_)
  have hw : wd D _ _ [(h0, .inr (3, [.int k, .int pu, .ref qa, .int 0])), (qa, .inl (cI, 4, .inl (fun _ => 0)))] H locs := ⟨h1, h2, h3⟩
  refine lv_aload_n hx hb dX1_init_21 rfl (lv_at hl 0 rfl) ?_
  refine lv_iload_n hx hb dX1_init_22 rfl (lv_at hl 1 rfl) ?_
  refine va_put (D := D) (ci := 3) (v := .int k) (ty := .int) (C := RX3) (T := TX3) (N := 4) hx hb C.2.2.2.2.1 inX3 tyX3 tyX3_ok nmX3 C.2.2.2.1 C.2.2.2.2.2.1 hw.1 hw.2.1 hw.2.2 0 rfl rfl 3 (by decide) (C.2.2.2.2.1 _ tg_252) (fun _ h9 => h9) rfl (by decide +kernel) rfl rfl (Nat.le_of_ble_eq_true rfl) dX1_init_23 (fun H locs h1 h2 h3 => ?_)
  have hw : wd D _ _ [(h0, .inr (3, [.int k, .int pu, .ref qa, .int k])), (qa, .inl (cI, 4, .inl (fun _ => 0)))] H locs := ⟨h1, h2, h3⟩
  exact qtA_v C hr hlocks hw ⟨rfl, qa, rfl⟩ dX1_init_26
set_option maxHeartbeats 4000000 in
theorem kX1_init_4 (l : Launch) (D : va_G) (cI cB cS : ClassId) (h0 : Nat) (k pu : Int32) : CtA l D cI cB cS yX1_init cX1_init 3 none 1 12 1 4 [.ref h0, .int k, .int pu] [(h0, .inr (4, [.int 0, .int 0, .null, .int 0]))] (fun v w => v = none ∧ ∃ qa, w = [(h0, .inr (4, [.int k, .int pu, .ref qa, .int k])), (qa, .inl (cI, 4, .inl (fun _ => 0)))]) := by
  refine CtA.ofW (by decide) (Nat.le_of_ble_eq_true rfl) ?_
  intro p e s m args below meth c ls C hr hlocks hnm hw hl
  have hx := C.1
  have hb := C.2.1
  have hA : ∀ q, s.heap.size ≤ q → va_A [(h0, .inr (4, [.int 0, .int 0, .null, .int 0]))] s.heap.size q := fun q h => Or.inr h
  have hl : lv_has ls 3 [(0, .ref h0), (1, .int k), (2, .int pu)] := hl
  refine lv_aload_n hx hb dX1_init_0 rfl (lv_at hl 0 rfl) ?_
  refine W.objInit hx hb C.2.2.2.1 (C.2.2.2.2.1 _ tg_243) (C.2.2.2.2.1 _ tg_19) (C.2.2.2.2.1 _ tg_20) rfl (by rw [C.2.2.1]; exact hl.1) rfl dX1_init_1 (Nat.le_of_ble_eq_true rfl) (Nat.le_of_ble_eq_true rfl) ?_
  refine W.eq (g2 := F0 m 4 ls []) rfl ?_
  refine lv_aload_n hx hb dX1_init_4 rfl (lv_at hl 0 rfl) ?_
  refine lv_iload_n hx hb dX1_init_5 rfl (lv_at hl 1 rfl) ?_
  refine va_putF (D := D) (ci := 4) (v := .int k) (ty := .int) (C := RX4) (T := TX4) (N := 4) hx hb C.2.2.2.2.1 inX4 tyX4 tyX4_ok nmX4 C.2.2.2.1 C.2.2.2.2.2.1 hw.1 hw.2.1 hw.2.2 0 rfl rfl 0 (by decide) (C.2.2.2.2.1 _ tg_244) (fun _ h9 => h9) rfl hnm rfl (by decide +kernel) rfl rfl (Nat.le_of_ble_eq_true rfl) dX1_init_6 (fun H locs h1 h2 h3 => ?_)
  have hw : wd D _ _ [(h0, .inr (4, [.int k, .int 0, .null, .int 0]))] H locs := ⟨h1, h2, h3⟩
  refine lv_aload_n hx hb dX1_init_9 rfl (lv_at hl 0 rfl) ?_
  refine lv_iload_n hx hb dX1_init_10 rfl (lv_at hl 2 rfl) ?_
  refine va_putF (D := D) (ci := 4) (v := .int pu) (ty := .int) (C := RX4) (T := TX4) (N := 4) hx hb C.2.2.2.2.1 inX4 tyX4 tyX4_ok nmX4 C.2.2.2.1 C.2.2.2.2.2.1 hw.1 hw.2.1 hw.2.2 0 rfl rfl 1 (by decide) (C.2.2.2.2.1 _ tg_246) (fun _ h9 => h9) rfl hnm rfl (by decide +kernel) rfl rfl (Nat.le_of_ble_eq_true rfl) dX1_init_11 (fun H locs h1 h2 h3 => ?_)
  have hw : wd D _ _ [(h0, .inr (4, [.int k, .int pu, .null, .int 0]))] H locs := ⟨h1, h2, h3⟩
  refine lv_aload_n hx hb dX1_init_14 rfl (lv_at hl 0 rfl) ?_
  refine lv_iconst (v := 4) hx hb dX1_init_15 ic_4 ?_
  refine c_newI (N := 4) C hw hA (by decide) (by decide) (by decide) (Nat.le_of_ble_eq_true rfl) (Nat.le_of_ble_eq_true rfl) dX1_init_16 (fun qa H hw => ?_)
  refine va_putF (D := D) (ci := 4) (v := .ref qa) (ty := .array .int) (C := RX4) (T := TX4) (N := 4) hx hb C.2.2.2.2.1 inX4 tyX4 tyX4_ok nmX4 C.2.2.2.1 C.2.2.2.2.2.1 hw.1 hw.2.1 hw.2.2 0 rfl rfl 2 (by decide) (C.2.2.2.2.1 _ tg_249) (fun _ h9 => h9) rfl hnm rfl (by decide +kernel) rfl rfl (Nat.le_of_ble_eq_true rfl) dX1_init_18 (fun H locs h1 h2 h3 => ?_)
  have hw : wd D _ _ [(h0, .inr (4, [.int k, .int pu, .ref qa, .int 0])), (qa, .inl (cI, 4, .inl (fun _ => 0)))] H locs := ⟨h1, h2, h3⟩
  refine lv_aload_n hx hb dX1_init_21 rfl (lv_at hl 0 rfl) ?_
  refine lv_iload_n hx hb dX1_init_22 rfl (lv_at hl 1 rfl) ?_
  refine va_put (D := D) (ci := 4) (v := .int k) (ty := .int) (C := RX4) (T := TX4) (N := 4) hx hb C.2.2.2.2.1 inX4 tyX4 tyX4_ok nmX4 C.2.2.2.1 C.2.2.2.2.2.1 hw.1 hw.2.1 hw.2.2 0 rfl rfl 3 (by decide) (C.2.2.2.2.1 _ tg_252) (fun _ h9 => h9) rfl (by decide +kernel) rfl rfl (Nat.le_of_ble_eq_true rfl) dX1_init_23 (fun H locs h1 h2 h3 => ?_)
  have hw : wd D _ _ [(h0, .inr (4, [.int k, .int pu, .ref qa, .int k])), (qa, .inl (cI, 4, .inl (fun _ => 0)))] H locs := ⟨h1, h2, h3⟩
  exact qtA_v C hr hlocks hw ⟨rfl, qa, rfl⟩ dX1_init_26
set_option maxHeartbeats 4000000 in
theorem kX3_init_3 (l : Launch) (D : va_G) (cI cB cS : ClassId) (h0 : Nat) (k pu : Int32) : CtA l D cI cB cS yX3_init cX3_init 3 none 2 34 1 4 [.ref h0, .int k, .int pu] [(h0, .inr (3, [.int 0, .int 0, .null, .int 0]))] (fun v w => v = none ∧ ∃ qa, w = [(h0, .inr (3, [.int k, .int pu, .ref qa, .int k])), (qa, .inl (cI, 4, .inl (fun _ => 0)))]) := by
  refine CtA.ofW (by decide) (Nat.le_of_ble_eq_true rfl) ?_
  intro p e s m args below meth c ls C hr hlocks hnm hw hl
  have hx := C.1
  have hb := C.2.1
  have hA : ∀ q, s.heap.size ≤ q → va_A [(h0, .inr (3, [.int 0, .int 0, .null, .int 0]))] s.heap.size q := fun q h => Or.inr h
  have hl : lv_has ls 3 [(0, .ref h0), (1, .int k), (2, .int pu)] := hl
  refine lv_aload_n hx hb dX3_init_0 rfl (lv_at hl 0 rfl) ?_
  refine lv_iload_n hx hb dX3_init_1 rfl (lv_at hl 1 rfl) ?_
  refine lv_iload_n hx hb dX3_init_2 rfl (lv_at hl 2 rfl) ?_
  refine ctA_I (rest := []) C hw hA (kX1_init_3 l D cI cB cS h0 k pu) cfX1_init tg_240 tg_241 rfl ⟨(Nat.le_of_ble_eq_true rfl), (Nat.le_of_ble_eq_true rfl)⟩ ⟨(Nat.le_of_ble_eq_true rfl), (Nat.le_of_ble_eq_true rfl)⟩ rfl hl.1 rfl (Nat.le_of_ble_eq_true rfl) dX3_init_3 (fun v ws1 H locs hp hw => ?_)
  obtain ⟨rfl, qa, rfl⟩ := hp
  exact qtA_v C hr hlocks hw ⟨rfl, qa, rfl⟩ dX3_init_6
set_option maxHeartbeats 4000000 in
theorem kX3_init_4 (l : Launch) (D : va_G) (cI cB cS : ClassId) (h0 : Nat) (k pu : Int32) : CtA l D cI cB cS yX3_init cX3_init 3 none 2 34 1 4 [.ref h0, .int k, .int pu] [(h0, .inr (4, [.int 0, .int 0, .null, .int 0]))] (fun v w => v = none ∧ ∃ qa, w = [(h0, .inr (4, [.int k, .int pu, .ref qa, .int k])), (qa, .inl (cI, 4, .inl (fun _ => 0)))]) := by
  refine CtA.ofW (by decide) (Nat.le_of_ble_eq_true rfl) ?_
  intro p e s m args below meth c ls C hr hlocks hnm hw hl
  have hx := C.1
  have hb := C.2.1
  have hA : ∀ q, s.heap.size ≤ q → va_A [(h0, .inr (4, [.int 0, .int 0, .null, .int 0]))] s.heap.size q := fun q h => Or.inr h
  have hl : lv_has ls 3 [(0, .ref h0), (1, .int k), (2, .int pu)] := hl
  refine lv_aload_n hx hb dX3_init_0 rfl (lv_at hl 0 rfl) ?_
  refine lv_iload_n hx hb dX3_init_1 rfl (lv_at hl 1 rfl) ?_
  refine lv_iload_n hx hb dX3_init_2 rfl (lv_at hl 2 rfl) ?_
  refine ctA_I (rest := []) C hw hA (kX1_init_4 l D cI cB cS h0 k pu) cfX1_init tg_240 tg_241 rfl ⟨(Nat.le_of_ble_eq_true rfl), (Nat.le_of_ble_eq_true rfl)⟩ ⟨(Nat.le_of_ble_eq_true rfl), (Nat.le_of_ble_eq_true rfl)⟩ rfl hl.1 rfl (Nat.le_of_ble_eq_true rfl) dX3_init_3 (fun v ws1 H locs hp hw => ?_)
  obtain ⟨rfl, qa, rfl⟩ := hp
  exact qtA_v C hr hlocks hw ⟨rfl, qa, rfl⟩ dX3_init_6
set_option maxHeartbeats 4000000 in
theorem kX4_init_4 (l : Launch) (D : va_G) (cI cB cS : ClassId) (h0 : Nat) (k pu : Int32) : CtA l D cI cB cS yX4_init cX4_init 3 none 3 56 1 4 [.ref h0, .int k, .int pu] [(h0, .inr (4, [.int 0, .int 0, .null, .int 0]))] (fun v w => v = none ∧ ∃ qa, w = [(h0, .inr (4, [.int k, .int pu, .ref qa, .int k])), (qa, .inl (cI, 4, .inl (fun _ => 0)))]) := by
  refine CtA.ofW (by decide) (Nat.le_of_ble_eq_true rfl) ?_
  intro p e s m args below meth c ls C hr hlocks hnm hw hl
  have hx := C.1
  have hb := C.2.1
  have hA : ∀ q, s.heap.size ≤ q → va_A [(h0, .inr (4, [.int 0, .int 0, .null, .int 0]))] s.heap.size q := fun q h => Or.inr h
  have hl : lv_has ls 3 [(0, .ref h0), (1, .int k), (2, .int pu)] := hl
  refine lv_aload_n hx hb dX4_init_0 rfl (lv_at hl 0 rfl) ?_
  refine lv_iload_n hx hb dX4_init_1 rfl (lv_at hl 1 rfl) ?_
  refine lv_iload_n hx hb dX4_init_2 rfl (lv_at hl 2 rfl) ?_
  refine ctA_I (rest := []) C hw hA (kX3_init_4 l D cI cB cS h0 k pu) cfX3_init tg_237 tg_238 rfl ⟨(Nat.le_of_ble_eq_true rfl), (Nat.le_of_ble_eq_true rfl)⟩ ⟨(Nat.le_of_ble_eq_true rfl), (Nat.le_of_ble_eq_true rfl)⟩ rfl hl.1 rfl (Nat.le_of_ble_eq_true rfl) dX4_init_3 (fun v ws1 H locs hp hw => ?_)
  obtain ⟨rfl, qa, rfl⟩ := hp
  exact qtA_v C hr hlocks hw ⟨rfl, qa, rfl⟩ dX4_init_6
def bkd (le : Int32) : Int32 := if le = 110 then 2 else if le = 104 then 1 else 0
set_option maxHeartbeats 4000000 in
theorem kX8_buyerBy (l : Launch) (D : va_G) (cI cB cS : ClassId) (ws : va_W) (le k pu : Int32) : CtA l D cI cB cS yX8_buyerBy cX8_buyerBy 3 (some (.object "DeafAuction$Buyer")) 4 78 2 8 [.int le, .int k, .int pu] ws (fun v w => ∃ q qa, v = some (.ref q) ∧ w = ws ++ [(q, .inr (kcls (bkd le), [.int k, .int pu, .ref qa, .int k])), (qa, .inl (cI, 4, .inl (fun _ => 0)))]) := by
  refine CtA.ofW (by decide) (Nat.le_of_ble_eq_true rfl) ?_
  intro p e s m args below meth c ls C hr hlocks hnm hw hl
  have hx := C.1
  have hb := C.2.1
  have hA : ∀ q, s.heap.size ≤ q → va_A ws s.heap.size q := fun q h => Or.inr h
  have hl : lv_has ls 3 [(0, .int le), (1, .int k), (2, .int pu)] := hl
  refine lv_iload_n hx hb dX8_buyerBy_0 rfl (lv_at hl 0 rfl) ?_
  refine lv_bipush (v := 110) hx hb dX8_buyerBy_1 ib_110 ?_
  refine lv_icmp_ne (tgt := 16) hx hb dX8_buyerBy_3 (by decide) (fun g1 => ?_) (fun g1 => ?_)
  · refine lv_iload_n hx hb dX8_buyerBy_16 rfl (lv_at hl 0 rfl) ?_
    refine lv_bipush (v := 104) hx hb dX8_buyerBy_17 ib_104 ?_
    refine lv_icmp_ne (tgt := 34) hx hb dX8_buyerBy_19 (by decide) (fun g2 => ?_) (fun g2 => ?_)
    · have hk : kcls (bkd le) = 1 := by rw [bkd, if_neg g1, if_neg g2]; rfl
      refine va_new (ci := 1) (fs := [.int 0, .int 0, .null, .int 0]) (C := RX1) (T := TX1) (N := 4) hx hb C.2.2.2.2.1 inX1 tyX1 tyX1_ok C.2.2.2.1 (C.2.2.2.2.1 _ tg_273) (C.2.2.2.2.1 _ tg_274) (C.2.2.2.2.1 _ tg_8) C.2.2.2.2.2.1 hw.1 hw.2.1 hw.2.2 hA rfl (fun j hj => by rcases (show j = 0 ∨ j = 1 ∨ j = 2 ∨ j = 3 by omega) with rfl | rfl | rfl | rfl <;> rfl) (Nat.le_of_ble_eq_true rfl) (Nat.le_of_ble_eq_true rfl) dX8_buyerBy_34 (fun q H h1 h2 h3 => ?_)
      have hw : wd D _ _ (ws ++ [(q, .inr (1, [.int 0, .int 0, .null, .int 0]))]) H _ := ⟨h1, h2, h3⟩
      refine lv_dup hx hb dX8_buyerBy_37 rfl ?_
      refine lv_iload_n hx hb dX8_buyerBy_38 rfl (lv_at hl 1 rfl) ?_
      refine lv_iload_n hx hb dX8_buyerBy_39 rfl (lv_at hl 2 rfl) ?_
      refine ctA_I (rest := [.ref q]) C hw hA ((kX1_init_1 l D cI cB cS q k pu).frame ws) cfX1_init tg_275 tg_241 rfl ⟨(Nat.le_of_ble_eq_true rfl), (Nat.le_of_ble_eq_true rfl)⟩ ⟨(Nat.le_of_ble_eq_true rfl), (Nat.le_of_ble_eq_true rfl)⟩ rfl hl.1 rfl (Nat.le_of_ble_eq_true rfl) dX8_buyerBy_40 (fun v ws1 H locs hp hw => ?_)
      obtain ⟨w1, rfl, rfl, qa, rfl⟩ := hp
      exact qtA_a C hr hlocks hw ⟨q, qa, rfl, by rw [hk]⟩ dX8_buyerBy_43
    · have hk : kcls (bkd le) = 3 := by rw [bkd, if_neg g1, if_pos g2]; rfl
      refine va_new (ci := 3) (fs := [.int 0, .int 0, .null, .int 0]) (C := RX3) (T := TX3) (N := 4) hx hb C.2.2.2.2.1 inX3 tyX3 tyX3_ok C.2.2.2.1 (C.2.2.2.2.1 _ tg_265) (C.2.2.2.2.1 _ tg_266) (C.2.2.2.2.1 _ tg_9) C.2.2.2.2.2.1 hw.1 hw.2.1 hw.2.2 hA rfl (fun j hj => by rcases (show j = 0 ∨ j = 1 ∨ j = 2 ∨ j = 3 by omega) with rfl | rfl | rfl | rfl <;> rfl) (Nat.le_of_ble_eq_true rfl) (Nat.le_of_ble_eq_true rfl) dX8_buyerBy_22 (fun q H h1 h2 h3 => ?_)
      have hw : wd D _ _ (ws ++ [(q, .inr (3, [.int 0, .int 0, .null, .int 0]))]) H _ := ⟨h1, h2, h3⟩
      refine lv_dup hx hb dX8_buyerBy_25 rfl ?_
      refine lv_iload_n hx hb dX8_buyerBy_26 rfl (lv_at hl 1 rfl) ?_
      refine lv_iload_n hx hb dX8_buyerBy_27 rfl (lv_at hl 2 rfl) ?_
      refine ctA_I (rest := [.ref q]) C hw hA ((kX3_init_3 l D cI cB cS q k pu).frame ws) cfX3_init tg_267 tg_238 rfl ⟨(Nat.le_of_ble_eq_true rfl), (Nat.le_of_ble_eq_true rfl)⟩ ⟨(Nat.le_of_ble_eq_true rfl), (Nat.le_of_ble_eq_true rfl)⟩ rfl hl.1 rfl (Nat.le_of_ble_eq_true rfl) dX8_buyerBy_28 (fun v ws1 H locs hp hw => ?_)
      obtain ⟨w1, rfl, rfl, qa, rfl⟩ := hp
      refine lv_goto (tgt := 43) hx hb dX8_buyerBy_31 (by decide) ?_
      exact qtA_a C hr hlocks hw ⟨q, qa, rfl, by rw [hk]⟩ dX8_buyerBy_43
  · have hk : kcls (bkd le) = 4 := by rw [bkd, if_pos g1]; rfl
    refine va_new (ci := 4) (fs := [.int 0, .int 0, .null, .int 0]) (C := RX4) (T := TX4) (N := 4) hx hb C.2.2.2.2.1 inX4 tyX4 tyX4_ok C.2.2.2.1 (C.2.2.2.2.1 _ tg_232) (C.2.2.2.2.1 _ tg_233) (C.2.2.2.2.1 _ tg_10) C.2.2.2.2.2.1 hw.1 hw.2.1 hw.2.2 hA rfl (fun j hj => by rcases (show j = 0 ∨ j = 1 ∨ j = 2 ∨ j = 3 by omega) with rfl | rfl | rfl | rfl <;> rfl) (Nat.le_of_ble_eq_true rfl) (Nat.le_of_ble_eq_true rfl) dX8_buyerBy_6 (fun q H h1 h2 h3 => ?_)
    have hw : wd D _ _ (ws ++ [(q, .inr (4, [.int 0, .int 0, .null, .int 0]))]) H _ := ⟨h1, h2, h3⟩
    refine lv_dup hx hb dX8_buyerBy_9 rfl ?_
    refine lv_iload_n hx hb dX8_buyerBy_10 rfl (lv_at hl 1 rfl) ?_
    refine lv_iload_n hx hb dX8_buyerBy_11 rfl (lv_at hl 2 rfl) ?_
    refine ctA_I (rest := [.ref q]) C hw hA ((kX4_init_4 l D cI cB cS q k pu).frame ws) cfX4_init tg_234 tg_235 rfl ⟨(Nat.le_of_ble_eq_true rfl), (Nat.le_of_ble_eq_true rfl)⟩ ⟨(Nat.le_of_ble_eq_true rfl), (Nat.le_of_ble_eq_true rfl)⟩ rfl hl.1 rfl (Nat.le_of_ble_eq_true rfl) dX8_buyerBy_12 (fun v ws1 H locs hp hw => ?_)
    obtain ⟨w1, rfl, rfl, qa, rfl⟩ := hp
    exact qtA_a C hr hlocks hw ⟨q, qa, rfl, by rw [hk]⟩ dX8_buyerBy_15
