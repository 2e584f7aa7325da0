theorem cfX9_isBeyond : cf yX9_isBeyond cX9_isBeyond 4 (some .boolean) 3 := ⟨tg_762, by decide +kernel, tg_7⟩
set_option maxHeartbeats 4000000 in
theorem kX9_isBeyond (l : Launch) (D : va_G) (cI cB cS : ClassId) (ws0 : va_W) (p1 : Int32) (p2 : Int64) (p3 : Int32) : Ct l D cI cB cS yX9_isBeyond cX9_isBeyond 4 (some .boolean) 0 0 [.int p1, .long p2, .int p3] ws0 (some (.int (fX9_isBeyond p1 p2 p3))) ws0 := by
  obtain ⟨q, hf⟩ : ∃ q, fX9_isBeyond p1 p2 p3 = q := ⟨_, rfl⟩
  rw [hf]
  refine Ct.ofW (by decide) (Nat.le_of_ble_eq_true rfl) ?_
  intro p e s m args below meth c ls C hr hlocks _ hw hl
  have hx := C.1
  have hb := C.2.1
  have hA : ∀ q, s.heap.size ≤ q → va_A ws0 s.heap.size q := fun q h => Or.inr h
  have hcg := trivial
  have hl : lv_has ls 4 [(0, .int p1), (1, .long p2), (3, .int p3)] := hl
  unfold fX9_isBeyond at hf
  refine lv_iload_n hx hb dX9_isBeyond_0 rfl (lv_at hl 0 rfl) ?_
  refine lv_if_lt (tgt := 20) hx hb dX9_isBeyond_1 (by decide) (fun h1 => ?_) (fun h1 => ?_)
  · have hf := it_t h1 hf
    refine lv_iconst (v := 1) hx hb dX9_isBeyond_20 ic_1 ?_
    refine lv_goto (tgt := 25) hx hb dX9_isBeyond_21 (by decide) ?_
    subst hf
    exact qt_z C hr hlocks (Or.inr rfl) hw dX9_isBeyond_25
  · have hf := it_f h1 hf
    refine lv_lload_n hx hb dX9_isBeyond_4 rfl (lv_at hl 1 rfl) ?_
    refine lv_lconst (v := 0) hx hb dX9_isBeyond_5 rfl ?_
    refine W.lcmp hx hb dX9_isBeyond_6 ?_
    refine lv_if_lt (tgt := 20) hx hb dX9_isBeyond_7 (by decide) (fun h2 => ?_) (fun h2 => ?_)
    · have hf := it_t h2 hf
      refine lv_iconst (v := 1) hx hb dX9_isBeyond_20 ic_1 ?_
      refine lv_goto (tgt := 25) hx hb dX9_isBeyond_21 (by decide) ?_
      subst hf
      exact qt_z C hr hlocks (Or.inr rfl) hw dX9_isBeyond_25
    · have hf := it_f h2 hf
      refine lv_iload_n hx hb dX9_isBeyond_10 rfl (lv_at hl 0 rfl) ?_
      refine lv_i2l (v := (p1.toInt64)) hx hb dX9_isBeyond_11 rfl ?_
      refine lv_lload_n hx hb dX9_isBeyond_12 rfl (lv_at hl 1 rfl) ?_
      refine lv_ladd hx hb dX9_isBeyond_13 ?_
      refine lv_iload_n hx hb dX9_isBeyond_14 rfl (lv_at hl 2 rfl) ?_
      refine lv_i2l (v := (p3.toInt64)) hx hb dX9_isBeyond_15 rfl ?_
      refine W.lcmp hx hb dX9_isBeyond_16 ?_
      refine lv_if_le (tgt := 24) hx hb dX9_isBeyond_17 (by decide) (fun h3 => ?_) (fun h3 => ?_)
      · have hf := it_t h3 hf
        refine lv_iconst (v := 0) hx hb dX9_isBeyond_24 ic_0 ?_
        subst hf
        exact qt_z C hr hlocks (Or.inl rfl) hw dX9_isBeyond_25
      · have hf := it_f h3 hf
        refine lv_iconst (v := 1) hx hb dX9_isBeyond_20 ic_1 ?_
        refine lv_goto (tgt := 25) hx hb dX9_isBeyond_21 (by decide) ?_
        subst hf
        exact qt_z C hr hlocks (Or.inr rfl) hw dX9_isBeyond_25
theorem zX9_isBeyond (p1 : Int32) (p2 : Int64) (p3 : Int32) : fX9_isBeyond p1 p2 p3 = 0 ∨ fX9_isBeyond p1 p2 p3 = 1 := by
  unfold fX9_isBeyond
  (repeat' split) <;> first | exact Or.inl rfl | exact Or.inr rfl
theorem cfX9_cellsBarred : cf yX9_cellsBarred cX9_cellsBarred 6 (some .int) 4 := ⟨tg_755, by decide +kernel, tg_7⟩
set_option maxHeartbeats 4000000 in
theorem kX9_cellsBarred (l : Launch) (D : va_G) (cI cB cS : ClassId) (a0 : Nat) (am : Nat → Nat) {p1 : Int32} {p2 : Int32} {p3 : Int32} {p4 : Int64} {M : MS} {q : (Int32 × MS)} (hf : fX9_cellsBarred p1 p2 p3 p4 M = some q) : Ct l D cI cB cS yX9_cellsBarred cX9_cellsBarred 6 (some .int) 1 23 [.ref a0, .int p1, .int p2, .int p3, .long p4] (mW cI a0 am M) (some (.int q.1)) (mW cI a0 am q.2) := by
  refine Ct.ofW (by decide) (Nat.le_of_ble_eq_true rfl) ?_
  intro p e s m args below meth c ls C hr hlocks _ hw hl
  have hx := C.1
  have hb := C.2.1
  have hA : ∀ q, s.heap.size ≤ q → va_A (mW cI a0 am M) s.heap.size q := fun q h => Or.inr h
  have hcg := trivial
  have hl : lv_has ls 6 [(0, .ref a0), (1, .int p1), (2, .int p2), (3, .int p3), (4, .long p4)] := hl
  unfold fX9_cellsBarred at hf
  refine lv_aload_n hx hb dX9_cellsBarred_0 rfl (lv_at hl 0 rfl) ?_
  refine mg_27 C hw dX9_cellsBarred_1 ?_
  refine lv_iload_n hx hb dX9_cellsBarred_4 rfl (lv_at hl 1 rfl) ?_
  obtain ⟨g1, hf⟩ := gd_inv hf
  refine ml_27 C hw g1 dX9_cellsBarred_5 ?_
  refine lv_if_lt (tgt := 25) hx hb dX9_cellsBarred_6 (by decide) (fun h2 => ?_) (fun h2 => ?_)
  · have hf := it_t h2 hf
    refine lv_aload_n hx hb dX9_cellsBarred_25 rfl (lv_at hl 0 rfl) ?_
    refine mg_27 C hw dX9_cellsBarred_26 ?_
    refine lv_iload_n hx hb dX9_cellsBarred_29 rfl (lv_at hl 1 rfl) ?_
    obtain ⟨g3, hf⟩ := gd_inv hf
    refine ml_27 C hw g3 dX9_cellsBarred_30 ?_
    refine lv_if_ge (tgt := 40) hx hb dX9_cellsBarred_31 (by decide) (fun h4 => ?_) (fun h4 => ?_)
    · have hf := it_t h4 hf
      refine lv_lload hx hb dX9_cellsBarred_40 (lv_at hl 4 rfl) ?_
      refine lv_lconst (v := 0) hx hb dX9_cellsBarred_42 rfl ?_
      refine W.lcmp hx hb dX9_cellsBarred_43 ?_
      refine lv_if_ge (tgt := 53) hx hb dX9_cellsBarred_44 (by decide) (fun h5 => ?_) (fun h5 => ?_)
      · have hf := it_t h5 hf
        refine lv_iload_n hx hb dX9_cellsBarred_53 rfl (lv_at hl 3 rfl) ?_
        refine lv_lload hx hb dX9_cellsBarred_54 (lv_at hl 4 rfl) ?_
        refine lv_aload_n hx hb dX9_cellsBarred_56 rfl (lv_at hl 0 rfl) ?_
        refine mg_27 C hw dX9_cellsBarred_57 ?_
        refine lv_iload_n hx hb dX9_cellsBarred_60 rfl (lv_at hl 1 rfl) ?_
        obtain ⟨g6, hf⟩ := gd_inv hf
        refine ml_27 C hw g6 dX9_cellsBarred_61 ?_
        refine ct_S1 (rest := []) C hw hA (kX9_isBeyond l D cI cB cS _ _ _ _) cfX9_isBeyond tg_760 tg_761 ⟨(Nat.le_of_ble_eq_true rfl), (Nat.le_of_ble_eq_true rfl)⟩ ⟨(Nat.le_of_ble_eq_true rfl), (Nat.le_of_ble_eq_true rfl)⟩ rfl hl.1 rfl (Nat.le_of_ble_eq_true rfl) dX9_cellsBarred_62 (fun H locs hw => ?_)
        refine lv_if_eq (tgt := 76) hx hb dX9_cellsBarred_65 (by decide) (fun h7 => ?_) (fun h7 => ?_)
        · have hf := it_t h7 hf
          refine lv_iconst (v := 0) hx hb dX9_cellsBarred_76 ic_0 ?_
          obtain rfl := Option.some.inj hf
          exact qt_i C hr hlocks hw dX9_cellsBarred_77
        · have hf := it_f h7 hf
          refine lv_aload_n hx hb dX9_cellsBarred_68 rfl (lv_at hl 0 rfl) ?_
          refine lv_iconst (v := 3) hx hb dX9_cellsBarred_69 ic_3 ?_
          refine ct_V1 (q0 := 0) (ci := 9) (rest := []) C hw hA (kX9_failed l D cI cB cS a0 am _ _) cfX9_failed tg_756 tg_758 ts_yX9_failed ⟨(Nat.le_of_ble_eq_true rfl), (Nat.le_of_ble_eq_true rfl)⟩ ⟨(Nat.le_of_ble_eq_true rfl), (Nat.le_of_ble_eq_true rfl)⟩ rfl rfl rfl rfl hl.1 rfl (Nat.le_of_ble_eq_true rfl) dX9_cellsBarred_70 (fun H locs hw => ?_)
          refine lv_goto (tgt := 77) hx hb dX9_cellsBarred_73 (by decide) ?_
          obtain rfl := Option.some.inj hf
          exact qt_i C hr hlocks hw dX9_cellsBarred_77
      · have hf := it_f h5 hf
        refine lv_aload_n hx hb dX9_cellsBarred_47 rfl (lv_at hl 0 rfl) ?_
        refine lv_iconst (v := 4) hx hb dX9_cellsBarred_48 ic_4 ?_
        refine ct_V1 (q0 := 0) (ci := 9) (rest := []) C hw hA (kX9_failed l D cI cB cS a0 am _ _) cfX9_failed tg_756 tg_758 ts_yX9_failed ⟨(Nat.le_of_ble_eq_true rfl), (Nat.le_of_ble_eq_true rfl)⟩ ⟨(Nat.le_of_ble_eq_true rfl), (Nat.le_of_ble_eq_true rfl)⟩ rfl rfl rfl rfl hl.1 rfl (Nat.le_of_ble_eq_true rfl) dX9_cellsBarred_49 (fun H locs hw => ?_)
        obtain rfl := Option.some.inj hf
        exact qt_i C hr hlocks hw dX9_cellsBarred_52
    · have hf := it_f h4 hf
      refine lv_aload_n hx hb dX9_cellsBarred_34 rfl (lv_at hl 0 rfl) ?_
      refine lv_iconst (v := 1) hx hb dX9_cellsBarred_35 ic_1 ?_
      refine ct_V1 (q0 := 0) (ci := 9) (rest := []) C hw hA (kX9_failed l D cI cB cS a0 am _ _) cfX9_failed tg_756 tg_758 ts_yX9_failed ⟨(Nat.le_of_ble_eq_true rfl), (Nat.le_of_ble_eq_true rfl)⟩ ⟨(Nat.le_of_ble_eq_true rfl), (Nat.le_of_ble_eq_true rfl)⟩ rfl rfl rfl rfl hl.1 rfl (Nat.le_of_ble_eq_true rfl) dX9_cellsBarred_36 (fun H locs hw => ?_)
      obtain rfl := Option.some.inj hf
      exact qt_i C hr hlocks hw dX9_cellsBarred_39
  · have hf := it_f h2 hf
    refine lv_aload_n hx hb dX9_cellsBarred_9 rfl (lv_at hl 0 rfl) ?_
    refine mg_28 C hw dX9_cellsBarred_10 ?_
    refine lv_iload_n hx hb dX9_cellsBarred_13 rfl (lv_at hl 1 rfl) ?_
    obtain ⟨g8, hf⟩ := gd_inv hf
    refine ml_28 C hw g8 dX9_cellsBarred_14 ?_
    refine lv_iload_n hx hb dX9_cellsBarred_15 rfl (lv_at hl 2 rfl) ?_
    refine lv_icmp_eq (tgt := 25) hx hb dX9_cellsBarred_16 (by decide) (fun h9 => ?_) (fun h9 => ?_)
    · have hf := it_t h9 hf
      refine lv_aload_n hx hb dX9_cellsBarred_25 rfl (lv_at hl 0 rfl) ?_
      refine mg_27 C hw dX9_cellsBarred_26 ?_
      refine lv_iload_n hx hb dX9_cellsBarred_29 rfl (lv_at hl 1 rfl) ?_
      obtain ⟨g10, hf⟩ := gd_inv hf
      refine ml_27 C hw g10 dX9_cellsBarred_30 ?_
      refine lv_if_ge (tgt := 40) hx hb dX9_cellsBarred_31 (by decide) (fun h11 => ?_) (fun h11 => ?_)
      · have hf := it_t h11 hf
        refine lv_lload hx hb dX9_cellsBarred_40 (lv_at hl 4 rfl) ?_
        refine lv_lconst (v := 0) hx hb dX9_cellsBarred_42 rfl ?_
        refine W.lcmp hx hb dX9_cellsBarred_43 ?_
        refine lv_if_ge (tgt := 53) hx hb dX9_cellsBarred_44 (by decide) (fun h12 => ?_) (fun h12 => ?_)
        · have hf := it_t h12 hf
          refine lv_iload_n hx hb dX9_cellsBarred_53 rfl (lv_at hl 3 rfl) ?_
          refine lv_lload hx hb dX9_cellsBarred_54 (lv_at hl 4 rfl) ?_
          refine lv_aload_n hx hb dX9_cellsBarred_56 rfl (lv_at hl 0 rfl) ?_
          refine mg_27 C hw dX9_cellsBarred_57 ?_
          refine lv_iload_n hx hb dX9_cellsBarred_60 rfl (lv_at hl 1 rfl) ?_
          obtain ⟨g13, hf⟩ := gd_inv hf
          refine ml_27 C hw g13 dX9_cellsBarred_61 ?_
          refine ct_S1 (rest := []) C hw hA (kX9_isBeyond l D cI cB cS _ _ _ _) cfX9_isBeyond tg_760 tg_761 ⟨(Nat.le_of_ble_eq_true rfl), (Nat.le_of_ble_eq_true rfl)⟩ ⟨(Nat.le_of_ble_eq_true rfl), (Nat.le_of_ble_eq_true rfl)⟩ rfl hl.1 rfl (Nat.le_of_ble_eq_true rfl) dX9_cellsBarred_62 (fun H locs hw => ?_)
          refine lv_if_eq (tgt := 76) hx hb dX9_cellsBarred_65 (by decide) (fun h14 => ?_) (fun h14 => ?_)
          · have hf := it_t h14 hf
            refine lv_iconst (v := 0) hx hb dX9_cellsBarred_76 ic_0 ?_
            obtain rfl := Option.some.inj hf
            exact qt_i C hr hlocks hw dX9_cellsBarred_77
          · have hf := it_f h14 hf
            refine lv_aload_n hx hb dX9_cellsBarred_68 rfl (lv_at hl 0 rfl) ?_
            refine lv_iconst (v := 3) hx hb dX9_cellsBarred_69 ic_3 ?_
            refine ct_V1 (q0 := 0) (ci := 9) (rest := []) C hw hA (kX9_failed l D cI cB cS a0 am _ _) cfX9_failed tg_756 tg_758 ts_yX9_failed ⟨(Nat.le_of_ble_eq_true rfl), (Nat.le_of_ble_eq_true rfl)⟩ ⟨(Nat.le_of_ble_eq_true rfl), (Nat.le_of_ble_eq_true rfl)⟩ rfl rfl rfl rfl hl.1 rfl (Nat.le_of_ble_eq_true rfl) dX9_cellsBarred_70 (fun H locs hw => ?_)
            refine lv_goto (tgt := 77) hx hb dX9_cellsBarred_73 (by decide) ?_
            obtain rfl := Option.some.inj hf
            exact qt_i C hr hlocks hw dX9_cellsBarred_77
        · have hf := it_f h12 hf
          refine lv_aload_n hx hb dX9_cellsBarred_47 rfl (lv_at hl 0 rfl) ?_
          refine lv_iconst (v := 4) hx hb dX9_cellsBarred_48 ic_4 ?_
          refine ct_V1 (q0 := 0) (ci := 9) (rest := []) C hw hA (kX9_failed l D cI cB cS a0 am _ _) cfX9_failed tg_756 tg_758 ts_yX9_failed ⟨(Nat.le_of_ble_eq_true rfl), (Nat.le_of_ble_eq_true rfl)⟩ ⟨(Nat.le_of_ble_eq_true rfl), (Nat.le_of_ble_eq_true rfl)⟩ rfl rfl rfl rfl hl.1 rfl (Nat.le_of_ble_eq_true rfl) dX9_cellsBarred_49 (fun H locs hw => ?_)
          obtain rfl := Option.some.inj hf
          exact qt_i C hr hlocks hw dX9_cellsBarred_52
      · have hf := it_f h11 hf
        refine lv_aload_n hx hb dX9_cellsBarred_34 rfl (lv_at hl 0 rfl) ?_
        refine lv_iconst (v := 1) hx hb dX9_cellsBarred_35 ic_1 ?_
        refine ct_V1 (q0 := 0) (ci := 9) (rest := []) C hw hA (kX9_failed l D cI cB cS a0 am _ _) cfX9_failed tg_756 tg_758 ts_yX9_failed ⟨(Nat.le_of_ble_eq_true rfl), (Nat.le_of_ble_eq_true rfl)⟩ ⟨(Nat.le_of_ble_eq_true rfl), (Nat.le_of_ble_eq_true rfl)⟩ rfl rfl rfl rfl hl.1 rfl (Nat.le_of_ble_eq_true rfl) dX9_cellsBarred_36 (fun H locs hw => ?_)
        obtain rfl := Option.some.inj hf
        exact qt_i C hr hlocks hw dX9_cellsBarred_39
    · have hf := it_f h9 hf
      refine lv_aload_n hx hb dX9_cellsBarred_19 rfl (lv_at hl 0 rfl) ?_
      refine lv_iconst (v := 2) hx hb dX9_cellsBarred_20 ic_2 ?_
      refine ct_V1 (q0 := 0) (ci := 9) (rest := []) C hw hA (kX9_failed l D cI cB cS a0 am _ _) cfX9_failed tg_756 tg_758 ts_yX9_failed ⟨(Nat.le_of_ble_eq_true rfl), (Nat.le_of_ble_eq_true rfl)⟩ ⟨(Nat.le_of_ble_eq_true rfl), (Nat.le_of_ble_eq_true rfl)⟩ rfl rfl rfl rfl hl.1 rfl (Nat.le_of_ble_eq_true rfl) dX9_cellsBarred_21 (fun H locs hw => ?_)
      obtain rfl := Option.some.inj hf
      exact qt_i C hr hlocks hw dX9_cellsBarred_24
theorem cfX9_noSheet : cf yX9_noSheet cX9_noSheet 1 (some .boolean) 1 := ⟨tg_742, by decide +kernel, tg_7⟩
set_option maxHeartbeats 4000000 in
theorem kX9_noSheet (l : Launch) (D : va_G) (cI cB cS : ClassId) (ws0 : va_W) (p1 : Int32) : Ct l D cI cB cS yX9_noSheet cX9_noSheet 1 (some .boolean) 1 25 [.int p1] ws0 (some (.int (fX9_noSheet p1))) ws0 := by
  obtain ⟨q, hf⟩ : ∃ q, fX9_noSheet p1 = q := ⟨_, rfl⟩
  rw [hf]
  refine Ct.ofW (by decide) (Nat.le_of_ble_eq_true rfl) ?_
  intro p e s m args below meth c ls C hr hlocks _ hw hl
  have hx := C.1
  have hb := C.2.1
  have hA : ∀ q, s.heap.size ≤ q → va_A ws0 s.heap.size q := fun q h => Or.inr h
  have hcg := trivial
  have hl : lv_has ls 1 [(0, .int p1)] := hl
  unfold fX9_noSheet at hf
  refine lv_iload_n hx hb dX9_noSheet_0 rfl (lv_at hl 0 rfl) ?_
  refine lv_i2l (v := (p1.toInt64)) hx hb dX9_noSheet_1 rfl ?_
  refine lv_lconst (v := 0) hx hb dX9_noSheet_2 rfl ?_
  refine lv_ldc2 (v := (3 : Int64)) hx hb C.2.2.2.1 (C.2.2.2.2.1 _ tg_743) dX9_noSheet_3 ?_
  refine ct_S1 (rest := []) C hw hA (kX9_in l D cI cB cS _ _ _ _) cfX9_in tg_744 tg_745 ⟨(Nat.le_of_ble_eq_true rfl), (Nat.le_of_ble_eq_true rfl)⟩ ⟨(Nat.le_of_ble_eq_true rfl), (Nat.le_of_ble_eq_true rfl)⟩ rfl hl.1 rfl (Nat.le_of_ble_eq_true rfl) dX9_noSheet_6 (fun H locs hw => ?_)
  refine lv_if_ne (tgt := 16) hx hb dX9_noSheet_9 (by decide) (fun h1 => ?_) (fun h1 => ?_)
  · have hf := it_f h1 hf
    refine lv_iconst (v := 0) hx hb dX9_noSheet_16 ic_0 ?_
    subst hf
    exact qt_z C hr hlocks (Or.inl rfl) hw dX9_noSheet_17
  · have hf := it_t h1 hf
    refine lv_iconst (v := 1) hx hb dX9_noSheet_12 ic_1 ?_
    refine lv_goto (tgt := 17) hx hb dX9_noSheet_13 (by decide) ?_
    subst hf
    exact qt_z C hr hlocks (Or.inr rfl) hw dX9_noSheet_17
theorem zX9_noSheet (p1 : Int32) : fX9_noSheet p1 = 0 ∨ fX9_noSheet p1 = 1 := by
  unfold fX9_noSheet
  (repeat' split) <;> first | exact Or.inl rfl | exact Or.inr rfl
theorem cfX9_hall : cf yX9_hall cX9_hall 7 (some .int) 4 := ⟨tg_739, by decide +kernel, tg_7⟩
set_option maxHeartbeats 4000000 in
theorem wX9_hall_106 {p : Program} {l : Launch} {e : Env} {s : State} {m : MethodId} {args : Array Value} {below : List Frame} {meth : Method} {c : Code} {D : va_G} {cI cB cS : ClassId} {a0 : Nat} {am : Nat → Nat} {ws0 : va_W} (C : cx p c cX9_hall 7 s args m RX9 D cI cB cS) (hr : meth.sig.returnType = (some .int)) (hlocks : meth.locks = false) (hA : ∀ q, s.heap.size ≤ q → va_A ws0 s.heap.size q) {k : MS → Option (Int32 × MS)} {q : (Int32 × MS)}
    (hcg : True) : ∀ (fu : Nat) (v6 : Int32) (M : MS) (H : Heap) (locs : List Loc) (ls : Array Slot), wd D (va_A ws0 s.heap.size) s.heap (mW cI a0 am M) H locs → lv_has ls 7 [(0, .ref a0), (6, .int v6)] → fX9_hall_106 fu k v6 M = some q →
    (∀  (M1 : MS) (H : Heap) (locs : List Loc) (ls : Array Slot), wd D (va_A ws0 s.heap.size) s.heap (mW cI a0 am M1) H locs → lv_has ls 7 [(0, .ref a0)] → k  M1 = some q → W p l e { frames := 4, cells := 0, slots := 0, locals := 99 } s m args below meth c H locs 0 0 (Qt D below args s ws0 (some (.int q.1)) (mW cI a0 am q.2)) (F0 m 158 ls [])) →
    W p l e { frames := 4, cells := 0, slots := 0, locals := 99 } s m args below meth c H locs 0 0 (Qt D below args s ws0 (some (.int q.1)) (mW cI a0 am q.2)) (F0 m 106 ls []) := by
  have hx := C.1
  have hb := C.2.1
  intro fu
  induction fu with
  | zero => intro v6 M H locs ls hw hl hf hk; rw [fX9_hall_106] at hf; cases hf
  | succ fu ih =>
      intro v6 M H locs ls hw hl hf hk
      rw [fX9_hall_106] at hf
      refine lv_iload hx hb dX9_hall_106 (lv_at hl 1 rfl) ?_
      refine lv_aload_n hx hb dX9_hall_108 rfl (lv_at hl 0 rfl) ?_
      refine mg_3 C hw dX9_hall_109 ?_
      refine lv_icmp_ge (tgt := 158) hx hb dX9_hall_112 (by decide) (fun h9 => ?_) (fun h9 => ?_)
      · have hf := it_t h9 hf
        exact hk _ _ _ _ hw (lv_sub hl [0] rfl) hf
      · have hf := it_f h9 hf
        refine lv_aload_n hx hb dX9_hall_115 rfl (lv_at hl 0 rfl) ?_
        refine mg_4 C hw dX9_hall_116 ?_
        refine lv_iload hx hb dX9_hall_119 (lv_at hl 1 rfl) ?_
        refine lv_aload_n hx hb dX9_hall_121 rfl (lv_at hl 0 rfl) ?_
        refine mg_13 C hw dX9_hall_122 ?_
        refine lv_iload hx hb dX9_hall_125 (lv_at hl 1 rfl) ?_
        obtain ⟨g10, hf⟩ := gd_inv hf
        refine ml_13 C hw g10 dX9_hall_127 ?_
        obtain ⟨g11, hf⟩ := gd_inv hf
        refine ms_4 C hw g11 dX9_hall_128 (fun H locs hw => ?_)
        refine lv_aload_n hx hb dX9_hall_129 rfl (lv_at hl 0 rfl) ?_
        refine mg_5 C hw dX9_hall_130 ?_
        refine lv_iload hx hb dX9_hall_133 (lv_at hl 1 rfl) ?_
        refine lv_aload_n hx hb dX9_hall_135 rfl (lv_at hl 0 rfl) ?_
        refine mg_14 C hw dX9_hall_136 ?_
        refine lv_iload hx hb dX9_hall_139 (lv_at hl 1 rfl) ?_
        obtain ⟨g12, hf⟩ := gd_inv hf
        refine ml_14 C hw g12 dX9_hall_141 ?_
        obtain ⟨g13, hf⟩ := gd_inv hf
        refine ms_5 C hw g13 dX9_hall_142 (fun H locs hw => ?_)
        refine lv_aload_n hx hb dX9_hall_143 rfl (lv_at hl 0 rfl) ?_
        refine mg_6 C hw dX9_hall_144 ?_
        refine lv_iload hx hb dX9_hall_147 (lv_at hl 1 rfl) ?_
        refine lv_iload hx hb dX9_hall_149 (lv_at hl 1 rfl) ?_
        obtain ⟨g14, hf⟩ := gd_inv hf
        refine ms_6 C hw g14 dX9_hall_151 (fun H locs hw => ?_)
        refine lv_iinc (v := (v6 + 1)) (lv' := [(6, .int (v6 + 1)), (0, .ref a0)]) hx hb dX9_hall_152 hl (k := 1) rfl (iv_1 _) (by decide) rfl (fun ls hl => ?_)
        refine lv_goto (tgt := 106) hx hb dX9_hall_155 (by decide) ?_
        exact ih _ _ _ _ _ hw (lv_sub hl [1, 0] rfl) hf hk
set_option maxHeartbeats 4000000 in
theorem wX9_hall_161 {p : Program} {l : Launch} {e : Env} {s : State} {m : MethodId} {args : Array Value} {below : List Frame} {meth : Method} {c : Code} {D : va_G} {cI cB cS : ClassId} {a0 : Nat} {am : Nat → Nat} {ws0 : va_W} (C : cx p c cX9_hall 7 s args m RX9 D cI cB cS) (hr : meth.sig.returnType = (some .int)) (hlocks : meth.locks = false) (hA : ∀ q, s.heap.size ≤ q → va_A ws0 s.heap.size q) {k : MS → Option (Int32 × MS)} {q : (Int32 × MS)}
    (hcg : True) : ∀ (fu : Nat) (v6 : Int32) (M : MS) (H : Heap) (locs : List Loc) (ls : Array Slot), wd D (va_A ws0 s.heap.size) s.heap (mW cI a0 am M) H locs → lv_has ls 7 [(0, .ref a0), (6, .int v6)] → fX9_hall_161 fu k v6 M = some q →
    (∀  (M1 : MS) (H : Heap) (locs : List Loc) (ls : Array Slot), wd D (va_A ws0 s.heap.size) s.heap (mW cI a0 am M1) H locs → lv_has ls 7 [(0, .ref a0)] → k  M1 = some q → W p l e { frames := 4, cells := 0, slots := 0, locals := 99 } s m args below meth c H locs 0 0 (Qt D below args s ws0 (some (.int q.1)) (mW cI a0 am q.2)) (F0 m 182 ls [])) →
    W p l e { frames := 4, cells := 0, slots := 0, locals := 99 } s m args below meth c H locs 0 0 (Qt D below args s ws0 (some (.int q.1)) (mW cI a0 am q.2)) (F0 m 161 ls []) := by
  have hx := C.1
  have hb := C.2.1
  intro fu
  induction fu with
  | zero => intro v6 M H locs ls hw hl hf hk; rw [fX9_hall_161] at hf; cases hf
  | succ fu ih =>
      intro v6 M H locs ls hw hl hf hk
      rw [fX9_hall_161] at hf
      refine lv_iload hx hb dX9_hall_161 (lv_at hl 1 rfl) ?_
      refine lv_bipush (v := 24) hx hb dX9_hall_163 ib_24 ?_
      refine lv_icmp_ge (tgt := 182) hx hb dX9_hall_165 (by decide) (fun h16 => ?_) (fun h16 => ?_)
      · have hf := it_t h16 hf
        exact hk _ _ _ _ hw (lv_sub hl [0] rfl) hf
      · have hf := it_f h16 hf
        refine lv_aload_n hx hb dX9_hall_168 rfl (lv_at hl 0 rfl) ?_
        refine mg_7 C hw dX9_hall_169 ?_
        refine lv_iload hx hb dX9_hall_172 (lv_at hl 1 rfl) ?_
        refine lv_iconst (v := 0) hx hb dX9_hall_174 ic_0 ?_
        obtain ⟨g17, hf⟩ := gd_inv hf
        refine ms_7 C hw g17 dX9_hall_175 (fun H locs hw => ?_)
        refine lv_iinc (v := (v6 + 1)) (lv' := [(6, .int (v6 + 1)), (0, .ref a0)]) hx hb dX9_hall_176 hl (k := 1) rfl (iv_1 _) (by decide) rfl (fun ls hl => ?_)
        refine lv_goto (tgt := 161) hx hb dX9_hall_179 (by decide) ?_
        exact ih _ _ _ _ _ hw (lv_sub hl [1, 0] rfl) hf hk
set_option maxHeartbeats 4000000 in
theorem kX9_hall (l : Launch) (D : va_G) (cI cB cS : ClassId) (a0 : Nat) (am : Nat → Nat) {p1 : Int32} {p2 : Int32} {p3 : Int32} {p4 : Int32} {M : MS} {q : (Int32 × MS)} (hf : fX9_hall p1 p2 p3 p4 M = some q) : Ct l D cI cB cS yX9_hall cX9_hall 7 (some .int) 4 99 [.ref a0, .int p1, .int p2, .int p3, .int p4] (mW cI a0 am M) (some (.int q.1)) (mW cI a0 am q.2) := by
  refine Ct.ofW (by decide) (Nat.le_of_ble_eq_true rfl) ?_
  intro p e s m args below meth c ls C hr hlocks _ hw hl
  have hx := C.1
  have hb := C.2.1
  have hA : ∀ q, s.heap.size ≤ q → va_A (mW cI a0 am M) s.heap.size q := fun q h => Or.inr h
  have hcg := trivial
  have hl : lv_has ls 7 [(0, .ref a0), (1, .int p1), (2, .int p2), (3, .int p3), (4, .int p4)] := hl
  unfold fX9_hall at hf
  refine lv_iload_n hx hb dX9_hall_0 rfl (lv_at hl 1 rfl) ?_
  refine ct_S1 (rest := []) C hw hA (kX9_noSheet l D cI cB cS _ _) cfX9_noSheet tg_740 tg_741 ⟨(Nat.le_of_ble_eq_true rfl), (Nat.le_of_ble_eq_true rfl)⟩ ⟨(Nat.le_of_ble_eq_true rfl), (Nat.le_of_ble_eq_true rfl)⟩ rfl hl.1 rfl (Nat.le_of_ble_eq_true rfl) dX9_hall_1 (fun H locs hw => ?_)
  refine lv_if_eq (tgt := 13) hx hb dX9_hall_4 (by decide) (fun h1 => ?_) (fun h1 => ?_)
  · have hf := it_t h1 hf
    refine lv_iload_n hx hb dX9_hall_13 rfl (lv_at hl 2 rfl) ?_
    refine lv_i2l (v := (p2.toInt64)) hx hb dX9_hall_14 rfl ?_
    refine lv_lconst (v := 0) hx hb dX9_hall_15 rfl ?_
    refine lv_ldc2 (v := (2 : Int64)) hx hb C.2.2.2.1 (C.2.2.2.2.1 _ tg_751) dX9_hall_16 ?_
    refine ct_S1 (rest := []) C hw hA (kX9_in l D cI cB cS _ _ _ _) cfX9_in tg_744 tg_745 ⟨(Nat.le_of_ble_eq_true rfl), (Nat.le_of_ble_eq_true rfl)⟩ ⟨(Nat.le_of_ble_eq_true rfl), (Nat.le_of_ble_eq_true rfl)⟩ rfl hl.1 rfl (Nat.le_of_ble_eq_true rfl) dX9_hall_19 (fun H locs hw => ?_)
    refine lv_if_ne (tgt := 32) hx hb dX9_hall_22 (by decide) (fun h2 => ?_) (fun h2 => ?_)
    · have hf := it_f h2 hf
      refine lv_aload_n hx hb dX9_hall_32 rfl (lv_at hl 0 rfl) ?_
      refine lv_iload_n hx hb dX9_hall_33 rfl (lv_at hl 1 rfl) ?_
      refine lv_iload_n hx hb dX9_hall_34 rfl (lv_at hl 2 rfl) ?_
      refine lv_iload_n hx hb dX9_hall_35 rfl (lv_at hl 3 rfl) ?_
      refine lv_iload hx hb dX9_hall_36 (lv_at hl 4 rfl) ?_
      refine lv_i2l (v := (p4.toInt64)) hx hb dX9_hall_38 rfl ?_
      obtain ⟨r3, e4, hf⟩ := bd hf
      refine ct_V1 (q0 := 0) (ci := 9) (rest := []) C hw hA (kX9_cellsBarred l D cI cB cS a0 am e4) cfX9_cellsBarred tg_752 tg_754 ts_yX9_cellsBarred ⟨(Nat.le_of_ble_eq_true rfl), (Nat.le_of_ble_eq_true rfl)⟩ ⟨(Nat.le_of_ble_eq_true rfl), (Nat.le_of_ble_eq_true rfl)⟩ rfl rfl rfl rfl hl.1 rfl (Nat.le_of_ble_eq_true rfl) dX9_hall_39 (fun H locs hw => ?_)
      refine lv_istore (lv' := [(5, .int r3.1), (0, .ref a0), (1, .int p1), (2, .int p2), (3, .int p3), (4, .int p4)]) hx hb dX9_hall_42 hl (by decide) rfl (fun ls hl => ?_)
      refine lv_iload hx hb dX9_hall_44 (lv_at hl 0 rfl) ?_
      refine lv_if_ge (tgt := 52) hx hb dX9_hall_46 (by decide) (fun h5 => ?_) (fun h5 => ?_)
      · have hf := it_t h5 hf
        refine lv_aload_n hx hb dX9_hall_52 rfl (lv_at hl 1 rfl) ?_
        refine lv_bipush (v := 60) hx hb dX9_hall_53 ib_60 ?_
        refine lv_iload_n hx hb dX9_hall_55 rfl (lv_at hl 2 rfl) ?_
        refine lv_imul hx hb dX9_hall_56 ?_
        refine lv_iload_n hx hb dX9_hall_57 rfl (lv_at hl 4 rfl) ?_
        refine lv_iadd hx hb dX9_hall_58 ?_
        refine lv_iload hx hb dX9_hall_59 (lv_at hl 5 rfl) ?_
        obtain ⟨r6, e7, hf⟩ := bd hf
        refine ct_V1 (q0 := 0) (ci := 9) (rest := []) C hw hA (kX9_readsHall l D cI cB cS a0 am e7) cfX9_readsHall tg_763 tg_765 ts_yX9_readsHall ⟨(Nat.le_of_ble_eq_true rfl), (Nat.le_of_ble_eq_true rfl)⟩ ⟨(Nat.le_of_ble_eq_true rfl), (Nat.le_of_ble_eq_true rfl)⟩ rfl rfl rfl rfl hl.1 rfl (Nat.le_of_ble_eq_true rfl) dX9_hall_61 (fun H locs hw => ?_)
        refine lv_if_ne (tgt := 79) hx hb dX9_hall_64 (by decide) (fun h8 => ?_) (fun h8 => ?_)
        · have hf := it_f h8 hf
          refine lv_aload_n hx hb dX9_hall_79 rfl (lv_at hl 1 rfl) ?_
          refine lv_aload_n hx hb dX9_hall_80 rfl (lv_at hl 1 rfl) ?_
          refine mg_10 C hw dX9_hall_81 ?_
          refine mp_1 C hw dX9_hall_84 (fun H locs hw => ?_)
          refine lv_aload_n hx hb dX9_hall_87 rfl (lv_at hl 1 rfl) ?_
          refine lv_aload_n hx hb dX9_hall_88 rfl (lv_at hl 1 rfl) ?_
          refine mg_11 C hw dX9_hall_89 ?_
          refine mp_2 C hw dX9_hall_92 (fun H locs hw => ?_)
          refine lv_aload_n hx hb dX9_hall_95 rfl (lv_at hl 1 rfl) ?_
          refine lv_aload_n hx hb dX9_hall_96 rfl (lv_at hl 1 rfl) ?_
          refine mg_12 C hw dX9_hall_97 ?_
          refine mp_3 C hw dX9_hall_100 (fun H locs hw => ?_)
          refine lv_iconst (v := 0) hx hb dX9_hall_103 ic_0 ?_
          refine lv_istore (lv' := [(6, .int 0), (5, .int r3.1), (0, .ref a0), (1, .int p1), (2, .int p2), (3, .int p3), (4, .int p4)]) hx hb dX9_hall_104 hl (by decide) rfl (fun ls hl => ?_)
          refine wX9_hall_106 C hr hlocks hA hcg 300 _ _ _ _ _ hw (lv_sub hl [2, 0] rfl) hf (fun M15 H locs ls hw hl hf => ?_)
          refine lv_iconst (v := 0) hx hb dX9_hall_158 ic_0 ?_
          refine lv_istore (lv' := [(6, .int 0), (0, .ref a0)]) hx hb dX9_hall_159 hl (by decide) rfl (fun ls hl => ?_)
          refine wX9_hall_161 C hr hlocks hA hcg 300 _ _ _ _ _ hw (lv_sub hl [1, 0] rfl) hf (fun M18 H locs ls hw hl hf => ?_)
          refine lv_aload_n hx hb dX9_hall_182 rfl (lv_at hl 0 rfl) ?_
          refine lv_iconst (v := 0) hx hb dX9_hall_183 ic_0 ?_
          refine mp_8 C hw dX9_hall_184 (fun H locs hw => ?_)
          refine lv_aload_n hx hb dX9_hall_187 rfl (lv_at hl 0 rfl) ?_
          refine lv_iconst (v := 0) hx hb dX9_hall_188 ic_0 ?_
          refine mp_24 C hw dX9_hall_189 (fun H locs hw => ?_)
          refine lv_aload_n hx hb dX9_hall_192 rfl (lv_at hl 0 rfl) ?_
          refine lv_aload_n hx hb dX9_hall_193 rfl (lv_at hl 0 rfl) ?_
          refine mg_3 C hw dX9_hall_194 ?_
          refine ct_V1 (q0 := 0) (ci := 9) (rest := []) C hw hA (kX9_refused l D cI cB cS a0 am _ _) cfX9_refused tg_747 tg_749 ts_yX9_refused ⟨(Nat.le_of_ble_eq_true rfl), (Nat.le_of_ble_eq_true rfl)⟩ ⟨(Nat.le_of_ble_eq_true rfl), (Nat.le_of_ble_eq_true rfl)⟩ rfl rfl rfl rfl hl.1 rfl (Nat.le_of_ble_eq_true rfl) dX9_hall_197 (fun H locs hw => ?_)
          obtain rfl := Option.some.inj hf
          exact qt_i C hr hlocks hw dX9_hall_200
        · have hf := it_t h8 hf
          refine lv_aload_n hx hb dX9_hall_67 rfl (lv_at hl 1 rfl) ?_
          refine lv_bipush (v := (-100)) hx hb dX9_hall_68 ib_m100 ?_
          refine lv_aload_n hx hb dX9_hall_70 rfl (lv_at hl 1 rfl) ?_
          refine mg_9 C hw dX9_hall_71 ?_
          refine lv_isub hx hb dX9_hall_74 ?_
          refine ct_V1 (q0 := 0) (ci := 9) (rest := []) C hw hA (kX9_refused l D cI cB cS a0 am _ _) cfX9_refused tg_747 tg_749 ts_yX9_refused ⟨(Nat.le_of_ble_eq_true rfl), (Nat.le_of_ble_eq_true rfl)⟩ ⟨(Nat.le_of_ble_eq_true rfl), (Nat.le_of_ble_eq_true rfl)⟩ rfl rfl rfl rfl hl.1 rfl (Nat.le_of_ble_eq_true rfl) dX9_hall_75 (fun H locs hw => ?_)
          obtain rfl := Option.some.inj hf
          exact qt_i C hr hlocks hw dX9_hall_78
      · have hf := it_f h5 hf
        refine lv_iload hx hb dX9_hall_49 (lv_at hl 0 rfl) ?_
        obtain rfl := Option.some.inj hf
        exact qt_i C hr hlocks hw dX9_hall_51
    · have hf := it_t h2 hf
      refine lv_aload_n hx hb dX9_hall_25 rfl (lv_at hl 0 rfl) ?_
      refine lv_bipush (v := (-2)) hx hb dX9_hall_26 ib_m2 ?_
      refine ct_V1 (q0 := 0) (ci := 9) (rest := []) C hw hA (kX9_refused l D cI cB cS a0 am _ _) cfX9_refused tg_747 tg_749 ts_yX9_refused ⟨(Nat.le_of_ble_eq_true rfl), (Nat.le_of_ble_eq_true rfl)⟩ ⟨(Nat.le_of_ble_eq_true rfl), (Nat.le_of_ble_eq_true rfl)⟩ rfl rfl rfl rfl hl.1 rfl (Nat.le_of_ble_eq_true rfl) dX9_hall_28 (fun H locs hw => ?_)
      obtain rfl := Option.some.inj hf
      exact qt_i C hr hlocks hw dX9_hall_31
  · have hf := it_f h1 hf
    refine lv_aload_n hx hb dX9_hall_7 rfl (lv_at hl 0 rfl) ?_
    refine lv_iconst (v := (-1)) hx hb dX9_hall_8 ic_m1 ?_
    refine ct_V1 (q0 := 0) (ci := 9) (rest := []) C hw hA (kX9_refused l D cI cB cS a0 am _ _) cfX9_refused tg_747 tg_749 ts_yX9_refused ⟨(Nat.le_of_ble_eq_true rfl), (Nat.le_of_ble_eq_true rfl)⟩ ⟨(Nat.le_of_ble_eq_true rfl), (Nat.le_of_ble_eq_true rfl)⟩ rfl rfl rfl rfl hl.1 rfl (Nat.le_of_ble_eq_true rfl) dX9_hall_9 (fun H locs hw => ?_)
    obtain rfl := Option.some.inj hf
    exact qt_i C hr hlocks hw dX9_hall_12
theorem cfX9_sitDown : cf yX9_sitDown cX9_sitDown 3 none 1 := ⟨tg_793, by decide +kernel, tg_7⟩
set_option maxHeartbeats 4000000 in
theorem wX9_sitDown_2 {p : Program} {l : Launch} {e : Env} {s : State} {m : MethodId} {args : Array Value} {below : List Frame} {meth : Method} {c : Code} {D : va_G} {cI cB cS : ClassId} {a0 : Nat} {am : Nat → Nat} {ws0 : va_W} {v1 : Int32} (C : cx p c cX9_sitDown 3 s args m RX9 D cI cB cS) (hr : meth.sig.returnType = none) (hlocks : meth.locks = false) (hA : ∀ q, s.heap.size ≤ q → va_A ws0 s.heap.size q) {k : MS → Option MS} {q : MS}
    (hcg : True) : ∀ (fu : Nat) (v2 : Int32) (M : MS) (H : Heap) (locs : List Loc) (ls : Array Slot), wd D (va_A ws0 s.heap.size) s.heap (mW cI a0 am M) H locs → lv_has ls 3 [(0, .ref a0), (1, .int v1), (2, .int v2)] → fX9_sitDown_2 fu k v1 v2 M = some q →
    (∀  (M1 : MS) (H : Heap) (locs : List Loc) (ls : Array Slot), wd D (va_A ws0 s.heap.size) s.heap (mW cI a0 am M1) H locs → lv_has ls 3 [] → k  M1 = some q → W p l e { frames := 1, cells := 0, slots := 0, locals := 21 } s m args below meth c H locs 0 0 (Qt D below args s ws0 none (mW cI a0 am q)) (F0 m 41 ls [])) →
    W p l e { frames := 1, cells := 0, slots := 0, locals := 21 } s m args below meth c H locs 0 0 (Qt D below args s ws0 none (mW cI a0 am q)) (F0 m 2 ls []) := by
  have hx := C.1
  have hb := C.2.1
  intro fu
  induction fu with
  | zero => intro v2 M H locs ls hw hl hf hk; rw [fX9_sitDown_2] at hf; cases hf
  | succ fu ih =>
      intro v2 M H locs ls hw hl hf hk
      rw [fX9_sitDown_2] at hf
      refine lv_iload_n hx hb dX9_sitDown_2 rfl (lv_at hl 2 rfl) ?_
      refine lv_aload_n hx hb dX9_sitDown_3 rfl (lv_at hl 0 rfl) ?_
      refine mg_3 C hw dX9_sitDown_4 ?_
      refine lv_icmp_ge (tgt := 41) hx hb dX9_sitDown_7 (by decide) (fun h1 => ?_) (fun h1 => ?_)
      · have hf := it_t h1 hf
        exact hk _ _ _ _ hw (lv_sub hl [] rfl) hf
      · have hf := it_f h1 hf
        refine lv_aload_n hx hb dX9_sitDown_10 rfl (lv_at hl 0 rfl) ?_
        refine mg_15 C hw dX9_sitDown_11 ?_
        refine lv_iload_n hx hb dX9_sitDown_14 rfl (lv_at hl 2 rfl) ?_
        refine lv_iload_n hx hb dX9_sitDown_15 rfl (lv_at hl 1 rfl) ?_
        refine lv_iload_n hx hb dX9_sitDown_16 rfl (lv_at hl 2 rfl) ?_
        refine ct_S1 (rest := [.int v2, .ref (am 15)]) C hw hA (kX9_isIn l D cI cB cS _ _ _) cfX9_isIn tg_794 tg_795 ⟨(Nat.le_of_ble_eq_true rfl), (Nat.le_of_ble_eq_true rfl)⟩ ⟨(Nat.le_of_ble_eq_true rfl), (Nat.le_of_ble_eq_true rfl)⟩ rfl hl.1 rfl (Nat.le_of_ble_eq_true rfl) dX9_sitDown_17 (fun H locs hw => ?_)
        refine lv_if_eq (tgt := 32) hx hb dX9_sitDown_20 (by decide) (fun h2 => ?_) (fun h2 => ?_)
        · have hf := it_t h2 hf
          refine lv_bipush (v := (-9)) hx hb dX9_sitDown_32 ib_m9 ?_
          obtain ⟨g3, hf⟩ := gd_inv hf
          refine ms_15 C hw g3 dX9_sitDown_34 (fun H locs hw => ?_)
          refine lv_iinc (v := (v2 + 1)) (lv' := [(2, .int (v2 + 1)), (0, .ref a0), (1, .int v1)]) hx hb dX9_sitDown_35 hl (k := 2) rfl (iv_1 _) (by decide) rfl (fun ls hl => ?_)
          refine lv_goto (tgt := 2) hx hb dX9_sitDown_38 (by decide) ?_
          exact ih _ _ _ _ _ hw (lv_sub hl [1, 2, 0] rfl) hf hk
        · have hf := it_f h2 hf
          refine lv_aload_n hx hb dX9_sitDown_23 rfl (lv_at hl 0 rfl) ?_
          refine mg_6 C hw dX9_sitDown_24 ?_
          refine lv_iload_n hx hb dX9_sitDown_27 rfl (lv_at hl 2 rfl) ?_
          obtain ⟨g4, hf⟩ := gd_inv hf
          refine ml_6 C hw g4 dX9_sitDown_28 ?_
          refine lv_goto (tgt := 34) hx hb dX9_sitDown_29 (by decide) ?_
          obtain ⟨g5, hf⟩ := gd_inv hf
          refine ms_15 C hw g5 dX9_sitDown_34 (fun H locs hw => ?_)
          refine lv_iinc (v := (v2 + 1)) (lv' := [(2, .int (v2 + 1)), (0, .ref a0), (1, .int v1)]) hx hb dX9_sitDown_35 hl (k := 2) rfl (iv_1 _) (by decide) rfl (fun ls hl => ?_)
          refine lv_goto (tgt := 2) hx hb dX9_sitDown_38 (by decide) ?_
          exact ih _ _ _ _ _ hw (lv_sub hl [1, 2, 0] rfl) hf hk
set_option maxHeartbeats 4000000 in
theorem kX9_sitDown (l : Launch) (D : va_G) (cI cB cS : ClassId) (a0 : Nat) (am : Nat → Nat) {p1 : Int32} {M : MS} {q : MS} (hf : fX9_sitDown p1 M = some q) : Ct l D cI cB cS yX9_sitDown cX9_sitDown 3 none 1 21 [.ref a0, .int p1] (mW cI a0 am M) none (mW cI a0 am q) := by
  refine Ct.ofW (by decide) (Nat.le_of_ble_eq_true rfl) ?_
  intro p e s m args below meth c ls C hr hlocks _ hw hl
  have hx := C.1
  have hb := C.2.1
  have hA : ∀ q, s.heap.size ≤ q → va_A (mW cI a0 am M) s.heap.size q := fun q h => Or.inr h
  have hcg := trivial
  have hl : lv_has ls 3 [(0, .ref a0), (1, .int p1)] := hl
  unfold fX9_sitDown at hf
  refine lv_iconst (v := 0) hx hb dX9_sitDown_0 ic_0 ?_
  refine lv_istore_n (lv' := [(2, .int 0), (0, .ref a0), (1, .int p1)]) hx hb dX9_sitDown_1 rfl hl (by decide) rfl (fun ls hl => ?_)
  refine wX9_sitDown_2 C hr hlocks hA hcg 300 _ _ _ _ _ hw (lv_sub hl [1, 2, 0] rfl) hf (fun M6 H locs ls hw hl hf => ?_)
  obtain rfl := Option.some.inj hf
  exact qt_v C hr hlocks hw dX9_sitDown_41
theorem cfX9_isTaken : cf yX9_isTaken cX9_isTaken 4 (some .boolean) 1 := ⟨tg_804, by decide +kernel, tg_7⟩
set_option maxHeartbeats 4000000 in
theorem wX9_isTaken_4 {p : Program} {l : Launch} {e : Env} {s : State} {m : MethodId} {args : Array Value} {below : List Frame} {meth : Method} {c : Code} {D : va_G} {cI cB cS : ClassId} {a0 : Nat} {am : Nat → Nat} {ws0 : va_W} {v1 : Int32} {M : MS} (C : cx p c cX9_isTaken 4 s args m RX9 D cI cB cS) (hr : meth.sig.returnType = (some .boolean)) (hlocks : meth.locks = false) (hA : ∀ q, s.heap.size ≤ q → va_A ws0 s.heap.size q) {k : Int32 → Option Int32} {q : Int32}
    (hcg : True) : ∀ (fu : Nat) (v2 : Int32) (v3 : Int32) (H : Heap) (locs : List Loc) (ls : Array Slot), wd D (va_A ws0 s.heap.size) s.heap (mW cI a0 am M) H locs → lv_has ls 4 [(0, .ref a0), (1, .int v1), (2, .int v2), (3, .int v3)] → fX9_isTaken_4 fu k v1 v2 v3 M = some q →
    (∀ (x2 : Int32) (H : Heap) (locs : List Loc) (ls : Array Slot), wd D (va_A ws0 s.heap.size) s.heap (mW cI a0 am M) H locs → lv_has ls 4 [(2, .int x2)] → k x2 = some q → W p l e { frames := 0, cells := 0, slots := 0, locals := 0 } s m args below meth c H locs 0 0 (Qt D below args s ws0 (some (.int q)) (mW cI a0 am M)) (F0 m 38 ls [])) →
    W p l e { frames := 0, cells := 0, slots := 0, locals := 0 } s m args below meth c H locs 0 0 (Qt D below args s ws0 (some (.int q)) (mW cI a0 am M)) (F0 m 4 ls []) := by
  have hx := C.1
  have hb := C.2.1
  intro fu
  induction fu with
  | zero => intro v2 v3 H locs ls hw hl hf hk; rw [fX9_isTaken_4] at hf; cases hf
  | succ fu ih =>
      intro v2 v3 H locs ls hw hl hf hk
      rw [fX9_isTaken_4] at hf
      refine lv_iload_n hx hb dX9_isTaken_4 rfl (lv_at hl 3 rfl) ?_
      refine lv_aload_n hx hb dX9_isTaken_5 rfl (lv_at hl 0 rfl) ?_
      refine mg_3 C hw dX9_isTaken_6 ?_
      refine lv_icmp_ge (tgt := 38) hx hb dX9_isTaken_9 (by decide) (fun h1 => ?_) (fun h1 => ?_)
      · have hf := it_t h1 hf
        exact hk _ _ _ _ hw (lv_sub hl [2] rfl) hf
      · have hf := it_f h1 hf
        refine lv_iload_n hx hb dX9_isTaken_12 rfl (lv_at hl 2 rfl) ?_
        refine lv_if_ne (tgt := 26) hx hb dX9_isTaken_13 (by decide) (fun h2 => ?_) (fun h2 => ?_)
        · have hf := it_f h2 hf
          refine lv_iconst (v := 1) hx hb dX9_isTaken_26 ic_1 ?_
          refine lv_goto (tgt := 31) hx hb dX9_isTaken_27 (by decide) ?_
          refine lv_istore_n (lv' := [(2, .int 1), (0, .ref a0), (1, .int v1), (3, .int v3)]) hx hb dX9_isTaken_31 rfl hl (by decide) rfl (fun ls hl => ?_)
          refine lv_iinc (v := (v3 + 1)) (lv' := [(3, .int (v3 + 1)), (2, .int 1), (0, .ref a0), (1, .int v1)]) hx hb dX9_isTaken_32 hl (k := 3) rfl (iv_1 _) (by decide) rfl (fun ls hl => ?_)
          refine lv_goto (tgt := 4) hx hb dX9_isTaken_35 (by decide) ?_
          exact ih _ _ _ _ _ hw (lv_sub hl [2, 3, 1, 0] rfl) hf hk
        · have hf := it_t h2 hf
          refine lv_aload_n hx hb dX9_isTaken_16 rfl (lv_at hl 0 rfl) ?_
          refine mg_15 C hw dX9_isTaken_17 ?_
          refine lv_iload_n hx hb dX9_isTaken_20 rfl (lv_at hl 3 rfl) ?_
          obtain ⟨g3, hf⟩ := gd_inv hf
          refine ml_15 C hw g3 dX9_isTaken_21 ?_
          refine lv_iload_n hx hb dX9_isTaken_22 rfl (lv_at hl 1 rfl) ?_
          refine lv_icmp_ne (tgt := 30) hx hb dX9_isTaken_23 (by decide) (fun h4 => ?_) (fun h4 => ?_)
          · have hf := it_f h4 hf
            refine lv_iconst (v := 0) hx hb dX9_isTaken_30 ic_0 ?_
            refine lv_istore_n (lv' := [(2, .int 0), (0, .ref a0), (1, .int v1), (3, .int v3)]) hx hb dX9_isTaken_31 rfl hl (by decide) rfl (fun ls hl => ?_)
            refine lv_iinc (v := (v3 + 1)) (lv' := [(3, .int (v3 + 1)), (2, .int 0), (0, .ref a0), (1, .int v1)]) hx hb dX9_isTaken_32 hl (k := 3) rfl (iv_1 _) (by decide) rfl (fun ls hl => ?_)
            refine lv_goto (tgt := 4) hx hb dX9_isTaken_35 (by decide) ?_
            exact ih _ _ _ _ _ hw (lv_sub hl [2, 3, 1, 0] rfl) hf hk
          · have hf := it_t h4 hf
            refine lv_iconst (v := 1) hx hb dX9_isTaken_26 ic_1 ?_
            refine lv_goto (tgt := 31) hx hb dX9_isTaken_27 (by decide) ?_
            refine lv_istore_n (lv' := [(2, .int 1), (0, .ref a0), (1, .int v1), (3, .int v3)]) hx hb dX9_isTaken_31 rfl hl (by decide) rfl (fun ls hl => ?_)
            refine lv_iinc (v := (v3 + 1)) (lv' := [(3, .int (v3 + 1)), (2, .int 1), (0, .ref a0), (1, .int v1)]) hx hb dX9_isTaken_32 hl (k := 3) rfl (iv_1 _) (by decide) rfl (fun ls hl => ?_)
            refine lv_goto (tgt := 4) hx hb dX9_isTaken_35 (by decide) ?_
            exact ih _ _ _ _ _ hw (lv_sub hl [2, 3, 1, 0] rfl) hf hk
set_option maxHeartbeats 4000000 in
theorem kX9_isTaken (l : Launch) (D : va_G) (cI cB cS : ClassId) (a0 : Nat) (am : Nat → Nat) {p1 : Int32} {M : MS} {q : Int32} (hf : fX9_isTaken p1 M = some q) : Ct l D cI cB cS yX9_isTaken cX9_isTaken 4 (some .boolean) 0 0 [.ref a0, .int p1] (mW cI a0 am M) (some (.int q)) (mW cI a0 am M) := by
  refine Ct.ofW (by decide) (Nat.le_of_ble_eq_true rfl) ?_
  intro p e s m args below meth c ls C hr hlocks _ hw hl
  have hx := C.1
  have hb := C.2.1
  have hA : ∀ q, s.heap.size ≤ q → va_A (mW cI a0 am M) s.heap.size q := fun q h => Or.inr h
  have hcg := trivial
  have hl : lv_has ls 4 [(0, .ref a0), (1, .int p1)] := hl
  unfold fX9_isTaken at hf
  refine lv_iconst (v := 0) hx hb dX9_isTaken_0 ic_0 ?_
  refine lv_istore_n (lv' := [(2, .int 0), (0, .ref a0), (1, .int p1)]) hx hb dX9_isTaken_1 rfl hl (by decide) rfl (fun ls hl => ?_)
  refine lv_iconst (v := 0) hx hb dX9_isTaken_2 ic_0 ?_
  refine lv_istore_n (lv' := [(3, .int 0), (2, .int 0), (0, .ref a0), (1, .int p1)]) hx hb dX9_isTaken_3 rfl hl (by decide) rfl (fun ls hl => ?_)
  refine wX9_isTaken_4 C hr hlocks hA hcg 300 _ _ _ _ _ hw (lv_sub hl [2, 3, 1, 0] rfl) hf (fun x5 H locs ls hw hl hf => ?_)
  refine lv_iload_n hx hb dX9_isTaken_38 rfl (lv_at hl 0 rfl) ?_
  obtain ⟨z6, hf⟩ := zb_inv hf
  obtain rfl := Option.some.inj hf
  exact qt_z C hr hlocks z6 hw dX9_isTaken_39
theorem cfX9_isSeen : cf yX9_isSeen cX9_isSeen 2 (some .boolean) 1 := ⟨tg_800, by decide +kernel, tg_7⟩
set_option maxHeartbeats 4000000 in
theorem kX9_isSeen (l : Launch) (D : va_G) (cI cB cS : ClassId) (a0 : Nat) (am : Nat → Nat) {p1 : Int32} {M : MS} {q : Int32} (hf : fX9_isSeen p1 M = some q) : Ct l D cI cB cS yX9_isSeen cX9_isSeen 2 (some .boolean) 1 23 [.ref a0, .int p1] (mW cI a0 am M) (some (.int q)) (mW cI a0 am M) := by
  refine Ct.ofW (by decide) (Nat.le_of_ble_eq_true rfl) ?_
  intro p e s m args below meth c ls C hr hlocks _ hw hl
  have hx := C.1
  have hb := C.2.1
  have hA : ∀ q, s.heap.size ≤ q → va_A (mW cI a0 am M) s.heap.size q := fun q h => Or.inr h
  have hcg := trivial
  have hl : lv_has ls 2 [(0, .ref a0), (1, .int p1)] := hl
  unfold fX9_isSeen at hf
  refine lv_aload_n hx hb dX9_isSeen_0 rfl (lv_at hl 0 rfl) ?_
  refine mg_4 C hw dX9_isSeen_1 ?_
  refine lv_iload_n hx hb dX9_isSeen_4 rfl (lv_at hl 1 rfl) ?_
  obtain ⟨g1, hf⟩ := gd_inv hf
  refine ml_4 C hw g1 dX9_isSeen_5 ?_
  refine lv_if_eq (tgt := 40) hx hb dX9_isSeen_6 (by decide) (fun h2 => ?_) (fun h2 => ?_)
  · have hf := it_t h2 hf
    refine lv_iconst (v := 1) hx hb dX9_isSeen_40 ic_1 ?_
    refine lv_goto (tgt := 45) hx hb dX9_isSeen_41 (by decide) ?_
    obtain rfl := Option.some.inj hf
    exact qt_z C hr hlocks (Or.inr rfl) hw dX9_isSeen_45
  · have hf := it_f h2 hf
    refine lv_aload_n hx hb dX9_isSeen_9 rfl (lv_at hl 0 rfl) ?_
    refine mg_15 C hw dX9_isSeen_10 ?_
    refine lv_iload_n hx hb dX9_isSeen_13 rfl (lv_at hl 1 rfl) ?_
    obtain ⟨g3, hf⟩ := gd_inv hf
    refine ml_15 C hw g3 dX9_isSeen_14 ?_
    refine lv_aload_n hx hb dX9_isSeen_15 rfl (lv_at hl 0 rfl) ?_
    refine mg_2 C hw dX9_isSeen_16 ?_
    refine lv_icmp_lt (tgt := 40) hx hb dX9_isSeen_19 (by decide) (fun h4 => ?_) (fun h4 => ?_)
    · have hf := it_t h4 hf
      refine lv_iconst (v := 1) hx hb dX9_isSeen_40 ic_1 ?_
      refine lv_goto (tgt := 45) hx hb dX9_isSeen_41 (by decide) ?_
      obtain rfl := Option.some.inj hf
      exact qt_z C hr hlocks (Or.inr rfl) hw dX9_isSeen_45
    · have hf := it_f h4 hf
      refine lv_aload_n hx hb dX9_isSeen_22 rfl (lv_at hl 0 rfl) ?_
      refine lv_aload_n hx hb dX9_isSeen_23 rfl (lv_at hl 0 rfl) ?_
      refine mg_15 C hw dX9_isSeen_24 ?_
      refine lv_iload_n hx hb dX9_isSeen_27 rfl (lv_at hl 1 rfl) ?_
      obtain ⟨g5, hf⟩ := gd_inv hf
      refine ml_15 C hw g5 dX9_isSeen_28 ?_
      refine lv_aload_n hx hb dX9_isSeen_29 rfl (lv_at hl 0 rfl) ?_
      refine mg_2 C hw dX9_isSeen_30 ?_
      refine lv_isub hx hb dX9_isSeen_33 ?_
      obtain ⟨r6, e7, hf⟩ := bd hf
      refine ct_V1 (q0 := 0) (ci := 9) (rest := []) C hw hA (kX9_isTaken l D cI cB cS a0 am e7) cfX9_isTaken tg_801 tg_803 ts_yX9_isTaken ⟨(Nat.le_of_ble_eq_true rfl), (Nat.le_of_ble_eq_true rfl)⟩ ⟨(Nat.le_of_ble_eq_true rfl), (Nat.le_of_ble_eq_true rfl)⟩ rfl rfl rfl rfl hl.1 rfl (Nat.le_of_ble_eq_true rfl) dX9_isSeen_34 (fun H locs hw => ?_)
      refine lv_if_ne (tgt := 44) hx hb dX9_isSeen_37 (by decide) (fun h8 => ?_) (fun h8 => ?_)
      · have hf := it_f h8 hf
        refine lv_iconst (v := 0) hx hb dX9_isSeen_44 ic_0 ?_
        obtain rfl := Option.some.inj hf
        exact qt_z C hr hlocks (Or.inl rfl) hw dX9_isSeen_45
      · have hf := it_t h8 hf
        refine lv_iconst (v := 1) hx hb dX9_isSeen_40 ic_1 ?_
        refine lv_goto (tgt := 45) hx hb dX9_isSeen_41 (by decide) ?_
        obtain rfl := Option.some.inj hf
        exact qt_z C hr hlocks (Or.inr rfl) hw dX9_isSeen_45
theorem cfX9_ofBuyer : cf yX9_ofBuyer cX9_ofBuyer 3 (some .int) 2 := ⟨tg_785, by decide +kernel, tg_7⟩
set_option maxHeartbeats 4000000 in
theorem kX9_ofBuyer (l : Launch) (D : va_G) (cI cB cS : ClassId) (a0 : Nat) (am : Nat → Nat) {p1 : Int32} {p2 : Int32} {M : MS} {q : (Int32 × MS)} (hf : fX9_ofBuyer p1 p2 M = some q) : Ct l D cI cB cS yX9_ofBuyer cX9_ofBuyer 3 (some .int) 2 46 [.ref a0, .int p1, .int p2] (mW cI a0 am M) (some (.int q.1)) (mW cI a0 am q.2) := by
  refine Ct.ofW (by decide) (Nat.le_of_ble_eq_true rfl) ?_
  intro p e s m args below meth c ls C hr hlocks _ hw hl
  have hx := C.1
  have hb := C.2.1
  have hA : ∀ q, s.heap.size ≤ q → va_A (mW cI a0 am M) s.heap.size q := fun q h => Or.inr h
  have hcg := trivial
  have hl : lv_has ls 3 [(0, .ref a0), (1, .int p1), (2, .int p2)] := hl
  unfold fX9_ofBuyer at hf
  refine lv_aload_n hx hb dX9_ofBuyer_0 rfl (lv_at hl 0 rfl) ?_
  refine lv_iload_n hx hb dX9_ofBuyer_1 rfl (lv_at hl 1 rfl) ?_
  refine ct_V1 (q0 := 0) (ci := 9) (rest := []) C hw hA (kX9_noBuyer l D cI cB cS a0 am _ _) cfX9_noBuyer tg_786 tg_788 ts_yX9_noBuyer ⟨(Nat.le_of_ble_eq_true rfl), (Nat.le_of_ble_eq_true rfl)⟩ ⟨(Nat.le_of_ble_eq_true rfl), (Nat.le_of_ble_eq_true rfl)⟩ rfl rfl rfl rfl hl.1 rfl (Nat.le_of_ble_eq_true rfl) dX9_ofBuyer_2 (fun H locs hw => ?_)
  refine lv_if_eq (tgt := 10) hx hb dX9_ofBuyer_5 (by decide) (fun h1 => ?_) (fun h1 => ?_)
  · have hf := it_t h1 hf
    refine lv_iload_n hx hb dX9_ofBuyer_10 rfl (lv_at hl 2 rfl) ?_
    rcases Decidable.em (p2 = 0) with h2 | h2
    · have hf := it_t h2 hf
      refine lv_tableIn (off := 29) (tgt := 40) hx hb dX9_ofBuyer_11 (by rw [h2]; decide) (by rw [h2]; decide) (by rw [h2]; rfl) (by decide) ?_
      refine lv_aload_n hx hb dX9_ofBuyer_40 rfl (lv_at hl 0 rfl) ?_
      refine mg_4 C hw dX9_ofBuyer_41 ?_
      refine lv_iload_n hx hb dX9_ofBuyer_44 rfl (lv_at hl 1 rfl) ?_
      obtain ⟨g3, hf⟩ := gd_inv hf
      refine ml_4 C hw g3 dX9_ofBuyer_45 ?_
      obtain rfl := Option.some.inj hf
      exact qt_i C hr hlocks hw dX9_ofBuyer_46
    · have hf := it_f h2 hf
      rcases Decidable.em (p2 = 1) with h4 | h4
      · have hf := it_t h4 hf
        refine lv_tableIn (off := 36) (tgt := 47) hx hb dX9_ofBuyer_11 (by rw [h4]; decide) (by rw [h4]; decide) (by rw [h4]; rfl) (by decide) ?_
        refine lv_aload_n hx hb dX9_ofBuyer_47 rfl (lv_at hl 0 rfl) ?_
        refine mg_6 C hw dX9_ofBuyer_48 ?_
        refine lv_iload_n hx hb dX9_ofBuyer_51 rfl (lv_at hl 1 rfl) ?_
        obtain ⟨g5, hf⟩ := gd_inv hf
        refine ml_6 C hw g5 dX9_ofBuyer_52 ?_
        obtain rfl := Option.some.inj hf
        exact qt_i C hr hlocks hw dX9_ofBuyer_53
      · have hf := it_f h4 hf
        rcases Decidable.em (p2 = 2) with h6 | h6
        · have hf := it_t h6 hf
          refine lv_tableIn (off := 43) (tgt := 54) hx hb dX9_ofBuyer_11 (by rw [h6]; decide) (by rw [h6]; decide) (by rw [h6]; rfl) (by decide) ?_
          refine lv_aload_n hx hb dX9_ofBuyer_54 rfl (lv_at hl 0 rfl) ?_
          refine mg_5 C hw dX9_ofBuyer_55 ?_
          refine lv_iload_n hx hb dX9_ofBuyer_58 rfl (lv_at hl 1 rfl) ?_
          obtain ⟨g7, hf⟩ := gd_inv hf
          refine ml_5 C hw g7 dX9_ofBuyer_59 ?_
          obtain rfl := Option.some.inj hf
          exact qt_i C hr hlocks hw dX9_ofBuyer_60
        · have hf := it_f h6 hf
          rcases Decidable.em (p2 = 3) with h8 | h8
          · have hf := it_t h8 hf
            refine lv_tableIn (off := 50) (tgt := 61) hx hb dX9_ofBuyer_11 (by rw [h8]; decide) (by rw [h8]; decide) (by rw [h8]; rfl) (by decide) ?_
            refine lv_aload_n hx hb dX9_ofBuyer_61 rfl (lv_at hl 0 rfl) ?_
            refine lv_iconst (v := 1) hx hb dX9_ofBuyer_62 ic_1 ?_
            refine lv_aload_n hx hb dX9_ofBuyer_63 rfl (lv_at hl 0 rfl) ?_
            refine mg_3 C hw dX9_ofBuyer_64 ?_
            refine lv_ishl hx hb dX9_ofBuyer_67 ?_
            refine lv_iconst (v := 1) hx hb dX9_ofBuyer_68 ic_1 ?_
            refine lv_isub hx hb dX9_ofBuyer_69 ?_
            obtain ⟨r9, e10, hf⟩ := bd hf
            refine ct_V0 (q0 := 0) (ci := 9) (rest := []) C hw hA (kX9_sitDown l D cI cB cS a0 am e10) cfX9_sitDown tg_790 tg_792 ts_yX9_sitDown ⟨(Nat.le_of_ble_eq_true rfl), (Nat.le_of_ble_eq_true rfl)⟩ ⟨(Nat.le_of_ble_eq_true rfl), (Nat.le_of_ble_eq_true rfl)⟩ rfl rfl rfl rfl hl.1 rfl (Nat.le_of_ble_eq_true rfl) dX9_ofBuyer_70 (fun H locs hw => ?_)
            refine lv_aload_n hx hb dX9_ofBuyer_73 rfl (lv_at hl 0 rfl) ?_
            refine lv_iload_n hx hb dX9_ofBuyer_74 rfl (lv_at hl 1 rfl) ?_
            obtain ⟨r11, e12, hf⟩ := bd hf
            refine ct_V1 (q0 := 0) (ci := 9) (rest := []) C hw hA (kX9_isSeen l D cI cB cS a0 am e12) cfX9_isSeen tg_797 tg_799 ts_yX9_isSeen ⟨(Nat.le_of_ble_eq_true rfl), (Nat.le_of_ble_eq_true rfl)⟩ ⟨(Nat.le_of_ble_eq_true rfl), (Nat.le_of_ble_eq_true rfl)⟩ rfl rfl rfl rfl hl.1 rfl (Nat.le_of_ble_eq_true rfl) dX9_ofBuyer_75 (fun H locs hw => ?_)
            refine lv_if_eq (tgt := 85) hx hb dX9_ofBuyer_78 (by decide) (fun h13 => ?_) (fun h13 => ?_)
            · have hf := it_t h13 hf
              refine lv_iconst (v := 0) hx hb dX9_ofBuyer_85 ic_0 ?_
              obtain rfl := Option.some.inj hf
              exact qt_i C hr hlocks hw dX9_ofBuyer_86
            · have hf := it_f h13 hf
              refine lv_iconst (v := 1) hx hb dX9_ofBuyer_81 ic_1 ?_
              refine lv_goto (tgt := 86) hx hb dX9_ofBuyer_82 (by decide) ?_
              obtain rfl := Option.some.inj hf
              exact qt_i C hr hlocks hw dX9_ofBuyer_86
          · have hf := it_f h8 hf
            refine lv_tableOut (tgt := 87) hx hb dX9_ofBuyer_11 (sw_out3 h2 h4 h6 h8) (by decide) ?_
            refine lv_bipush (v := (-2)) hx hb dX9_ofBuyer_87 ib_m2 ?_
            obtain rfl := Option.some.inj hf
            exact qt_i C hr hlocks hw dX9_ofBuyer_89
  · have hf := it_f h1 hf
    refine lv_iconst (v := (-1)) hx hb dX9_ofBuyer_8 ic_m1 ?_
    obtain rfl := Option.some.inj hf
    exact qt_i C hr hlocks hw dX9_ofBuyer_9
theorem cfX9_worth : cf yX9_worth cX9_worth 5 (some .int) 3 := ⟨tg_808, by decide +kernel, tg_7⟩
set_option maxHeartbeats 4000000 in
theorem kX9_worth (l : Launch) (D : va_G) (cI cB cS : ClassId) (a0 : Nat) (am : Nat → Nat) {p1 : Int32} {p2 : Int32} {p3 : Int32} {M : MS} {q : (Int32 × MS)} (hf : fX9_worth p1 p2 p3 M = some q) : Ct l D cI cB cS yX9_worth cX9_worth 5 (some .int) 2 46 [.ref a0, .int p1, .int p2, .int p3] (mW cI a0 am M) (some (.int q.1)) (mW cI a0 am q.2) := by
  refine Ct.ofW (by decide) (Nat.le_of_ble_eq_true rfl) ?_
  intro p e s m args below meth c ls C hr hlocks _ hw hl
  have hx := C.1
  have hb := C.2.1
  have hA : ∀ q, s.heap.size ≤ q → va_A (mW cI a0 am M) s.heap.size q := fun q h => Or.inr h
  have hcg := trivial
  have hl : lv_has ls 5 [(0, .ref a0), (1, .int p1), (2, .int p2), (3, .int p3)] := hl
  unfold fX9_worth at hf
  refine lv_aload_n hx hb dX9_worth_0 rfl (lv_at hl 0 rfl) ?_
  refine lv_iload_n hx hb dX9_worth_1 rfl (lv_at hl 1 rfl) ?_
  refine ct_V1 (q0 := 0) (ci := 9) (rest := []) C hw hA (kX9_noBuyer l D cI cB cS a0 am _ _) cfX9_noBuyer tg_786 tg_788 ts_yX9_noBuyer ⟨(Nat.le_of_ble_eq_true rfl), (Nat.le_of_ble_eq_true rfl)⟩ ⟨(Nat.le_of_ble_eq_true rfl), (Nat.le_of_ble_eq_true rfl)⟩ rfl rfl rfl rfl hl.1 rfl (Nat.le_of_ble_eq_true rfl) dX9_worth_2 (fun H locs hw => ?_)
  refine lv_if_ne (tgt := 15) hx hb dX9_worth_5 (by decide) (fun h1 => ?_) (fun h1 => ?_)
  · have hf := it_f h1 hf
    refine lv_iconst (v := (-1)) hx hb dX9_worth_15 ic_m1 ?_
    obtain rfl := Option.some.inj hf
    exact qt_i C hr hlocks hw dX9_worth_16
  · have hf := it_t h1 hf
    refine lv_iload_n hx hb dX9_worth_8 rfl (lv_at hl 2 rfl) ?_
    refine ct_S1 (rest := []) C hw hA (kX9_noLot l D cI cB cS _ _) cfX9_noLot tg_809 tg_810 ⟨(Nat.le_of_ble_eq_true rfl), (Nat.le_of_ble_eq_true rfl)⟩ ⟨(Nat.le_of_ble_eq_true rfl), (Nat.le_of_ble_eq_true rfl)⟩ rfl hl.1 rfl (Nat.le_of_ble_eq_true rfl) dX9_worth_9 (fun H locs hw => ?_)
    refine lv_if_eq (tgt := 17) hx hb dX9_worth_12 (by decide) (fun h2 => ?_) (fun h2 => ?_)
    · have hf := it_t h2 hf
      refine lv_iload_n hx hb dX9_worth_17 rfl (lv_at hl 3 rfl) ?_
      refine lv_i2l (v := (p3.toInt64)) hx hb dX9_worth_18 rfl ?_
      refine lv_lconst (v := 0) hx hb dX9_worth_19 rfl ?_
      refine lv_ldc2 (v := (99 : Int64)) hx hb C.2.2.2.1 (C.2.2.2.2.1 _ tg_812) dX9_worth_20 ?_
      refine ct_S1 (rest := []) C hw hA (kX9_in l D cI cB cS _ _ _ _) cfX9_in tg_744 tg_745 ⟨(Nat.le_of_ble_eq_true rfl), (Nat.le_of_ble_eq_true rfl)⟩ ⟨(Nat.le_of_ble_eq_true rfl), (Nat.le_of_ble_eq_true rfl)⟩ rfl hl.1 rfl (Nat.le_of_ble_eq_true rfl) dX9_worth_23 (fun H locs hw => ?_)
      refine lv_if_ne (tgt := 32) hx hb dX9_worth_26 (by decide) (fun h3 => ?_) (fun h3 => ?_)
      · have hf := it_f h3 hf
        refine lv_aload_n hx hb dX9_worth_32 rfl (lv_at hl 0 rfl) ?_
        refine mg_7 C hw dX9_worth_33 ?_
        refine lv_iconst (v := 4) hx hb dX9_worth_36 ic_4 ?_
        refine lv_iload_n hx hb dX9_worth_37 rfl (lv_at hl 1 rfl) ?_
        refine lv_imul hx hb dX9_worth_38 ?_
        refine lv_iload_n hx hb dX9_worth_39 rfl (lv_at hl 2 rfl) ?_
        refine lv_iadd hx hb dX9_worth_40 ?_
        obtain ⟨g4, hf⟩ := gd_inv hf
        refine ml_7 C hw g4 dX9_worth_41 ?_
        refine lv_istore (lv' := [(4, .int (M 7 ((4 * p1) + p2).toNatClampNeg)), (0, .ref a0), (1, .int p1), (2, .int p2), (3, .int p3)]) hx hb dX9_worth_42 hl (by decide) rfl (fun ls hl => ?_)
        refine lv_aload_n hx hb dX9_worth_44 rfl (lv_at hl 1 rfl) ?_
        refine mg_7 C hw dX9_worth_45 ?_
        refine lv_iconst (v := 4) hx hb dX9_worth_48 ic_4 ?_
        refine lv_iload_n hx hb dX9_worth_49 rfl (lv_at hl 2 rfl) ?_
        refine lv_imul hx hb dX9_worth_50 ?_
        refine lv_iload_n hx hb dX9_worth_51 rfl (lv_at hl 3 rfl) ?_
        refine lv_iadd hx hb dX9_worth_52 ?_
        refine lv_iload_n hx hb dX9_worth_53 rfl (lv_at hl 4 rfl) ?_
        obtain ⟨g5, hf⟩ := gd_inv hf
        refine ms_7 C hw g5 dX9_worth_54 (fun H locs hw => ?_)
        refine lv_iload hx hb dX9_worth_55 (lv_at hl 0 rfl) ?_
        obtain rfl := Option.some.inj hf
        exact qt_i C hr hlocks hw dX9_worth_57
      · have hf := it_t h3 hf
        refine lv_bipush (v := (-2)) hx hb dX9_worth_29 ib_m2 ?_
        obtain rfl := Option.some.inj hf
        exact qt_i C hr hlocks hw dX9_worth_31
    · have hf := it_f h2 hf
      refine lv_iconst (v := (-1)) hx hb dX9_worth_15 ic_m1 ?_
      obtain rfl := Option.some.inj hf
      exact qt_i C hr hlocks hw dX9_worth_16
theorem cfX9_limitOf : cf yX9_limitOf cX9_limitOf 4 (some .int) 2 := ⟨tg_820, by decide +kernel, tg_7⟩
set_option maxHeartbeats 4000000 in
theorem kX9_limitOf (l : Launch) (D : va_G) (cI cB cS : ClassId) (a0 : Nat) (am : Nat → Nat) {p1 : Int32} {p2 : Int32} {M : MS} {q : Int32} (hf : fX9_limitOf p1 p2 M = some q) : Ct l D cI cB cS yX9_limitOf cX9_limitOf 4 (some .int) 1 21 [.ref a0, .int p1, .int p2] (mW cI a0 am M) (some (.int q)) (mW cI a0 am M) := by
  refine Ct.ofW (by decide) (Nat.le_of_ble_eq_true rfl) ?_
  intro p e s m args below meth c ls C hr hlocks _ hw hl
  have hx := C.1
  have hb := C.2.1
  have hA : ∀ q, s.heap.size ≤ q → va_A (mW cI a0 am M) s.heap.size q := fun q h => Or.inr h
  have hcg := trivial
  have hl : lv_has ls 4 [(0, .ref a0), (1, .int p1), (2, .int p2)] := hl
  unfold fX9_limitOf at hf
  refine lv_aload_n hx hb dX9_limitOf_0 rfl (lv_at hl 0 rfl) ?_
  refine mg_7 C hw dX9_limitOf_1 ?_
  refine lv_iconst (v := 4) hx hb dX9_limitOf_4 ic_4 ?_
  refine lv_iload_n hx hb dX9_limitOf_5 rfl (lv_at hl 1 rfl) ?_
  refine lv_imul hx hb dX9_limitOf_6 ?_
  refine lv_iload_n hx hb dX9_limitOf_7 rfl (lv_at hl 2 rfl) ?_
  refine lv_iadd hx hb dX9_limitOf_8 ?_
  obtain ⟨g1, hf⟩ := gd_inv hf
  refine ml_7 C hw g1 dX9_limitOf_9 ?_
  refine lv_aload_n hx hb dX9_limitOf_10 rfl (lv_at hl 0 rfl) ?_
  refine mg_5 C hw dX9_limitOf_11 ?_
  refine lv_iload_n hx hb dX9_limitOf_14 rfl (lv_at hl 1 rfl) ?_
  obtain ⟨g2, hf⟩ := gd_inv hf
  refine ml_5 C hw g2 dX9_limitOf_15 ?_
  refine ct_S1 (rest := []) C hw hA (kX9_lesser l D cI cB cS _ _ _) cfX9_lesser tg_779 tg_780 ⟨(Nat.le_of_ble_eq_true rfl), (Nat.le_of_ble_eq_true rfl)⟩ ⟨(Nat.le_of_ble_eq_true rfl), (Nat.le_of_ble_eq_true rfl)⟩ rfl hl.1 rfl (Nat.le_of_ble_eq_true rfl) dX9_limitOf_16 (fun H locs hw => ?_)
  refine lv_istore_n (lv' := [(3, .int (fX9_lesser (M 7 ((4 * p1) + p2).toNatClampNeg) (M 5 p1.toNatClampNeg))), (0, .ref a0), (1, .int p1), (2, .int p2)]) hx hb dX9_limitOf_19 rfl hl (by decide) rfl (fun ls hl => ?_)
  refine lv_aload_n hx hb dX9_limitOf_20 rfl (lv_at hl 1 rfl) ?_
  refine mg_4 C hw dX9_limitOf_21 ?_
  refine lv_iload_n hx hb dX9_limitOf_24 rfl (lv_at hl 2 rfl) ?_
  obtain ⟨g3, hf⟩ := gd_inv hf
  refine ml_4 C hw g3 dX9_limitOf_25 ?_
  refine lv_iconst (v := 2) hx hb dX9_limitOf_26 ic_2 ?_
  refine lv_icmp_ge (tgt := 34) hx hb dX9_limitOf_27 (by decide) (fun h4 => ?_) (fun h4 => ?_)
  · have hf := it_t h4 hf
    refine lv_iload_n hx hb dX9_limitOf_34 rfl (lv_at hl 0 rfl) ?_
    refine lv_iconst (v := 2) hx hb dX9_limitOf_35 ic_2 ?_
    refine lv_icmp_ge (tgt := 43) hx hb dX9_limitOf_36 (by decide) (fun h5 => ?_) (fun h5 => ?_)
    · have hf := it_t h5 hf
      refine lv_iload_n hx hb dX9_limitOf_43 rfl (lv_at hl 0 rfl) ?_
      refine lv_iconst (v := 2) hx hb dX9_limitOf_44 ic_2 ?_
      refine lv_isub hx hb dX9_limitOf_45 ?_
      obtain rfl := Option.some.inj hf
      exact qt_i C hr hlocks hw dX9_limitOf_46
    · have hf := it_f h5 hf
      refine lv_iconst (v := 0) hx hb dX9_limitOf_39 ic_0 ?_
      refine lv_goto (tgt := 46) hx hb dX9_limitOf_40 (by decide) ?_
      obtain rfl := Option.some.inj hf
      exact qt_i C hr hlocks hw dX9_limitOf_46
  · have hf := it_f h4 hf
    refine lv_iload_n hx hb dX9_limitOf_30 rfl (lv_at hl 0 rfl) ?_
    refine lv_goto (tgt := 46) hx hb dX9_limitOf_31 (by decide) ?_
    obtain rfl := Option.some.inj hf
    exact qt_i C hr hlocks hw dX9_limitOf_46
theorem cfX9_limit : cf yX9_limit cX9_limit 3 (some .int) 2 := ⟨tg_816, by decide +kernel, tg_7⟩
set_option maxHeartbeats 4000000 in
theorem kX9_limit (l : Launch) (D : va_G) (cI cB cS : ClassId) (a0 : Nat) (am : Nat → Nat) {p1 : Int32} {p2 : Int32} {M : MS} {q : Int32} (hf : fX9_limit p1 p2 M = some q) : Ct l D cI cB cS yX9_limit cX9_limit 3 (some .int) 2 46 [.ref a0, .int p1, .int p2] (mW cI a0 am M) (some (.int q)) (mW cI a0 am M) := by
  refine Ct.ofW (by decide) (Nat.le_of_ble_eq_true rfl) ?_
  intro p e s m args below meth c ls C hr hlocks _ hw hl
  have hx := C.1
  have hb := C.2.1
  have hA : ∀ q, s.heap.size ≤ q → va_A (mW cI a0 am M) s.heap.size q := fun q h => Or.inr h
  have hcg := trivial
  have hl : lv_has ls 3 [(0, .ref a0), (1, .int p1), (2, .int p2)] := hl
  unfold fX9_limit at hf
  refine lv_aload_n hx hb dX9_limit_0 rfl (lv_at hl 0 rfl) ?_
  refine lv_iload_n hx hb dX9_limit_1 rfl (lv_at hl 1 rfl) ?_
  refine ct_V1 (q0 := 0) (ci := 9) (rest := []) C hw hA (kX9_noBuyer l D cI cB cS a0 am _ _) cfX9_noBuyer tg_786 tg_788 ts_yX9_noBuyer ⟨(Nat.le_of_ble_eq_true rfl), (Nat.le_of_ble_eq_true rfl)⟩ ⟨(Nat.le_of_ble_eq_true rfl), (Nat.le_of_ble_eq_true rfl)⟩ rfl rfl rfl rfl hl.1 rfl (Nat.le_of_ble_eq_true rfl) dX9_limit_2 (fun H locs hw => ?_)
  refine lv_if_ne (tgt := 15) hx hb dX9_limit_5 (by decide) (fun h1 => ?_) (fun h1 => ?_)
  · have hf := it_f h1 hf
    refine lv_iconst (v := (-1)) hx hb dX9_limit_15 ic_m1 ?_
    refine lv_goto (tgt := 25) hx hb dX9_limit_16 (by decide) ?_
    obtain rfl := Option.some.inj hf
    exact qt_i C hr hlocks hw dX9_limit_25
  · have hf := it_t h1 hf
    refine lv_iload_n hx hb dX9_limit_8 rfl (lv_at hl 2 rfl) ?_
    refine ct_S1 (rest := []) C hw hA (kX9_noLot l D cI cB cS _ _) cfX9_noLot tg_809 tg_810 ⟨(Nat.le_of_ble_eq_true rfl), (Nat.le_of_ble_eq_true rfl)⟩ ⟨(Nat.le_of_ble_eq_true rfl), (Nat.le_of_ble_eq_true rfl)⟩ rfl hl.1 rfl (Nat.le_of_ble_eq_true rfl) dX9_limit_9 (fun H locs hw => ?_)
    refine lv_if_eq (tgt := 19) hx hb dX9_limit_12 (by decide) (fun h2 => ?_) (fun h2 => ?_)
    · have hf := it_t h2 hf
      refine lv_aload_n hx hb dX9_limit_19 rfl (lv_at hl 0 rfl) ?_
      refine lv_iload_n hx hb dX9_limit_20 rfl (lv_at hl 1 rfl) ?_
      refine lv_iload_n hx hb dX9_limit_21 rfl (lv_at hl 2 rfl) ?_
      obtain ⟨r3, e4, hf⟩ := bd hf
      refine ct_V1 (q0 := 0) (ci := 9) (rest := []) C hw hA (kX9_limitOf l D cI cB cS a0 am e4) cfX9_limitOf tg_817 tg_819 ts_yX9_limitOf ⟨(Nat.le_of_ble_eq_true rfl), (Nat.le_of_ble_eq_true rfl)⟩ ⟨(Nat.le_of_ble_eq_true rfl), (Nat.le_of_ble_eq_true rfl)⟩ rfl rfl rfl rfl hl.1 rfl (Nat.le_of_ble_eq_true rfl) dX9_limit_22 (fun H locs hw => ?_)
      obtain rfl := Option.some.inj hf
      exact qt_i C hr hlocks hw dX9_limit_25
    · have hf := it_f h2 hf
      refine lv_iconst (v := (-1)) hx hb dX9_limit_15 ic_m1 ?_
      refine lv_goto (tgt := 25) hx hb dX9_limit_16 (by decide) ?_
      obtain rfl := Option.some.inj hf
      exact qt_i C hr hlocks hw dX9_limit_25
theorem cfX9_sitterIn : cf yX9_sitterIn cX9_sitterIn 3 (some .int) 1 := ⟨tg_832, by decide +kernel, tg_7⟩
set_option maxHeartbeats 4000000 in
theorem wX9_sitterIn_2 {p : Program} {l : Launch} {e : Env} {s : State} {m : MethodId} {args : Array Value} {below : List Frame} {meth : Method} {c : Code} {D : va_G} {cI cB cS : ClassId} {a0 : Nat} {am : Nat → Nat} {ws0 : va_W} {v1 : Int32} {M : MS} (C : cx p c cX9_sitterIn 3 s args m RX9 D cI cB cS) (hr : meth.sig.returnType = (some .int)) (hlocks : meth.locks = false) (hA : ∀ q, s.heap.size ≤ q → va_A ws0 s.heap.size q) {k : Unit → Option Int32} {q : Int32}
    (hcg : True) : ∀ (fu : Nat) (v2 : Int32) (H : Heap) (locs : List Loc) (ls : Array Slot), wd D (va_A ws0 s.heap.size) s.heap (mW cI a0 am M) H locs → lv_has ls 3 [(0, .ref a0), (1, .int v1), (2, .int v2)] → fX9_sitterIn_2 fu k v1 v2 M = some q →
    (∀  (H : Heap) (locs : List Loc) (ls : Array Slot), wd D (va_A ws0 s.heap.size) s.heap (mW cI a0 am M) H locs → lv_has ls 3 [] → k () = some q → W p l e { frames := 0, cells := 0, slots := 0, locals := 0 } s m args below meth c H locs 0 0 (Qt D below args s ws0 (some (.int q)) (mW cI a0 am M)) (F0 m 28 ls [])) →
    W p l e { frames := 0, cells := 0, slots := 0, locals := 0 } s m args below meth c H locs 0 0 (Qt D below args s ws0 (some (.int q)) (mW cI a0 am M)) (F0 m 2 ls []) := by
  have hx := C.1
  have hb := C.2.1
  intro fu
  induction fu with
  | zero => intro v2 H locs ls hw hl hf hk; rw [fX9_sitterIn_2] at hf; cases hf
  | succ fu ih =>
      intro v2 H locs ls hw hl hf hk
      rw [fX9_sitterIn_2] at hf
      refine lv_iload_n hx hb dX9_sitterIn_2 rfl (lv_at hl 2 rfl) ?_
      refine lv_aload_n hx hb dX9_sitterIn_3 rfl (lv_at hl 0 rfl) ?_
      refine mg_3 C hw dX9_sitterIn_4 ?_
      refine lv_icmp_ge (tgt := 28) hx hb dX9_sitterIn_7 (by decide) (fun h1 => ?_) (fun h1 => ?_)
      · have hf := it_t h1 hf
        exact hk  _ _ _ hw (lv_sub hl [] rfl) hf
      · have hf := it_f h1 hf
        refine lv_aload_n hx hb dX9_sitterIn_10 rfl (lv_at hl 0 rfl) ?_
        refine mg_6 C hw dX9_sitterIn_11 ?_
        refine lv_iload_n hx hb dX9_sitterIn_14 rfl (lv_at hl 2 rfl) ?_
        obtain ⟨g2, hf⟩ := gd_inv hf
        refine ml_6 C hw g2 dX9_sitterIn_15 ?_
        refine lv_iload_n hx hb dX9_sitterIn_16 rfl (lv_at hl 1 rfl) ?_
        refine lv_icmp_ne (tgt := 22) hx hb dX9_sitterIn_17 (by decide) (fun h3 => ?_) (fun h3 => ?_)
        · have hf := it_f h3 hf
          refine lv_iinc (v := (v2 + 1)) (lv' := [(2, .int (v2 + 1)), (0, .ref a0), (1, .int v1)]) hx hb dX9_sitterIn_22 hl (k := 2) rfl (iv_1 _) (by decide) rfl (fun ls hl => ?_)
          refine lv_goto (tgt := 2) hx hb dX9_sitterIn_25 (by decide) ?_
          exact ih _ _ _ _ hw (lv_sub hl [1, 2, 0] rfl) hf hk
        · have hf := it_t h3 hf
          refine lv_iload_n hx hb dX9_sitterIn_20 rfl (lv_at hl 2 rfl) ?_
          obtain rfl := Option.some.inj hf
          exact qt_i C hr hlocks hw dX9_sitterIn_21
set_option maxHeartbeats 4000000 in
theorem kX9_sitterIn (l : Launch) (D : va_G) (cI cB cS : ClassId) (a0 : Nat) (am : Nat → Nat) {p1 : Int32} {M : MS} {q : Int32} (hf : fX9_sitterIn p1 M = some q) : Ct l D cI cB cS yX9_sitterIn cX9_sitterIn 3 (some .int) 0 0 [.ref a0, .int p1] (mW cI a0 am M) (some (.int q)) (mW cI a0 am M) := by
  refine Ct.ofW (by decide) (Nat.le_of_ble_eq_true rfl) ?_
  intro p e s m args below meth c ls C hr hlocks _ hw hl
  have hx := C.1
  have hb := C.2.1
  have hA : ∀ q, s.heap.size ≤ q → va_A (mW cI a0 am M) s.heap.size q := fun q h => Or.inr h
  have hcg := trivial
  have hl : lv_has ls 3 [(0, .ref a0), (1, .int p1)] := hl
  unfold fX9_sitterIn at hf
  refine lv_iconst (v := 0) hx hb dX9_sitterIn_0 ic_0 ?_
  refine lv_istore_n (lv' := [(2, .int 0), (0, .ref a0), (1, .int p1)]) hx hb dX9_sitterIn_1 rfl hl (by decide) rfl (fun ls hl => ?_)
  refine wX9_sitterIn_2 C hr hlocks hA hcg 300 _ _ _ _ hw (lv_sub hl [1, 2, 0] rfl) hf (fun  H locs ls hw hl hf => ?_)
  refine lv_bipush (v := (-9)) hx hb dX9_sitterIn_28 ib_m9 ?_
  obtain rfl := Option.some.inj hf
  exact qt_i C hr hlocks hw dX9_sitterIn_30
theorem cfX9_sit : cf yX9_sit cX9_sit 5 (some .int) 2 := ⟨tg_824, by decide +kernel, tg_7⟩
set_option maxHeartbeats 4000000 in
theorem kX9_sit (l : Launch) (D : va_G) (cI cB cS : ClassId) (a0 : Nat) (am : Nat → Nat) {p1 : Int32} {p2 : Int32} {M : MS} {q : (Int32 × MS)} (hf : fX9_sit p1 p2 M = some q) : Ct l D cI cB cS yX9_sit cX9_sit 5 (some .int) 2 46 [.ref a0, .int p1, .int p2] (mW cI a0 am M) (some (.int q.1)) (mW cI a0 am q.2) := by
  refine Ct.ofW (by decide) (Nat.le_of_ble_eq_true rfl) ?_
  intro p e s m args below meth c ls C hr hlocks _ hw hl
  have hx := C.1
  have hb := C.2.1
  have hA : ∀ q, s.heap.size ≤ q → va_A (mW cI a0 am M) s.heap.size q := fun q h => Or.inr h
  have hcg := trivial
  have hl : lv_has ls 5 [(0, .ref a0), (1, .int p1), (2, .int p2)] := hl
  unfold fX9_sit at hf
  refine lv_aload_n hx hb dX9_sit_0 rfl (lv_at hl 0 rfl) ?_
  refine lv_iload_n hx hb dX9_sit_1 rfl (lv_at hl 1 rfl) ?_
  refine ct_V1 (q0 := 0) (ci := 9) (rest := []) C hw hA (kX9_noBuyer l D cI cB cS a0 am _ _) cfX9_noBuyer tg_786 tg_788 ts_yX9_noBuyer ⟨(Nat.le_of_ble_eq_true rfl), (Nat.le_of_ble_eq_true rfl)⟩ ⟨(Nat.le_of_ble_eq_true rfl), (Nat.le_of_ble_eq_true rfl)⟩ rfl rfl rfl rfl hl.1 rfl (Nat.le_of_ble_eq_true rfl) dX9_sit_2 (fun H locs hw => ?_)
  refine lv_if_ne (tgt := 16) hx hb dX9_sit_5 (by decide) (fun h1 => ?_) (fun h1 => ?_)
  · have hf := it_f h1 hf
    refine lv_iconst (v := (-1)) hx hb dX9_sit_16 ic_m1 ?_
    obtain rfl := Option.some.inj hf
    exact qt_i C hr hlocks hw dX9_sit_17
  · have hf := it_t h1 hf
    refine lv_aload_n hx hb dX9_sit_8 rfl (lv_at hl 0 rfl) ?_
    refine lv_iload_n hx hb dX9_sit_9 rfl (lv_at hl 2 rfl) ?_
    refine ct_V1 (q0 := 0) (ci := 9) (rest := []) C hw hA (kX9_noSeat l D cI cB cS a0 am _ _) cfX9_noSeat tg_825 tg_827 ts_yX9_noSeat ⟨(Nat.le_of_ble_eq_true rfl), (Nat.le_of_ble_eq_true rfl)⟩ ⟨(Nat.le_of_ble_eq_true rfl), (Nat.le_of_ble_eq_true rfl)⟩ rfl rfl rfl rfl hl.1 rfl (Nat.le_of_ble_eq_true rfl) dX9_sit_10 (fun H locs hw => ?_)
    refine lv_if_eq (tgt := 18) hx hb dX9_sit_13 (by decide) (fun h2 => ?_) (fun h2 => ?_)
    · have hf := it_t h2 hf
      refine lv_aload_n hx hb dX9_sit_18 rfl (lv_at hl 0 rfl) ?_
      refine lv_iload_n hx hb dX9_sit_19 rfl (lv_at hl 2 rfl) ?_
      obtain ⟨r3, e4, hf⟩ := bd hf
      refine ct_V1 (q0 := 0) (ci := 9) (rest := []) C hw hA (kX9_sitterIn l D cI cB cS a0 am e4) cfX9_sitterIn tg_829 tg_831 ts_yX9_sitterIn ⟨(Nat.le_of_ble_eq_true rfl), (Nat.le_of_ble_eq_true rfl)⟩ ⟨(Nat.le_of_ble_eq_true rfl), (Nat.le_of_ble_eq_true rfl)⟩ rfl rfl rfl rfl hl.1 rfl (Nat.le_of_ble_eq_true rfl) dX9_sit_20 (fun H locs hw => ?_)
      refine lv_istore_n (lv' := [(3, .int r3), (0, .ref a0), (1, .int p1), (2, .int p2)]) hx hb dX9_sit_23 rfl hl (by decide) rfl (fun ls hl => ?_)
      refine lv_iload_n hx hb dX9_sit_24 rfl (lv_at hl 0 rfl) ?_
      refine lv_if_lt (tgt := 36) hx hb dX9_sit_25 (by decide) (fun h5 => ?_) (fun h5 => ?_)
      · have hf := it_t h5 hf
        refine lv_aload_n hx hb dX9_sit_36 rfl (lv_at hl 1 rfl) ?_
        refine mg_6 C hw dX9_sit_37 ?_
        refine lv_iload_n hx hb dX9_sit_40 rfl (lv_at hl 2 rfl) ?_
        obtain ⟨g6, hf⟩ := gd_inv hf
        refine ml_6 C hw g6 dX9_sit_41 ?_
        refine lv_istore (lv' := [(4, .int (M 6 p1.toNatClampNeg)), (3, .int r3), (0, .ref a0), (1, .int p1), (2, .int p2)]) hx hb dX9_sit_42 hl (by decide) rfl (fun ls hl => ?_)
        refine lv_aload_n hx hb dX9_sit_44 rfl (lv_at hl 2 rfl) ?_
        refine mg_6 C hw dX9_sit_45 ?_
        refine lv_iload_n hx hb dX9_sit_48 rfl (lv_at hl 3 rfl) ?_
        refine lv_iload_n hx hb dX9_sit_49 rfl (lv_at hl 4 rfl) ?_
        obtain ⟨g7, hf⟩ := gd_inv hf
        refine ms_6 C hw g7 dX9_sit_50 (fun H locs hw => ?_)
        refine lv_iload hx hb dX9_sit_51 (lv_at hl 0 rfl) ?_
        obtain rfl := Option.some.inj hf
        exact qt_i C hr hlocks hw dX9_sit_53
      · have hf := it_f h5 hf
        refine lv_iload_n hx hb dX9_sit_28 rfl (lv_at hl 0 rfl) ?_
        refine lv_iload_n hx hb dX9_sit_29 rfl (lv_at hl 2 rfl) ?_
        refine lv_icmp_eq (tgt := 36) hx hb dX9_sit_30 (by decide) (fun h8 => ?_) (fun h8 => ?_)
        · have hf := it_t h8 hf
          refine lv_aload_n hx hb dX9_sit_36 rfl (lv_at hl 1 rfl) ?_
          refine mg_6 C hw dX9_sit_37 ?_
          refine lv_iload_n hx hb dX9_sit_40 rfl (lv_at hl 2 rfl) ?_
          obtain ⟨g9, hf⟩ := gd_inv hf
          refine ml_6 C hw g9 dX9_sit_41 ?_
          refine lv_istore (lv' := [(4, .int (M 6 p1.toNatClampNeg)), (3, .int r3), (0, .ref a0), (1, .int p1), (2, .int p2)]) hx hb dX9_sit_42 hl (by decide) rfl (fun ls hl => ?_)
          refine lv_aload_n hx hb dX9_sit_44 rfl (lv_at hl 2 rfl) ?_
          refine mg_6 C hw dX9_sit_45 ?_
          refine lv_iload_n hx hb dX9_sit_48 rfl (lv_at hl 3 rfl) ?_
          refine lv_iload_n hx hb dX9_sit_49 rfl (lv_at hl 4 rfl) ?_
          obtain ⟨g10, hf⟩ := gd_inv hf
          refine ms_6 C hw g10 dX9_sit_50 (fun H locs hw => ?_)
          refine lv_iload hx hb dX9_sit_51 (lv_at hl 0 rfl) ?_
          obtain rfl := Option.some.inj hf
          exact qt_i C hr hlocks hw dX9_sit_53
        · have hf := it_f h8 hf
          refine lv_bipush (v := (-3)) hx hb dX9_sit_33 ib_m3 ?_
          obtain rfl := Option.some.inj hf
          exact qt_i C hr hlocks hw dX9_sit_35
    · have hf := it_f h2 hf
      refine lv_iconst (v := (-1)) hx hb dX9_sit_16 ic_m1 ?_
      obtain rfl := Option.some.inj hf
      exact qt_i C hr hlocks hw dX9_sit_17
theorem cfX9_law : cf yX9_law cX9_law 3 (some .int) 1 := ⟨tg_836, by decide +kernel, tg_7⟩
set_option maxHeartbeats 4000000 in
theorem kX9_law (l : Launch) (D : va_G) (cI cB cS : ClassId) (a0 : Nat) (am : Nat → Nat) (p1 : Int32) (M : MS) : Ct l D cI cB cS yX9_law cX9_law 3 (some .int) 1 25 [.ref a0, .int p1] (mW cI a0 am M) (some (.int (fX9_law p1 M).1)) (mW cI a0 am (fX9_law p1 M).2) := by
  obtain ⟨q, hf⟩ : ∃ q, fX9_law p1 M = q := ⟨_, rfl⟩
  rw [hf]
  refine Ct.ofW (by decide) (Nat.le_of_ble_eq_true rfl) ?_
  intro p e s m args below meth c ls C hr hlocks _ hw hl
  have hx := C.1
  have hb := C.2.1
  have hA : ∀ q, s.heap.size ≤ q → va_A (mW cI a0 am M) s.heap.size q := fun q h => Or.inr h
  have hcg := trivial
  have hl : lv_has ls 3 [(0, .ref a0), (1, .int p1)] := hl
  unfold fX9_law at hf
  refine lv_iload_n hx hb dX9_law_0 rfl (lv_at hl 1 rfl) ?_
  refine lv_i2l (v := (p1.toInt64)) hx hb dX9_law_1 rfl ?_
  refine lv_lconst (v := 0) hx hb dX9_law_2 rfl ?_
  refine lv_ldc2 (v := (2 : Int64)) hx hb C.2.2.2.1 (C.2.2.2.2.1 _ tg_751) dX9_law_3 ?_
  refine ct_S1 (rest := []) C hw hA (kX9_in l D cI cB cS _ _ _ _) cfX9_in tg_744 tg_745 ⟨(Nat.le_of_ble_eq_true rfl), (Nat.le_of_ble_eq_true rfl)⟩ ⟨(Nat.le_of_ble_eq_true rfl), (Nat.le_of_ble_eq_true rfl)⟩ rfl hl.1 rfl (Nat.le_of_ble_eq_true rfl) dX9_law_6 (fun H locs hw => ?_)
  refine lv_if_ne (tgt := 15) hx hb dX9_law_9 (by decide) (fun h1 => ?_) (fun h1 => ?_)
  · have hf := it_f h1 hf
    refine lv_aload_n hx hb dX9_law_15 rfl (lv_at hl 0 rfl) ?_
    refine mg_1 C hw dX9_law_16 ?_
    refine lv_if_ne (tgt := 25) hx hb dX9_law_19 (by decide) (fun h2 => ?_) (fun h2 => ?_)
    · have hf := it_f h2 hf
      refine lv_aload_n hx hb dX9_law_25 rfl (lv_at hl 0 rfl) ?_
      refine mg_8 C hw dX9_law_26 ?_
      refine lv_istore_n (lv' := [(2, .int (M 8 0)), (0, .ref a0), (1, .int p1)]) hx hb dX9_law_29 rfl hl (by decide) rfl (fun ls hl => ?_)
      refine lv_aload_n hx hb dX9_law_30 rfl (lv_at hl 1 rfl) ?_
      refine lv_iload_n hx hb dX9_law_31 rfl (lv_at hl 2 rfl) ?_
      refine mp_8 C hw dX9_law_32 (fun H locs hw => ?_)
      refine lv_iload_n hx hb dX9_law_35 rfl (lv_at hl 0 rfl) ?_
      subst hf
      exact qt_i C hr hlocks hw dX9_law_36
    · have hf := it_t h2 hf
      refine lv_bipush (v := (-3)) hx hb dX9_law_22 ib_m3 ?_
      subst hf
      exact qt_i C hr hlocks hw dX9_law_24
  · have hf := it_t h1 hf
    refine lv_bipush (v := (-2)) hx hb dX9_law_12 ib_m2 ?_
    subst hf
    exact qt_i C hr hlocks hw dX9_law_14
theorem cfX9_step : cf yX9_step cX9_step 3 (some .int) 1 := ⟨tg_860, by decide +kernel, tg_7⟩
set_option maxHeartbeats 4000000 in
theorem kX9_step (l : Launch) (D : va_G) (cI cB cS : ClassId) (a0 : Nat) (am : Nat → Nat) {p1 : Int32} {M : MS} {q : Int32} (hf : fX9_step p1 M = some q) : Ct l D cI cB cS yX9_step cX9_step 3 (some .int) 0 0 [.ref a0, .int p1] (mW cI a0 am M) (some (.int q)) (mW cI a0 am M) := by
  refine Ct.ofW (by decide) (Nat.le_of_ble_eq_true rfl) ?_
  intro p e s m args below meth c ls C hr hlocks _ hw hl
  have hx := C.1
  have hb := C.2.1
  have hA : ∀ q, s.heap.size ≤ q → va_A (mW cI a0 am M) s.heap.size q := fun q h => Or.inr h
  have hcg := trivial
  have hl : lv_has ls 3 [(0, .ref a0), (1, .int p1)] := hl
  unfold fX9_step at hf
  refine lv_iload_n hx hb dX9_step_0 rfl (lv_at hl 1 rfl) ?_
  refine lv_aload_n hx hb dX9_step_1 rfl (lv_at hl 0 rfl) ?_
  refine mg_2 C hw dX9_step_2 ?_
  obtain ⟨g1, hf⟩ := nzi_inv hf
  refine lv_irem hx hb dX9_step_5 g1 ?_
  refine lv_aload_n hx hb dX9_step_6 rfl (lv_at hl 0 rfl) ?_
  refine mg_2 C hw dX9_step_7 ?_
  refine lv_iconst (v := 2) hx hb dX9_step_10 ic_2 ?_
  refine lv_idiv hx hb dX9_step_11 (by decide) ?_
  refine lv_icmp_ge (tgt := 19) hx hb dX9_step_12 (by decide) (fun h2 => ?_) (fun h2 => ?_)
  · have hf := it_t h2 hf
    refine lv_iconst (v := 0) hx hb dX9_step_19 ic_0 ?_
    refine lv_istore_n (lv' := [(2, .int 0), (0, .ref a0), (1, .int p1)]) hx hb dX9_step_20 rfl hl (by decide) rfl (fun ls hl => ?_)
    refine lv_aload_n hx hb dX9_step_21 rfl (lv_at hl 1 rfl) ?_
    refine mg_8 C hw dX9_step_22 ?_
    refine lv_if_ne (tgt := 32) hx hb dX9_step_25 (by decide) (fun h3 => ?_) (fun h3 => ?_)
    · have hf := it_f h3 hf
      refine lv_aload_n hx hb dX9_step_32 rfl (lv_at hl 1 rfl) ?_
      refine mg_8 C hw dX9_step_33 ?_
      refine lv_iconst (v := 1) hx hb dX9_step_36 ic_1 ?_
      refine lv_icmp_ne (tgt := 48) hx hb dX9_step_37 (by decide) (fun h4 => ?_) (fun h4 => ?_)
      · have hf := it_f h4 hf
        refine lv_iconst (v := 1) hx hb dX9_step_48 ic_1 ?_
        obtain rfl := Option.some.inj hf
        exact qt_i C hr hlocks hw dX9_step_49
      · have hf := it_t h4 hf
        refine lv_iload_n hx hb dX9_step_40 rfl (lv_at hl 0 rfl) ?_
        refine lv_if_ne (tgt := 48) hx hb dX9_step_41 (by decide) (fun hz => absurd hz (by decide)) (fun _ => ?_)
        refine lv_iconst (v := 2) hx hb dX9_step_44 ic_2 ?_
        refine lv_goto (tgt := 49) hx hb dX9_step_45 (by decide) ?_
        obtain rfl := Option.some.inj hf
        exact qt_i C hr hlocks hw dX9_step_49
    · have hf := it_t h3 hf
      refine lv_iload_n hx hb dX9_step_28 rfl (lv_at hl 0 rfl) ?_
      refine lv_if_ne (tgt := 44) hx hb dX9_step_29 (by decide) (fun hz => absurd hz (by decide)) (fun _ => ?_)
      refine lv_aload_n hx hb dX9_step_32 rfl (lv_at hl 1 rfl) ?_
      refine mg_8 C hw dX9_step_33 ?_
      refine lv_iconst (v := 1) hx hb dX9_step_36 ic_1 ?_
      refine lv_icmp_ne (tgt := 48) hx hb dX9_step_37 (by decide) (fun h5 => ?_) (fun h5 => ?_)
      · have hf := it_f h5 hf
        refine lv_iconst (v := 1) hx hb dX9_step_48 ic_1 ?_
        obtain rfl := Option.some.inj hf
        exact qt_i C hr hlocks hw dX9_step_49
      · have hf := it_t h5 hf
        refine lv_iload_n hx hb dX9_step_40 rfl (lv_at hl 0 rfl) ?_
        refine lv_if_ne (tgt := 48) hx hb dX9_step_41 (by decide) (fun hz => absurd hz (by decide)) (fun _ => ?_)
        refine lv_iconst (v := 2) hx hb dX9_step_44 ic_2 ?_
        refine lv_goto (tgt := 49) hx hb dX9_step_45 (by decide) ?_
        obtain rfl := Option.some.inj hf
        exact qt_i C hr hlocks hw dX9_step_49
  · have hf := it_f h2 hf
    refine lv_iconst (v := 1) hx hb dX9_step_15 ic_1 ?_
    refine lv_goto (tgt := 20) hx hb dX9_step_16 (by decide) ?_
    refine lv_istore_n (lv' := [(2, .int 1), (0, .ref a0), (1, .int p1)]) hx hb dX9_step_20 rfl hl (by decide) rfl (fun ls hl => ?_)
    refine lv_aload_n hx hb dX9_step_21 rfl (lv_at hl 1 rfl) ?_
    refine mg_8 C hw dX9_step_22 ?_
    refine lv_if_ne (tgt := 32) hx hb dX9_step_25 (by decide) (fun h6 => ?_) (fun h6 => ?_)
    · have hf := it_f h6 hf
      refine lv_aload_n hx hb dX9_step_32 rfl (lv_at hl 1 rfl) ?_
      refine mg_8 C hw dX9_step_33 ?_
      refine lv_iconst (v := 1) hx hb dX9_step_36 ic_1 ?_
      refine lv_icmp_ne (tgt := 48) hx hb dX9_step_37 (by decide) (fun h7 => ?_) (fun h7 => ?_)
      · have hf := it_f h7 hf
        refine lv_iconst (v := 1) hx hb dX9_step_48 ic_1 ?_
        obtain rfl := Option.some.inj hf
        exact qt_i C hr hlocks hw dX9_step_49
      · have hf := it_t h7 hf
        refine lv_iload_n hx hb dX9_step_40 rfl (lv_at hl 0 rfl) ?_
        refine lv_if_ne (tgt := 48) hx hb dX9_step_41 (by decide) (fun _ => ?_) (fun hz => absurd hz (by decide))
        refine lv_iconst (v := 1) hx hb dX9_step_48 ic_1 ?_
        obtain rfl := Option.some.inj hf
        exact qt_i C hr hlocks hw dX9_step_49
    · have hf := it_t h6 hf
      refine lv_iload_n hx hb dX9_step_28 rfl (lv_at hl 0 rfl) ?_
      refine lv_if_ne (tgt := 44) hx hb dX9_step_29 (by decide) (fun _ => ?_) (fun hz => absurd hz (by decide))
      refine lv_iconst (v := 2) hx hb dX9_step_44 ic_2 ?_
      refine lv_goto (tgt := 49) hx hb dX9_step_45 (by decide) ?_
      obtain rfl := Option.some.inj hf
      exact qt_i C hr hlocks hw dX9_step_49
theorem cfX9_nextBidder : cf yX9_nextBidder cX9_nextBidder 6 (some .int) 2 := ⟨tg_856, by decide +kernel, tg_7⟩
set_option maxHeartbeats 4000000 in
theorem wX9_nextBidder_6 {p : Program} {l : Launch} {e : Env} {s : State} {m : MethodId} {args : Array Value} {below : List Frame} {meth : Method} {c : Code} {D : va_G} {cI cB cS : ClassId} {a0 : Nat} {am : Nat → Nat} {ws0 : va_W} {v1 : Int32} {v2 : Int32} {M : MS} (C : cx p c cX9_nextBidder 6 s args m RX9 D cI cB cS) (hr : meth.sig.returnType = (some .int)) (hlocks : meth.locks = false) (hA : ∀ q, s.heap.size ≤ q → va_A ws0 s.heap.size q) {k : Int32 → Option Int32} {q : Int32}
    (hcg : True) : ∀ (fu : Nat) (v3 : Int32) (v4 : Int32) (H : Heap) (locs : List Loc) (ls : Array Slot), wd D (va_A ws0 s.heap.size) s.heap (mW cI a0 am M) H locs → lv_has ls 6 [(0, .ref a0), (1, .int v1), (2, .int v2), (3, .int v3), (4, .int v4)] → fX9_nextBidder_6 fu k v1 v2 v3 v4 M = some q →
    (∀ (x3 : Int32) (H : Heap) (locs : List Loc) (ls : Array Slot), wd D (va_A ws0 s.heap.size) s.heap (mW cI a0 am M) H locs → lv_has ls 6 [(3, .int x3)] → k x3 = some q → W p l e { frames := 2, cells := 0, slots := 0, locals := 44 } s m args below meth c H locs 0 0 (Qt D below args s ws0 (some (.int q)) (mW cI a0 am M)) (F0 m 123 ls [])) →
    W p l e { frames := 2, cells := 0, slots := 0, locals := 44 } s m args below meth c H locs 0 0 (Qt D below args s ws0 (some (.int q)) (mW cI a0 am M)) (F0 m 6 ls []) := by
  have hx := C.1
  have hb := C.2.1
  intro fu
  induction fu with
  | zero => intro v3 v4 H locs ls hw hl hf hk; rw [fX9_nextBidder_6] at hf; cases hf
  | succ fu ih =>
      intro v3 v4 H locs ls hw hl hf hk
      rw [fX9_nextBidder_6] at hf
      refine lv_iload hx hb dX9_nextBidder_6 (lv_at hl 4 rfl) ?_
      refine lv_aload_n hx hb dX9_nextBidder_8 rfl (lv_at hl 0 rfl) ?_
      refine mg_3 C hw dX9_nextBidder_9 ?_
      refine lv_icmp_ge (tgt := 123) hx hb dX9_nextBidder_12 (by decide) (fun h1 => ?_) (fun h1 => ?_)
      · have hf := it_t h1 hf
        exact hk _ _ _ _ hw (lv_sub hl [3] rfl) hf
      · have hf := it_f h1 hf
        refine lv_aload_n hx hb dX9_nextBidder_15 rfl (lv_at hl 0 rfl) ?_
        refine mg_15 C hw dX9_nextBidder_16 ?_
        refine lv_iload hx hb dX9_nextBidder_19 (lv_at hl 4 rfl) ?_
        obtain ⟨g2, hf⟩ := gd_inv hf
        refine ml_15 C hw g2 dX9_nextBidder_21 ?_
        refine lv_if_lt (tgt := 82) hx hb dX9_nextBidder_22 (by decide) (fun h3 => ?_) (fun h3 => ?_)
        · have hf := it_t h3 hf
          refine lv_iconst (v := 0) hx hb dX9_nextBidder_82 ic_0 ?_
          refine lv_istore (lv' := [(5, .int 0), (0, .ref a0), (1, .int v1), (2, .int v2), (3, .int v3), (4, .int v4)]) hx hb dX9_nextBidder_83 hl (by decide) rfl (fun ls hl => ?_)
          refine lv_iload hx hb dX9_nextBidder_85 (lv_at hl 0 rfl) ?_
          refine lv_if_eq (tgt := 115) hx hb dX9_nextBidder_87 (by decide) (fun _ => ?_) (fun hz => absurd hz (by decide))
          refine lv_iload_n hx hb dX9_nextBidder_115 rfl (lv_at hl 4 rfl) ?_
          refine lv_istore_n (lv' := [(3, .int v3), (5, .int 0), (0, .ref a0), (1, .int v1), (2, .int v2), (4, .int v4)]) hx hb dX9_nextBidder_116 rfl hl (by decide) rfl (fun ls hl => ?_)
          refine lv_iinc (v := (v4 + 1)) (lv' := [(4, .int (v4 + 1)), (3, .int v3), (5, .int 0), (0, .ref a0), (1, .int v1), (2, .int v2)]) hx hb dX9_nextBidder_117 hl (k := 5) rfl (iv_1 _) (by decide) rfl (fun ls hl => ?_)
          refine lv_goto (tgt := 6) hx hb dX9_nextBidder_120 (by decide) ?_
          exact ih _ _ _ _ _ hw (lv_sub hl [3, 4, 5, 1, 0] rfl) hf hk
        · have hf := it_f h3 hf
          refine lv_iload hx hb dX9_nextBidder_25 (lv_at hl 4 rfl) ?_
          refine lv_aload_n hx hb dX9_nextBidder_27 rfl (lv_at hl 0 rfl) ?_
          refine mg_17 C hw dX9_nextBidder_28 ?_
          refine lv_icmp_eq (tgt := 82) hx hb dX9_nextBidder_31 (by decide) (fun h4 => ?_) (fun h4 => ?_)
          · have hf := it_t h4 hf
            refine lv_iconst (v := 0) hx hb dX9_nextBidder_82 ic_0 ?_
            refine lv_istore (lv' := [(5, .int 0), (0, .ref a0), (1, .int v1), (2, .int v2), (3, .int v3), (4, .int v4)]) hx hb dX9_nextBidder_83 hl (by decide) rfl (fun ls hl => ?_)
            refine lv_iload hx hb dX9_nextBidder_85 (lv_at hl 0 rfl) ?_
            refine lv_if_eq (tgt := 115) hx hb dX9_nextBidder_87 (by decide) (fun _ => ?_) (fun hz => absurd hz (by decide))
            refine lv_iload_n hx hb dX9_nextBidder_115 rfl (lv_at hl 4 rfl) ?_
            refine lv_istore_n (lv' := [(3, .int v3), (5, .int 0), (0, .ref a0), (1, .int v1), (2, .int v2), (4, .int v4)]) hx hb dX9_nextBidder_116 rfl hl (by decide) rfl (fun ls hl => ?_)
            refine lv_iinc (v := (v4 + 1)) (lv' := [(4, .int (v4 + 1)), (3, .int v3), (5, .int 0), (0, .ref a0), (1, .int v1), (2, .int v2)]) hx hb dX9_nextBidder_117 hl (k := 5) rfl (iv_1 _) (by decide) rfl (fun ls hl => ?_)
            refine lv_goto (tgt := 6) hx hb dX9_nextBidder_120 (by decide) ?_
            exact ih _ _ _ _ _ hw (lv_sub hl [3, 4, 5, 1, 0] rfl) hf hk
          · have hf := it_f h4 hf
            refine lv_iload_n hx hb dX9_nextBidder_34 rfl (lv_at hl 2 rfl) ?_
            refine lv_iload hx hb dX9_nextBidder_35 (lv_at hl 4 rfl) ?_
            refine ct_S1 (rest := []) C hw hA (kX9_isIn l D cI cB cS _ _ _) cfX9_isIn tg_794 tg_795 ⟨(Nat.le_of_ble_eq_true rfl), (Nat.le_of_ble_eq_true rfl)⟩ ⟨(Nat.le_of_ble_eq_true rfl), (Nat.le_of_ble_eq_true rfl)⟩ rfl hl.1 rfl (Nat.le_of_ble_eq_true rfl) dX9_nextBidder_37 (fun H locs hw => ?_)
            refine lv_if_eq (tgt := 82) hx hb dX9_nextBidder_40 (by decide) (fun h5 => ?_) (fun h5 => ?_)
            · have hf := it_t h5 hf
              refine lv_iconst (v := 0) hx hb dX9_nextBidder_82 ic_0 ?_
              refine lv_istore (lv' := [(5, .int 0), (0, .ref a0), (1, .int v1), (2, .int v2), (3, .int v3), (4, .int v4)]) hx hb dX9_nextBidder_83 hl (by decide) rfl (fun ls hl => ?_)
              refine lv_iload hx hb dX9_nextBidder_85 (lv_at hl 0 rfl) ?_
              refine lv_if_eq (tgt := 115) hx hb dX9_nextBidder_87 (by decide) (fun _ => ?_) (fun hz => absurd hz (by decide))
              refine lv_iload_n hx hb dX9_nextBidder_115 rfl (lv_at hl 4 rfl) ?_
              refine lv_istore_n (lv' := [(3, .int v3), (5, .int 0), (0, .ref a0), (1, .int v1), (2, .int v2), (4, .int v4)]) hx hb dX9_nextBidder_116 rfl hl (by decide) rfl (fun ls hl => ?_)
              refine lv_iinc (v := (v4 + 1)) (lv' := [(4, .int (v4 + 1)), (3, .int v3), (5, .int 0), (0, .ref a0), (1, .int v1), (2, .int v2)]) hx hb dX9_nextBidder_117 hl (k := 5) rfl (iv_1 _) (by decide) rfl (fun ls hl => ?_)
              refine lv_goto (tgt := 6) hx hb dX9_nextBidder_120 (by decide) ?_
              exact ih _ _ _ _ _ hw (lv_sub hl [3, 4, 5, 1, 0] rfl) hf hk
            · have hf := it_f h5 hf
              refine lv_aload_n hx hb dX9_nextBidder_43 rfl (lv_at hl 0 rfl) ?_
              refine lv_iload hx hb dX9_nextBidder_44 (lv_at hl 4 rfl) ?_
              obtain ⟨r6, e7, hf⟩ := bd hf
              refine ct_V1 (q0 := 0) (ci := 9) (rest := []) C hw hA (kX9_isSeen l D cI cB cS a0 am e7) cfX9_isSeen tg_797 tg_799 ts_yX9_isSeen ⟨(Nat.le_of_ble_eq_true rfl), (Nat.le_of_ble_eq_true rfl)⟩ ⟨(Nat.le_of_ble_eq_true rfl), (Nat.le_of_ble_eq_true rfl)⟩ rfl rfl rfl rfl hl.1 rfl (Nat.le_of_ble_eq_true rfl) dX9_nextBidder_46 (fun H locs hw => ?_)
              refine lv_if_eq (tgt := 82) hx hb dX9_nextBidder_49 (by decide) (fun h8 => ?_) (fun h8 => ?_)
              · have hf := it_t h8 hf
                refine lv_iconst (v := 0) hx hb dX9_nextBidder_82 ic_0 ?_
                refine lv_istore (lv' := [(5, .int 0), (0, .ref a0), (1, .int v1), (2, .int v2), (3, .int v3), (4, .int v4)]) hx hb dX9_nextBidder_83 hl (by decide) rfl (fun ls hl => ?_)
                refine lv_iload hx hb dX9_nextBidder_85 (lv_at hl 0 rfl) ?_
                refine lv_if_eq (tgt := 115) hx hb dX9_nextBidder_87 (by decide) (fun _ => ?_) (fun hz => absurd hz (by decide))
                refine lv_iload_n hx hb dX9_nextBidder_115 rfl (lv_at hl 4 rfl) ?_
                refine lv_istore_n (lv' := [(3, .int v3), (5, .int 0), (0, .ref a0), (1, .int v1), (2, .int v2), (4, .int v4)]) hx hb dX9_nextBidder_116 rfl hl (by decide) rfl (fun ls hl => ?_)
                refine lv_iinc (v := (v4 + 1)) (lv' := [(4, .int (v4 + 1)), (3, .int v3), (5, .int 0), (0, .ref a0), (1, .int v1), (2, .int v2)]) hx hb dX9_nextBidder_117 hl (k := 5) rfl (iv_1 _) (by decide) rfl (fun ls hl => ?_)
                refine lv_goto (tgt := 6) hx hb dX9_nextBidder_120 (by decide) ?_
                exact ih _ _ _ _ _ hw (lv_sub hl [3, 4, 5, 1, 0] rfl) hf hk
              · have hf := it_f h8 hf
                refine lv_aload_n hx hb dX9_nextBidder_52 rfl (lv_at hl 0 rfl) ?_
                refine mg_16 C hw dX9_nextBidder_53 ?_
                refine lv_aload_n hx hb dX9_nextBidder_56 rfl (lv_at hl 0 rfl) ?_
                refine lv_aload_n hx hb dX9_nextBidder_57 rfl (lv_at hl 0 rfl) ?_
                refine mg_15 C hw dX9_nextBidder_58 ?_
                refine lv_iload hx hb dX9_nextBidder_61 (lv_at hl 4 rfl) ?_
                obtain ⟨g9, hf⟩ := gd_inv hf
                refine ml_15 C hw g9 dX9_nextBidder_63 ?_
                obtain ⟨r10, e11, hf⟩ := bd hf
                refine ct_V1 (q0 := 0) (ci := 9) (rest := [.int (M 16 0)]) C hw hA (kX9_step l D cI cB cS a0 am e11) cfX9_step tg_857 tg_859 ts_yX9_step ⟨(Nat.le_of_ble_eq_true rfl), (Nat.le_of_ble_eq_true rfl)⟩ ⟨(Nat.le_of_ble_eq_true rfl), (Nat.le_of_ble_eq_true rfl)⟩ rfl rfl rfl rfl hl.1 rfl (Nat.le_of_ble_eq_true rfl) dX9_nextBidder_64 (fun H locs hw => ?_)
                refine lv_iadd hx hb dX9_nextBidder_67 ?_
                refine lv_aload_n hx hb dX9_nextBidder_68 rfl (lv_at hl 0 rfl) ?_
                refine lv_iload hx hb dX9_nextBidder_69 (lv_at hl 4 rfl) ?_
                refine lv_iload_n hx hb dX9_nextBidder_71 rfl (lv_at hl 1 rfl) ?_
                obtain ⟨r12, e13, hf⟩ := bd hf
                refine ct_V1 (q0 := 0) (ci := 9) (rest := [.int ((M 16 0) + r10)]) C hw hA (kX9_limitOf l D cI cB cS a0 am e13) cfX9_limitOf tg_817 tg_819 ts_yX9_limitOf ⟨(Nat.le_of_ble_eq_true rfl), (Nat.le_of_ble_eq_true rfl)⟩ ⟨(Nat.le_of_ble_eq_true rfl), (Nat.le_of_ble_eq_true rfl)⟩ rfl rfl rfl rfl hl.1 rfl (Nat.le_of_ble_eq_true rfl) dX9_nextBidder_72 (fun H locs hw => ?_)
                refine lv_icmp_gt (tgt := 82) hx hb dX9_nextBidder_75 (by decide) (fun h14 => ?_) (fun h14 => ?_)
                · have hf := it_t h14 hf
                  refine lv_iconst (v := 0) hx hb dX9_nextBidder_82 ic_0 ?_
                  refine lv_istore (lv' := [(5, .int 0), (0, .ref a0), (1, .int v1), (2, .int v2), (3, .int v3), (4, .int v4)]) hx hb dX9_nextBidder_83 hl (by decide) rfl (fun ls hl => ?_)
                  refine lv_iload hx hb dX9_nextBidder_85 (lv_at hl 0 rfl) ?_
                  refine lv_if_eq (tgt := 115) hx hb dX9_nextBidder_87 (by decide) (fun _ => ?_) (fun hz => absurd hz (by decide))
                  refine lv_iload_n hx hb dX9_nextBidder_115 rfl (lv_at hl 4 rfl) ?_
                  refine lv_istore_n (lv' := [(3, .int v3), (5, .int 0), (0, .ref a0), (1, .int v1), (2, .int v2), (4, .int v4)]) hx hb dX9_nextBidder_116 rfl hl (by decide) rfl (fun ls hl => ?_)
                  refine lv_iinc (v := (v4 + 1)) (lv' := [(4, .int (v4 + 1)), (3, .int v3), (5, .int 0), (0, .ref a0), (1, .int v1), (2, .int v2)]) hx hb dX9_nextBidder_117 hl (k := 5) rfl (iv_1 _) (by decide) rfl (fun ls hl => ?_)
                  refine lv_goto (tgt := 6) hx hb dX9_nextBidder_120 (by decide) ?_
                  exact ih _ _ _ _ _ hw (lv_sub hl [3, 4, 5, 1, 0] rfl) hf hk
                · have hf := it_f h14 hf
                  refine lv_iconst (v := 1) hx hb dX9_nextBidder_78 ic_1 ?_
                  refine lv_goto (tgt := 83) hx hb dX9_nextBidder_79 (by decide) ?_
                  refine lv_istore (lv' := [(5, .int 1), (0, .ref a0), (1, .int v1), (2, .int v2), (3, .int v3), (4, .int v4)]) hx hb dX9_nextBidder_83 hl (by decide) rfl (fun ls hl => ?_)
                  refine lv_iload hx hb dX9_nextBidder_85 (lv_at hl 0 rfl) ?_
                  refine lv_if_eq (tgt := 115) hx hb dX9_nextBidder_87 (by decide) (fun hz => absurd hz (by decide)) (fun _ => ?_)
                  refine lv_iload_n hx hb dX9_nextBidder_90 rfl (lv_at hl 4 rfl) ?_
                  refine lv_if_lt (tgt := 110) hx hb dX9_nextBidder_91 (by decide) (fun h15 => ?_) (fun h15 => ?_)
                  · have hf := it_t h15 hf
                    refine lv_iload hx hb dX9_nextBidder_110 (lv_at hl 5 rfl) ?_
                    refine lv_goto (tgt := 116) hx hb dX9_nextBidder_112 (by decide) ?_
                    refine lv_istore_n (lv' := [(3, .int v4), (5, .int 1), (0, .ref a0), (1, .int v1), (2, .int v2), (4, .int v4)]) hx hb dX9_nextBidder_116 rfl hl (by decide) rfl (fun ls hl => ?_)
                    refine lv_iinc (v := (v4 + 1)) (lv' := [(4, .int (v4 + 1)), (3, .int v4), (5, .int 1), (0, .ref a0), (1, .int v1), (2, .int v2)]) hx hb dX9_nextBidder_117 hl (k := 5) rfl (iv_1 _) (by decide) rfl (fun ls hl => ?_)
                    refine lv_goto (tgt := 6) hx hb dX9_nextBidder_120 (by decide) ?_
                    exact ih _ _ _ _ _ hw (lv_sub hl [3, 4, 5, 1, 0] rfl) hf hk
                  · have hf := it_f h15 hf
                    refine lv_aload_n hx hb dX9_nextBidder_94 rfl (lv_at hl 1 rfl) ?_
                    refine mg_15 C hw dX9_nextBidder_95 ?_
                    refine lv_iload hx hb dX9_nextBidder_98 (lv_at hl 5 rfl) ?_
                    obtain ⟨g16, hf⟩ := gd_inv hf
                    refine ml_15 C hw g16 dX9_nextBidder_100 ?_
                    refine lv_aload_n hx hb dX9_nextBidder_101 rfl (lv_at hl 1 rfl) ?_
                    refine mg_15 C hw dX9_nextBidder_102 ?_
                    refine lv_iload_n hx hb dX9_nextBidder_105 rfl (lv_at hl 4 rfl) ?_
                    obtain ⟨g17, hf⟩ := gd_inv hf
                    refine ml_15 C hw g17 dX9_nextBidder_106 ?_
                    refine lv_icmp_ge (tgt := 115) hx hb dX9_nextBidder_107 (by decide) (fun h18 => ?_) (fun h18 => ?_)
                    · have hf := it_t h18 hf
                      refine lv_iload_n hx hb dX9_nextBidder_115 rfl (lv_at hl 4 rfl) ?_
                      refine lv_istore_n (lv' := [(3, .int v3), (5, .int 1), (0, .ref a0), (1, .int v1), (2, .int v2), (4, .int v4)]) hx hb dX9_nextBidder_116 rfl hl (by decide) rfl (fun ls hl => ?_)
                      refine lv_iinc (v := (v4 + 1)) (lv' := [(4, .int (v4 + 1)), (3, .int v3), (5, .int 1), (0, .ref a0), (1, .int v1), (2, .int v2)]) hx hb dX9_nextBidder_117 hl (k := 5) rfl (iv_1 _) (by decide) rfl (fun ls hl => ?_)
                      refine lv_goto (tgt := 6) hx hb dX9_nextBidder_120 (by decide) ?_
                      exact ih _ _ _ _ _ hw (lv_sub hl [3, 4, 5, 1, 0] rfl) hf hk
                    · have hf := it_f h18 hf
                      refine lv_iload hx hb dX9_nextBidder_110 (lv_at hl 5 rfl) ?_
                      refine lv_goto (tgt := 116) hx hb dX9_nextBidder_112 (by decide) ?_
                      refine lv_istore_n (lv' := [(3, .int v4), (5, .int 1), (0, .ref a0), (1, .int v1), (2, .int v2), (4, .int v4)]) hx hb dX9_nextBidder_116 rfl hl (by decide) rfl (fun ls hl => ?_)
                      refine lv_iinc (v := (v4 + 1)) (lv' := [(4, .int (v4 + 1)), (3, .int v4), (5, .int 1), (0, .ref a0), (1, .int v1), (2, .int v2)]) hx hb dX9_nextBidder_117 hl (k := 5) rfl (iv_1 _) (by decide) rfl (fun ls hl => ?_)
                      refine lv_goto (tgt := 6) hx hb dX9_nextBidder_120 (by decide) ?_
                      exact ih _ _ _ _ _ hw (lv_sub hl [3, 4, 5, 1, 0] rfl) hf hk
set_option maxHeartbeats 4000000 in
theorem kX9_nextBidder (l : Launch) (D : va_G) (cI cB cS : ClassId) (a0 : Nat) (am : Nat → Nat) {p1 : Int32} {p2 : Int32} {M : MS} {q : Int32} (hf : fX9_nextBidder p1 p2 M = some q) : Ct l D cI cB cS yX9_nextBidder cX9_nextBidder 6 (some .int) 2 44 [.ref a0, .int p1, .int p2] (mW cI a0 am M) (some (.int q)) (mW cI a0 am M) := by
  refine Ct.ofW (by decide) (Nat.le_of_ble_eq_true rfl) ?_
  intro p e s m args below meth c ls C hr hlocks _ hw hl
  have hx := C.1
  have hb := C.2.1
  have hA : ∀ q, s.heap.size ≤ q → va_A (mW cI a0 am M) s.heap.size q := fun q h => Or.inr h
  have hcg := trivial
  have hl : lv_has ls 6 [(0, .ref a0), (1, .int p1), (2, .int p2)] := hl
  unfold fX9_nextBidder at hf
  refine lv_bipush (v := (-9)) hx hb dX9_nextBidder_0 ib_m9 ?_
  refine lv_istore_n (lv' := [(3, .int (-9)), (0, .ref a0), (1, .int p1), (2, .int p2)]) hx hb dX9_nextBidder_2 rfl hl (by decide) rfl (fun ls hl => ?_)
  refine lv_iconst (v := 0) hx hb dX9_nextBidder_3 ic_0 ?_
  refine lv_istore (lv' := [(4, .int 0), (3, .int (-9)), (0, .ref a0), (1, .int p1), (2, .int p2)]) hx hb dX9_nextBidder_4 hl (by decide) rfl (fun ls hl => ?_)
  refine wX9_nextBidder_6 C hr hlocks hA hcg 300 _ _ _ _ _ hw (lv_sub hl [2, 3, 4, 1, 0] rfl) hf (fun x19 H locs ls hw hl hf => ?_)
  refine lv_iload_n hx hb dX9_nextBidder_123 rfl (lv_at hl 0 rfl) ?_
  obtain rfl := Option.some.inj hf
  exact qt_i C hr hlocks hw dX9_nextBidder_124
theorem cfX9_sell : cf yX9_sell cX9_sell 5 none 2 := ⟨tg_852, by decide +kernel, tg_7⟩
set_option maxHeartbeats 4000000 in
theorem wX9_sell_23 {p : Program} {l : Launch} {e : Env} {s : State} {m : MethodId} {args : Array Value} {below : List Frame} {meth : Method} {c : Code} {D : va_G} {cI cB cS : ClassId} {a0 : Nat} {am : Nat → Nat} {ws0 : va_W} {v1 : Int32} {v2 : Int32} (C : cx p c cX9_sell 5 s args m RX9 D cI cB cS) (hr : meth.sig.returnType = none) (hlocks : meth.locks = false) (hA : ∀ q, s.heap.size ≤ q → va_A ws0 s.heap.size q) {k : MS → Option MS} {q : MS}
    (hcg : True) : ∀ (fu : Nat) (v3 : Int32) (M : MS) (H : Heap) (locs : List Loc) (ls : Array Slot), wd D (va_A ws0 s.heap.size) s.heap (mW cI a0 am M) H locs → lv_has ls 5 [(0, .ref a0), (1, .int v1), (2, .int v2), (3, .int v3)] → fX9_sell_23 fu k v1 v2 v3 M = some q →
    (∀  (M1 : MS) (H : Heap) (locs : List Loc) (ls : Array Slot), wd D (va_A ws0 s.heap.size) s.heap (mW cI a0 am M1) H locs → lv_has ls 5 [] → k  M1 = some q → W p l e { frames := 3, cells := 0, slots := 0, locals := 69 } s m args below meth c H locs 0 0 (Qt D below args s ws0 none (mW cI a0 am q)) (F0 m 135 ls [])) →
    W p l e { frames := 3, cells := 0, slots := 0, locals := 69 } s m args below meth c H locs 0 0 (Qt D below args s ws0 none (mW cI a0 am q)) (F0 m 23 ls []) := by
  have hx := C.1
  have hb := C.2.1
  intro fu
  induction fu with
  | zero => intro v3 M H locs ls hw hl hf hk; rw [fX9_sell_23] at hf; cases hf
  | succ fu ih =>
      intro v3 M H locs ls hw hl hf hk
      rw [fX9_sell_23] at hf
      refine lv_iload_n hx hb dX9_sell_23 rfl (lv_at hl 3 rfl) ?_
      refine lv_if_lt (tgt := 135) hx hb dX9_sell_24 (by decide) (fun h3 => ?_) (fun h3 => ?_)
      · have hf := it_t h3 hf
        exact hk _ _ _ _ hw (lv_sub hl [] rfl) hf
      · have hf := it_f h3 hf
        refine lv_aload_n hx hb dX9_sell_27 rfl (lv_at hl 0 rfl) ?_
        refine lv_dup hx hb dX9_sell_28 rfl ?_
        refine mg_16 C hw dX9_sell_29 ?_
        refine lv_aload_n hx hb dX9_sell_32 rfl (lv_at hl 0 rfl) ?_
        refine lv_aload_n hx hb dX9_sell_33 rfl (lv_at hl 0 rfl) ?_
        refine mg_15 C hw dX9_sell_34 ?_
        refine lv_iload_n hx hb dX9_sell_37 rfl (lv_at hl 3 rfl) ?_
        obtain ⟨g4, hf⟩ := gd_inv hf
        refine ml_15 C hw g4 dX9_sell_38 ?_
        obtain ⟨r5, e6, hf⟩ := bd hf
        refine ct_V1 (q0 := 0) (ci := 9) (rest := [.int (M 16 0), .ref a0]) C hw hA (kX9_step l D cI cB cS a0 am e6) cfX9_step tg_857 tg_859 ts_yX9_step ⟨(Nat.le_of_ble_eq_true rfl), (Nat.le_of_ble_eq_true rfl)⟩ ⟨(Nat.le_of_ble_eq_true rfl), (Nat.le_of_ble_eq_true rfl)⟩ rfl rfl rfl rfl hl.1 rfl (Nat.le_of_ble_eq_true rfl) dX9_sell_39 (fun H locs hw => ?_)
        refine lv_iadd hx hb dX9_sell_42 ?_
        refine mp_16 C hw dX9_sell_43 (fun H locs hw => ?_)
        refine lv_aload_n hx hb dX9_sell_46 rfl (lv_at hl 0 rfl) ?_
        refine lv_iload_n hx hb dX9_sell_47 rfl (lv_at hl 3 rfl) ?_
        refine mp_17 C hw dX9_sell_48 (fun H locs hw => ?_)
        refine lv_aload_n hx hb dX9_sell_51 rfl (lv_at hl 0 rfl) ?_
        refine mg_19 C hw dX9_sell_52 ?_
        refine lv_aload_n hx hb dX9_sell_55 rfl (lv_at hl 0 rfl) ?_
        refine mg_18 C hw dX9_sell_56 ?_
        refine lv_bipush (v := 100) hx hb dX9_sell_59 ib_100 ?_
        refine lv_aload_n hx hb dX9_sell_61 rfl (lv_at hl 0 rfl) ?_
        refine mg_16 C hw dX9_sell_62 ?_
        refine lv_imul hx hb dX9_sell_65 ?_
        refine lv_iload_n hx hb dX9_sell_66 rfl (lv_at hl 3 rfl) ?_
        refine lv_iadd hx hb dX9_sell_67 ?_
        obtain ⟨g7, hf⟩ := gd_inv hf
        refine ms_19 C hw g7 dX9_sell_68 (fun H locs hw => ?_)
        refine lv_aload_n hx hb dX9_sell_69 rfl (lv_at hl 0 rfl) ?_
        refine lv_dup hx hb dX9_sell_70 rfl ?_
        refine mg_18 C hw dX9_sell_71 ?_
        refine lv_iconst (v := 1) hx hb dX9_sell_74 ic_1 ?_
        refine lv_iadd hx hb dX9_sell_75 ?_
        refine mp_18 C hw dX9_sell_76 (fun H locs hw => ?_)
        refine lv_aload_n hx hb dX9_sell_79 rfl (lv_at hl 0 rfl) ?_
        refine mg_15 C hw dX9_sell_80 ?_
        refine lv_iload_n hx hb dX9_sell_83 rfl (lv_at hl 3 rfl) ?_
        obtain ⟨g8, hf⟩ := gd_inv hf
        refine ml_15 C hw g8 dX9_sell_84 ?_
        refine lv_iconst (v := 1) hx hb dX9_sell_85 ic_1 ?_
        refine lv_iadd hx hb dX9_sell_86 ?_
        refine lv_istore (lv' := [(4, .int (((u2 (u2 (u2 (u2 M 16 0 ((M 16 0) + r5)) 17 0 v3) 19 ((u2 (u2 M 16 0 ((M 16 0) + r5)) 17 0 v3) 18 0).toNatClampNeg ((100 * ((u2 (u2 M 16 0 ((M 16 0) + r5)) 17 0 v3) 16 0)) + v3)) 18 0 (((u2 (u2 (u2 M 16 0 ((M 16 0) + r5)) 17 0 v3) 19 ((u2 (u2 M 16 0 ((M 16 0) + r5)) 17 0 v3) 18 0).toNatClampNeg ((100 * ((u2 (u2 M 16 0 ((M 16 0) + r5)) 17 0 v3) 16 0)) + v3)) 18 0) + 1)) 15 v3.toNatClampNeg) + 1)), (0, .ref a0), (1, .int v1), (2, .int v2), (3, .int v3)]) hx hb dX9_sell_87 hl (by decide) rfl (fun ls hl => ?_)
        refine lv_aload_n hx hb dX9_sell_89 rfl (lv_at hl 1 rfl) ?_
        refine mg_15 C hw dX9_sell_90 ?_
        refine lv_iload_n hx hb dX9_sell_93 rfl (lv_at hl 4 rfl) ?_
        refine lv_iload hx hb dX9_sell_94 (lv_at hl 0 rfl) ?_
        refine lv_aload_n hx hb dX9_sell_96 rfl (lv_at hl 1 rfl) ?_
        refine mg_2 C hw dX9_sell_97 ?_
        obtain ⟨g9, hf⟩ := nzi_inv hf
        refine lv_irem hx hb dX9_sell_100 g9 ?_
        refine lv_if_le (tgt := 118) hx hb dX9_sell_101 (by decide) (fun h10 => ?_) (fun h10 => ?_)
        · have hf := it_t h10 hf
          refine lv_aload_n hx hb dX9_sell_118 rfl (lv_at hl 1 rfl) ?_
          refine mg_15 C hw dX9_sell_119 ?_
          refine lv_iload_n hx hb dX9_sell_122 rfl (lv_at hl 4 rfl) ?_
          obtain ⟨g11, hf⟩ := gd_inv hf
          refine ml_15 C hw g11 dX9_sell_123 ?_
          obtain ⟨g12, hf⟩ := gd_inv hf
          refine ms_15 C hw g12 dX9_sell_124 (fun H locs hw => ?_)
          refine lv_aload_n hx hb dX9_sell_125 rfl (lv_at hl 1 rfl) ?_
          refine lv_iload_n hx hb dX9_sell_126 rfl (lv_at hl 2 rfl) ?_
          refine lv_iload_n hx hb dX9_sell_127 rfl (lv_at hl 3 rfl) ?_
          obtain ⟨r13, e14, hf⟩ := bd hf
          refine ct_V1 (q0 := 0) (ci := 9) (rest := []) C hw hA (kX9_nextBidder l D cI cB cS a0 am e14) cfX9_nextBidder tg_853 tg_855 ts_yX9_nextBidder ⟨(Nat.le_of_ble_eq_true rfl), (Nat.le_of_ble_eq_true rfl)⟩ ⟨(Nat.le_of_ble_eq_true rfl), (Nat.le_of_ble_eq_true rfl)⟩ rfl rfl rfl rfl hl.1 rfl (Nat.le_of_ble_eq_true rfl) dX9_sell_128 (fun H locs hw => ?_)
          refine lv_istore_n (lv' := [(3, .int r13), (4, .int (((u2 (u2 (u2 (u2 M 16 0 ((M 16 0) + r5)) 17 0 v3) 19 ((u2 (u2 M 16 0 ((M 16 0) + r5)) 17 0 v3) 18 0).toNatClampNeg ((100 * ((u2 (u2 M 16 0 ((M 16 0) + r5)) 17 0 v3) 16 0)) + v3)) 18 0 (((u2 (u2 (u2 M 16 0 ((M 16 0) + r5)) 17 0 v3) 19 ((u2 (u2 M 16 0 ((M 16 0) + r5)) 17 0 v3) 18 0).toNatClampNeg ((100 * ((u2 (u2 M 16 0 ((M 16 0) + r5)) 17 0 v3) 16 0)) + v3)) 18 0) + 1)) 15 v3.toNatClampNeg) + 1)), (0, .ref a0), (1, .int v1), (2, .int v2)]) hx hb dX9_sell_131 rfl hl (by decide) rfl (fun ls hl => ?_)
          refine lv_goto (tgt := 23) hx hb dX9_sell_132 (by decide) ?_
          exact ih _ _ _ _ _ hw (lv_sub hl [2, 3, 4, 0] rfl) hf hk
        · have hf := it_f h10 hf
          refine lv_aload_n hx hb dX9_sell_104 rfl (lv_at hl 1 rfl) ?_
          refine lv_iload hx hb dX9_sell_105 (lv_at hl 0 rfl) ?_
          obtain ⟨r15, e16, hf⟩ := bd hf
          refine ct_V1 (q0 := 0) (ci := 9) (rest := [.int v3, .ref (am 15)]) C hw hA (kX9_isTaken l D cI cB cS a0 am e16) cfX9_isTaken tg_801 tg_803 ts_yX9_isTaken ⟨(Nat.le_of_ble_eq_true rfl), (Nat.le_of_ble_eq_true rfl)⟩ ⟨(Nat.le_of_ble_eq_true rfl), (Nat.le_of_ble_eq_true rfl)⟩ rfl rfl rfl rfl hl.1 rfl (Nat.le_of_ble_eq_true rfl) dX9_sell_107 (fun H locs hw => ?_)
          refine lv_if_ne (tgt := 118) hx hb dX9_sell_110 (by decide) (fun h17 => ?_) (fun h17 => ?_)
          · have hf := it_f h17 hf
            refine lv_aload_n hx hb dX9_sell_118 rfl (lv_at hl 1 rfl) ?_
            refine mg_15 C hw dX9_sell_119 ?_
            refine lv_iload_n hx hb dX9_sell_122 rfl (lv_at hl 4 rfl) ?_
            obtain ⟨g18, hf⟩ := gd_inv hf
            refine ml_15 C hw g18 dX9_sell_123 ?_
            obtain ⟨g19, hf⟩ := gd_inv hf
            refine ms_15 C hw g19 dX9_sell_124 (fun H locs hw => ?_)
            refine lv_aload_n hx hb dX9_sell_125 rfl (lv_at hl 1 rfl) ?_
            refine lv_iload_n hx hb dX9_sell_126 rfl (lv_at hl 2 rfl) ?_
            refine lv_iload_n hx hb dX9_sell_127 rfl (lv_at hl 3 rfl) ?_
            obtain ⟨r20, e21, hf⟩ := bd hf
            refine ct_V1 (q0 := 0) (ci := 9) (rest := []) C hw hA (kX9_nextBidder l D cI cB cS a0 am e21) cfX9_nextBidder tg_853 tg_855 ts_yX9_nextBidder ⟨(Nat.le_of_ble_eq_true rfl), (Nat.le_of_ble_eq_true rfl)⟩ ⟨(Nat.le_of_ble_eq_true rfl), (Nat.le_of_ble_eq_true rfl)⟩ rfl rfl rfl rfl hl.1 rfl (Nat.le_of_ble_eq_true rfl) dX9_sell_128 (fun H locs hw => ?_)
            refine lv_istore_n (lv' := [(3, .int r20), (4, .int (((u2 (u2 (u2 (u2 M 16 0 ((M 16 0) + r5)) 17 0 v3) 19 ((u2 (u2 M 16 0 ((M 16 0) + r5)) 17 0 v3) 18 0).toNatClampNeg ((100 * ((u2 (u2 M 16 0 ((M 16 0) + r5)) 17 0 v3) 16 0)) + v3)) 18 0 (((u2 (u2 (u2 M 16 0 ((M 16 0) + r5)) 17 0 v3) 19 ((u2 (u2 M 16 0 ((M 16 0) + r5)) 17 0 v3) 18 0).toNatClampNeg ((100 * ((u2 (u2 M 16 0 ((M 16 0) + r5)) 17 0 v3) 16 0)) + v3)) 18 0) + 1)) 15 v3.toNatClampNeg) + 1)), (0, .ref a0), (1, .int v1), (2, .int v2)]) hx hb dX9_sell_131 rfl hl (by decide) rfl (fun ls hl => ?_)
            refine lv_goto (tgt := 23) hx hb dX9_sell_132 (by decide) ?_
            exact ih _ _ _ _ _ hw (lv_sub hl [2, 3, 4, 0] rfl) hf hk
          · have hf := it_t h17 hf
            refine lv_iload hx hb dX9_sell_113 (lv_at hl 0 rfl) ?_
            refine lv_goto (tgt := 124) hx hb dX9_sell_115 (by decide) ?_
            obtain ⟨g22, hf⟩ := gd_inv hf
            refine ms_15 C hw g22 dX9_sell_124 (fun H locs hw => ?_)
            refine lv_aload_n hx hb dX9_sell_125 rfl (lv_at hl 1 rfl) ?_
            refine lv_iload_n hx hb dX9_sell_126 rfl (lv_at hl 2 rfl) ?_
            refine lv_iload_n hx hb dX9_sell_127 rfl (lv_at hl 3 rfl) ?_
            obtain ⟨r23, e24, hf⟩ := bd hf
            refine ct_V1 (q0 := 0) (ci := 9) (rest := []) C hw hA (kX9_nextBidder l D cI cB cS a0 am e24) cfX9_nextBidder tg_853 tg_855 ts_yX9_nextBidder ⟨(Nat.le_of_ble_eq_true rfl), (Nat.le_of_ble_eq_true rfl)⟩ ⟨(Nat.le_of_ble_eq_true rfl), (Nat.le_of_ble_eq_true rfl)⟩ rfl rfl rfl rfl hl.1 rfl (Nat.le_of_ble_eq_true rfl) dX9_sell_128 (fun H locs hw => ?_)
            refine lv_istore_n (lv' := [(3, .int r23), (4, .int (((u2 (u2 (u2 (u2 M 16 0 ((M 16 0) + r5)) 17 0 v3) 19 ((u2 (u2 M 16 0 ((M 16 0) + r5)) 17 0 v3) 18 0).toNatClampNeg ((100 * ((u2 (u2 M 16 0 ((M 16 0) + r5)) 17 0 v3) 16 0)) + v3)) 18 0 (((u2 (u2 (u2 M 16 0 ((M 16 0) + r5)) 17 0 v3) 19 ((u2 (u2 M 16 0 ((M 16 0) + r5)) 17 0 v3) 18 0).toNatClampNeg ((100 * ((u2 (u2 M 16 0 ((M 16 0) + r5)) 17 0 v3) 16 0)) + v3)) 18 0) + 1)) 15 v3.toNatClampNeg) + 1)), (0, .ref a0), (1, .int v1), (2, .int v2)]) hx hb dX9_sell_131 rfl hl (by decide) rfl (fun ls hl => ?_)
            refine lv_goto (tgt := 23) hx hb dX9_sell_132 (by decide) ?_
            exact ih _ _ _ _ _ hw (lv_sub hl [2, 3, 4, 0] rfl) hf hk
set_option maxHeartbeats 4000000 in
theorem kX9_sell (l : Launch) (D : va_G) (cI cB cS : ClassId) (a0 : Nat) (am : Nat → Nat) {p1 : Int32} {p2 : Int32} {M : MS} {q : MS} (hf : fX9_sell p1 p2 M = some q) : Ct l D cI cB cS yX9_sell cX9_sell 5 none 3 69 [.ref a0, .int p1, .int p2] (mW cI a0 am M) none (mW cI a0 am q) := by
  refine Ct.ofW (by decide) (Nat.le_of_ble_eq_true rfl) ?_
  intro p e s m args below meth c ls C hr hlocks _ hw hl
  have hx := C.1
  have hb := C.2.1
  have hA : ∀ q, s.heap.size ≤ q → va_A (mW cI a0 am M) s.heap.size q := fun q h => Or.inr h
  have hcg := trivial
  have hl : lv_has ls 5 [(0, .ref a0), (1, .int p1), (2, .int p2)] := hl
  unfold fX9_sell at hf
  refine lv_aload_n hx hb dX9_sell_0 rfl (lv_at hl 0 rfl) ?_
  refine lv_iconst (v := 0) hx hb dX9_sell_1 ic_0 ?_
  refine mp_16 C hw dX9_sell_2 (fun H locs hw => ?_)
  refine lv_aload_n hx hb dX9_sell_5 rfl (lv_at hl 0 rfl) ?_
  refine lv_bipush (v := (-9)) hx hb dX9_sell_6 ib_m9 ?_
  refine mp_17 C hw dX9_sell_8 (fun H locs hw => ?_)
  refine lv_aload_n hx hb dX9_sell_11 rfl (lv_at hl 0 rfl) ?_
  refine lv_iconst (v := 0) hx hb dX9_sell_12 ic_0 ?_
  refine mp_18 C hw dX9_sell_13 (fun H locs hw => ?_)
  refine lv_aload_n hx hb dX9_sell_16 rfl (lv_at hl 0 rfl) ?_
  refine lv_iload_n hx hb dX9_sell_17 rfl (lv_at hl 1 rfl) ?_
  refine lv_iload_n hx hb dX9_sell_18 rfl (lv_at hl 2 rfl) ?_
  obtain ⟨r1, e2, hf⟩ := bd hf
  refine ct_V1 (q0 := 0) (ci := 9) (rest := []) C hw hA (kX9_nextBidder l D cI cB cS a0 am e2) cfX9_nextBidder tg_853 tg_855 ts_yX9_nextBidder ⟨(Nat.le_of_ble_eq_true rfl), (Nat.le_of_ble_eq_true rfl)⟩ ⟨(Nat.le_of_ble_eq_true rfl), (Nat.le_of_ble_eq_true rfl)⟩ rfl rfl rfl rfl hl.1 rfl (Nat.le_of_ble_eq_true rfl) dX9_sell_19 (fun H locs hw => ?_)
  refine lv_istore_n (lv' := [(3, .int r1), (0, .ref a0), (1, .int p1), (2, .int p2)]) hx hb dX9_sell_22 rfl hl (by decide) rfl (fun ls hl => ?_)
  refine wX9_sell_23 C hr hlocks hA hcg 300 _ _ _ _ _ hw (lv_sub hl [1, 2, 3, 0] rfl) hf (fun M25 H locs ls hw hl hf => ?_)
  obtain rfl := Option.some.inj hf
  exact qt_v C hr hlocks hw dX9_sell_135
theorem cfX9_all : cf yX9_all cX9_all 1 (some .int) 0 := ⟨tg_844, by decide +kernel, tg_7⟩
set_option maxHeartbeats 4000000 in
theorem kX9_all (l : Launch) (D : va_G) (cI cB cS : ClassId) (a0 : Nat) (am : Nat → Nat) (M : MS) : Ct l D cI cB cS yX9_all cX9_all 1 (some .int) 0 0 [.ref a0] (mW cI a0 am M) (some (.int (fX9_all M))) (mW cI a0 am M) := by
  obtain ⟨q, hf⟩ : ∃ q, fX9_all M = q := ⟨_, rfl⟩
  rw [hf]
  refine Ct.ofW (by decide) (Nat.le_of_ble_eq_true rfl) ?_
  intro p e s m args below meth c ls C hr hlocks _ hw hl
  have hx := C.1
  have hb := C.2.1
  have hA : ∀ q, s.heap.size ≤ q → va_A (mW cI a0 am M) s.heap.size q := fun q h => Or.inr h
  have hcg := trivial
  have hl : lv_has ls 1 [(0, .ref a0)] := hl
  unfold fX9_all at hf
  refine lv_iconst (v := 1) hx hb dX9_all_0 ic_1 ?_
  refine lv_aload_n hx hb dX9_all_1 rfl (lv_at hl 0 rfl) ?_
  refine mg_3 C hw dX9_all_2 ?_
  refine lv_ishl hx hb dX9_all_5 ?_
  refine lv_iconst (v := 1) hx hb dX9_all_6 ic_1 ?_
  refine lv_isub hx hb dX9_all_7 ?_
  subst hf
  exact qt_i C hr hlocks hw dX9_all_8
theorem cfX9_sellTo : cf yX9_sellTo cX9_sellTo 3 none 2 := ⟨tg_848, by decide +kernel, tg_7⟩
set_option maxHeartbeats 4000000 in
theorem kX9_sellTo (l : Launch) (D : va_G) (cI cB cS : ClassId) (a0 : Nat) (am : Nat → Nat) {p1 : Int32} {p2 : Int32} {M : MS} {q : MS} (hf : fX9_sellTo p1 p2 M = some q) : Ct l D cI cB cS yX9_sellTo cX9_sellTo 3 none 4 93 [.ref a0, .int p1, .int p2] (mW cI a0 am M) none (mW cI a0 am q) := by
  refine Ct.ofW (by decide) (Nat.le_of_ble_eq_true rfl) ?_
  intro p e s m args below meth c ls C hr hlocks _ hw hl
  have hx := C.1
  have hb := C.2.1
  have hA : ∀ q, s.heap.size ≤ q → va_A (mW cI a0 am M) s.heap.size q := fun q h => Or.inr h
  have hcg := trivial
  have hl : lv_has ls 3 [(0, .ref a0), (1, .int p1), (2, .int p2)] := hl
  unfold fX9_sellTo at hf
  refine lv_aload_n hx hb dX9_sellTo_0 rfl (lv_at hl 0 rfl) ?_
  refine lv_iload_n hx hb dX9_sellTo_1 rfl (lv_at hl 2 rfl) ?_
  obtain ⟨r1, e2, hf⟩ := bd hf
  refine ct_V0 (q0 := 0) (ci := 9) (rest := []) C hw hA (kX9_sitDown l D cI cB cS a0 am e2) cfX9_sitDown tg_790 tg_792 ts_yX9_sitDown ⟨(Nat.le_of_ble_eq_true rfl), (Nat.le_of_ble_eq_true rfl)⟩ ⟨(Nat.le_of_ble_eq_true rfl), (Nat.le_of_ble_eq_true rfl)⟩ rfl rfl rfl rfl hl.1 rfl (Nat.le_of_ble_eq_true rfl) dX9_sellTo_2 (fun H locs hw => ?_)
  refine lv_aload_n hx hb dX9_sellTo_5 rfl (lv_at hl 0 rfl) ?_
  refine lv_iload_n hx hb dX9_sellTo_6 rfl (lv_at hl 1 rfl) ?_
  refine lv_iload_n hx hb dX9_sellTo_7 rfl (lv_at hl 2 rfl) ?_
  obtain ⟨r3, e4, hf⟩ := bd hf
  refine ct_V0 (q0 := 0) (ci := 9) (rest := []) C hw hA (kX9_sell l D cI cB cS a0 am e4) cfX9_sell tg_849 tg_851 ts_yX9_sell ⟨(Nat.le_of_ble_eq_true rfl), (Nat.le_of_ble_eq_true rfl)⟩ ⟨(Nat.le_of_ble_eq_true rfl), (Nat.le_of_ble_eq_true rfl)⟩ rfl rfl rfl rfl hl.1 rfl (Nat.le_of_ble_eq_true rfl) dX9_sellTo_8 (fun H locs hw => ?_)
  obtain rfl := Option.some.inj hf
  exact qt_v C hr hlocks hw dX9_sellTo_11
theorem cfX9_sale : cf yX9_sale cX9_sale 3 (some .int) 2 := ⟨tg_840, by decide +kernel, tg_7⟩
set_option maxHeartbeats 4000000 in
theorem kX9_sale (l : Launch) (D : va_G) (cI cB cS : ClassId) (a0 : Nat) (am : Nat → Nat) {p1 : Int32} {p2 : Int32} {M : MS} {q : (Int32 × MS)} (hf : fX9_sale p1 p2 M = some q) : Ct l D cI cB cS yX9_sale cX9_sale 3 (some .int) 5 115 [.ref a0, .int p1, .int p2] (mW cI a0 am M) (some (.int q.1)) (mW cI a0 am q.2) := by
  refine Ct.ofW (by decide) (Nat.le_of_ble_eq_true rfl) ?_
  intro p e s m args below meth c ls C hr hlocks _ hw hl
  have hx := C.1
  have hb := C.2.1
  have hA : ∀ q, s.heap.size ≤ q → va_A (mW cI a0 am M) s.heap.size q := fun q h => Or.inr h
  have hcg := trivial
  have hl : lv_has ls 3 [(0, .ref a0), (1, .int p1), (2, .int p2)] := hl
  unfold fX9_sale at hf
  refine lv_iload_n hx hb dX9_sale_0 rfl (lv_at hl 1 rfl) ?_
  refine ct_S1 (rest := []) C hw hA (kX9_noLot l D cI cB cS _ _) cfX9_noLot tg_809 tg_810 ⟨(Nat.le_of_ble_eq_true rfl), (Nat.le_of_ble_eq_true rfl)⟩ ⟨(Nat.le_of_ble_eq_true rfl), (Nat.le_of_ble_eq_true rfl)⟩ rfl hl.1 rfl (Nat.le_of_ble_eq_true rfl) dX9_sale_1 (fun H locs hw => ?_)
  refine lv_if_eq (tgt := 9) hx hb dX9_sale_4 (by decide) (fun h1 => ?_) (fun h1 => ?_)
  · have hf := it_t h1 hf
    refine lv_iload_n hx hb dX9_sale_9 rfl (lv_at hl 2 rfl) ?_
    refine lv_i2l (v := (p2.toInt64)) hx hb dX9_sale_10 rfl ?_
    refine lv_lconst (v := 0) hx hb dX9_sale_11 rfl ?_
    refine lv_ldc2 (v := (2 : Int64)) hx hb C.2.2.2.1 (C.2.2.2.2.1 _ tg_751) dX9_sale_12 ?_
    refine ct_S1 (rest := []) C hw hA (kX9_in l D cI cB cS _ _ _ _) cfX9_in tg_744 tg_745 ⟨(Nat.le_of_ble_eq_true rfl), (Nat.le_of_ble_eq_true rfl)⟩ ⟨(Nat.le_of_ble_eq_true rfl), (Nat.le_of_ble_eq_true rfl)⟩ rfl hl.1 rfl (Nat.le_of_ble_eq_true rfl) dX9_sale_15 (fun H locs hw => ?_)
    refine lv_if_ne (tgt := 24) hx hb dX9_sale_18 (by decide) (fun h2 => ?_) (fun h2 => ?_)
    · have hf := it_f h2 hf
      refine lv_aload_n hx hb dX9_sale_24 rfl (lv_at hl 0 rfl) ?_
      refine mg_1 C hw dX9_sale_25 ?_
      refine lv_if_ne (tgt := 34) hx hb dX9_sale_28 (by decide) (fun h3 => ?_) (fun h3 => ?_)
      · have hf := it_f h3 hf
        refine lv_aload_n hx hb dX9_sale_34 rfl (lv_at hl 0 rfl) ?_
        refine lv_iload_n hx hb dX9_sale_35 rfl (lv_at hl 1 rfl) ?_
        refine lv_aload_n hx hb dX9_sale_36 rfl (lv_at hl 0 rfl) ?_
        refine ct_V1 (q0 := 0) (ci := 9) (rest := [.int p1, .ref a0]) C hw hA (kX9_all l D cI cB cS a0 am _) cfX9_all tg_841 tg_843 ts_yX9_all ⟨(Nat.le_of_ble_eq_true rfl), (Nat.le_of_ble_eq_true rfl)⟩ ⟨(Nat.le_of_ble_eq_true rfl), (Nat.le_of_ble_eq_true rfl)⟩ rfl rfl rfl rfl hl.1 rfl (Nat.le_of_ble_eq_true rfl) dX9_sale_37 (fun H locs hw => ?_)
        obtain ⟨r4, e5, hf⟩ := bd hf
        refine ct_V0 (q0 := 0) (ci := 9) (rest := []) C hw hA (kX9_sellTo l D cI cB cS a0 am e5) cfX9_sellTo tg_845 tg_847 ts_yX9_sellTo ⟨(Nat.le_of_ble_eq_true rfl), (Nat.le_of_ble_eq_true rfl)⟩ ⟨(Nat.le_of_ble_eq_true rfl), (Nat.le_of_ble_eq_true rfl)⟩ rfl rfl rfl rfl hl.1 rfl (Nat.le_of_ble_eq_true rfl) dX9_sale_40 (fun H locs hw => ?_)
        refine lv_iload_n hx hb dX9_sale_43 rfl (lv_at hl 2 rfl) ?_
        refine lv_if_ne (tgt := 54) hx hb dX9_sale_44 (by decide) (fun h6 => ?_) (fun h6 => ?_)
        · have hf := it_f h6 hf
          refine lv_iload_n hx hb dX9_sale_54 rfl (lv_at hl 2 rfl) ?_
          refine lv_iconst (v := 1) hx hb dX9_sale_55 ic_1 ?_
          refine lv_icmp_ne (tgt := 66) hx hb dX9_sale_56 (by decide) (fun h7 => ?_) (fun h7 => ?_)
          · have hf := it_f h7 hf
            refine lv_aload_n hx hb dX9_sale_66 rfl (lv_at hl 0 rfl) ?_
            refine mg_18 C hw dX9_sale_67 ?_
            obtain rfl := Option.some.inj hf
            exact qt_i C hr hlocks hw dX9_sale_70
          · have hf := it_t h7 hf
            refine lv_aload_n hx hb dX9_sale_59 rfl (lv_at hl 0 rfl) ?_
            refine mg_17 C hw dX9_sale_60 ?_
            refine lv_goto (tgt := 70) hx hb dX9_sale_63 (by decide) ?_
            obtain rfl := Option.some.inj hf
            exact qt_i C hr hlocks hw dX9_sale_70
        · have hf := it_t h6 hf
          refine lv_aload_n hx hb dX9_sale_47 rfl (lv_at hl 0 rfl) ?_
          refine mg_16 C hw dX9_sale_48 ?_
          refine lv_goto (tgt := 70) hx hb dX9_sale_51 (by decide) ?_
          obtain rfl := Option.some.inj hf
          exact qt_i C hr hlocks hw dX9_sale_70
      · have hf := it_t h3 hf
        refine lv_bipush (v := (-3)) hx hb dX9_sale_31 ib_m3 ?_
        obtain rfl := Option.some.inj hf
        exact qt_i C hr hlocks hw dX9_sale_33
    · have hf := it_t h2 hf
      refine lv_bipush (v := (-2)) hx hb dX9_sale_21 ib_m2 ?_
      obtain rfl := Option.some.inj hf
      exact qt_i C hr hlocks hw dX9_sale_23
  · have hf := it_f h1 hf
    refine lv_iconst (v := (-1)) hx hb dX9_sale_7 ic_m1 ?_
    obtain rfl := Option.some.inj hf
    exact qt_i C hr hlocks hw dX9_sale_8
theorem cfX9_bid : cf yX9_bid cX9_bid 3 (some .int) 2 := ⟨tg_864, by decide +kernel, tg_7⟩
set_option maxHeartbeats 4000000 in
theorem kX9_bid (l : Launch) (D : va_G) (cI cB cS : ClassId) (a0 : Nat) (am : Nat → Nat) {p1 : Int32} {p2 : Int32} {M : MS} {q : (Int32 × MS)} (hf : fX9_bid p1 p2 M = some q) : Ct l D cI cB cS yX9_bid cX9_bid 3 (some .int) 5 115 [.ref a0, .int p1, .int p2] (mW cI a0 am M) (some (.int q.1)) (mW cI a0 am q.2) := by
  refine Ct.ofW (by decide) (Nat.le_of_ble_eq_true rfl) ?_
  intro p e s m args below meth c ls C hr hlocks _ hw hl
  have hx := C.1
  have hb := C.2.1
  have hA : ∀ q, s.heap.size ≤ q → va_A (mW cI a0 am M) s.heap.size q := fun q h => Or.inr h
  have hcg := trivial
  have hl : lv_has ls 3 [(0, .ref a0), (1, .int p1), (2, .int p2)] := hl
  unfold fX9_bid at hf
  refine lv_iload_n hx hb dX9_bid_0 rfl (lv_at hl 1 rfl) ?_
  refine ct_S1 (rest := []) C hw hA (kX9_noLot l D cI cB cS _ _) cfX9_noLot tg_809 tg_810 ⟨(Nat.le_of_ble_eq_true rfl), (Nat.le_of_ble_eq_true rfl)⟩ ⟨(Nat.le_of_ble_eq_true rfl), (Nat.le_of_ble_eq_true rfl)⟩ rfl hl.1 rfl (Nat.le_of_ble_eq_true rfl) dX9_bid_1 (fun H locs hw => ?_)
  refine lv_if_ne (tgt := 11) hx hb dX9_bid_4 (by decide) (fun h1 => ?_) (fun h1 => ?_)
  · have hf := it_f h1 hf
    refine lv_iconst (v := (-1)) hx hb dX9_bid_11 ic_m1 ?_
    obtain rfl := Option.some.inj hf
    exact qt_i C hr hlocks hw dX9_bid_12
  · have hf := it_t h1 hf
    refine lv_iload_n hx hb dX9_bid_7 rfl (lv_at hl 2 rfl) ?_
    refine lv_if_ge (tgt := 13) hx hb dX9_bid_8 (by decide) (fun h2 => ?_) (fun h2 => ?_)
    · have hf := it_t h2 hf
      refine lv_aload_n hx hb dX9_bid_13 rfl (lv_at hl 0 rfl) ?_
      refine mg_1 C hw dX9_bid_14 ?_
      refine lv_if_ne (tgt := 23) hx hb dX9_bid_17 (by decide) (fun h3 => ?_) (fun h3 => ?_)
      · have hf := it_f h3 hf
        refine lv_aload_n hx hb dX9_bid_23 rfl (lv_at hl 0 rfl) ?_
        refine lv_iload_n hx hb dX9_bid_24 rfl (lv_at hl 1 rfl) ?_
        refine lv_aload_n hx hb dX9_bid_25 rfl (lv_at hl 0 rfl) ?_
        refine ct_V1 (q0 := 0) (ci := 9) (rest := [.int p1, .ref a0]) C hw hA (kX9_all l D cI cB cS a0 am _) cfX9_all tg_841 tg_843 ts_yX9_all ⟨(Nat.le_of_ble_eq_true rfl), (Nat.le_of_ble_eq_true rfl)⟩ ⟨(Nat.le_of_ble_eq_true rfl), (Nat.le_of_ble_eq_true rfl)⟩ rfl rfl rfl rfl hl.1 rfl (Nat.le_of_ble_eq_true rfl) dX9_bid_26 (fun H locs hw => ?_)
        obtain ⟨r4, e5, hf⟩ := bd hf
        refine ct_V0 (q0 := 0) (ci := 9) (rest := []) C hw hA (kX9_sellTo l D cI cB cS a0 am e5) cfX9_sellTo tg_845 tg_847 ts_yX9_sellTo ⟨(Nat.le_of_ble_eq_true rfl), (Nat.le_of_ble_eq_true rfl)⟩ ⟨(Nat.le_of_ble_eq_true rfl), (Nat.le_of_ble_eq_true rfl)⟩ rfl rfl rfl rfl hl.1 rfl (Nat.le_of_ble_eq_true rfl) dX9_bid_29 (fun H locs hw => ?_)
        refine lv_iload_n hx hb dX9_bid_32 rfl (lv_at hl 2 rfl) ?_
        refine lv_aload_n hx hb dX9_bid_33 rfl (lv_at hl 0 rfl) ?_
        refine mg_18 C hw dX9_bid_34 ?_
        refine lv_icmp_ge (tgt := 49) hx hb dX9_bid_37 (by decide) (fun h6 => ?_) (fun h6 => ?_)
        · have hf := it_t h6 hf
          refine lv_bipush (v := (-9)) hx hb dX9_bid_49 ib_m9 ?_
          obtain rfl := Option.some.inj hf
          exact qt_i C hr hlocks hw dX9_bid_51
        · have hf := it_f h6 hf
          refine lv_aload_n hx hb dX9_bid_40 rfl (lv_at hl 0 rfl) ?_
          refine mg_19 C hw dX9_bid_41 ?_
          refine lv_iload_n hx hb dX9_bid_44 rfl (lv_at hl 2 rfl) ?_
          obtain ⟨g7, hf⟩ := gd_inv hf
          refine ml_19 C hw g7 dX9_bid_45 ?_
          refine lv_goto (tgt := 51) hx hb dX9_bid_46 (by decide) ?_
          obtain rfl := Option.some.inj hf
          exact qt_i C hr hlocks hw dX9_bid_51
      · have hf := it_t h3 hf
        refine lv_bipush (v := (-3)) hx hb dX9_bid_20 ib_m3 ?_
        obtain rfl := Option.some.inj hf
        exact qt_i C hr hlocks hw dX9_bid_22
    · have hf := it_f h2 hf
      refine lv_iconst (v := (-1)) hx hb dX9_bid_11 ic_m1 ?_
      obtain rfl := Option.some.inj hf
      exact qt_i C hr hlocks hw dX9_bid_12
