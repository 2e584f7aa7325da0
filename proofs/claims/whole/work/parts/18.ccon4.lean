theorem cfX8_trace : cf yX8_trace cX8_trace 1 (some .int) 0 := ⟨tg_624, by decide +kernel, tg_1⟩
set_option maxHeartbeats 4000000 in
theorem kX8_trace (l : Launch) (D : va_G) (cI cB cS : ClassId) (n : Nat) (ad : Nat → Nat) (bf : Nat → Option Nat) (hcg : bok n ad bf) (M : MS) : Ct l D cI cB cS yX8_trace cX8_trace 1 (some .int) 0 0 [.ref (ad 0)] (cW cI cB cS n ad bf M) (some (.int (fX8_trace n M))) (cW cI cB cS n ad bf M) := by
  obtain ⟨q, hf⟩ : ∃ q, fX8_trace n M = q := ⟨_, rfl⟩
  rw [hf]
  refine Ct.ofW (by decide) (Nat.le_of_ble_eq_true rfl) ?_
  intro p e s m args below meth c ls C hr hlocks _ hw hl
  have hx := C.1
  have hb := C.2.1
  have hA : ∀ q, s.heap.size ≤ q → va_A (cW cI cB cS n ad bf M) s.heap.size q := fun q h => Or.inr h
  have hl : lv_has ls 1 [(0, .ref (ad 0))] := hl
  unfold fX8_trace at hf
  refine lv_aload_n hx hb dX8_trace_0 rfl (lv_at hl 0 rfl) ?_
  refine cg_8_21 C hw dX8_trace_1 ?_
  refine cg_8_235 C hw dX8_trace_4 ?_
  subst hf
  exact qt_i C hr hlocks hw dX8_trace_7
theorem cfX8_fault : cf yX8_fault cX8_fault 1 (some .int) 0 := ⟨tg_628, by decide +kernel, tg_1⟩
set_option maxHeartbeats 4000000 in
theorem kX8_fault (l : Launch) (D : va_G) (cI cB cS : ClassId) (n : Nat) (ad : Nat → Nat) (bf : Nat → Option Nat) (hcg : bok n ad bf) (M : MS) : Ct l D cI cB cS yX8_fault cX8_fault 1 (some .int) 0 0 [.ref (ad 0)] (cW cI cB cS n ad bf M) (some (.int (fX8_fault n M))) (cW cI cB cS n ad bf M) := by
  obtain ⟨q, hf⟩ : ∃ q, fX8_fault n M = q := ⟨_, rfl⟩
  rw [hf]
  refine Ct.ofW (by decide) (Nat.le_of_ble_eq_true rfl) ?_
  intro p e s m args below meth c ls C hr hlocks _ hw hl
  have hx := C.1
  have hb := C.2.1
  have hA : ∀ q, s.heap.size ≤ q → va_A (cW cI cB cS n ad bf M) s.heap.size q := fun q h => Or.inr h
  have hl : lv_has ls 1 [(0, .ref (ad 0))] := hl
  unfold fX8_fault at hf
  refine lv_aload_n hx hb dX8_fault_0 rfl (lv_at hl 0 rfl) ?_
  refine cg_8_48 C hw dX8_fault_1 ?_
  subst hf
  exact qt_i C hr hlocks hw dX8_fault_4
theorem cfX8_many : cf yX8_many cX8_many 2 (some .int) 1 := ⟨tg_632, by decide +kernel, tg_1⟩
set_option maxHeartbeats 4000000 in
theorem kX8_many (l : Launch) (D : va_G) (cI cB cS : ClassId) (n : Nat) (ad : Nat → Nat) (bf : Nat → Option Nat) (hcg : bok n ad bf) (p1 : Int32) (M : MS) : Ct l D cI cB cS yX8_many cX8_many 2 (some .int) 0 0 [.ref (ad 0), .int p1] (cW cI cB cS n ad bf M) (some (.int (fX8_many n p1 M))) (cW cI cB cS n ad bf M) := by
  obtain ⟨q, hf⟩ : ∃ q, fX8_many n p1 M = q := ⟨_, rfl⟩
  rw [hf]
  refine Ct.ofW (by decide) (Nat.le_of_ble_eq_true rfl) ?_
  intro p e s m args below meth c ls C hr hlocks _ hw hl
  have hx := C.1
  have hb := C.2.1
  have hA : ∀ q, s.heap.size ≤ q → va_A (cW cI cB cS n ad bf M) s.heap.size q := fun q h => Or.inr h
  have hl : lv_has ls 2 [(0, .ref (ad 0)), (1, .int p1)] := hl
  unfold fX8_many at hf
  refine lv_iload_n hx hb dX8_many_0 rfl (lv_at hl 1 rfl) ?_
  rcases Decidable.em (p1 = 0) with h1 | h1
  · have hf := it_t h1 hf
    refine lv_tableIn (off := 31) (tgt := 32) hx hb dX8_many_1 (by rw [h1]; decide) (by rw [h1]; decide) (by rw [h1]; rfl) (by decide) ?_
    refine lv_aload_n hx hb dX8_many_32 rfl (lv_at hl 0 rfl) ?_
    refine cg_8_28 C hw dX8_many_33 ?_
    refine cg_8_80 C hw dX8_many_36 ?_
    subst hf
    exact qt_i C hr hlocks hw dX8_many_39
  · have hf := it_f h1 hf
    rcases Decidable.em (p1 = 1) with h2 | h2
    · have hf := it_t h2 hf
      refine lv_tableIn (off := 39) (tgt := 40) hx hb dX8_many_1 (by rw [h2]; decide) (by rw [h2]; decide) (by rw [h2]; rfl) (by decide) ?_
      refine lv_aload_n hx hb dX8_many_40 rfl (lv_at hl 0 rfl) ?_
      refine cg_8_28 C hw dX8_many_41 ?_
      refine cg_8_114 C hw dX8_many_44 ?_
      subst hf
      exact qt_i C hr hlocks hw dX8_many_47
    · have hf := it_f h2 hf
      rcases Decidable.em (p1 = 2) with h3 | h3
      · have hf := it_t h3 hf
        refine lv_tableIn (off := 47) (tgt := 48) hx hb dX8_many_1 (by rw [h3]; decide) (by rw [h3]; decide) (by rw [h3]; rfl) (by decide) ?_
        refine lv_aload_n hx hb dX8_many_48 rfl (lv_at hl 0 rfl) ?_
        refine cg_8_28 C hw dX8_many_49 ?_
        refine cg_8_129 C hw dX8_many_52 ?_
        subst hf
        exact qt_i C hr hlocks hw dX8_many_55
      · have hf := it_f h3 hf
        rcases Decidable.em (p1 = 3) with h4 | h4
        · have hf := it_t h4 hf
          refine lv_tableIn (off := 55) (tgt := 56) hx hb dX8_many_1 (by rw [h4]; decide) (by rw [h4]; decide) (by rw [h4]; rfl) (by decide) ?_
          refine lv_aload_n hx hb dX8_many_56 rfl (lv_at hl 0 rfl) ?_
          refine cg_8_44 C hw dX8_many_57 ?_
          refine cg_8_191 C hw dX8_many_60 ?_
          subst hf
          exact qt_i C hr hlocks hw dX8_many_63
        · have hf := it_f h4 hf
          refine lv_tableOut (tgt := 64) hx hb dX8_many_1 (sw_out3 h1 h2 h3 h4) (by decide) ?_
          refine lv_bipush (v := (-2)) hx hb dX8_many_64 ib_m2 ?_
          subst hf
          exact qt_i C hr hlocks hw dX8_many_66
theorem cfX8_digitAt : cf yX8_digitAt cX8_digitAt 2 (some .int) 2 := ⟨tg_220, by decide +kernel, tg_1⟩
set_option maxHeartbeats 4000000 in
theorem kX8_digitAt (l : Launch) (D : va_G) (cI cB cS : ClassId) (n : Nat) (ad : Nat → Nat) (bf : Nat → Option Nat) (hcg : bok n ad bf) {p1 : Nat} (hp1 : p1 < 4) {p2 : Int32} {M : MS} {q : Int32} (hf : fX8_digitAt n p1 p2 M = some q) : Ct l D cI cB cS yX8_digitAt cX8_digitAt 2 (some .int) 2 42 [.ref (ad (2 + p1)), .int p2] (cW cI cB cS n ad bf M) (some (.int q)) (cW cI cB cS n ad bf M) := by
  refine Ct.ofW (by decide) (Nat.le_of_ble_eq_true rfl) ?_
  intro p e s m args below meth c ls C hr hlocks _ hw hl
  have hx := C.1
  have hb := C.2.1
  have hA : ∀ q, s.heap.size ≤ q → va_A (cW cI cB cS n ad bf M) s.heap.size q := fun q h => Or.inr h
  have hl : lv_has ls 2 [(0, .ref (ad (2 + p1))), (1, .int p2)] := hl
  unfold fX8_digitAt at hf
  refine lv_aload_n hx hb dX8_digitAt_0 rfl (lv_at hl 0 rfl) ?_
  refine lv_iload_n hx hb dX8_digitAt_1 rfl (lv_at hl 1 rfl) ?_
  obtain ⟨r1, e2, hf⟩ := bd hf
  refine ct_V1 (q0 := 2 + p1) (ci := 6) (rest := []) C hw hA (kX6_at l D cI cB cS n ad bf hcg hp1 e2) cfX6_at tg_207 tg_208 tg_209 ⟨(Nat.le_of_ble_eq_true rfl), (Nat.le_of_ble_eq_true rfl)⟩ ⟨(Nat.le_of_ble_eq_true rfl), (Nat.le_of_ble_eq_true rfl)⟩ rfl rfl rfl (cW_sh hp1) hl.1 rfl (Nat.le_of_ble_eq_true rfl) dX8_digitAt_2 (fun H locs hw => ?_)
  refine lv_bipush (v := 48) hx hb dX8_digitAt_5 ib_48 ?_
  refine lv_isub hx hb dX8_digitAt_7 ?_
  obtain rfl := Option.some.inj hf
  exact qt_i C hr hlocks hw dX8_digitAt_8
theorem cfX8_isOneMoreLetIn : cf yX8_isOneMoreLetIn cX8_isOneMoreLetIn 5 (some .boolean) 3 := ⟨tg_217, by decide +kernel, tg_1⟩
set_option maxHeartbeats 4000000 in
theorem kX8_isOneMoreLetIn (l : Launch) (D : va_G) (cI cB cS : ClassId) (n : Nat) (ad : Nat → Nat) (bf : Nat → Option Nat) (hcg : bok n ad bf) {p1 : Nat} (hp1 : p1 < 4) {p2 : Int32} {p3 : Int32} {M : MS} {q : Int32} (hf : fX8_isOneMoreLetIn n p1 p2 p3 M = some q) : Ct l D cI cB cS yX8_isOneMoreLetIn cX8_isOneMoreLetIn 5 (some .boolean) 3 63 [.ref (ad (2 + p1)), .int p2, .int p3] (cW cI cB cS n ad bf M) (some (.int q)) (cW cI cB cS n ad bf M) := by
  refine Ct.ofW (by decide) (Nat.le_of_ble_eq_true rfl) ?_
  intro p e s m args below meth c ls C hr hlocks _ hw hl
  have hx := C.1
  have hb := C.2.1
  have hA : ∀ q, s.heap.size ≤ q → va_A (cW cI cB cS n ad bf M) s.heap.size q := fun q h => Or.inr h
  have hl : lv_has ls 5 [(0, .ref (ad (2 + p1))), (1, .int p2), (2, .int p3)] := hl
  unfold fX8_isOneMoreLetIn at hf
  refine lv_iload_n hx hb dX8_isOneMoreLetIn_0 rfl (lv_at hl 2 rfl) ?_
  refine lv_iconst (v := 3) hx hb dX8_isOneMoreLetIn_1 ic_3 ?_
  refine lv_isub hx hb dX8_isOneMoreLetIn_2 ?_
  refine lv_iconst (v := 4) hx hb dX8_isOneMoreLetIn_3 ic_4 ?_
  refine lv_idiv hx hb dX8_isOneMoreLetIn_4 (by decide) ?_
  refine lv_istore_n (lv' := [(3, .int ((p3 - 3) / 4)), (0, .ref (ad (2 + p1))), (1, .int p2), (2, .int p3)]) hx hb dX8_isOneMoreLetIn_5 rfl hl (by decide) rfl (fun ls hl => ?_)
  refine lv_aload_n hx hb dX8_isOneMoreLetIn_6 rfl (lv_at hl 1 rfl) ?_
  refine lv_iload_n hx hb dX8_isOneMoreLetIn_7 rfl (lv_at hl 2 rfl) ?_
  refine lv_iconst (v := 1) hx hb dX8_isOneMoreLetIn_8 ic_1 ?_
  refine lv_iadd hx hb dX8_isOneMoreLetIn_9 ?_
  obtain ⟨r1, e2, hf⟩ := bd hf
  refine ct_S1 (rest := []) C hw hA (kX8_digitAt l D cI cB cS n ad bf hcg hp1 e2) cfX8_digitAt tg_218 tg_219 ⟨(Nat.le_of_ble_eq_true rfl), (Nat.le_of_ble_eq_true rfl)⟩ ⟨(Nat.le_of_ble_eq_true rfl), (Nat.le_of_ble_eq_true rfl)⟩ rfl hl.1 rfl (Nat.le_of_ble_eq_true rfl) dX8_isOneMoreLetIn_10 (fun H locs hw => ?_)
  refine lv_aload_n hx hb dX8_isOneMoreLetIn_13 rfl (lv_at hl 1 rfl) ?_
  refine lv_iload_n hx hb dX8_isOneMoreLetIn_14 rfl (lv_at hl 2 rfl) ?_
  refine lv_iconst (v := 2) hx hb dX8_isOneMoreLetIn_15 ic_2 ?_
  refine lv_iadd hx hb dX8_isOneMoreLetIn_16 ?_
  obtain ⟨r3, e4, hf⟩ := bd hf
  refine ct_S1 (rest := [.int r1]) C hw hA (kX8_digitAt l D cI cB cS n ad bf hcg hp1 e4) cfX8_digitAt tg_218 tg_219 ⟨(Nat.le_of_ble_eq_true rfl), (Nat.le_of_ble_eq_true rfl)⟩ ⟨(Nat.le_of_ble_eq_true rfl), (Nat.le_of_ble_eq_true rfl)⟩ rfl hl.1 rfl (Nat.le_of_ble_eq_true rfl) dX8_isOneMoreLetIn_17 (fun H locs hw => ?_)
  refine lv_imul hx hb dX8_isOneMoreLetIn_20 ?_
  refine lv_istore (lv' := [(4, .int (r1 * r3)), (3, .int ((p3 - 3) / 4)), (0, .ref (ad (2 + p1))), (1, .int p2), (2, .int p3)]) hx hb dX8_isOneMoreLetIn_21 hl (by decide) rfl (fun ls hl => ?_)
  refine lv_iload_n hx hb dX8_isOneMoreLetIn_23 rfl (lv_at hl 1 rfl) ?_
  refine lv_bipush (v := 6) hx hb dX8_isOneMoreLetIn_24 ib_6 ?_
  refine lv_icmp_ge (tgt := 39) hx hb dX8_isOneMoreLetIn_26 (by decide) (fun h5 => ?_) (fun h5 => ?_)
  · have hf := it_t h5 hf
    refine lv_iconst (v := 0) hx hb dX8_isOneMoreLetIn_39 ic_0 ?_
    obtain rfl := Option.some.inj hf
    exact qt_z C hr hlocks (Or.inl rfl) hw dX8_isOneMoreLetIn_40
  · have hf := it_f h5 hf
    refine lv_iload_n hx hb dX8_isOneMoreLetIn_29 rfl (lv_at hl 1 rfl) ?_
    refine lv_iload hx hb dX8_isOneMoreLetIn_30 (lv_at hl 0 rfl) ?_
    refine lv_icmp_ge (tgt := 39) hx hb dX8_isOneMoreLetIn_32 (by decide) (fun h6 => ?_) (fun h6 => ?_)
    · have hf := it_t h6 hf
      refine lv_iconst (v := 0) hx hb dX8_isOneMoreLetIn_39 ic_0 ?_
      obtain rfl := Option.some.inj hf
      exact qt_z C hr hlocks (Or.inl rfl) hw dX8_isOneMoreLetIn_40
    · have hf := it_f h6 hf
      refine lv_iconst (v := 1) hx hb dX8_isOneMoreLetIn_35 ic_1 ?_
      refine lv_goto (tgt := 40) hx hb dX8_isOneMoreLetIn_36 (by decide) ?_
      obtain rfl := Option.some.inj hf
      exact qt_z C hr hlocks (Or.inr rfl) hw dX8_isOneMoreLetIn_40
theorem cfX8_goesOn : cf yX8_goesOn cX8_goesOn 4 (some .boolean) 3 := ⟨tg_206, by decide +kernel, tg_1⟩
set_option maxHeartbeats 4000000 in
theorem kX8_goesOn (l : Launch) (D : va_G) (cI cB cS : ClassId) (n : Nat) (ad : Nat → Nat) (bf : Nat → Option Nat) (hcg : bok n ad bf) {p1 : Nat} (hp1 : p1 < 4) {p2 : Int32} {p3 : Int32} {M : MS} {q : Int32} (hf : fX8_goesOn n p1 p2 p3 M = some q) : Ct l D cI cB cS yX8_goesOn cX8_goesOn 4 (some .boolean) 4 87 [.ref (ad (2 + p1)), .int p2, .int p3] (cW cI cB cS n ad bf M) (some (.int q)) (cW cI cB cS n ad bf M) := by
  refine Ct.ofW (by decide) (Nat.le_of_ble_eq_true rfl) ?_
  intro p e s m args below meth c ls C hr hlocks _ hw hl
  have hx := C.1
  have hb := C.2.1
  have hA : ∀ q, s.heap.size ≤ q → va_A (cW cI cB cS n ad bf M) s.heap.size q := fun q h => Or.inr h
  have hl : lv_has ls 4 [(0, .ref (ad (2 + p1))), (1, .int p2), (2, .int p3)] := hl
  unfold fX8_goesOn at hf
  refine lv_aload_n hx hb dX8_goesOn_0 rfl (lv_at hl 0 rfl) ?_
  refine lv_iload_n hx hb dX8_goesOn_1 rfl (lv_at hl 1 rfl) ?_
  refine lv_iload_n hx hb dX8_goesOn_2 rfl (lv_at hl 2 rfl) ?_
  refine lv_iadd hx hb dX8_goesOn_3 ?_
  obtain ⟨r1, e2, hf⟩ := bd hf
  refine ct_V1 (q0 := 2 + p1) (ci := 6) (rest := []) C hw hA (kX6_at l D cI cB cS n ad bf hcg hp1 e2) cfX6_at tg_207 tg_208 tg_209 ⟨(Nat.le_of_ble_eq_true rfl), (Nat.le_of_ble_eq_true rfl)⟩ ⟨(Nat.le_of_ble_eq_true rfl), (Nat.le_of_ble_eq_true rfl)⟩ rfl rfl rfl (cW_sh hp1) hl.1 rfl (Nat.le_of_ble_eq_true rfl) dX8_goesOn_4 (fun H locs hw => ?_)
  refine lv_istore_n (lv' := [(3, .int r1), (0, .ref (ad (2 + p1))), (1, .int p2), (2, .int p3)]) hx hb dX8_goesOn_7 rfl hl (by decide) rfl (fun ls hl => ?_)
  refine lv_iload_n hx hb dX8_goesOn_8 rfl (lv_at hl 3 rfl) ?_
  refine lv_if_ne (tgt := 24) hx hb dX8_goesOn_9 (by decide) (fun h3 => ?_) (fun h3 => ?_)
  · have hf := it_f h3 hf
    refine lv_iload_n hx hb dX8_goesOn_24 rfl (lv_at hl 3 rfl) ?_
    refine lv_iconst (v := 1) hx hb dX8_goesOn_25 ic_1 ?_
    refine lv_icmp_ne (tgt := 38) hx hb dX8_goesOn_26 (by decide) (fun h4 => ?_) (fun h4 => ?_)
    · have hf := it_f h4 hf
      refine lv_iload_n hx hb dX8_goesOn_38 rfl (lv_at hl 3 rfl) ?_
      refine lv_iconst (v := 2) hx hb dX8_goesOn_39 ic_2 ?_
      refine lv_icmp_ne (tgt := 52) hx hb dX8_goesOn_40 (by decide) (fun h5 => ?_) (fun h5 => ?_)
      · have hf := it_f h5 hf
        refine lv_iload_n hx hb dX8_goesOn_52 rfl (lv_at hl 3 rfl) ?_
        refine lv_iconst (v := 3) hx hb dX8_goesOn_53 ic_3 ?_
        refine lv_isub hx hb dX8_goesOn_54 ?_
        refine lv_iconst (v := 4) hx hb dX8_goesOn_55 ic_4 ?_
        refine lv_irem hx hb dX8_goesOn_56 (by decide) ?_
        rcases Decidable.em (((p3 - 3) - (p3 - 3) / 4 * 4) = 0) with h6 | h6
        · have hf := it_t h6 hf
          refine lv_tableIn (off := 27) (tgt := 84) hx hb dX8_goesOn_57 (by rw [h6]; decide) (by rw [h6]; decide) (by rw [h6]; rfl) (by decide) ?_
          refine lv_iload_n hx hb dX8_goesOn_84 rfl (lv_at hl 0 rfl) ?_
          refine lv_bipush (v := 59) hx hb dX8_goesOn_85 ib_59 ?_
          refine lv_icmp_ne (tgt := 103) hx hb dX8_goesOn_87 (by decide) (fun h7 => ?_) (fun h7 => ?_)
          · have hf := it_f h7 hf
            refine lv_iconst (v := 0) hx hb dX8_goesOn_103 ic_0 ?_
            obtain rfl := Option.some.inj hf
            exact qt_z C hr hlocks (Or.inl rfl) hw dX8_goesOn_104
          · have hf := it_t h7 hf
            refine lv_aload_n hx hb dX8_goesOn_90 rfl (lv_at hl 1 rfl) ?_
            refine lv_iload_n hx hb dX8_goesOn_91 rfl (lv_at hl 2 rfl) ?_
            refine lv_iload_n hx hb dX8_goesOn_92 rfl (lv_at hl 3 rfl) ?_
            obtain ⟨r8, e9, hf⟩ := bd hf
            refine ct_S1 (rest := []) C hw hA (kX8_isOneMoreLetIn l D cI cB cS n ad bf hcg hp1 e9) cfX8_isOneMoreLetIn tg_215 tg_216 ⟨(Nat.le_of_ble_eq_true rfl), (Nat.le_of_ble_eq_true rfl)⟩ ⟨(Nat.le_of_ble_eq_true rfl), (Nat.le_of_ble_eq_true rfl)⟩ rfl hl.1 rfl (Nat.le_of_ble_eq_true rfl) dX8_goesOn_93 (fun H locs hw => ?_)
            refine lv_if_eq (tgt := 103) hx hb dX8_goesOn_96 (by decide) (fun h10 => ?_) (fun h10 => ?_)
            · have hf := it_t h10 hf
              refine lv_iconst (v := 0) hx hb dX8_goesOn_103 ic_0 ?_
              obtain rfl := Option.some.inj hf
              exact qt_z C hr hlocks (Or.inl rfl) hw dX8_goesOn_104
            · have hf := it_f h10 hf
              refine lv_iconst (v := 1) hx hb dX8_goesOn_99 ic_1 ?_
              refine lv_goto (tgt := 104) hx hb dX8_goesOn_100 (by decide) ?_
              obtain rfl := Option.some.inj hf
              exact qt_z C hr hlocks (Or.inr rfl) hw dX8_goesOn_104
        · have hf := it_f h6 hf
          rcases Decidable.em (((p3 - 3) - (p3 - 3) / 4 * 4) = 1) with h11 | h11
          · have hf := it_t h11 hf
            refine lv_tableIn (off := 48) (tgt := 105) hx hb dX8_goesOn_57 (by rw [h11]; decide) (by rw [h11]; decide) (by rw [h11]; rfl) (by decide) ?_
            refine lv_iload_n hx hb dX8_goesOn_105 rfl (lv_at hl 0 rfl) ?_
            refine lv_bipush (v := 98) hx hb dX8_goesOn_106 ib_98 ?_
            refine lv_icmp_eq (tgt := 123) hx hb dX8_goesOn_108 (by decide) (fun h12 => ?_) (fun h12 => ?_)
            · have hf := it_t h12 hf
              refine lv_iconst (v := 1) hx hb dX8_goesOn_123 ic_1 ?_
              refine lv_goto (tgt := 128) hx hb dX8_goesOn_124 (by decide) ?_
              obtain rfl := Option.some.inj hf
              exact qt_z C hr hlocks (Or.inr rfl) hw dX8_goesOn_128
            · have hf := it_f h12 hf
              refine lv_iload_n hx hb dX8_goesOn_111 rfl (lv_at hl 0 rfl) ?_
              refine lv_bipush (v := 104) hx hb dX8_goesOn_112 ib_104 ?_
              refine lv_icmp_eq (tgt := 123) hx hb dX8_goesOn_114 (by decide) (fun h13 => ?_) (fun h13 => ?_)
              · have hf := it_t h13 hf
                refine lv_iconst (v := 1) hx hb dX8_goesOn_123 ic_1 ?_
                refine lv_goto (tgt := 128) hx hb dX8_goesOn_124 (by decide) ?_
                obtain rfl := Option.some.inj hf
                exact qt_z C hr hlocks (Or.inr rfl) hw dX8_goesOn_128
              · have hf := it_f h13 hf
                refine lv_iload_n hx hb dX8_goesOn_117 rfl (lv_at hl 0 rfl) ?_
                refine lv_bipush (v := 110) hx hb dX8_goesOn_118 ib_110 ?_
                refine lv_icmp_ne (tgt := 127) hx hb dX8_goesOn_120 (by decide) (fun h14 => ?_) (fun h14 => ?_)
                · have hf := it_f h14 hf
                  refine lv_iconst (v := 0) hx hb dX8_goesOn_127 ic_0 ?_
                  obtain rfl := Option.some.inj hf
                  exact qt_z C hr hlocks (Or.inl rfl) hw dX8_goesOn_128
                · have hf := it_t h14 hf
                  refine lv_iconst (v := 1) hx hb dX8_goesOn_123 ic_1 ?_
                  refine lv_goto (tgt := 128) hx hb dX8_goesOn_124 (by decide) ?_
                  obtain rfl := Option.some.inj hf
                  exact qt_z C hr hlocks (Or.inr rfl) hw dX8_goesOn_128
          · have hf := it_f h11 hf
            rcases Decidable.em (((p3 - 3) - (p3 - 3) / 4 * 4) = 2) with h15 | h15
            · have hf := it_t h15 hf
              refine lv_tableIn (off := 72) (tgt := 129) hx hb dX8_goesOn_57 (by rw [h15]; decide) (by rw [h15]; decide) (by rw [h15]; rfl) (by decide) ?_
              refine lv_iload_n hx hb dX8_goesOn_129 rfl (lv_at hl 0 rfl) ?_
              refine lv_bipush (v := 48) hx hb dX8_goesOn_130 ib_48 ?_
              refine lv_bipush (v := 57) hx hb dX8_goesOn_132 ib_57 ?_
              refine ct_S1 (rest := []) C hw hA (kX8_isAmong l D cI cB cS _ _ _ _) cfX8_isAmong tg_212 tg_213 ⟨(Nat.le_of_ble_eq_true rfl), (Nat.le_of_ble_eq_true rfl)⟩ ⟨(Nat.le_of_ble_eq_true rfl), (Nat.le_of_ble_eq_true rfl)⟩ rfl hl.1 rfl (Nat.le_of_ble_eq_true rfl) dX8_goesOn_134 (fun H locs hw => ?_)
              obtain rfl := Option.some.inj hf
              exact qt_z C hr hlocks (zX8_isAmong _ _ _) hw dX8_goesOn_137
            · have hf := it_f h15 hf
              refine lv_tableOut (tgt := 138) hx hb dX8_goesOn_57 (sw_out2 h6 h11 h15) (by decide) ?_
              refine lv_iload_n hx hb dX8_goesOn_138 rfl (lv_at hl 0 rfl) ?_
              refine lv_aload_n hx hb dX8_goesOn_139 rfl (lv_at hl 1 rfl) ?_
              refine lv_iload_n hx hb dX8_goesOn_140 rfl (lv_at hl 2 rfl) ?_
              refine lv_iload_n hx hb dX8_goesOn_141 rfl (lv_at hl 3 rfl) ?_
              refine lv_iadd hx hb dX8_goesOn_142 ?_
              refine lv_iconst (v := 1) hx hb dX8_goesOn_143 ic_1 ?_
              refine lv_isub hx hb dX8_goesOn_144 ?_
              obtain ⟨r16, e17, hf⟩ := bd hf
              refine ct_V1 (q0 := 2 + p1) (ci := 6) (rest := [.int r1]) C hw hA (kX6_at l D cI cB cS n ad bf hcg hp1 e17) cfX6_at tg_207 tg_208 tg_209 ⟨(Nat.le_of_ble_eq_true rfl), (Nat.le_of_ble_eq_true rfl)⟩ ⟨(Nat.le_of_ble_eq_true rfl), (Nat.le_of_ble_eq_true rfl)⟩ rfl rfl rfl (cW_sh hp1) hl.1 rfl (Nat.le_of_ble_eq_true rfl) dX8_goesOn_145 (fun H locs hw => ?_)
              refine lv_bipush (v := 48) hx hb dX8_goesOn_148 ib_48 ?_
              refine lv_icmp_ne (tgt := 158) hx hb dX8_goesOn_150 (by decide) (fun h18 => ?_) (fun h18 => ?_)
              · have hf := it_f h18 hf
                refine lv_bipush (v := 48) hx hb dX8_goesOn_158 ib_48 ?_
                refine lv_bipush (v := 57) hx hb dX8_goesOn_160 ib_57 ?_
                refine ct_S1 (rest := []) C hw hA (kX8_isAmong l D cI cB cS _ _ _ _) cfX8_isAmong tg_212 tg_213 ⟨(Nat.le_of_ble_eq_true rfl), (Nat.le_of_ble_eq_true rfl)⟩ ⟨(Nat.le_of_ble_eq_true rfl), (Nat.le_of_ble_eq_true rfl)⟩ rfl hl.1 rfl (Nat.le_of_ble_eq_true rfl) dX8_goesOn_162 (fun H locs hw => ?_)
                obtain rfl := Option.some.inj hf
                exact qt_z C hr hlocks (zX8_isAmong _ _ _) hw dX8_goesOn_165
              · have hf := it_t h18 hf
                refine lv_bipush (v := 49) hx hb dX8_goesOn_153 ib_49 ?_
                refine lv_goto (tgt := 160) hx hb dX8_goesOn_155 (by decide) ?_
                refine lv_bipush (v := 57) hx hb dX8_goesOn_160 ib_57 ?_
                refine ct_S1 (rest := []) C hw hA (kX8_isAmong l D cI cB cS _ _ _ _) cfX8_isAmong tg_212 tg_213 ⟨(Nat.le_of_ble_eq_true rfl), (Nat.le_of_ble_eq_true rfl)⟩ ⟨(Nat.le_of_ble_eq_true rfl), (Nat.le_of_ble_eq_true rfl)⟩ rfl hl.1 rfl (Nat.le_of_ble_eq_true rfl) dX8_goesOn_162 (fun H locs hw => ?_)
                obtain rfl := Option.some.inj hf
                exact qt_z C hr hlocks (zX8_isAmong _ _ _) hw dX8_goesOn_165
      · have hf := it_t h5 hf
        refine lv_iload_n hx hb dX8_goesOn_43 rfl (lv_at hl 0 rfl) ?_
        refine lv_bipush (v := 50) hx hb dX8_goesOn_44 ib_50 ?_
        refine lv_bipush (v := 54) hx hb dX8_goesOn_46 ib_54 ?_
        refine ct_S1 (rest := []) C hw hA (kX8_isAmong l D cI cB cS _ _ _ _) cfX8_isAmong tg_212 tg_213 ⟨(Nat.le_of_ble_eq_true rfl), (Nat.le_of_ble_eq_true rfl)⟩ ⟨(Nat.le_of_ble_eq_true rfl), (Nat.le_of_ble_eq_true rfl)⟩ rfl hl.1 rfl (Nat.le_of_ble_eq_true rfl) dX8_goesOn_48 (fun H locs hw => ?_)
        obtain rfl := Option.some.inj hf
        exact qt_z C hr hlocks (zX8_isAmong _ _ _) hw dX8_goesOn_51
    · have hf := it_t h4 hf
      refine lv_iload_n hx hb dX8_goesOn_29 rfl (lv_at hl 0 rfl) ?_
      refine lv_bipush (v := 49) hx hb dX8_goesOn_30 ib_49 ?_
      refine lv_bipush (v := 52) hx hb dX8_goesOn_32 ib_52 ?_
      refine ct_S1 (rest := []) C hw hA (kX8_isAmong l D cI cB cS _ _ _ _) cfX8_isAmong tg_212 tg_213 ⟨(Nat.le_of_ble_eq_true rfl), (Nat.le_of_ble_eq_true rfl)⟩ ⟨(Nat.le_of_ble_eq_true rfl), (Nat.le_of_ble_eq_true rfl)⟩ rfl hl.1 rfl (Nat.le_of_ble_eq_true rfl) dX8_goesOn_34 (fun H locs hw => ?_)
      obtain rfl := Option.some.inj hf
      exact qt_z C hr hlocks (zX8_isAmong _ _ _) hw dX8_goesOn_37
  · have hf := it_t h3 hf
    refine lv_iload_n hx hb dX8_goesOn_12 rfl (lv_at hl 0 rfl) ?_
    refine lv_bipush (v := 97) hx hb dX8_goesOn_13 ib_97 ?_
    refine lv_icmp_ne (tgt := 22) hx hb dX8_goesOn_15 (by decide) (fun h19 => ?_) (fun h19 => ?_)
    · have hf := it_f h19 hf
      refine lv_iconst (v := 0) hx hb dX8_goesOn_22 ic_0 ?_
      obtain rfl := Option.some.inj hf
      exact qt_z C hr hlocks (Or.inl rfl) hw dX8_goesOn_23
    · have hf := it_t h19 hf
      refine lv_iconst (v := 1) hx hb dX8_goesOn_18 ic_1 ?_
      refine lv_goto (tgt := 23) hx hb dX8_goesOn_19 (by decide) ?_
      obtain rfl := Option.some.inj hf
      exact qt_z C hr hlocks (Or.inr rfl) hw dX8_goesOn_23
theorem cfX8_firstFault : cf yX8_firstFault cX8_firstFault 4 (some .int) 3 := ⟨tg_203, by decide +kernel, tg_1⟩
set_option maxHeartbeats 4000000 in
theorem wX8_firstFault_2 {p : Program} {l : Launch} {e : Env} {s : State} {m : MethodId} {args : Array Value} {below : List Frame} {meth : Method} {c : Code} {D : va_G} {cI cB cS : ClassId} {n : Nat} {ad : Nat → Nat} {bf : Nat → Option Nat} {ws0 : va_W} {v0 : Nat} {v1 : Int32} {v2 : Int32} {M : MS} (C : cx p c cX8_firstFault 4 s args m RX8 D cI cB cS) (hr : meth.sig.returnType = (some .int)) (hlocks : meth.locks = false) (hA : ∀ q, s.heap.size ≤ q → va_A ws0 s.heap.size q) (hv0 : v0 < 4) {k : Unit → Option Int32} {q : Int32}
    (hcg : bok n ad bf) : ∀ (fu : Nat) (v3 : Int32) (H : Heap) (locs : List Loc) (ls : Array Slot), wd D (va_A ws0 s.heap.size) s.heap (cW cI cB cS n ad bf M) H locs → lv_has ls 4 [(0, .ref (ad (2 + v0))), (1, .int v1), (2, .int v2), (3, .int v3)] → fX8_firstFault_2 n fu k v0 v1 v2 v3 M = some q →
    (∀  (H : Heap) (locs : List Loc) (ls : Array Slot), wd D (va_A ws0 s.heap.size) s.heap (cW cI cB cS n ad bf M) H locs → lv_has ls 4 [(2, .int v2)] → k () = some q → W p l e { frames := 5, cells := 0, slots := 0, locals := 110 } s m args below meth c H locs 0 0 (Qt D below args s ws0 (some (.int q)) (cW cI cB cS n ad bf M)) (F0 m 24 ls [])) →
    W p l e { frames := 5, cells := 0, slots := 0, locals := 110 } s m args below meth c H locs 0 0 (Qt D below args s ws0 (some (.int q)) (cW cI cB cS n ad bf M)) (F0 m 2 ls []) := by
  have hx := C.1
  have hb := C.2.1
  intro fu
  induction fu with
  | zero => intro v3 H locs ls hw hl hf hk; rw [fX8_firstFault_2] at hf; cases hf
  | succ fu ih =>
      intro v3 H locs ls hw hl hf hk
      rw [fX8_firstFault_2] at hf
      refine lv_iload_n hx hb dX8_firstFault_2 rfl (lv_at hl 3 rfl) ?_
      refine lv_iload_n hx hb dX8_firstFault_3 rfl (lv_at hl 2 rfl) ?_
      refine lv_icmp_ge (tgt := 24) hx hb dX8_firstFault_4 (by decide) (fun h1 => ?_) (fun h1 => ?_)
      · have hf := it_t h1 hf
        exact hk  _ _ _ hw (lv_sub hl [2] rfl) hf
      · have hf := it_f h1 hf
        refine lv_aload_n hx hb dX8_firstFault_7 rfl (lv_at hl 0 rfl) ?_
        refine lv_iload_n hx hb dX8_firstFault_8 rfl (lv_at hl 1 rfl) ?_
        refine lv_iload_n hx hb dX8_firstFault_9 rfl (lv_at hl 3 rfl) ?_
        obtain ⟨r2, e3, hf⟩ := bd hf
        refine ct_S1 (rest := []) C hw hA (kX8_goesOn l D cI cB cS n ad bf hcg hv0 e3) cfX8_goesOn tg_204 tg_205 ⟨(Nat.le_of_ble_eq_true rfl), (Nat.le_of_ble_eq_true rfl)⟩ ⟨(Nat.le_of_ble_eq_true rfl), (Nat.le_of_ble_eq_true rfl)⟩ rfl hl.1 rfl (Nat.le_of_ble_eq_true rfl) dX8_firstFault_10 (fun H locs hw => ?_)
        refine lv_if_ne (tgt := 18) hx hb dX8_firstFault_13 (by decide) (fun h4 => ?_) (fun h4 => ?_)
        · have hf := it_f h4 hf
          refine lv_iinc (v := (v3 + 1)) (lv' := [(3, .int (v3 + 1)), (0, .ref (ad (2 + v0))), (1, .int v1), (2, .int v2)]) hx hb dX8_firstFault_18 hl (k := 3) rfl (iv_1 _) (by decide) rfl (fun ls hl => ?_)
          refine lv_goto (tgt := 2) hx hb dX8_firstFault_21 (by decide) ?_
          exact ih _ _ _ _ hw (lv_sub hl [1, 2, 3, 0] rfl) hf hk
        · have hf := it_t h4 hf
          refine lv_iload_n hx hb dX8_firstFault_16 rfl (lv_at hl 3 rfl) ?_
          obtain rfl := Option.some.inj hf
          exact qt_i C hr hlocks hw dX8_firstFault_17
set_option maxHeartbeats 4000000 in
theorem kX8_firstFault (l : Launch) (D : va_G) (cI cB cS : ClassId) (n : Nat) (ad : Nat → Nat) (bf : Nat → Option Nat) (hcg : bok n ad bf) {p1 : Nat} (hp1 : p1 < 4) {p2 : Int32} {p3 : Int32} {M : MS} {q : Int32} (hf : fX8_firstFault n p1 p2 p3 M = some q) : Ct l D cI cB cS yX8_firstFault cX8_firstFault 4 (some .int) 5 110 [.ref (ad (2 + p1)), .int p2, .int p3] (cW cI cB cS n ad bf M) (some (.int q)) (cW cI cB cS n ad bf M) := by
  refine Ct.ofW (by decide) (Nat.le_of_ble_eq_true rfl) ?_
  intro p e s m args below meth c ls C hr hlocks _ hw hl
  have hx := C.1
  have hb := C.2.1
  have hA : ∀ q, s.heap.size ≤ q → va_A (cW cI cB cS n ad bf M) s.heap.size q := fun q h => Or.inr h
  have hl : lv_has ls 4 [(0, .ref (ad (2 + p1))), (1, .int p2), (2, .int p3)] := hl
  unfold fX8_firstFault at hf
  refine lv_iconst (v := 0) hx hb dX8_firstFault_0 ic_0 ?_
  refine lv_istore_n (lv' := [(3, .int 0), (0, .ref (ad (2 + p1))), (1, .int p2), (2, .int p3)]) hx hb dX8_firstFault_1 rfl hl (by decide) rfl (fun ls hl => ?_)
  refine wX8_firstFault_2 C hr hlocks hA hp1 hcg 300 _ _ _ _ hw (lv_sub hl [1, 2, 3, 0] rfl) hf (fun  H locs ls hw hl hf => ?_)
  refine lv_iload_n hx hb dX8_firstFault_24 rfl (lv_at hl 0 rfl) ?_
  refine lv_bipush (v := 11) hx hb dX8_firstFault_25 ib_11 ?_
  refine lv_icmp_lt (tgt := 42) hx hb dX8_firstFault_27 (by decide) (fun h5 => ?_) (fun h5 => ?_)
  · have hf := it_t h5 hf
    refine lv_iconst (v := 0) hx hb dX8_firstFault_42 ic_0 ?_
    refine lv_istore_n (lv' := [(3, .int 0), (2, .int p3)]) hx hb dX8_firstFault_43 rfl hl (by decide) rfl (fun ls hl => ?_)
    refine lv_iload_n hx hb dX8_firstFault_44 rfl (lv_at hl 0 rfl) ?_
    refine lv_if_eq (tgt := 52) hx hb dX8_firstFault_45 (by decide) (fun _ => ?_) (fun hz => absurd hz (by decide))
    refine lv_iload_n hx hb dX8_firstFault_52 rfl (lv_at hl 1 rfl) ?_
    obtain rfl := Option.some.inj hf
    exact qt_i C hr hlocks hw dX8_firstFault_53
  · have hf := it_f h5 hf
    refine lv_iload_n hx hb dX8_firstFault_30 rfl (lv_at hl 0 rfl) ?_
    refine lv_iconst (v := 3) hx hb dX8_firstFault_31 ic_3 ?_
    refine lv_isub hx hb dX8_firstFault_32 ?_
    refine lv_iconst (v := 4) hx hb dX8_firstFault_33 ic_4 ?_
    refine lv_irem hx hb dX8_firstFault_34 (by decide) ?_
    refine lv_if_ne (tgt := 42) hx hb dX8_firstFault_35 (by decide) (fun h6 => ?_) (fun h6 => ?_)
    · have hf := it_f h6 hf
      refine lv_iconst (v := 0) hx hb dX8_firstFault_42 ic_0 ?_
      refine lv_istore_n (lv' := [(3, .int 0), (2, .int p3)]) hx hb dX8_firstFault_43 rfl hl (by decide) rfl (fun ls hl => ?_)
      refine lv_iload_n hx hb dX8_firstFault_44 rfl (lv_at hl 0 rfl) ?_
      refine lv_if_eq (tgt := 52) hx hb dX8_firstFault_45 (by decide) (fun _ => ?_) (fun hz => absurd hz (by decide))
      refine lv_iload_n hx hb dX8_firstFault_52 rfl (lv_at hl 1 rfl) ?_
      obtain rfl := Option.some.inj hf
      exact qt_i C hr hlocks hw dX8_firstFault_53
    · have hf := it_t h6 hf
      refine lv_iconst (v := 1) hx hb dX8_firstFault_38 ic_1 ?_
      refine lv_goto (tgt := 43) hx hb dX8_firstFault_39 (by decide) ?_
      refine lv_istore_n (lv' := [(3, .int 1), (2, .int p3)]) hx hb dX8_firstFault_43 rfl hl (by decide) rfl (fun ls hl => ?_)
      refine lv_iload_n hx hb dX8_firstFault_44 rfl (lv_at hl 0 rfl) ?_
      refine lv_if_eq (tgt := 52) hx hb dX8_firstFault_45 (by decide) (fun hz => absurd hz (by decide)) (fun _ => ?_)
      refine lv_iconst (v := (-1)) hx hb dX8_firstFault_48 ic_m1 ?_
      refine lv_goto (tgt := 53) hx hb dX8_firstFault_49 (by decide) ?_
      obtain rfl := Option.some.inj hf
      exact qt_i C hr hlocks hw dX8_firstFault_53
