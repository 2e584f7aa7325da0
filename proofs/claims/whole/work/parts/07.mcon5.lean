theorem cfX9_trace : cf yX9_trace cX9_trace 1 (some .int) 0 := ⟨tg_980, by decide +kernel, tg_7⟩
set_option maxHeartbeats 4000000 in
theorem kX9_trace (l : Launch) (D : va_G) (cI cB cS : ClassId) (a0 : Nat) (am : Nat → Nat) (M : MS) : Ct l D cI cB cS yX9_trace cX9_trace 1 (some .int) 0 0 [.ref a0] (mW cI a0 am M) (some (.int (fX9_trace M))) (mW cI a0 am M) := by
  obtain ⟨q, hf⟩ : ∃ q, fX9_trace M = q := ⟨_, rfl⟩
  rw [hf]
  refine Ct.ofW (by decide) (Nat.le_of_ble_eq_true rfl) ?_
  intro p e s m args below meth c ls C hr hlocks _ hw hl
  have hx := C.1
  have hb := C.2.1
  have hA : ∀ q, s.heap.size ≤ q → va_A (mW cI a0 am M) s.heap.size q := fun q h => Or.inr h
  have hcg := trivial
  have hl : lv_has ls 1 [(0, .ref a0)] := hl
  unfold fX9_trace at hf
  refine lv_aload_n hx hb dX9_trace_0 rfl (lv_at hl 0 rfl) ?_
  refine mg_31 C hw dX9_trace_1 ?_
  subst hf
  exact qt_i C hr hlocks hw dX9_trace_4
theorem cfX9_fault : cf yX9_fault cX9_fault 1 (some .int) 0 := ⟨tg_984, by decide +kernel, tg_7⟩
set_option maxHeartbeats 4000000 in
theorem kX9_fault (l : Launch) (D : va_G) (cI cB cS : ClassId) (a0 : Nat) (am : Nat → Nat) (M : MS) : Ct l D cI cB cS yX9_fault cX9_fault 1 (some .int) 0 0 [.ref a0] (mW cI a0 am M) (some (.int (fX9_fault M))) (mW cI a0 am M) := by
  obtain ⟨q, hf⟩ : ∃ q, fX9_fault M = q := ⟨_, rfl⟩
  rw [hf]
  refine Ct.ofW (by decide) (Nat.le_of_ble_eq_true rfl) ?_
  intro p e s m args below meth c ls C hr hlocks _ hw hl
  have hx := C.1
  have hb := C.2.1
  have hA : ∀ q, s.heap.size ≤ q → va_A (mW cI a0 am M) s.heap.size q := fun q h => Or.inr h
  have hcg := trivial
  have hl : lv_has ls 1 [(0, .ref a0)] := hl
  unfold fX9_fault at hf
  refine lv_aload_n hx hb dX9_fault_0 rfl (lv_at hl 0 rfl) ?_
  refine mg_0 C hw dX9_fault_1 ?_
  subst hf
  exact qt_i C hr hlocks hw dX9_fault_4
theorem cfX9_many : cf yX9_many cX9_many 2 (some .int) 1 := ⟨tg_988, by decide +kernel, tg_7⟩
set_option maxHeartbeats 4000000 in
theorem kX9_many (l : Launch) (D : va_G) (cI cB cS : ClassId) (a0 : Nat) (am : Nat → Nat) (p1 : Int32) (M : MS) : Ct l D cI cB cS yX9_many cX9_many 2 (some .int) 0 0 [.ref a0, .int p1] (mW cI a0 am M) (some (.int (fX9_many p1 M))) (mW cI a0 am M) := by
  obtain ⟨q, hf⟩ : ∃ q, fX9_many p1 M = q := ⟨_, rfl⟩
  rw [hf]
  refine Ct.ofW (by decide) (Nat.le_of_ble_eq_true rfl) ?_
  intro p e s m args below meth c ls C hr hlocks _ hw hl
  have hx := C.1
  have hb := C.2.1
  have hA : ∀ q, s.heap.size ≤ q → va_A (mW cI a0 am M) s.heap.size q := fun q h => Or.inr h
  have hcg := trivial
  have hl : lv_has ls 2 [(0, .ref a0), (1, .int p1)] := hl
  unfold fX9_many at hf
  refine lv_iload_n hx hb dX9_many_0 rfl (lv_at hl 1 rfl) ?_
  rcases Decidable.em (p1 = 0) with h1 | h1
  · have hf := it_t h1 hf
    refine lv_tableIn (off := 31) (tgt := 32) hx hb dX9_many_1 (by rw [h1]; decide) (by rw [h1]; decide) (by rw [h1]; rfl) (by decide) ?_
    refine lv_aload_n hx hb dX9_many_32 rfl (lv_at hl 0 rfl) ?_
    refine mg_3 C hw dX9_many_33 ?_
    subst hf
    exact qt_i C hr hlocks hw dX9_many_36
  · have hf := it_f h1 hf
    rcases Decidable.em (p1 = 1) with h2 | h2
    · have hf := it_t h2 hf
      refine lv_tableIn (off := 36) (tgt := 37) hx hb dX9_many_1 (by rw [h2]; decide) (by rw [h2]; decide) (by rw [h2]; rfl) (by decide) ?_
      refine lv_aload_n hx hb dX9_many_37 rfl (lv_at hl 0 rfl) ?_
      refine mg_1 C hw dX9_many_38 ?_
      refine lv_aload_n hx hb dX9_many_41 rfl (lv_at hl 0 rfl) ?_
      refine mg_2 C hw dX9_many_42 ?_
      refine lv_imul hx hb dX9_many_45 ?_
      subst hf
      exact qt_i C hr hlocks hw dX9_many_46
    · have hf := it_f h2 hf
      rcases Decidable.em (p1 = 2) with h3 | h3
      · have hf := it_t h3 hf
        refine lv_tableIn (off := 46) (tgt := 47) hx hb dX9_many_1 (by rw [h3]; decide) (by rw [h3]; decide) (by rw [h3]; rfl) (by decide) ?_
        refine lv_aload_n hx hb dX9_many_47 rfl (lv_at hl 0 rfl) ?_
        refine mg_8 C hw dX9_many_48 ?_
        subst hf
        exact qt_i C hr hlocks hw dX9_many_51
      · have hf := it_f h3 hf
        rcases Decidable.em (p1 = 3) with h4 | h4
        · have hf := it_t h4 hf
          refine lv_tableIn (off := 51) (tgt := 52) hx hb dX9_many_1 (by rw [h4]; decide) (by rw [h4]; decide) (by rw [h4]; rfl) (by decide) ?_
          refine lv_aload_n hx hb dX9_many_52 rfl (lv_at hl 0 rfl) ?_
          refine mg_24 C hw dX9_many_53 ?_
          subst hf
          exact qt_i C hr hlocks hw dX9_many_56
        · have hf := it_f h4 hf
          refine lv_tableOut (tgt := 57) hx hb dX9_many_1 (sw_out3 h1 h2 h3 h4) (by decide) ?_
          refine lv_bipush (v := (-2)) hx hb dX9_many_57 ib_m2 ?_
          subst hf
          exact qt_i C hr hlocks hw dX9_many_59
