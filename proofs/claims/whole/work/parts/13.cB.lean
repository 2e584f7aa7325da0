def fX1_telling (n : Nat) (p0 : Nat) (M : MS) : (Int32 × MS) :=
  ((fX1_plainTelling n p0 M).1, (fX1_plainTelling n p0 M).2)
def fX3_telling (n : Nat) (p0 : Nat) (M : MS) : (Int32 × MS) :=
  (((fX1_plainTelling n p0 (fX7_leave n (2 : Int32) M)).1 + 100), (fX1_plainTelling n p0 (fX7_leave n (2 : Int32) M)).2)
theorem cfX1_telling : cf yX1_telling cX1_telling 2 (some .int) 1 := ⟨tg_602, by decide +kernel, tg_8⟩
set_option maxHeartbeats 4000000 in
theorem kX1_telling (l : Launch) (D : va_G) (cI cB cS : ClassId) (n : Nat) (ad : Nat → Nat) (bf : Nat → Option Nat) (hcg : bok n ad bf) {p0 : Nat} (hp0 : p0 < n) (M : MS) (hk : M 20 p0 = 0) : Ct l D cI cB cS yX1_telling cX1_telling 2 (some .int) 2 42 [.ref (ad (30 + p0)), .ref (ad 10)] (cW cI cB cS n ad bf M) (some (.int (fX1_telling n p0 M).1)) (cW cI cB cS n ad bf (fX1_telling n p0 M).2) := by
  obtain ⟨q, hf⟩ : ∃ q, fX1_telling n p0 M = q := ⟨_, rfl⟩
  rw [hf]
  refine Ct.ofW (by decide) (Nat.le_of_ble_eq_true rfl) ?_
  intro p e s m args below meth c ls C hr hlocks _ hw hl
  have hx := C.1
  have hb := C.2.1
  have hA : ∀ q, s.heap.size ≤ q → va_A (cW cI cB cS n ad bf M) s.heap.size q := fun q h => Or.inr h
  have hl : lv_has ls 2 [(0, .ref (ad (30 + p0))), (1, .ref (ad 10))] := hl
  unfold fX1_telling at hf
  refine lv_aload_n hx hb dX1_telling_0 rfl (lv_at hl 0 rfl) ?_
  refine lv_aload_n hx hb dX1_telling_1 rfl (lv_at hl 1 rfl) ?_
  refine cb_plain_1 (S := M) (rest := []) hk hp0 C hw hA hcg ⟨(Nat.le_of_ble_eq_true rfl), (Nat.le_of_ble_eq_true rfl)⟩ ⟨(Nat.le_of_ble_eq_true rfl), (Nat.le_of_ble_eq_true rfl)⟩ hl.1 (Nat.le_of_ble_eq_true rfl) dX1_telling_2 (fun H locs hw => ?_)
  subst hf
  exact qt_i C hr hlocks hw dX1_telling_5
theorem cfX3_telling : cf yX3_telling cX3_telling 2 (some .int) 1 := ⟨tg_581, by decide +kernel, tg_9⟩
set_option maxHeartbeats 4000000 in
theorem kX3_telling (l : Launch) (D : va_G) (cI cB cS : ClassId) (n : Nat) (ad : Nat → Nat) (bf : Nat → Option Nat) (hcg : bok n ad bf) {p0 : Nat} (hp0 : p0 < n) (M : MS) (hk : ¬ M 20 p0 = 0) : Ct l D cI cB cS yX3_telling cX3_telling 2 (some .int) 2 42 [.ref (ad (30 + p0)), .ref (ad 10)] (cW cI cB cS n ad bf M) (some (.int (fX3_telling n p0 M).1)) (cW cI cB cS n ad bf (fX3_telling n p0 M).2) := by
  obtain ⟨q, hf⟩ : ∃ q, fX3_telling n p0 M = q := ⟨_, rfl⟩
  rw [hf]
  refine Ct.ofW (by decide) (Nat.le_of_ble_eq_true rfl) ?_
  intro p e s m args below meth c ls C hr hlocks _ hw hl
  have hx := C.1
  have hb := C.2.1
  have hA : ∀ q, s.heap.size ≤ q → va_A (cW cI cB cS n ad bf M) s.heap.size q := fun q h => Or.inr h
  have hl : lv_has ls 2 [(0, .ref (ad (30 + p0))), (1, .ref (ad 10))] := hl
  unfold fX3_telling at hf
  refine lv_aload_n hx hb dX3_telling_0 rfl (lv_at hl 1 rfl) ?_
  refine lv_iconst (v := 2) hx hb dX3_telling_1 ic_2 ?_
  refine ct_V0 (q0 := 10) (ci := 7) (rest := []) C hw hA (kX7_leave l D cI cB cS n ad bf hcg _ _) cfX7_leave tg_582 tg_583 tg_584 ⟨(Nat.le_of_ble_eq_true rfl), (Nat.le_of_ble_eq_true rfl)⟩ ⟨(Nat.le_of_ble_eq_true rfl), (Nat.le_of_ble_eq_true rfl)⟩ rfl rfl rfl rfl hl.1 rfl (Nat.le_of_ble_eq_true rfl) dX3_telling_2 (fun H locs hw => ?_)
  refine lv_aload_n hx hb dX3_telling_5 rfl (lv_at hl 0 rfl) ?_
  refine lv_aload_n hx hb dX3_telling_6 rfl (lv_at hl 1 rfl) ?_
  refine cb_plain_3 (S := (fX7_leave n (2 : Int32) M)) (rest := []) hk hp0 C hw hA hcg ⟨(Nat.le_of_ble_eq_true rfl), (Nat.le_of_ble_eq_true rfl)⟩ ⟨(Nat.le_of_ble_eq_true rfl), (Nat.le_of_ble_eq_true rfl)⟩ hl.1 (Nat.le_of_ble_eq_true rfl) dX3_telling_7 (fun H locs hw => ?_)
  refine lv_bipush (v := 100) hx hb dX3_telling_10 ib_100 ?_
  refine lv_iadd hx hb dX3_telling_12 ?_
  subst hf
  exact qt_i C hr hlocks hw dX3_telling_13
