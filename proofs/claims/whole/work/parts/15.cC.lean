def fX4_telling (n : Nat) (p0 : Nat) (M : MS) : (Int32 × MS) :=
  (((fX3_telling n p0 (fX7_leave n (3 : Int32) M)).1 + (fX1_plainTelling n p0 (fX3_telling n p0 (fX7_leave n (3 : Int32) M)).2).1), (fX1_plainTelling n p0 (fX3_telling n p0 (fX7_leave n (3 : Int32) M)).2).2)
theorem cfX4_telling : cf yX4_telling cX4_telling 3 (some .int) 1 := ⟨tg_596, by decide +kernel, tg_10⟩
set_option maxHeartbeats 4000000 in
theorem kX4_telling (l : Launch) (D : va_G) (cI cB cS : ClassId) (n : Nat) (ad : Nat → Nat) (bf : Nat → Option Nat) (hcg : bok n ad bf) {p0 : Nat} (hp0 : p0 < n) (M : MS) (hk : ¬ M 20 p0 = 0 ∧ ¬ M 20 p0 = 1) : Ct l D cI cB cS yX4_telling cX4_telling 3 (some .int) 3 63 [.ref (ad (30 + p0)), .ref (ad 10)] (cW cI cB cS n ad bf M) (some (.int (fX4_telling n p0 M).1)) (cW cI cB cS n ad bf (fX4_telling n p0 M).2) := by
  obtain ⟨q, hf⟩ : ∃ q, fX4_telling n p0 M = q := ⟨_, rfl⟩
  rw [hf]
  refine Ct.ofW (by decide) (Nat.le_of_ble_eq_true rfl) ?_
  intro p e s m args below meth c ls C hr hlocks _ hw hl
  have hx := C.1
  have hb := C.2.1
  have hA : ∀ q, s.heap.size ≤ q → va_A (cW cI cB cS n ad bf M) s.heap.size q := fun q h => Or.inr h
  have hl : lv_has ls 3 [(0, .ref (ad (30 + p0))), (1, .ref (ad 10))] := hl
  unfold fX4_telling at hf
  refine lv_aload_n hx hb dX4_telling_0 rfl (lv_at hl 1 rfl) ?_
  refine lv_iconst (v := 3) hx hb dX4_telling_1 ic_3 ?_
  refine ct_V0 (q0 := 10) (ci := 7) (rest := []) C hw hA (kX7_leave l D cI cB cS n ad bf hcg _ _) cfX7_leave tg_597 tg_583 tg_584 ⟨(Nat.le_of_ble_eq_true rfl), (Nat.le_of_ble_eq_true rfl)⟩ ⟨(Nat.le_of_ble_eq_true rfl), (Nat.le_of_ble_eq_true rfl)⟩ rfl rfl rfl rfl hl.1 rfl (Nat.le_of_ble_eq_true rfl) dX4_telling_2 (fun H locs hw => ?_)
  refine lv_aload_n hx hb dX4_telling_5 rfl (lv_at hl 0 rfl) ?_
  refine lv_aload_n hx hb dX4_telling_6 rfl (lv_at hl 1 rfl) ?_
  refine cb_super (S := (fX7_leave n (3 : Int32) M)) (rest := []) hk hp0 C hw hA hcg ⟨(Nat.le_of_ble_eq_true rfl), (Nat.le_of_ble_eq_true rfl)⟩ ⟨(Nat.le_of_ble_eq_true rfl), (Nat.le_of_ble_eq_true rfl)⟩ hl.1 (Nat.le_of_ble_eq_true rfl) dX4_telling_7 (fun H locs hw => ?_)
  refine lv_istore_n (lv' := [(2, .int (fX3_telling n p0 (fX7_leave n (3 : Int32) M)).1), (0, .ref (ad (30 + p0))), (1, .ref (ad 10))]) hx hb dX4_telling_10 rfl hl (by decide) rfl (fun ls hl => ?_)
  refine lv_iload_n hx hb dX4_telling_11 rfl (lv_at hl 0 rfl) ?_
  refine lv_aload_n hx hb dX4_telling_12 rfl (lv_at hl 1 rfl) ?_
  refine lv_aload_n hx hb dX4_telling_13 rfl (lv_at hl 2 rfl) ?_
  refine cb_plain_4 (S := (fX3_telling n p0 (fX7_leave n (3 : Int32) M)).2) (rest := [.int (fX3_telling n p0 (fX7_leave n (3 : Int32) M)).1]) hk hp0 C hw hA hcg ⟨(Nat.le_of_ble_eq_true rfl), (Nat.le_of_ble_eq_true rfl)⟩ ⟨(Nat.le_of_ble_eq_true rfl), (Nat.le_of_ble_eq_true rfl)⟩ hl.1 (Nat.le_of_ble_eq_true rfl) dX4_telling_14 (fun H locs hw => ?_)
  refine lv_iadd hx hb dX4_telling_17 ?_
  subst hf
  exact qt_i C hr hlocks hw dX4_telling_18
