def fX8_isBelow (p1 : Int32) (p2 : Int32) : Int32 :=
  (if p1 < 0 then 0 else (if p2 ≤ p1 then 0 else 1))
def fX8_isIn (p1 : Int32) (p2 : Int32) : Int32 :=
  (if ((p1 >>> (p2 &&& 31)) &&& 1) = 1 then 1 else 0)
def fX8_isLot (p1 : Int32) : Int32 :=
  (fX8_isBelow p1 (4 : Int32))
def fX8_isLane (p1 : Int32) : Int32 :=
  (fX8_isBelow p1 (3 : Int32))
def fX8_isAmong (p1 : Int32) (p2 : Int32) (p3 : Int32) : Int32 :=
  (if p1 < p2 then 0 else (if p3 < p1 then 0 else 1))
def fX8_lotOfOrder (p1 : Int32) (p2 : Int32) : Int32 :=
  ((p1 >>> ((2 * (3 - p2)) &&& 31)) &&& 3)
def fX1_kind : Int32 :=
  0
def fX3_kind : Int32 :=
  1
def fX4_kind : Int32 :=
  2
def fX1_wearsHat : Int32 :=
  0
def fX3_wearsHat : Int32 :=
  1
def fX1_limitBy (p1 : Int32) (p2 : Int32) : Int32 :=
  (if p2 < p1 then p2 else p1)
def fX4_limitBy (p1 : Int32) (p2 : Int32) : Int32 :=
  (if 0 < ((if p2 < p1 then p2 else p1) - 2) then ((if p2 < p1 then p2 else p1) - 2) else 0)
def fX7_leave (n : Nat) (p1 : Int32) (M : MS) : MS :=
  (u2 M 9 0 ((31 * (M 9 0)) + p1))
def fX1_plainTelling (n : Nat) (p0 : Nat) (M : MS) : (Int32 × MS) :=
  (((fX7_leave n (1 : Int32) M) 21 p0), (fX7_leave n (1 : Int32) M))
def fX1_nodding (n : Nat) (p0 : Nat) (M : MS) : (Int32 × MS) :=
  ((nI p0), (fX7_leave n (4 : Int32) M))
def fX4_nodding (n : Nat) (p0 : Nat) (M : MS) : (Int32 × MS) :=
  (80, (fX7_leave n (5 : Int32) M))
def fX5_buyerOf_raw (n : Nat) (p1 : Int32) (M : MS) : Option (Option Nat) :=
  (if (fX8_isBelow p1 (nI n)) = 0 then (some none) else (if 6 ≤ p1 then (some none) else (gb p1 n (some (some (p1.toNatClampNeg))))))
def fX8_sheetOf_raw (n : Nat) (p1 : Int32) (M : MS) : Option (Option Nat) :=
  (if (fX8_isBelow p1 (4 : Int32)) = 0 then (some none) else (gd p1 4 (some (some (p1.toNatClampNeg)))))
theorem cfX8_isBelow : cf yX8_isBelow cX8_isBelow 2 (some .boolean) 2 := ⟨tg_185, by decide +kernel, tg_1⟩
set_option maxHeartbeats 4000000 in
theorem kX8_isBelow (l : Launch) (D : va_G) (cI cB cS : ClassId) (ws0 : va_W) (p1 : Int32) (p2 : Int32) : Ct l D cI cB cS yX8_isBelow cX8_isBelow 2 (some .boolean) 0 0 [.int p1, .int p2] ws0 (some (.int (fX8_isBelow p1 p2))) ws0 := by
  obtain ⟨q, hf⟩ : ∃ q, fX8_isBelow p1 p2 = q := ⟨_, rfl⟩
  rw [hf]
  refine Ct.ofW (by decide) (Nat.le_of_ble_eq_true rfl) ?_
  intro p e s m args below meth c ls C hr hlocks _ hw hl
  have hx := C.1
  have hb := C.2.1
  have hA : ∀ q, s.heap.size ≤ q → va_A ws0 s.heap.size q := fun q h => Or.inr h
  have hcg := trivial
  have hl : lv_has ls 2 [(0, .int p1), (1, .int p2)] := hl
  unfold fX8_isBelow at hf
  refine lv_iload_n hx hb dX8_isBelow_0 rfl (lv_at hl 0 rfl) ?_
  refine lv_if_lt (tgt := 13) hx hb dX8_isBelow_1 (by decide) (fun h1 => ?_) (fun h1 => ?_)
  · have hf := it_t h1 hf
    refine lv_iconst (v := 0) hx hb dX8_isBelow_13 ic_0 ?_
    subst hf
    exact qt_z C hr hlocks (Or.inl rfl) hw dX8_isBelow_14
  · have hf := it_f h1 hf
    refine lv_iload_n hx hb dX8_isBelow_4 rfl (lv_at hl 0 rfl) ?_
    refine lv_iload_n hx hb dX8_isBelow_5 rfl (lv_at hl 1 rfl) ?_
    refine lv_icmp_ge (tgt := 13) hx hb dX8_isBelow_6 (by decide) (fun h2 => ?_) (fun h2 => ?_)
    · have hf := it_t h2 hf
      refine lv_iconst (v := 0) hx hb dX8_isBelow_13 ic_0 ?_
      subst hf
      exact qt_z C hr hlocks (Or.inl rfl) hw dX8_isBelow_14
    · have hf := it_f h2 hf
      refine lv_iconst (v := 1) hx hb dX8_isBelow_9 ic_1 ?_
      refine lv_goto (tgt := 14) hx hb dX8_isBelow_10 (by decide) ?_
      subst hf
      exact qt_z C hr hlocks (Or.inr rfl) hw dX8_isBelow_14
theorem zX8_isBelow (p1 : Int32) (p2 : Int32) : fX8_isBelow p1 p2 = 0 ∨ fX8_isBelow p1 p2 = 1 := by
  unfold fX8_isBelow
  (repeat' split) <;> first | exact Or.inl rfl | exact Or.inr rfl
theorem cfX8_isIn : cf yX8_isIn cX8_isIn 2 (some .boolean) 2 := ⟨tg_382, by decide +kernel, tg_1⟩
set_option maxHeartbeats 4000000 in
theorem kX8_isIn (l : Launch) (D : va_G) (cI cB cS : ClassId) (ws0 : va_W) (p1 : Int32) (p2 : Int32) : Ct l D cI cB cS yX8_isIn cX8_isIn 2 (some .boolean) 0 0 [.int p1, .int p2] ws0 (some (.int (fX8_isIn p1 p2))) ws0 := by
  obtain ⟨q, hf⟩ : ∃ q, fX8_isIn p1 p2 = q := ⟨_, rfl⟩
  rw [hf]
  refine Ct.ofW (by decide) (Nat.le_of_ble_eq_true rfl) ?_
  intro p e s m args below meth c ls C hr hlocks _ hw hl
  have hx := C.1
  have hb := C.2.1
  have hA : ∀ q, s.heap.size ≤ q → va_A ws0 s.heap.size q := fun q h => Or.inr h
  have hcg := trivial
  have hl : lv_has ls 2 [(0, .int p1), (1, .int p2)] := hl
  unfold fX8_isIn at hf
  refine lv_iload_n hx hb dX8_isIn_0 rfl (lv_at hl 0 rfl) ?_
  refine lv_iload_n hx hb dX8_isIn_1 rfl (lv_at hl 1 rfl) ?_
  refine lv_ishr hx hb dX8_isIn_2 ?_
  refine lv_iconst (v := 1) hx hb dX8_isIn_3 ic_1 ?_
  refine lv_iand hx hb dX8_isIn_4 ?_
  refine lv_iconst (v := 1) hx hb dX8_isIn_5 ic_1 ?_
  refine lv_icmp_ne (tgt := 13) hx hb dX8_isIn_6 (by decide) (fun h1 => ?_) (fun h1 => ?_)
  · have hf := it_f h1 hf
    refine lv_iconst (v := 0) hx hb dX8_isIn_13 ic_0 ?_
    subst hf
    exact qt_z C hr hlocks (Or.inl rfl) hw dX8_isIn_14
  · have hf := it_t h1 hf
    refine lv_iconst (v := 1) hx hb dX8_isIn_9 ic_1 ?_
    refine lv_goto (tgt := 14) hx hb dX8_isIn_10 (by decide) ?_
    subst hf
    exact qt_z C hr hlocks (Or.inr rfl) hw dX8_isIn_14
theorem zX8_isIn (p1 : Int32) (p2 : Int32) : fX8_isIn p1 p2 = 0 ∨ fX8_isIn p1 p2 = 1 := by
  unfold fX8_isIn
  (repeat' split) <;> first | exact Or.inl rfl | exact Or.inr rfl | exact zX8_isBelow _ _
theorem cfX8_isLot : cf yX8_isLot cX8_isLot 1 (some .boolean) 1 := ⟨tg_333, by decide +kernel, tg_1⟩
set_option maxHeartbeats 4000000 in
theorem kX8_isLot (l : Launch) (D : va_G) (cI cB cS : ClassId) (ws0 : va_W) (p1 : Int32) : Ct l D cI cB cS yX8_isLot cX8_isLot 1 (some .boolean) 1 21 [.int p1] ws0 (some (.int (fX8_isLot p1))) ws0 := by
  obtain ⟨q, hf⟩ : ∃ q, fX8_isLot p1 = q := ⟨_, rfl⟩
  rw [hf]
  refine Ct.ofW (by decide) (Nat.le_of_ble_eq_true rfl) ?_
  intro p e s m args below meth c ls C hr hlocks _ hw hl
  have hx := C.1
  have hb := C.2.1
  have hA : ∀ q, s.heap.size ≤ q → va_A ws0 s.heap.size q := fun q h => Or.inr h
  have hcg := trivial
  have hl : lv_has ls 1 [(0, .int p1)] := hl
  unfold fX8_isLot at hf
  refine lv_iload_n hx hb dX8_isLot_0 rfl (lv_at hl 0 rfl) ?_
  refine lv_iconst (v := 4) hx hb dX8_isLot_1 ic_4 ?_
  refine ct_S1 (rest := []) C hw hA (kX8_isBelow l D cI cB cS _ _ _) cfX8_isBelow tg_183 tg_184 ⟨(Nat.le_of_ble_eq_true rfl), (Nat.le_of_ble_eq_true rfl)⟩ ⟨(Nat.le_of_ble_eq_true rfl), (Nat.le_of_ble_eq_true rfl)⟩ rfl hl.1 rfl (Nat.le_of_ble_eq_true rfl) dX8_isLot_2 (fun H locs hw => ?_)
  subst hf
  exact qt_z C hr hlocks (zX8_isBelow _ _) hw dX8_isLot_5
theorem zX8_isLot (p1 : Int32) : fX8_isLot p1 = 0 ∨ fX8_isLot p1 = 1 := by
  unfold fX8_isLot
  (repeat' split) <;> first | exact Or.inl rfl | exact Or.inr rfl | exact zX8_isBelow _ _ | exact zX8_isIn _ _
theorem cfX8_isLane : cf yX8_isLane cX8_isLane 1 (some .boolean) 1 := ⟨tg_188, by decide +kernel, tg_1⟩
set_option maxHeartbeats 4000000 in
theorem kX8_isLane (l : Launch) (D : va_G) (cI cB cS : ClassId) (ws0 : va_W) (p1 : Int32) : Ct l D cI cB cS yX8_isLane cX8_isLane 1 (some .boolean) 1 21 [.int p1] ws0 (some (.int (fX8_isLane p1))) ws0 := by
  obtain ⟨q, hf⟩ : ∃ q, fX8_isLane p1 = q := ⟨_, rfl⟩
  rw [hf]
  refine Ct.ofW (by decide) (Nat.le_of_ble_eq_true rfl) ?_
  intro p e s m args below meth c ls C hr hlocks _ hw hl
  have hx := C.1
  have hb := C.2.1
  have hA : ∀ q, s.heap.size ≤ q → va_A ws0 s.heap.size q := fun q h => Or.inr h
  have hcg := trivial
  have hl : lv_has ls 1 [(0, .int p1)] := hl
  unfold fX8_isLane at hf
  refine lv_iload_n hx hb dX8_isLane_0 rfl (lv_at hl 0 rfl) ?_
  refine lv_iconst (v := 3) hx hb dX8_isLane_1 ic_3 ?_
  refine ct_S1 (rest := []) C hw hA (kX8_isBelow l D cI cB cS _ _ _) cfX8_isBelow tg_183 tg_184 ⟨(Nat.le_of_ble_eq_true rfl), (Nat.le_of_ble_eq_true rfl)⟩ ⟨(Nat.le_of_ble_eq_true rfl), (Nat.le_of_ble_eq_true rfl)⟩ rfl hl.1 rfl (Nat.le_of_ble_eq_true rfl) dX8_isLane_2 (fun H locs hw => ?_)
  subst hf
  exact qt_z C hr hlocks (zX8_isBelow _ _) hw dX8_isLane_5
theorem zX8_isLane (p1 : Int32) : fX8_isLane p1 = 0 ∨ fX8_isLane p1 = 1 := by
  unfold fX8_isLane
  (repeat' split) <;> first | exact Or.inl rfl | exact Or.inr rfl | exact zX8_isBelow _ _ | exact zX8_isIn _ _ | exact zX8_isLot _
theorem cfX8_isAmong : cf yX8_isAmong cX8_isAmong 3 (some .boolean) 3 := ⟨tg_214, by decide +kernel, tg_1⟩
set_option maxHeartbeats 4000000 in
theorem kX8_isAmong (l : Launch) (D : va_G) (cI cB cS : ClassId) (ws0 : va_W) (p1 : Int32) (p2 : Int32) (p3 : Int32) : Ct l D cI cB cS yX8_isAmong cX8_isAmong 3 (some .boolean) 0 0 [.int p1, .int p2, .int p3] ws0 (some (.int (fX8_isAmong p1 p2 p3))) ws0 := by
  obtain ⟨q, hf⟩ : ∃ q, fX8_isAmong p1 p2 p3 = q := ⟨_, rfl⟩
  rw [hf]
  refine Ct.ofW (by decide) (Nat.le_of_ble_eq_true rfl) ?_
  intro p e s m args below meth c ls C hr hlocks _ hw hl
  have hx := C.1
  have hb := C.2.1
  have hA : ∀ q, s.heap.size ≤ q → va_A ws0 s.heap.size q := fun q h => Or.inr h
  have hcg := trivial
  have hl : lv_has ls 3 [(0, .int p1), (1, .int p2), (2, .int p3)] := hl
  unfold fX8_isAmong at hf
  refine lv_iload_n hx hb dX8_isAmong_0 rfl (lv_at hl 0 rfl) ?_
  refine lv_iload_n hx hb dX8_isAmong_1 rfl (lv_at hl 1 rfl) ?_
  refine lv_icmp_lt (tgt := 14) hx hb dX8_isAmong_2 (by decide) (fun h1 => ?_) (fun h1 => ?_)
  · have hf := it_t h1 hf
    refine lv_iconst (v := 0) hx hb dX8_isAmong_14 ic_0 ?_
    subst hf
    exact qt_z C hr hlocks (Or.inl rfl) hw dX8_isAmong_15
  · have hf := it_f h1 hf
    refine lv_iload_n hx hb dX8_isAmong_5 rfl (lv_at hl 0 rfl) ?_
    refine lv_iload_n hx hb dX8_isAmong_6 rfl (lv_at hl 2 rfl) ?_
    refine lv_icmp_gt (tgt := 14) hx hb dX8_isAmong_7 (by decide) (fun h2 => ?_) (fun h2 => ?_)
    · have hf := it_t h2 hf
      refine lv_iconst (v := 0) hx hb dX8_isAmong_14 ic_0 ?_
      subst hf
      exact qt_z C hr hlocks (Or.inl rfl) hw dX8_isAmong_15
    · have hf := it_f h2 hf
      refine lv_iconst (v := 1) hx hb dX8_isAmong_10 ic_1 ?_
      refine lv_goto (tgt := 15) hx hb dX8_isAmong_11 (by decide) ?_
      subst hf
      exact qt_z C hr hlocks (Or.inr rfl) hw dX8_isAmong_15
theorem zX8_isAmong (p1 : Int32) (p2 : Int32) (p3 : Int32) : fX8_isAmong p1 p2 p3 = 0 ∨ fX8_isAmong p1 p2 p3 = 1 := by
  unfold fX8_isAmong
  (repeat' split) <;> first | exact Or.inl rfl | exact Or.inr rfl | exact zX8_isBelow _ _ | exact zX8_isIn _ _ | exact zX8_isLot _ | exact zX8_isLane _
theorem cfX8_lotOfOrder : cf yX8_lotOfOrder cX8_lotOfOrder 2 (some .int) 2 := ⟨tg_473, by decide +kernel, tg_1⟩
set_option maxHeartbeats 4000000 in
theorem kX8_lotOfOrder (l : Launch) (D : va_G) (cI cB cS : ClassId) (ws0 : va_W) (p1 : Int32) (p2 : Int32) : Ct l D cI cB cS yX8_lotOfOrder cX8_lotOfOrder 2 (some .int) 0 0 [.int p1, .int p2] ws0 (some (.int (fX8_lotOfOrder p1 p2))) ws0 := by
  obtain ⟨q, hf⟩ : ∃ q, fX8_lotOfOrder p1 p2 = q := ⟨_, rfl⟩
  rw [hf]
  refine Ct.ofW (by decide) (Nat.le_of_ble_eq_true rfl) ?_
  intro p e s m args below meth c ls C hr hlocks _ hw hl
  have hx := C.1
  have hb := C.2.1
  have hA : ∀ q, s.heap.size ≤ q → va_A ws0 s.heap.size q := fun q h => Or.inr h
  have hcg := trivial
  have hl : lv_has ls 2 [(0, .int p1), (1, .int p2)] := hl
  unfold fX8_lotOfOrder at hf
  refine lv_iload_n hx hb dX8_lotOfOrder_0 rfl (lv_at hl 0 rfl) ?_
  refine lv_iconst (v := 2) hx hb dX8_lotOfOrder_1 ic_2 ?_
  refine lv_iconst (v := 3) hx hb dX8_lotOfOrder_2 ic_3 ?_
  refine lv_iload_n hx hb dX8_lotOfOrder_3 rfl (lv_at hl 1 rfl) ?_
  refine lv_isub hx hb dX8_lotOfOrder_4 ?_
  refine lv_imul hx hb dX8_lotOfOrder_5 ?_
  refine lv_ishr hx hb dX8_lotOfOrder_6 ?_
  refine lv_iconst (v := 3) hx hb dX8_lotOfOrder_7 ic_3 ?_
  refine lv_iand hx hb dX8_lotOfOrder_8 ?_
  subst hf
  exact qt_i C hr hlocks hw dX8_lotOfOrder_9
theorem cfX1_kind : cf yX1_kind cX1_kind 1 (some .int) 0 := ⟨tg_308, by decide +kernel, tg_8⟩
set_option maxHeartbeats 4000000 in
theorem kX1_kind (l : Launch) (D : va_G) (cI cB cS : ClassId) (ws0 : va_W) (a0 : Nat) : Ct l D cI cB cS yX1_kind cX1_kind 1 (some .int) 0 0 [.ref a0] ws0 (some (.int (fX1_kind))) ws0 := by
  obtain ⟨q, hf⟩ : ∃ q, fX1_kind = q := ⟨_, rfl⟩
  rw [hf]
  refine Ct.ofW (by decide) (Nat.le_of_ble_eq_true rfl) ?_
  intro p e s m args below meth c ls C hr hlocks _ hw hl
  have hx := C.1
  have hb := C.2.1
  have hA : ∀ q, s.heap.size ≤ q → va_A ws0 s.heap.size q := fun q h => Or.inr h
  have hcg := trivial
  have hl : lv_has ls 1 [(0, .ref a0)] := hl
  unfold fX1_kind at hf
  refine lv_iconst (v := 0) hx hb dX1_kind_0 ic_0 ?_
  subst hf
  exact qt_i C hr hlocks hw dX1_kind_1
theorem cfX3_kind : cf yX3_kind cX3_kind 1 (some .int) 0 := ⟨tg_304, by decide +kernel, tg_9⟩
set_option maxHeartbeats 4000000 in
theorem kX3_kind (l : Launch) (D : va_G) (cI cB cS : ClassId) (ws0 : va_W) (a0 : Nat) : Ct l D cI cB cS yX3_kind cX3_kind 1 (some .int) 0 0 [.ref a0] ws0 (some (.int (fX3_kind))) ws0 := by
  obtain ⟨q, hf⟩ : ∃ q, fX3_kind = q := ⟨_, rfl⟩
  rw [hf]
  refine Ct.ofW (by decide) (Nat.le_of_ble_eq_true rfl) ?_
  intro p e s m args below meth c ls C hr hlocks _ hw hl
  have hx := C.1
  have hb := C.2.1
  have hA : ∀ q, s.heap.size ≤ q → va_A ws0 s.heap.size q := fun q h => Or.inr h
  have hcg := trivial
  have hl : lv_has ls 1 [(0, .ref a0)] := hl
  unfold fX3_kind at hf
  refine lv_iconst (v := 1) hx hb dX3_kind_0 ic_1 ?_
  subst hf
  exact qt_i C hr hlocks hw dX3_kind_1
theorem cfX4_kind : cf yX4_kind cX4_kind 1 (some .int) 0 := ⟨tg_307, by decide +kernel, tg_10⟩
set_option maxHeartbeats 4000000 in
theorem kX4_kind (l : Launch) (D : va_G) (cI cB cS : ClassId) (ws0 : va_W) (a0 : Nat) : Ct l D cI cB cS yX4_kind cX4_kind 1 (some .int) 0 0 [.ref a0] ws0 (some (.int (fX4_kind))) ws0 := by
  obtain ⟨q, hf⟩ : ∃ q, fX4_kind = q := ⟨_, rfl⟩
  rw [hf]
  refine Ct.ofW (by decide) (Nat.le_of_ble_eq_true rfl) ?_
  intro p e s m args below meth c ls C hr hlocks _ hw hl
  have hx := C.1
  have hb := C.2.1
  have hA : ∀ q, s.heap.size ≤ q → va_A ws0 s.heap.size q := fun q h => Or.inr h
  have hcg := trivial
  have hl : lv_has ls 1 [(0, .ref a0)] := hl
  unfold fX4_kind at hf
  refine lv_iconst (v := 2) hx hb dX4_kind_0 ic_2 ?_
  subst hf
  exact qt_i C hr hlocks hw dX4_kind_1
theorem cfX1_wearsHat : cf yX1_wearsHat cX1_wearsHat 1 (some .boolean) 0 := ⟨tg_321, by decide +kernel, tg_8⟩
set_option maxHeartbeats 4000000 in
theorem kX1_wearsHat (l : Launch) (D : va_G) (cI cB cS : ClassId) (ws0 : va_W) (a0 : Nat) : Ct l D cI cB cS yX1_wearsHat cX1_wearsHat 1 (some .boolean) 0 0 [.ref a0] ws0 (some (.int (fX1_wearsHat))) ws0 := by
  obtain ⟨q, hf⟩ : ∃ q, fX1_wearsHat = q := ⟨_, rfl⟩
  rw [hf]
  refine Ct.ofW (by decide) (Nat.le_of_ble_eq_true rfl) ?_
  intro p e s m args below meth c ls C hr hlocks _ hw hl
  have hx := C.1
  have hb := C.2.1
  have hA : ∀ q, s.heap.size ≤ q → va_A ws0 s.heap.size q := fun q h => Or.inr h
  have hcg := trivial
  have hl : lv_has ls 1 [(0, .ref a0)] := hl
  unfold fX1_wearsHat at hf
  refine lv_iconst (v := 0) hx hb dX1_wearsHat_0 ic_0 ?_
  subst hf
  exact qt_z C hr hlocks (Or.inl rfl) hw dX1_wearsHat_1
theorem zX1_wearsHat : fX1_wearsHat = 0 ∨ fX1_wearsHat = 1 := by
  unfold fX1_wearsHat
  (repeat' split) <;> first | exact Or.inl rfl | exact Or.inr rfl | exact zX8_isBelow _ _ | exact zX8_isIn _ _ | exact zX8_isLot _ | exact zX8_isLane _ | exact zX8_isAmong _ _ _
theorem cfX3_wearsHat : cf yX3_wearsHat cX3_wearsHat 1 (some .boolean) 0 := ⟨tg_319, by decide +kernel, tg_9⟩
set_option maxHeartbeats 4000000 in
theorem kX3_wearsHat (l : Launch) (D : va_G) (cI cB cS : ClassId) (ws0 : va_W) (a0 : Nat) : Ct l D cI cB cS yX3_wearsHat cX3_wearsHat 1 (some .boolean) 0 0 [.ref a0] ws0 (some (.int (fX3_wearsHat))) ws0 := by
  obtain ⟨q, hf⟩ : ∃ q, fX3_wearsHat = q := ⟨_, rfl⟩
  rw [hf]
  refine Ct.ofW (by decide) (Nat.le_of_ble_eq_true rfl) ?_
  intro p e s m args below meth c ls C hr hlocks _ hw hl
  have hx := C.1
  have hb := C.2.1
  have hA : ∀ q, s.heap.size ≤ q → va_A ws0 s.heap.size q := fun q h => Or.inr h
  have hcg := trivial
  have hl : lv_has ls 1 [(0, .ref a0)] := hl
  unfold fX3_wearsHat at hf
  refine lv_iconst (v := 1) hx hb dX3_wearsHat_0 ic_1 ?_
  subst hf
  exact qt_z C hr hlocks (Or.inr rfl) hw dX3_wearsHat_1
theorem zX3_wearsHat : fX3_wearsHat = 0 ∨ fX3_wearsHat = 1 := by
  unfold fX3_wearsHat
  (repeat' split) <;> first | exact Or.inl rfl | exact Or.inr rfl | exact zX8_isBelow _ _ | exact zX8_isIn _ _ | exact zX8_isLot _ | exact zX8_isLane _ | exact zX8_isAmong _ _ _ | exact zX1_wearsHat
theorem cfX1_limitBy : cf yX1_limitBy cX1_limitBy 3 (some .int) 2 := ⟨tg_352, by decide +kernel, tg_8⟩
set_option maxHeartbeats 4000000 in
theorem kX1_limitBy (l : Launch) (D : va_G) (cI cB cS : ClassId) (ws0 : va_W) (a0 : Nat) (p1 : Int32) (p2 : Int32) : Ct l D cI cB cS yX1_limitBy cX1_limitBy 3 (some .int) 1 21 [.ref a0, .int p1, .int p2] ws0 (some (.int (fX1_limitBy p1 p2))) ws0 := by
  obtain ⟨q, hf⟩ : ∃ q, fX1_limitBy p1 p2 = q := ⟨_, rfl⟩
  rw [hf]
  refine Ct.ofW (by decide) (Nat.le_of_ble_eq_true rfl) ?_
  intro p e s m args below meth c ls C hr hlocks _ hw hl
  have hx := C.1
  have hb := C.2.1
  have hA : ∀ q, s.heap.size ≤ q → va_A ws0 s.heap.size q := fun q h => Or.inr h
  have hcg := trivial
  have hl : lv_has ls 3 [(0, .ref a0), (1, .int p1), (2, .int p2)] := hl
  unfold fX1_limitBy at hf
  refine lv_iload_n hx hb dX1_limitBy_0 rfl (lv_at hl 1 rfl) ?_
  refine lv_iload_n hx hb dX1_limitBy_1 rfl (lv_at hl 2 rfl) ?_
  refine va_mmin (rest := []) hx hb (C.2.2.1.trans hl.1.symm) C.2.2.2.1 (C.2.2.2.2.1 _ tg_353) (C.2.2.2.2.1 _ tg_347) (C.2.2.2.2.1 _ tg_11) (C.2.2.2.2.1 _ tg_348) (Nat.le_of_ble_eq_true rfl) (Nat.le_of_ble_eq_true rfl) (Nat.le_of_ble_eq_true rfl) (Nat.le_of_ble_eq_true rfl) dX1_limitBy_2 ?_
  subst hf
  exact qt_i C hr hlocks hw dX1_limitBy_5
theorem cfX4_limitBy : cf yX4_limitBy cX4_limitBy 3 (some .int) 2 := ⟨tg_345, by decide +kernel, tg_10⟩
set_option maxHeartbeats 4000000 in
theorem kX4_limitBy (l : Launch) (D : va_G) (cI cB cS : ClassId) (ws0 : va_W) (a0 : Nat) (p1 : Int32) (p2 : Int32) : Ct l D cI cB cS yX4_limitBy cX4_limitBy 3 (some .int) 1 21 [.ref a0, .int p1, .int p2] ws0 (some (.int (fX4_limitBy p1 p2))) ws0 := by
  obtain ⟨q, hf⟩ : ∃ q, fX4_limitBy p1 p2 = q := ⟨_, rfl⟩
  rw [hf]
  refine Ct.ofW (by decide) (Nat.le_of_ble_eq_true rfl) ?_
  intro p e s m args below meth c ls C hr hlocks _ hw hl
  have hx := C.1
  have hb := C.2.1
  have hA : ∀ q, s.heap.size ≤ q → va_A ws0 s.heap.size q := fun q h => Or.inr h
  have hcg := trivial
  have hl : lv_has ls 3 [(0, .ref a0), (1, .int p1), (2, .int p2)] := hl
  unfold fX4_limitBy at hf
  refine lv_iconst (v := 0) hx hb dX4_limitBy_0 ic_0 ?_
  refine lv_iload_n hx hb dX4_limitBy_1 rfl (lv_at hl 1 rfl) ?_
  refine lv_iload_n hx hb dX4_limitBy_2 rfl (lv_at hl 2 rfl) ?_
  refine va_mmin (rest := [.int 0]) hx hb (C.2.2.1.trans hl.1.symm) C.2.2.2.1 (C.2.2.2.2.1 _ tg_346) (C.2.2.2.2.1 _ tg_347) (C.2.2.2.2.1 _ tg_11) (C.2.2.2.2.1 _ tg_348) (Nat.le_of_ble_eq_true rfl) (Nat.le_of_ble_eq_true rfl) (Nat.le_of_ble_eq_true rfl) (Nat.le_of_ble_eq_true rfl) dX4_limitBy_3 ?_
  refine lv_iconst (v := 2) hx hb dX4_limitBy_6 ic_2 ?_
  refine lv_isub hx hb dX4_limitBy_7 ?_
  refine va_mmax (rest := []) hx hb (C.2.2.1.trans hl.1.symm) C.2.2.2.1 (C.2.2.2.2.1 _ tg_349) (C.2.2.2.2.1 _ tg_350) (C.2.2.2.2.1 _ tg_11) (C.2.2.2.2.1 _ tg_351) (Nat.le_of_ble_eq_true rfl) (Nat.le_of_ble_eq_true rfl) (Nat.le_of_ble_eq_true rfl) (Nat.le_of_ble_eq_true rfl) dX4_limitBy_8 ?_
  subst hf
  exact qt_i C hr hlocks hw dX4_limitBy_11
theorem cfX7_leave : cf yX7_leave cX7_leave 2 none 1 := ⟨tg_585, by decide +kernel, tg_3⟩
set_option maxHeartbeats 4000000 in
theorem kX7_leave (l : Launch) (D : va_G) (cI cB cS : ClassId) (n : Nat) (ad : Nat → Nat) (bf : Nat → Option Nat) (hcg : bok n ad bf) (p1 : Int32) (M : MS) : Ct l D cI cB cS yX7_leave cX7_leave 2 none 0 0 [.ref (ad 10), .int p1] (cW cI cB cS n ad bf M) none (cW cI cB cS n ad bf (fX7_leave n p1 M)) := by
  obtain ⟨q, hf⟩ : ∃ q, fX7_leave n p1 M = q := ⟨_, rfl⟩
  rw [hf]
  refine Ct.ofW (by decide) (Nat.le_of_ble_eq_true rfl) ?_
  intro p e s m args below meth c ls C hr hlocks _ hw hl
  have hx := C.1
  have hb := C.2.1
  have hA : ∀ q, s.heap.size ≤ q → va_A (cW cI cB cS n ad bf M) s.heap.size q := fun q h => Or.inr h
  have hl : lv_has ls 2 [(0, .ref (ad 10)), (1, .int p1)] := hl
  unfold fX7_leave at hf
  refine lv_aload_n hx hb dX7_leave_0 rfl (lv_at hl 0 rfl) ?_
  refine lv_bipush (v := 31) hx hb dX7_leave_1 ib_31 ?_
  refine lv_aload_n hx hb dX7_leave_3 rfl (lv_at hl 0 rfl) ?_
  refine cg_7_7 C hw dX7_leave_4 ?_
  refine lv_imul hx hb dX7_leave_7 ?_
  refine lv_iload_n hx hb dX7_leave_8 rfl (lv_at hl 1 rfl) ?_
  refine lv_iadd hx hb dX7_leave_9 ?_
  refine cp_7_7 C hw dX7_leave_10 (fun H locs hw => ?_)
  subst hf
  exact qt_v C hr hlocks hw dX7_leave_13
theorem cfX1_plainTelling : cf yX1_plainTelling cX1_plainTelling 2 (some .int) 1 := ⟨tg_592, by decide +kernel, tg_8⟩
set_option maxHeartbeats 4000000 in
theorem kX1_plainTelling (l : Launch) (D : va_G) (cI cB cS : ClassId) (n : Nat) (ad : Nat → Nat) (bf : Nat → Option Nat) (hcg : bok n ad bf) {p0 : Nat} (hp0 : p0 < n) (M : MS) : Ct l D cI cB cS yX1_plainTelling cX1_plainTelling 2 (some .int) 1 21 [.ref (ad (30 + p0)), .ref (ad 10)] (cW cI cB cS n ad bf M) (some (.int (fX1_plainTelling n p0 M).1)) (cW cI cB cS n ad bf (fX1_plainTelling n p0 M).2) := by
  obtain ⟨q, hf⟩ : ∃ q, fX1_plainTelling n p0 M = q := ⟨_, rfl⟩
  rw [hf]
  refine Ct.ofW (by decide) (Nat.le_of_ble_eq_true rfl) ?_
  intro p e s m args below meth c ls C hr hlocks _ hw hl
  have hx := C.1
  have hb := C.2.1
  have hA : ∀ q, s.heap.size ≤ q → va_A (cW cI cB cS n ad bf M) s.heap.size q := fun q h => Or.inr h
  have hl : lv_has ls 2 [(0, .ref (ad (30 + p0))), (1, .ref (ad 10))] := hl
  unfold fX1_plainTelling at hf
  refine lv_aload_n hx hb dX1_plainTelling_0 rfl (lv_at hl 1 rfl) ?_
  refine lv_iconst (v := 1) hx hb dX1_plainTelling_1 ic_1 ?_
  refine ct_V0 (q0 := 10) (ci := 7) (rest := []) C hw hA (kX7_leave l D cI cB cS n ad bf hcg _ _) cfX7_leave tg_593 tg_583 tg_584 ⟨(Nat.le_of_ble_eq_true rfl), (Nat.le_of_ble_eq_true rfl)⟩ ⟨(Nat.le_of_ble_eq_true rfl), (Nat.le_of_ble_eq_true rfl)⟩ rfl rfl rfl rfl hl.1 rfl (Nat.le_of_ble_eq_true rfl) dX1_plainTelling_2 (fun H locs hw => ?_)
  refine lv_aload_n hx hb dX1_plainTelling_5 rfl (lv_at hl 0 rfl) ?_
  refine cg_1_15 hp0 C hw dX1_plainTelling_6 ?_
  subst hf
  exact qt_i C hr hlocks hw dX1_plainTelling_9
theorem cfX1_nodding : cf yX1_nodding cX1_nodding 2 (some .int) 1 := ⟨tg_616, by decide +kernel, tg_8⟩
set_option maxHeartbeats 4000000 in
theorem kX1_nodding (l : Launch) (D : va_G) (cI cB cS : ClassId) (n : Nat) (ad : Nat → Nat) (bf : Nat → Option Nat) (hcg : bok n ad bf) {p0 : Nat} (hp0 : p0 < n) (M : MS) : Ct l D cI cB cS yX1_nodding cX1_nodding 2 (some .int) 1 21 [.ref (ad (30 + p0)), .ref (ad 10)] (cW cI cB cS n ad bf M) (some (.int (fX1_nodding n p0 M).1)) (cW cI cB cS n ad bf (fX1_nodding n p0 M).2) := by
  obtain ⟨q, hf⟩ : ∃ q, fX1_nodding n p0 M = q := ⟨_, rfl⟩
  rw [hf]
  refine Ct.ofW (by decide) (Nat.le_of_ble_eq_true rfl) ?_
  intro p e s m args below meth c ls C hr hlocks _ hw hl
  have hx := C.1
  have hb := C.2.1
  have hA : ∀ q, s.heap.size ≤ q → va_A (cW cI cB cS n ad bf M) s.heap.size q := fun q h => Or.inr h
  have hl : lv_has ls 2 [(0, .ref (ad (30 + p0))), (1, .ref (ad 10))] := hl
  unfold fX1_nodding at hf
  refine lv_aload_n hx hb dX1_nodding_0 rfl (lv_at hl 1 rfl) ?_
  refine lv_iconst (v := 4) hx hb dX1_nodding_1 ic_4 ?_
  refine ct_V0 (q0 := 10) (ci := 7) (rest := []) C hw hA (kX7_leave l D cI cB cS n ad bf hcg _ _) cfX7_leave tg_593 tg_583 tg_584 ⟨(Nat.le_of_ble_eq_true rfl), (Nat.le_of_ble_eq_true rfl)⟩ ⟨(Nat.le_of_ble_eq_true rfl), (Nat.le_of_ble_eq_true rfl)⟩ rfl rfl rfl rfl hl.1 rfl (Nat.le_of_ble_eq_true rfl) dX1_nodding_2 (fun H locs hw => ?_)
  refine lv_aload_n hx hb dX1_nodding_5 rfl (lv_at hl 0 rfl) ?_
  refine cg_1_9 hp0 C hw dX1_nodding_6 ?_
  subst hf
  exact qt_i C hr hlocks hw dX1_nodding_9
theorem cfX4_nodding : cf yX4_nodding cX4_nodding 2 (some .int) 1 := ⟨tg_615, by decide +kernel, tg_10⟩
set_option maxHeartbeats 4000000 in
theorem kX4_nodding (l : Launch) (D : va_G) (cI cB cS : ClassId) (n : Nat) (ad : Nat → Nat) (bf : Nat → Option Nat) (hcg : bok n ad bf) {p0 : Nat} (hp0 : p0 < n) (M : MS) : Ct l D cI cB cS yX4_nodding cX4_nodding 2 (some .int) 1 21 [.ref (ad (30 + p0)), .ref (ad 10)] (cW cI cB cS n ad bf M) (some (.int (fX4_nodding n p0 M).1)) (cW cI cB cS n ad bf (fX4_nodding n p0 M).2) := by
  obtain ⟨q, hf⟩ : ∃ q, fX4_nodding n p0 M = q := ⟨_, rfl⟩
  rw [hf]
  refine Ct.ofW (by decide) (Nat.le_of_ble_eq_true rfl) ?_
  intro p e s m args below meth c ls C hr hlocks _ hw hl
  have hx := C.1
  have hb := C.2.1
  have hA : ∀ q, s.heap.size ≤ q → va_A (cW cI cB cS n ad bf M) s.heap.size q := fun q h => Or.inr h
  have hl : lv_has ls 2 [(0, .ref (ad (30 + p0))), (1, .ref (ad 10))] := hl
  unfold fX4_nodding at hf
  refine lv_aload_n hx hb dX4_nodding_0 rfl (lv_at hl 1 rfl) ?_
  refine lv_iconst (v := 5) hx hb dX4_nodding_1 ic_5 ?_
  refine ct_V0 (q0 := 10) (ci := 7) (rest := []) C hw hA (kX7_leave l D cI cB cS n ad bf hcg _ _) cfX7_leave tg_597 tg_583 tg_584 ⟨(Nat.le_of_ble_eq_true rfl), (Nat.le_of_ble_eq_true rfl)⟩ ⟨(Nat.le_of_ble_eq_true rfl), (Nat.le_of_ble_eq_true rfl)⟩ rfl rfl rfl rfl hl.1 rfl (Nat.le_of_ble_eq_true rfl) dX4_nodding_2 (fun H locs hw => ?_)
  refine lv_bipush (v := 80) hx hb dX4_nodding_5 ib_80 ?_
  subst hf
  exact qt_i C hr hlocks hw dX4_nodding_7
theorem cfX5_buyerOf : cf yX5_buyerOf cX5_buyerOf 2 (some (.object "DeafAuction$Buyer")) 1 := ⟨tg_296, by decide +kernel, tg_4⟩
set_option maxHeartbeats 4000000 in
theorem kX5_buyerOf_raw (l : Launch) (D : va_G) (cI cB cS : ClassId) (n : Nat) (ad : Nat → Nat) (bf : Nat → Option Nat) (hcg : bok n ad bf) {p1 : Int32} {M : MS} {q : Option Nat} (hf : fX5_buyerOf_raw n p1 M = some q) : Ct l D cI cB cS yX5_buyerOf cX5_buyerOf 2 (some (.object "DeafAuction$Buyer")) 1 21 [.ref (ad 11), .int p1] (cW cI cB cS n ad bf M) (some (va_rf (q.map fun j => ad (30 + j)))) (cW cI cB cS n ad bf M) := by
  refine Ct.ofW (by decide) (Nat.le_of_ble_eq_true rfl) ?_
  intro p e s m args below meth c ls C hr hlocks _ hw hl
  have hx := C.1
  have hb := C.2.1
  have hA : ∀ q, s.heap.size ≤ q → va_A (cW cI cB cS n ad bf M) s.heap.size q := fun q h => Or.inr h
  have hl : lv_has ls 2 [(0, .ref (ad 11)), (1, .int p1)] := hl
  unfold fX5_buyerOf_raw at hf
  refine lv_iload_n hx hb dX5_buyerOf_0 rfl (lv_at hl 1 rfl) ?_
  refine lv_aload_n hx hb dX5_buyerOf_1 rfl (lv_at hl 0 rfl) ?_
  refine cg_5_17 C hw dX5_buyerOf_2 ?_
  refine ct_SN1 (rest := []) C hw hA (kX8_isBelow l D cI cB cS _ _ _) cfX8_isBelow tn_20 tg_184 ⟨(Nat.le_of_ble_eq_true rfl), (Nat.le_of_ble_eq_true rfl)⟩ ⟨(Nat.le_of_ble_eq_true rfl), (Nat.le_of_ble_eq_true rfl)⟩ rfl hl.1 rfl (Nat.le_of_ble_eq_true rfl) dX5_buyerOf_5 (fun H locs hw => ?_)
  refine lv_if_eq (tgt := 26) hx hb dX5_buyerOf_8 (by decide) (fun h1 => ?_) (fun h1 => ?_)
  · have hf := it_t h1 hf
    refine lv_null hx hb dX5_buyerOf_26 ?_
    obtain rfl := Option.some.inj hf
    exact qt_a (r := none) C hr hlocks hw dX5_buyerOf_27
  · have hf := it_f h1 hf
    refine lv_iload_n hx hb dX5_buyerOf_11 rfl (lv_at hl 1 rfl) ?_
    refine lv_bipush (v := 6) hx hb dX5_buyerOf_12 ib_6 ?_
    refine lv_icmp_ge (tgt := 26) hx hb dX5_buyerOf_14 (by decide) (fun h2 => ?_) (fun h2 => ?_)
    · have hf := it_t h2 hf
      refine lv_null hx hb dX5_buyerOf_26 ?_
      obtain rfl := Option.some.inj hf
      exact qt_a (r := none) C hr hlocks hw dX5_buyerOf_27
    · have hf := it_f h2 hf
      refine lv_aload_n hx hb dX5_buyerOf_17 rfl (lv_at hl 0 rfl) ?_
      refine cg_5_11 C hw dX5_buyerOf_18 ?_
      refine lv_iload_n hx hb dX5_buyerOf_21 rfl (lv_at hl 1 rfl) ?_
      obtain ⟨g3, g3n, hf⟩ := gb_inv hf
      refine cl_bzs hcg C hw g3 g3n dX5_buyerOf_22 ?_
      refine lv_goto (tgt := 27) hx hb dX5_buyerOf_23 (by decide) ?_
      obtain rfl := Option.some.inj hf
      exact qt_a (r := some (ad (30 + (p1.toNatClampNeg)))) C hr hlocks hw dX5_buyerOf_27
theorem cfX8_sheetOf : cf yX8_sheetOf cX8_sheetOf 2 (some (.object "DeafAuction$Sheet")) 1 := ⟨tg_182, by decide +kernel, tg_1⟩
set_option maxHeartbeats 4000000 in
theorem kX8_sheetOf_raw (l : Launch) (D : va_G) (cI cB cS : ClassId) (n : Nat) (ad : Nat → Nat) (bf : Nat → Option Nat) (hcg : bok n ad bf) {p1 : Int32} {M : MS} {q : Option Nat} (hf : fX8_sheetOf_raw n p1 M = some q) : Ct l D cI cB cS yX8_sheetOf cX8_sheetOf 2 (some (.object "DeafAuction$Sheet")) 1 21 [.ref (ad 0), .int p1] (cW cI cB cS n ad bf M) (some (va_rf (q.map fun j => ad (2 + j)))) (cW cI cB cS n ad bf M) := by
  refine Ct.ofW (by decide) (Nat.le_of_ble_eq_true rfl) ?_
  intro p e s m args below meth c ls C hr hlocks _ hw hl
  have hx := C.1
  have hb := C.2.1
  have hA : ∀ q, s.heap.size ≤ q → va_A (cW cI cB cS n ad bf M) s.heap.size q := fun q h => Or.inr h
  have hl : lv_has ls 2 [(0, .ref (ad 0)), (1, .int p1)] := hl
  unfold fX8_sheetOf_raw at hf
  refine lv_iload_n hx hb dX8_sheetOf_0 rfl (lv_at hl 1 rfl) ?_
  refine lv_iconst (v := 4) hx hb dX8_sheetOf_1 ic_4 ?_
  refine ct_S1 (rest := []) C hw hA (kX8_isBelow l D cI cB cS _ _ _) cfX8_isBelow tg_183 tg_184 ⟨(Nat.le_of_ble_eq_true rfl), (Nat.le_of_ble_eq_true rfl)⟩ ⟨(Nat.le_of_ble_eq_true rfl), (Nat.le_of_ble_eq_true rfl)⟩ rfl hl.1 rfl (Nat.le_of_ble_eq_true rfl) dX8_sheetOf_2 (fun H locs hw => ?_)
  refine lv_if_eq (tgt := 17) hx hb dX8_sheetOf_5 (by decide) (fun h1 => ?_) (fun h1 => ?_)
  · have hf := it_t h1 hf
    refine lv_null hx hb dX8_sheetOf_17 ?_
    obtain rfl := Option.some.inj hf
    exact qt_a (r := none) C hr hlocks hw dX8_sheetOf_18
  · have hf := it_f h1 hf
    refine lv_aload_n hx hb dX8_sheetOf_8 rfl (lv_at hl 0 rfl) ?_
    refine cg_8_13 C hw dX8_sheetOf_9 ?_
    refine lv_iload_n hx hb dX8_sheetOf_12 rfl (lv_at hl 1 rfl) ?_
    obtain ⟨g2, hf⟩ := gd_inv hf
    refine cl_shs C hw g2 dX8_sheetOf_13 ?_
    refine lv_goto (tgt := 18) hx hb dX8_sheetOf_14 (by decide) ?_
    obtain rfl := Option.some.inj hf
    exact qt_a (r := some (ad (2 + (p1.toNatClampNeg)))) C hr hlocks hw dX8_sheetOf_18
