theorem cfX9_in : cf yX9_in cX9_in 6 (some .boolean) 3 := ⟨tg_746, by decide +kernel, tg_7⟩
set_option maxHeartbeats 4000000 in
theorem kX9_in (l : Launch) (D : va_G) (cI cB cS : ClassId) (ws0 : va_W) (p1 : Int64) (p2 : Int64) (p3 : Int64) : Ct l D cI cB cS yX9_in cX9_in 6 (some .boolean) 0 0 [.long p1, .long p2, .long p3] ws0 (some (.int (fX9_in p1 p2 p3))) ws0 := by
  obtain ⟨q, hf⟩ : ∃ q, fX9_in p1 p2 p3 = q := ⟨_, rfl⟩
  rw [hf]
  refine Ct.ofW (by decide) (Nat.le_of_ble_eq_true rfl) ?_
  intro p e s m args below meth c ls C hr hlocks _ hw hl
  have hx := C.1
  have hb := C.2.1
  have hA : ∀ q, s.heap.size ≤ q → va_A ws0 s.heap.size q := fun q h => Or.inr h
  have hcg := trivial
  have hl : lv_has ls 6 [(0, .long p1), (2, .long p2), (4, .long p3)] := hl
  unfold fX9_in at hf
  refine lv_lload_n hx hb dX9_in_0 rfl (lv_at hl 0 rfl) ?_
  refine lv_lload_n hx hb dX9_in_1 rfl (lv_at hl 1 rfl) ?_
  refine W.lcmp hx hb dX9_in_2 ?_
  refine lv_if_lt (tgt := 17) hx hb dX9_in_3 (by decide) (fun h1 => ?_) (fun h1 => ?_)
  · have hf := it_t h1 hf
    refine lv_iconst (v := 0) hx hb dX9_in_17 ic_0 ?_
    subst hf
    exact qt_z C hr hlocks (Or.inl rfl) hw dX9_in_18
  · have hf := it_f h1 hf
    refine lv_lload_n hx hb dX9_in_6 rfl (lv_at hl 0 rfl) ?_
    refine lv_lload hx hb dX9_in_7 (lv_at hl 2 rfl) ?_
    refine W.lcmp hx hb dX9_in_9 ?_
    refine lv_if_gt (tgt := 17) hx hb dX9_in_10 (by decide) (fun h2 => ?_) (fun h2 => ?_)
    · have hf := it_t h2 hf
      refine lv_iconst (v := 0) hx hb dX9_in_17 ic_0 ?_
      subst hf
      exact qt_z C hr hlocks (Or.inl rfl) hw dX9_in_18
    · have hf := it_f h2 hf
      refine lv_iconst (v := 1) hx hb dX9_in_13 ic_1 ?_
      refine lv_goto (tgt := 18) hx hb dX9_in_14 (by decide) ?_
      subst hf
      exact qt_z C hr hlocks (Or.inr rfl) hw dX9_in_18
theorem zX9_in (p1 : Int64) (p2 : Int64) (p3 : Int64) : fX9_in p1 p2 p3 = 0 ∨ fX9_in p1 p2 p3 = 1 := by
  unfold fX9_in
  (repeat' split) <;> first | exact Or.inl rfl | exact Or.inr rfl
theorem cfX9_lost : cf yX9_lost cX9_lost 0 (some .long) 0 := ⟨tg_904, by decide +kernel, tg_7⟩
set_option maxHeartbeats 4000000 in
theorem kX9_lost (l : Launch) (D : va_G) (cI cB cS : ClassId) (ws0 : va_W) : Ct l D cI cB cS yX9_lost cX9_lost 0 (some .long) 0 0 [] ws0 (some (.long (fX9_lost))) ws0 := by
  obtain ⟨q, hf⟩ : ∃ q, fX9_lost = q := ⟨_, rfl⟩
  rw [hf]
  refine Ct.ofW (by decide) (Nat.le_of_ble_eq_true rfl) ?_
  intro p e s m args below meth c ls C hr hlocks _ hw hl
  have hx := C.1
  have hb := C.2.1
  have hA : ∀ q, s.heap.size ≤ q → va_A ws0 s.heap.size q := fun q h => Or.inr h
  have hcg := trivial
  have hl : lv_has ls 0 [] := hl
  unfold fX9_lost at hf
  refine lv_ldc2 (v := (-9223372036854775808 : Int64)) hx hb C.2.2.2.1 (C.2.2.2.2.1 _ tg_905) dX9_lost_0 ?_
  subst hf
  exact qt_l C hr hlocks hw dX9_lost_3
theorem cfX9_isIn : cf yX9_isIn cX9_isIn 2 (some .boolean) 2 := ⟨tg_796, by decide +kernel, tg_7⟩
set_option maxHeartbeats 4000000 in
theorem kX9_isIn (l : Launch) (D : va_G) (cI cB cS : ClassId) (ws0 : va_W) (p1 : Int32) (p2 : Int32) : Ct l D cI cB cS yX9_isIn cX9_isIn 2 (some .boolean) 0 0 [.int p1, .int p2] ws0 (some (.int (fX9_isIn p1 p2))) ws0 := by
  obtain ⟨q, hf⟩ : ∃ q, fX9_isIn p1 p2 = q := ⟨_, rfl⟩
  rw [hf]
  refine Ct.ofW (by decide) (Nat.le_of_ble_eq_true rfl) ?_
  intro p e s m args below meth c ls C hr hlocks _ hw hl
  have hx := C.1
  have hb := C.2.1
  have hA : ∀ q, s.heap.size ≤ q → va_A ws0 s.heap.size q := fun q h => Or.inr h
  have hcg := trivial
  have hl : lv_has ls 2 [(0, .int p1), (1, .int p2)] := hl
  unfold fX9_isIn at hf
  refine lv_iload_n hx hb dX9_isIn_0 rfl (lv_at hl 0 rfl) ?_
  refine lv_iload_n hx hb dX9_isIn_1 rfl (lv_at hl 1 rfl) ?_
  refine lv_ishr hx hb dX9_isIn_2 ?_
  refine lv_iconst (v := 1) hx hb dX9_isIn_3 ic_1 ?_
  refine lv_iand hx hb dX9_isIn_4 ?_
  refine lv_iconst (v := 1) hx hb dX9_isIn_5 ic_1 ?_
  refine lv_icmp_ne (tgt := 13) hx hb dX9_isIn_6 (by decide) (fun h1 => ?_) (fun h1 => ?_)
  · have hf := it_f h1 hf
    refine lv_iconst (v := 0) hx hb dX9_isIn_13 ic_0 ?_
    subst hf
    exact qt_z C hr hlocks (Or.inl rfl) hw dX9_isIn_14
  · have hf := it_t h1 hf
    refine lv_iconst (v := 1) hx hb dX9_isIn_9 ic_1 ?_
    refine lv_goto (tgt := 14) hx hb dX9_isIn_10 (by decide) ?_
    subst hf
    exact qt_z C hr hlocks (Or.inr rfl) hw dX9_isIn_14
theorem zX9_isIn (p1 : Int32) (p2 : Int32) : fX9_isIn p1 p2 = 0 ∨ fX9_isIn p1 p2 = 1 := by
  unfold fX9_isIn
  (repeat' split) <;> first | exact Or.inl rfl | exact Or.inr rfl
theorem cfX9_lesser : cf yX9_lesser cX9_lesser 2 (some .int) 2 := ⟨tg_781, by decide +kernel, tg_7⟩
set_option maxHeartbeats 4000000 in
theorem kX9_lesser (l : Launch) (D : va_G) (cI cB cS : ClassId) (ws0 : va_W) (p1 : Int32) (p2 : Int32) : Ct l D cI cB cS yX9_lesser cX9_lesser 2 (some .int) 0 0 [.int p1, .int p2] ws0 (some (.int (fX9_lesser p1 p2))) ws0 := by
  obtain ⟨q, hf⟩ : ∃ q, fX9_lesser p1 p2 = q := ⟨_, rfl⟩
  rw [hf]
  refine Ct.ofW (by decide) (Nat.le_of_ble_eq_true rfl) ?_
  intro p e s m args below meth c ls C hr hlocks _ hw hl
  have hx := C.1
  have hb := C.2.1
  have hA : ∀ q, s.heap.size ≤ q → va_A ws0 s.heap.size q := fun q h => Or.inr h
  have hcg := trivial
  have hl : lv_has ls 2 [(0, .int p1), (1, .int p2)] := hl
  unfold fX9_lesser at hf
  refine lv_iload_n hx hb dX9_lesser_0 rfl (lv_at hl 0 rfl) ?_
  refine lv_iload_n hx hb dX9_lesser_1 rfl (lv_at hl 1 rfl) ?_
  refine lv_icmp_ge (tgt := 9) hx hb dX9_lesser_2 (by decide) (fun h1 => ?_) (fun h1 => ?_)
  · have hf := it_t h1 hf
    refine lv_iload_n hx hb dX9_lesser_9 rfl (lv_at hl 1 rfl) ?_
    subst hf
    exact qt_i C hr hlocks hw dX9_lesser_10
  · have hf := it_f h1 hf
    refine lv_iload_n hx hb dX9_lesser_5 rfl (lv_at hl 0 rfl) ?_
    refine lv_goto (tgt := 10) hx hb dX9_lesser_6 (by decide) ?_
    subst hf
    exact qt_i C hr hlocks hw dX9_lesser_10
theorem cfX9_told : cf yX9_told cX9_told 11 (some .long) 3 := ⟨tg_908, by decide +kernel, tg_7⟩
set_option maxHeartbeats 4000000 in
theorem wX9_told_6 {p : Program} {l : Launch} {e : Env} {s : State} {m : MethodId} {args : Array Value} {below : List Frame} {meth : Method} {c : Code} {D : va_G} {cI cB cS : ClassId} {ws0 : va_W} {v0 : Int64} {v2 : Int64} {v4 : Int32} (C : cx p c cX9_told 11 s args m RX9 D cI cB cS) (hr : meth.sig.returnType = (some .long)) (hlocks : meth.locks = false) (hA : ∀ q, s.heap.size ≤ q → va_A ws0 s.heap.size q) {k : Int64 → Option Int64} {q : Int64}
    (hcg : True) : ∀ (fu : Nat) (v5 : Int64) (v7 : Int64) (H : Heap) (locs : List Loc) (ls : Array Slot), wd D (va_A ws0 s.heap.size) s.heap ws0 H locs → lv_has ls 11 [(0, .long v0), (2, .long v2), (4, .int v4), (5, .long v5), (7, .long v7)] → fX9_told_6 fu k v5 v7 = some q →
    (∀ (x5 : Int64) (H : Heap) (locs : List Loc) (ls : Array Slot), wd D (va_A ws0 s.heap.size) s.heap ws0 H locs → lv_has ls 11 [(0, .long v0), (2, .long v2), (4, .int v4), (5, .long x5)] → k x5 = some q → W p l e { frames := 0, cells := 0, slots := 0, locals := 0 } s m args below meth c H locs 0 0 (Qt D below args s ws0 (some (.long q)) ws0) (F0 m 31 ls [])) →
    W p l e { frames := 0, cells := 0, slots := 0, locals := 0 } s m args below meth c H locs 0 0 (Qt D below args s ws0 (some (.long q)) ws0) (F0 m 6 ls []) := by
  have hx := C.1
  have hb := C.2.1
  intro fu
  induction fu with
  | zero => intro v5 v7 H locs ls hw hl hf hk; rw [fX9_told_6] at hf; cases hf
  | succ fu ih =>
      intro v5 v7 H locs ls hw hl hf hk
      rw [fX9_told_6] at hf
      refine lv_lload hx hb dX9_told_6 (lv_at hl 4 rfl) ?_
      refine lv_lconst (v := 0) hx hb dX9_told_8 rfl ?_
      refine W.lcmp hx hb dX9_told_9 ?_
      refine lv_if_eq (tgt := 31) hx hb dX9_told_10 (by decide) (fun h1 => ?_) (fun h1 => ?_)
      · have hf := it_t h1 hf
        exact hk _ _ _ _ hw (lv_sub hl [0, 1, 2, 3] rfl) hf
      · have hf := it_f h1 hf
        refine lv_lload hx hb dX9_told_13 (lv_at hl 3 rfl) ?_
        refine lv_lload hx hb dX9_told_15 (lv_at hl 4 rfl) ?_
        obtain ⟨g2, hf⟩ := nzl_inv hf
        refine lv_lrem hx hb dX9_told_17 g2 ?_
        refine lv_lstore (lv' := [(9, .long (v5 - v5 / v7 * v7)), (0, .long v0), (2, .long v2), (4, .int v4), (5, .long v5), (7, .long v7)]) hx hb dX9_told_18 hl (by decide) rfl (fun ls hl => ?_)
        refine lv_lload hx hb dX9_told_20 (lv_at hl 5 rfl) ?_
        refine lv_lstore (lv' := [(5, .long v7), (9, .long (v5 - v5 / v7 * v7)), (0, .long v0), (2, .long v2), (4, .int v4), (7, .long v7)]) hx hb dX9_told_22 hl (by decide) rfl (fun ls hl => ?_)
        refine lv_lload hx hb dX9_told_24 (lv_at hl 1 rfl) ?_
        refine lv_lstore (lv' := [(7, .long (v5 - v5 / v7 * v7)), (5, .long v7), (9, .long (v5 - v5 / v7 * v7)), (0, .long v0), (2, .long v2), (4, .int v4)]) hx hb dX9_told_26 hl (by decide) rfl (fun ls hl => ?_)
        refine lv_goto (tgt := 6) hx hb dX9_told_28 (by decide) ?_
        exact ih _ _ _ _ _ hw (lv_sub hl [3, 4, 5, 1, 0] rfl) hf hk
set_option maxHeartbeats 4000000 in
theorem kX9_told (l : Launch) (D : va_G) (cI cB cS : ClassId) (ws0 : va_W) {p1 : Int64} {p2 : Int64} {p3 : Int32} {q : Int64} (hf : fX9_told p1 p2 p3 = some q) : Ct l D cI cB cS yX9_told cX9_told 11 (some .long) 0 0 [.long p1, .long p2, .int p3] ws0 (some (.long q)) ws0 := by
  refine Ct.ofW (by decide) (Nat.le_of_ble_eq_true rfl) ?_
  intro p e s m args below meth c ls C hr hlocks _ hw hl
  have hx := C.1
  have hb := C.2.1
  have hA : ∀ q, s.heap.size ≤ q → va_A ws0 s.heap.size q := fun q h => Or.inr h
  have hcg := trivial
  have hl : lv_has ls 11 [(0, .long p1), (2, .long p2), (4, .int p3)] := hl
  unfold fX9_told at hf
  refine lv_lload_n hx hb dX9_told_0 rfl (lv_at hl 0 rfl) ?_
  refine lv_lstore (lv' := [(5, .long p1), (0, .long p1), (2, .long p2), (4, .int p3)]) hx hb dX9_told_1 hl (by decide) rfl (fun ls hl => ?_)
  refine lv_lload_n hx hb dX9_told_3 rfl (lv_at hl 2 rfl) ?_
  refine lv_lstore (lv' := [(7, .long p2), (5, .long p1), (0, .long p1), (2, .long p2), (4, .int p3)]) hx hb dX9_told_4 hl (by decide) rfl (fun ls hl => ?_)
  refine wX9_told_6 C hr hlocks hA hcg 300 _ _ _ _ _ hw (lv_sub hl [2, 3, 4, 1, 0] rfl) hf (fun x3 H locs ls hw hl hf => ?_)
  refine lv_iload hx hb dX9_told_31 (lv_at hl 2 rfl) ?_
  refine lv_if_ne (tgt := 40) hx hb dX9_told_33 (by decide) (fun h4 => ?_) (fun h4 => ?_)
  · have hf := it_f h4 hf
    refine lv_lload_n hx hb dX9_told_40 rfl (lv_at hl 1 rfl) ?_
    refine lv_lload hx hb dX9_told_41 (lv_at hl 3 rfl) ?_
    obtain ⟨g5, hf⟩ := nzl_inv hf
    refine lv_ldiv hx hb dX9_told_43 g5 ?_
    obtain rfl := Option.some.inj hf
    exact qt_l C hr hlocks hw dX9_told_44
  · have hf := it_t h4 hf
    refine lv_lload_n hx hb dX9_told_36 rfl (lv_at hl 0 rfl) ?_
    refine lv_goto (tgt := 41) hx hb dX9_told_37 (by decide) ?_
    refine lv_lload hx hb dX9_told_41 (lv_at hl 3 rfl) ?_
    obtain ⟨g6, hf⟩ := nzl_inv hf
    refine lv_ldiv hx hb dX9_told_43 g6 ?_
    obtain rfl := Option.some.inj hf
    exact qt_l C hr hlocks hw dX9_told_44
theorem cfX9_refused : cf yX9_refused cX9_refused 2 (some .int) 1 := ⟨tg_750, by decide +kernel, tg_7⟩
set_option maxHeartbeats 4000000 in
theorem kX9_refused (l : Launch) (D : va_G) (cI cB cS : ClassId) (a0 : Nat) (am : Nat → Nat) (p1 : Int32) (M : MS) : Ct l D cI cB cS yX9_refused cX9_refused 2 (some .int) 0 0 [.ref a0, .int p1] (mW cI a0 am M) (some (.int (fX9_refused p1 M).1)) (mW cI a0 am (fX9_refused p1 M).2) := by
  obtain ⟨q, hf⟩ : ∃ q, fX9_refused p1 M = q := ⟨_, rfl⟩
  rw [hf]
  refine Ct.ofW (by decide) (Nat.le_of_ble_eq_true rfl) ?_
  intro p e s m args below meth c ls C hr hlocks _ hw hl
  have hx := C.1
  have hb := C.2.1
  have hA : ∀ q, s.heap.size ≤ q → va_A (mW cI a0 am M) s.heap.size q := fun q h => Or.inr h
  have hcg := trivial
  have hl : lv_has ls 2 [(0, .ref a0), (1, .int p1)] := hl
  unfold fX9_refused at hf
  refine lv_aload_n hx hb dX9_refused_0 rfl (lv_at hl 0 rfl) ?_
  refine lv_iconst (v := 0) hx hb dX9_refused_1 ic_0 ?_
  refine mp_0 C hw dX9_refused_2 (fun H locs hw => ?_)
  refine lv_iload_n hx hb dX9_refused_5 rfl (lv_at hl 1 rfl) ?_
  subst hf
  exact qt_i C hr hlocks hw dX9_refused_6
theorem cfX9_failed : cf yX9_failed cX9_failed 2 (some .int) 1 := ⟨tg_759, by decide +kernel, tg_7⟩
set_option maxHeartbeats 4000000 in
theorem kX9_failed (l : Launch) (D : va_G) (cI cB cS : ClassId) (a0 : Nat) (am : Nat → Nat) (p1 : Int32) (M : MS) : Ct l D cI cB cS yX9_failed cX9_failed 2 (some .int) 0 0 [.ref a0, .int p1] (mW cI a0 am M) (some (.int (fX9_failed p1 M).1)) (mW cI a0 am (fX9_failed p1 M).2) := by
  obtain ⟨q, hf⟩ : ∃ q, fX9_failed p1 M = q := ⟨_, rfl⟩
  rw [hf]
  refine Ct.ofW (by decide) (Nat.le_of_ble_eq_true rfl) ?_
  intro p e s m args below meth c ls C hr hlocks _ hw hl
  have hx := C.1
  have hb := C.2.1
  have hA : ∀ q, s.heap.size ≤ q → va_A (mW cI a0 am M) s.heap.size q := fun q h => Or.inr h
  have hcg := trivial
  have hl : lv_has ls 2 [(0, .ref a0), (1, .int p1)] := hl
  unfold fX9_failed at hf
  refine lv_aload_n hx hb dX9_failed_0 rfl (lv_at hl 0 rfl) ?_
  refine lv_iload_n hx hb dX9_failed_1 rfl (lv_at hl 1 rfl) ?_
  refine mp_0 C hw dX9_failed_2 (fun H locs hw => ?_)
  refine lv_bipush (v := (-10)) hx hb dX9_failed_5 ib_m10 ?_
  refine lv_iload_n hx hb dX9_failed_7 rfl (lv_at hl 1 rfl) ?_
  refine lv_isub hx hb dX9_failed_8 ?_
  subst hf
  exact qt_i C hr hlocks hw dX9_failed_9
theorem cfX9_failedLong : cf yX9_failedLong cX9_failedLong 2 (some .long) 1 := ⟨tg_956, by decide +kernel, tg_7⟩
set_option maxHeartbeats 4000000 in
theorem kX9_failedLong (l : Launch) (D : va_G) (cI cB cS : ClassId) (a0 : Nat) (am : Nat → Nat) (p1 : Int32) (M : MS) : Ct l D cI cB cS yX9_failedLong cX9_failedLong 2 (some .long) 1 19 [.ref a0, .int p1] (mW cI a0 am M) (some (.long (fX9_failedLong p1 M).1)) (mW cI a0 am (fX9_failedLong p1 M).2) := by
  obtain ⟨q, hf⟩ : ∃ q, fX9_failedLong p1 M = q := ⟨_, rfl⟩
  rw [hf]
  refine Ct.ofW (by decide) (Nat.le_of_ble_eq_true rfl) ?_
  intro p e s m args below meth c ls C hr hlocks _ hw hl
  have hx := C.1
  have hb := C.2.1
  have hA : ∀ q, s.heap.size ≤ q → va_A (mW cI a0 am M) s.heap.size q := fun q h => Or.inr h
  have hcg := trivial
  have hl : lv_has ls 2 [(0, .ref a0), (1, .int p1)] := hl
  unfold fX9_failedLong at hf
  refine lv_aload_n hx hb dX9_failedLong_0 rfl (lv_at hl 0 rfl) ?_
  refine lv_iload_n hx hb dX9_failedLong_1 rfl (lv_at hl 1 rfl) ?_
  refine mp_0 C hw dX9_failedLong_2 (fun H locs hw => ?_)
  refine ct_S1 (rest := []) C hw hA (kX9_lost l D cI cB cS _) cfX9_lost tg_902 tg_903 ⟨(Nat.le_of_ble_eq_true rfl), (Nat.le_of_ble_eq_true rfl)⟩ ⟨(Nat.le_of_ble_eq_true rfl), (Nat.le_of_ble_eq_true rfl)⟩ rfl hl.1 rfl (Nat.le_of_ble_eq_true rfl) dX9_failedLong_5 (fun H locs hw => ?_)
  subst hf
  exact qt_l C hr hlocks hw dX9_failedLong_8
theorem cfX9_noSeat : cf yX9_noSeat cX9_noSeat 2 (some .boolean) 1 := ⟨tg_828, by decide +kernel, tg_7⟩
set_option maxHeartbeats 4000000 in
theorem kX9_noSeat (l : Launch) (D : va_G) (cI cB cS : ClassId) (a0 : Nat) (am : Nat → Nat) (p1 : Int32) (M : MS) : Ct l D cI cB cS yX9_noSeat cX9_noSeat 2 (some .boolean) 1 25 [.ref a0, .int p1] (mW cI a0 am M) (some (.int (fX9_noSeat p1 M))) (mW cI a0 am M) := by
  obtain ⟨q, hf⟩ : ∃ q, fX9_noSeat p1 M = q := ⟨_, rfl⟩
  rw [hf]
  refine Ct.ofW (by decide) (Nat.le_of_ble_eq_true rfl) ?_
  intro p e s m args below meth c ls C hr hlocks _ hw hl
  have hx := C.1
  have hb := C.2.1
  have hA : ∀ q, s.heap.size ≤ q → va_A (mW cI a0 am M) s.heap.size q := fun q h => Or.inr h
  have hcg := trivial
  have hl : lv_has ls 2 [(0, .ref a0), (1, .int p1)] := hl
  unfold fX9_noSeat at hf
  refine lv_iload_n hx hb dX9_noSeat_0 rfl (lv_at hl 1 rfl) ?_
  refine lv_i2l (v := (p1.toInt64)) hx hb dX9_noSeat_1 rfl ?_
  refine lv_lconst (v := 0) hx hb dX9_noSeat_2 rfl ?_
  refine lv_aload_n hx hb dX9_noSeat_3 rfl (lv_at hl 0 rfl) ?_
  refine mg_1 C hw dX9_noSeat_4 ?_
  refine lv_aload_n hx hb dX9_noSeat_7 rfl (lv_at hl 0 rfl) ?_
  refine mg_2 C hw dX9_noSeat_8 ?_
  refine lv_imul hx hb dX9_noSeat_11 ?_
  refine lv_i2l (v := (((M 1 0) * (M 2 0)).toInt64)) hx hb dX9_noSeat_12 rfl ?_
  refine lv_lconst (v := 1) hx hb dX9_noSeat_13 rfl ?_
  refine lv_lsub hx hb dX9_noSeat_14 ?_
  refine ct_S1 (rest := []) C hw hA (kX9_in l D cI cB cS _ _ _ _) cfX9_in tg_744 tg_745 ⟨(Nat.le_of_ble_eq_true rfl), (Nat.le_of_ble_eq_true rfl)⟩ ⟨(Nat.le_of_ble_eq_true rfl), (Nat.le_of_ble_eq_true rfl)⟩ rfl hl.1 rfl (Nat.le_of_ble_eq_true rfl) dX9_noSeat_15 (fun H locs hw => ?_)
  refine lv_if_ne (tgt := 25) hx hb dX9_noSeat_18 (by decide) (fun h1 => ?_) (fun h1 => ?_)
  · have hf := it_f h1 hf
    refine lv_iconst (v := 0) hx hb dX9_noSeat_25 ic_0 ?_
    subst hf
    exact qt_z C hr hlocks (Or.inl rfl) hw dX9_noSeat_26
  · have hf := it_t h1 hf
    refine lv_iconst (v := 1) hx hb dX9_noSeat_21 ic_1 ?_
    refine lv_goto (tgt := 26) hx hb dX9_noSeat_22 (by decide) ?_
    subst hf
    exact qt_z C hr hlocks (Or.inr rfl) hw dX9_noSeat_26
theorem zX9_noSeat (p1 : Int32) (M : MS) : fX9_noSeat p1 M = 0 ∨ fX9_noSeat p1 M = 1 := by
  unfold fX9_noSeat
  (repeat' split) <;> first | exact Or.inl rfl | exact Or.inr rfl
theorem cfX9_noBuyer : cf yX9_noBuyer cX9_noBuyer 2 (some .boolean) 1 := ⟨tg_789, by decide +kernel, tg_7⟩
set_option maxHeartbeats 4000000 in
theorem kX9_noBuyer (l : Launch) (D : va_G) (cI cB cS : ClassId) (a0 : Nat) (am : Nat → Nat) (p1 : Int32) (M : MS) : Ct l D cI cB cS yX9_noBuyer cX9_noBuyer 2 (some .boolean) 1 25 [.ref a0, .int p1] (mW cI a0 am M) (some (.int (fX9_noBuyer p1 M))) (mW cI a0 am M) := by
  obtain ⟨q, hf⟩ : ∃ q, fX9_noBuyer p1 M = q := ⟨_, rfl⟩
  rw [hf]
  refine Ct.ofW (by decide) (Nat.le_of_ble_eq_true rfl) ?_
  intro p e s m args below meth c ls C hr hlocks _ hw hl
  have hx := C.1
  have hb := C.2.1
  have hA : ∀ q, s.heap.size ≤ q → va_A (mW cI a0 am M) s.heap.size q := fun q h => Or.inr h
  have hcg := trivial
  have hl : lv_has ls 2 [(0, .ref a0), (1, .int p1)] := hl
  unfold fX9_noBuyer at hf
  refine lv_iload_n hx hb dX9_noBuyer_0 rfl (lv_at hl 1 rfl) ?_
  refine lv_i2l (v := (p1.toInt64)) hx hb dX9_noBuyer_1 rfl ?_
  refine lv_lconst (v := 0) hx hb dX9_noBuyer_2 rfl ?_
  refine lv_aload_n hx hb dX9_noBuyer_3 rfl (lv_at hl 0 rfl) ?_
  refine mg_3 C hw dX9_noBuyer_4 ?_
  refine lv_i2l (v := ((M 3 0).toInt64)) hx hb dX9_noBuyer_7 rfl ?_
  refine lv_lconst (v := 1) hx hb dX9_noBuyer_8 rfl ?_
  refine lv_lsub hx hb dX9_noBuyer_9 ?_
  refine ct_S1 (rest := []) C hw hA (kX9_in l D cI cB cS _ _ _ _) cfX9_in tg_744 tg_745 ⟨(Nat.le_of_ble_eq_true rfl), (Nat.le_of_ble_eq_true rfl)⟩ ⟨(Nat.le_of_ble_eq_true rfl), (Nat.le_of_ble_eq_true rfl)⟩ rfl hl.1 rfl (Nat.le_of_ble_eq_true rfl) dX9_noBuyer_10 (fun H locs hw => ?_)
  refine lv_if_ne (tgt := 20) hx hb dX9_noBuyer_13 (by decide) (fun h1 => ?_) (fun h1 => ?_)
  · have hf := it_f h1 hf
    refine lv_iconst (v := 0) hx hb dX9_noBuyer_20 ic_0 ?_
    subst hf
    exact qt_z C hr hlocks (Or.inl rfl) hw dX9_noBuyer_21
  · have hf := it_t h1 hf
    refine lv_iconst (v := 1) hx hb dX9_noBuyer_16 ic_1 ?_
    refine lv_goto (tgt := 21) hx hb dX9_noBuyer_17 (by decide) ?_
    subst hf
    exact qt_z C hr hlocks (Or.inr rfl) hw dX9_noBuyer_21
theorem zX9_noBuyer (p1 : Int32) (M : MS) : fX9_noBuyer p1 M = 0 ∨ fX9_noBuyer p1 M = 1 := by
  unfold fX9_noBuyer
  (repeat' split) <;> first | exact Or.inl rfl | exact Or.inr rfl
theorem cfX9_noLot : cf yX9_noLot cX9_noLot 1 (some .boolean) 1 := ⟨tg_811, by decide +kernel, tg_7⟩
set_option maxHeartbeats 4000000 in
theorem kX9_noLot (l : Launch) (D : va_G) (cI cB cS : ClassId) (ws0 : va_W) (p1 : Int32) : Ct l D cI cB cS yX9_noLot cX9_noLot 1 (some .boolean) 1 25 [.int p1] ws0 (some (.int (fX9_noLot p1))) ws0 := by
  obtain ⟨q, hf⟩ : ∃ q, fX9_noLot p1 = q := ⟨_, rfl⟩
  rw [hf]
  refine Ct.ofW (by decide) (Nat.le_of_ble_eq_true rfl) ?_
  intro p e s m args below meth c ls C hr hlocks _ hw hl
  have hx := C.1
  have hb := C.2.1
  have hA : ∀ q, s.heap.size ≤ q → va_A ws0 s.heap.size q := fun q h => Or.inr h
  have hcg := trivial
  have hl : lv_has ls 1 [(0, .int p1)] := hl
  unfold fX9_noLot at hf
  refine lv_iload_n hx hb dX9_noLot_0 rfl (lv_at hl 0 rfl) ?_
  refine lv_i2l (v := (p1.toInt64)) hx hb dX9_noLot_1 rfl ?_
  refine lv_lconst (v := 0) hx hb dX9_noLot_2 rfl ?_
  refine lv_ldc2 (v := (3 : Int64)) hx hb C.2.2.2.1 (C.2.2.2.2.1 _ tg_743) dX9_noLot_3 ?_
  refine ct_S1 (rest := []) C hw hA (kX9_in l D cI cB cS _ _ _ _) cfX9_in tg_744 tg_745 ⟨(Nat.le_of_ble_eq_true rfl), (Nat.le_of_ble_eq_true rfl)⟩ ⟨(Nat.le_of_ble_eq_true rfl), (Nat.le_of_ble_eq_true rfl)⟩ rfl hl.1 rfl (Nat.le_of_ble_eq_true rfl) dX9_noLot_6 (fun H locs hw => ?_)
  refine lv_if_ne (tgt := 16) hx hb dX9_noLot_9 (by decide) (fun h1 => ?_) (fun h1 => ?_)
  · have hf := it_f h1 hf
    refine lv_iconst (v := 0) hx hb dX9_noLot_16 ic_0 ?_
    subst hf
    exact qt_z C hr hlocks (Or.inl rfl) hw dX9_noLot_17
  · have hf := it_t h1 hf
    refine lv_iconst (v := 1) hx hb dX9_noLot_12 ic_1 ?_
    refine lv_goto (tgt := 17) hx hb dX9_noLot_13 (by decide) ?_
    subst hf
    exact qt_z C hr hlocks (Or.inr rfl) hw dX9_noLot_17
theorem zX9_noLot (p1 : Int32) : fX9_noLot p1 = 0 ∨ fX9_noLot p1 = 1 := by
  unfold fX9_noLot
  (repeat' split) <;> first | exact Or.inl rfl | exact Or.inr rfl
theorem cfX9_codeAt : cf yX9_codeAt cX9_codeAt 3 (some .int) 2 := ⟨tg_770, by decide +kernel, tg_7⟩
set_option maxHeartbeats 4000000 in
theorem kX9_codeAt (l : Launch) (D : va_G) (cI cB cS : ClassId) (a0 : Nat) (am : Nat → Nat) {p1 : Int32} {p2 : Int32} {M : MS} {q : Int32} (hf : fX9_codeAt p1 p2 M = some q) : Ct l D cI cB cS yX9_codeAt cX9_codeAt 3 (some .int) 0 0 [.ref a0, .int p1, .int p2] (mW cI a0 am M) (some (.int q)) (mW cI a0 am M) := by
  refine Ct.ofW (by decide) (Nat.le_of_ble_eq_true rfl) ?_
  intro p e s m args below meth c ls C hr hlocks _ hw hl
  have hx := C.1
  have hb := C.2.1
  have hA : ∀ q, s.heap.size ≤ q → va_A (mW cI a0 am M) s.heap.size q := fun q h => Or.inr h
  have hcg := trivial
  have hl : lv_has ls 3 [(0, .ref a0), (1, .int p1), (2, .int p2)] := hl
  unfold fX9_codeAt at hf
  refine lv_aload_n hx hb dX9_codeAt_0 rfl (lv_at hl 0 rfl) ?_
  refine mg_9 C hw dX9_codeAt_1 ?_
  refine lv_iload_n hx hb dX9_codeAt_4 rfl (lv_at hl 2 rfl) ?_
  refine lv_icmp_ge (tgt := 22) hx hb dX9_codeAt_5 (by decide) (fun h1 => ?_) (fun h1 => ?_)
  · have hf := it_t h1 hf
    refine lv_bipush (v := (-9)) hx hb dX9_codeAt_22 ib_m9 ?_
    obtain rfl := Option.some.inj hf
    exact qt_i C hr hlocks hw dX9_codeAt_24
  · have hf := it_f h1 hf
    refine lv_aload_n hx hb dX9_codeAt_8 rfl (lv_at hl 0 rfl) ?_
    refine mg_29 C hw dX9_codeAt_9 ?_
    refine lv_iload_n hx hb dX9_codeAt_12 rfl (lv_at hl 1 rfl) ?_
    refine lv_aload_n hx hb dX9_codeAt_13 rfl (lv_at hl 0 rfl) ?_
    refine mg_9 C hw dX9_codeAt_14 ?_
    refine lv_iadd hx hb dX9_codeAt_17 ?_
    obtain ⟨g2, hf⟩ := gd_inv hf
    refine ml_29 C hw g2 dX9_codeAt_18 ?_
    refine lv_goto (tgt := 24) hx hb dX9_codeAt_19 (by decide) ?_
    obtain rfl := Option.some.inj hf
    exact qt_i C hr hlocks hw dX9_codeAt_24
theorem cfX9_figure : cf yX9_figure cX9_figure 7 (some .int) 4 := ⟨tg_774, by decide +kernel, tg_7⟩
set_option maxHeartbeats 4000000 in
theorem kX9_figure (l : Launch) (D : va_G) (cI cB cS : ClassId) (a0 : Nat) (am : Nat → Nat) {p1 : Int32} {p2 : Int32} {p3 : Int32} {p4 : Int32} {M : MS} {q : (Int32 × MS)} (hf : fX9_figure p1 p2 p3 p4 M = some q) : Ct l D cI cB cS yX9_figure cX9_figure 7 (some .int) 1 25 [.ref a0, .int p1, .int p2, .int p3, .int p4] (mW cI a0 am M) (some (.int q.1)) (mW cI a0 am q.2) := by
  refine Ct.ofW (by decide) (Nat.le_of_ble_eq_true rfl) ?_
  intro p e s m args below meth c ls C hr hlocks _ hw hl
  have hx := C.1
  have hb := C.2.1
  have hA : ∀ q, s.heap.size ≤ q → va_A (mW cI a0 am M) s.heap.size q := fun q h => Or.inr h
  have hcg := trivial
  have hl : lv_has ls 7 [(0, .ref a0), (1, .int p1), (2, .int p2), (3, .int p3), (4, .int p4)] := hl
  unfold fX9_figure at hf
  refine lv_aload_n hx hb dX9_figure_0 rfl (lv_at hl 0 rfl) ?_
  refine lv_iload_n hx hb dX9_figure_1 rfl (lv_at hl 1 rfl) ?_
  refine lv_iload_n hx hb dX9_figure_2 rfl (lv_at hl 2 rfl) ?_
  obtain ⟨r1, e2, hf⟩ := bd hf
  refine ct_V1 (q0 := 0) (ci := 9) (rest := []) C hw hA (kX9_codeAt l D cI cB cS a0 am e2) cfX9_codeAt tg_767 tg_769 ts_yX9_codeAt ⟨(Nat.le_of_ble_eq_true rfl), (Nat.le_of_ble_eq_true rfl)⟩ ⟨(Nat.le_of_ble_eq_true rfl), (Nat.le_of_ble_eq_true rfl)⟩ rfl rfl rfl rfl hl.1 rfl (Nat.le_of_ble_eq_true rfl) dX9_figure_3 (fun H locs hw => ?_)
  refine lv_bipush (v := 48) hx hb dX9_figure_6 ib_48 ?_
  refine lv_isub hx hb dX9_figure_8 ?_
  refine lv_istore (lv' := [(5, .int (r1 - 48)), (0, .ref a0), (1, .int p1), (2, .int p2), (3, .int p3), (4, .int p4)]) hx hb dX9_figure_9 hl (by decide) rfl (fun ls hl => ?_)
  refine lv_iload hx hb dX9_figure_11 (lv_at hl 0 rfl) ?_
  refine lv_i2l (v := ((r1 - 48).toInt64)) hx hb dX9_figure_13 rfl ?_
  refine lv_iload_n hx hb dX9_figure_14 rfl (lv_at hl 4 rfl) ?_
  refine lv_i2l (v := (p3.toInt64)) hx hb dX9_figure_15 rfl ?_
  refine lv_iload hx hb dX9_figure_16 (lv_at hl 5 rfl) ?_
  refine lv_i2l (v := (p4.toInt64)) hx hb dX9_figure_18 rfl ?_
  refine ct_S1 (rest := []) C hw hA (kX9_in l D cI cB cS _ _ _ _) cfX9_in tg_744 tg_745 ⟨(Nat.le_of_ble_eq_true rfl), (Nat.le_of_ble_eq_true rfl)⟩ ⟨(Nat.le_of_ble_eq_true rfl), (Nat.le_of_ble_eq_true rfl)⟩ rfl hl.1 rfl (Nat.le_of_ble_eq_true rfl) dX9_figure_19 (fun H locs hw => ?_)
  refine lv_istore (lv' := [(6, .int (fX9_in ((r1 - 48).toInt64) (p3.toInt64) (p4.toInt64))), (5, .int (r1 - 48)), (0, .ref a0), (1, .int p1), (2, .int p2), (3, .int p3), (4, .int p4)]) hx hb dX9_figure_22 hl (by decide) rfl (fun ls hl => ?_)
  refine lv_aload_n hx hb dX9_figure_24 rfl (lv_at hl 2 rfl) ?_
  refine lv_dup hx hb dX9_figure_25 rfl ?_
  refine mg_9 C hw dX9_figure_26 ?_
  refine lv_iload hx hb dX9_figure_29 (lv_at hl 0 rfl) ?_
  refine lv_if_eq (tgt := 38) hx hb dX9_figure_31 (by decide) (fun h3 => ?_) (fun h3 => ?_)
  · have hf := it_t h3 hf
    refine lv_iconst (v := 0) hx hb dX9_figure_38 ic_0 ?_
    refine lv_iadd hx hb dX9_figure_39 ?_
    refine mp_9 C hw dX9_figure_40 (fun H locs hw => ?_)
    refine lv_iload hx hb dX9_figure_43 (lv_at hl 0 rfl) ?_
    refine lv_if_eq (tgt := 53) hx hb dX9_figure_45 (by decide) (fun h4 => ?_) (fun h4 => ?_)
    · have hf := it_t h4 hf
      refine lv_bipush (v := (-9)) hx hb dX9_figure_53 ib_m9 ?_
      obtain rfl := Option.some.inj hf
      exact qt_i C hr hlocks hw dX9_figure_55
    · have hf := it_f h4 hf
      refine lv_iload hx hb dX9_figure_48 (lv_at hl 1 rfl) ?_
      refine lv_goto (tgt := 55) hx hb dX9_figure_50 (by decide) ?_
      obtain rfl := Option.some.inj hf
      exact qt_i C hr hlocks hw dX9_figure_55
  · have hf := it_f h3 hf
    refine lv_iconst (v := 1) hx hb dX9_figure_34 ic_1 ?_
    refine lv_goto (tgt := 39) hx hb dX9_figure_35 (by decide) ?_
    refine lv_iadd hx hb dX9_figure_39 ?_
    refine mp_9 C hw dX9_figure_40 (fun H locs hw => ?_)
    refine lv_iload hx hb dX9_figure_43 (lv_at hl 0 rfl) ?_
    refine lv_if_eq (tgt := 53) hx hb dX9_figure_45 (by decide) (fun h5 => ?_) (fun h5 => ?_)
    · have hf := it_t h5 hf
      refine lv_bipush (v := (-9)) hx hb dX9_figure_53 ib_m9 ?_
      obtain rfl := Option.some.inj hf
      exact qt_i C hr hlocks hw dX9_figure_55
    · have hf := it_f h5 hf
      refine lv_iload hx hb dX9_figure_48 (lv_at hl 1 rfl) ?_
      refine lv_goto (tgt := 55) hx hb dX9_figure_50 (by decide) ?_
      obtain rfl := Option.some.inj hf
      exact qt_i C hr hlocks hw dX9_figure_55
theorem cfX9_readsBuyer : cf yX9_readsBuyer cX9_readsBuyer 6 (some .boolean) 2 := ⟨tg_778, by decide +kernel, tg_7⟩
set_option maxHeartbeats 4000000 in
theorem kX9_readsBuyer (l : Launch) (D : va_G) (cI cB cS : ClassId) (a0 : Nat) (am : Nat → Nat) {p1 : Int32} {p2 : Int32} {M : MS} {q : (Int32 × MS)} (hf : fX9_readsBuyer p1 p2 M = some q) : Ct l D cI cB cS yX9_readsBuyer cX9_readsBuyer 6 (some .boolean) 2 51 [.ref a0, .int p1, .int p2] (mW cI a0 am M) (some (.int q.1)) (mW cI a0 am q.2) := by
  refine Ct.ofW (by decide) (Nat.le_of_ble_eq_true rfl) ?_
  intro p e s m args below meth c ls C hr hlocks _ hw hl
  have hx := C.1
  have hb := C.2.1
  have hA : ∀ q, s.heap.size ≤ q → va_A (mW cI a0 am M) s.heap.size q := fun q h => Or.inr h
  have hcg := trivial
  have hl : lv_has ls 6 [(0, .ref a0), (1, .int p1), (2, .int p2)] := hl
  unfold fX9_readsBuyer at hf
  refine lv_aload_n hx hb dX9_readsBuyer_0 rfl (lv_at hl 0 rfl) ?_
  refine mg_12 C hw dX9_readsBuyer_1 ?_
  refine lv_bipush (v := 6) hx hb dX9_readsBuyer_4 ib_6 ?_
  refine lv_aload_n hx hb dX9_readsBuyer_6 rfl (lv_at hl 0 rfl) ?_
  refine mg_10 C hw dX9_readsBuyer_7 ?_
  refine lv_aload_n hx hb dX9_readsBuyer_10 rfl (lv_at hl 0 rfl) ?_
  refine mg_11 C hw dX9_readsBuyer_11 ?_
  refine lv_imul hx hb dX9_readsBuyer_14 ?_
  refine ct_S1 (rest := [.int (M 12 0)]) C hw hA (kX9_lesser l D cI cB cS _ _ _) cfX9_lesser tg_779 tg_780 ⟨(Nat.le_of_ble_eq_true rfl), (Nat.le_of_ble_eq_true rfl)⟩ ⟨(Nat.le_of_ble_eq_true rfl), (Nat.le_of_ble_eq_true rfl)⟩ rfl hl.1 rfl (Nat.le_of_ble_eq_true rfl) dX9_readsBuyer_15 (fun H locs hw => ?_)
  refine lv_icmp_eq (tgt := 32) hx hb dX9_readsBuyer_18 (by decide) (fun h1 => ?_) (fun h1 => ?_)
  · have hf := it_t h1 hf
    refine lv_iconst (v := 0) hx hb dX9_readsBuyer_32 ic_0 ?_
    obtain rfl := Option.some.inj hf
    exact qt_z C hr hlocks (Or.inl rfl) hw dX9_readsBuyer_33
  · have hf := it_f h1 hf
    refine lv_aload_n hx hb dX9_readsBuyer_21 rfl (lv_at hl 0 rfl) ?_
    refine lv_iload_n hx hb dX9_readsBuyer_22 rfl (lv_at hl 1 rfl) ?_
    refine lv_iload_n hx hb dX9_readsBuyer_23 rfl (lv_at hl 2 rfl) ?_
    obtain ⟨r2, e3, hf⟩ := bd hf
    refine ct_V1 (q0 := 0) (ci := 9) (rest := []) C hw hA (kX9_codeAt l D cI cB cS a0 am e3) cfX9_codeAt tg_767 tg_769 ts_yX9_codeAt ⟨(Nat.le_of_ble_eq_true rfl), (Nat.le_of_ble_eq_true rfl)⟩ ⟨(Nat.le_of_ble_eq_true rfl), (Nat.le_of_ble_eq_true rfl)⟩ rfl rfl rfl rfl hl.1 rfl (Nat.le_of_ble_eq_true rfl) dX9_readsBuyer_24 (fun H locs hw => ?_)
    refine lv_bipush (v := 59) hx hb dX9_readsBuyer_27 ib_59 ?_
    refine lv_icmp_eq (tgt := 34) hx hb dX9_readsBuyer_29 (by decide) (fun h4 => ?_) (fun h4 => ?_)
    · have hf := it_t h4 hf
      refine lv_aload_n hx hb dX9_readsBuyer_34 rfl (lv_at hl 0 rfl) ?_
      refine lv_dup hx hb dX9_readsBuyer_35 rfl ?_
      refine mg_9 C hw dX9_readsBuyer_36 ?_
      refine lv_iconst (v := 1) hx hb dX9_readsBuyer_39 ic_1 ?_
      refine lv_iadd hx hb dX9_readsBuyer_40 ?_
      refine mp_9 C hw dX9_readsBuyer_41 (fun H locs hw => ?_)
      refine lv_aload_n hx hb dX9_readsBuyer_44 rfl (lv_at hl 0 rfl) ?_
      refine lv_iload_n hx hb dX9_readsBuyer_45 rfl (lv_at hl 1 rfl) ?_
      refine lv_iload_n hx hb dX9_readsBuyer_46 rfl (lv_at hl 2 rfl) ?_
      obtain ⟨r5, e6, hf⟩ := bd hf
      refine ct_V1 (q0 := 0) (ci := 9) (rest := []) C hw hA (kX9_codeAt l D cI cB cS a0 am e6) cfX9_codeAt tg_767 tg_769 ts_yX9_codeAt ⟨(Nat.le_of_ble_eq_true rfl), (Nat.le_of_ble_eq_true rfl)⟩ ⟨(Nat.le_of_ble_eq_true rfl), (Nat.le_of_ble_eq_true rfl)⟩ rfl rfl rfl rfl hl.1 rfl (Nat.le_of_ble_eq_true rfl) dX9_readsBuyer_47 (fun H locs hw => ?_)
      refine lv_istore_n (lv' := [(3, .int r5), (0, .ref a0), (1, .int p1), (2, .int p2)]) hx hb dX9_readsBuyer_50 rfl hl (by decide) rfl (fun ls hl => ?_)
      refine lv_iload_n hx hb dX9_readsBuyer_51 rfl (lv_at hl 0 rfl) ?_
      refine lv_bipush (v := 98) hx hb dX9_readsBuyer_52 ib_98 ?_
      refine lv_icmp_eq (tgt := 71) hx hb dX9_readsBuyer_54 (by decide) (fun h7 => ?_) (fun h7 => ?_)
      · have hf := it_t h7 hf
        refine lv_aload_n hx hb dX9_readsBuyer_71 rfl (lv_at hl 1 rfl) ?_
        refine lv_dup hx hb dX9_readsBuyer_72 rfl ?_
        refine mg_9 C hw dX9_readsBuyer_73 ?_
        refine lv_iconst (v := 1) hx hb dX9_readsBuyer_76 ic_1 ?_
        refine lv_iadd hx hb dX9_readsBuyer_77 ?_
        refine mp_9 C hw dX9_readsBuyer_78 (fun H locs hw => ?_)
        refine lv_aload_n hx hb dX9_readsBuyer_81 rfl (lv_at hl 1 rfl) ?_
        refine lv_iload_n hx hb dX9_readsBuyer_82 rfl (lv_at hl 2 rfl) ?_
        refine lv_iload_n hx hb dX9_readsBuyer_83 rfl (lv_at hl 3 rfl) ?_
        refine lv_iconst (v := 0) hx hb dX9_readsBuyer_84 ic_0 ?_
        refine lv_bipush (v := 9) hx hb dX9_readsBuyer_85 ib_9 ?_
        obtain ⟨r8, e9, hf⟩ := bd hf
        refine ct_V1 (q0 := 0) (ci := 9) (rest := []) C hw hA (kX9_figure l D cI cB cS a0 am e9) cfX9_figure tg_771 tg_773 ts_yX9_figure ⟨(Nat.le_of_ble_eq_true rfl), (Nat.le_of_ble_eq_true rfl)⟩ ⟨(Nat.le_of_ble_eq_true rfl), (Nat.le_of_ble_eq_true rfl)⟩ rfl rfl rfl rfl hl.1 rfl (Nat.le_of_ble_eq_true rfl) dX9_readsBuyer_87 (fun H locs hw => ?_)
        refine lv_istore (lv' := [(4, .int r8.1), (3, .int r5), (0, .ref a0), (1, .int p1), (2, .int p2)]) hx hb dX9_readsBuyer_90 hl (by decide) rfl (fun ls hl => ?_)
        refine lv_iload hx hb dX9_readsBuyer_92 (lv_at hl 0 rfl) ?_
        refine lv_if_ge (tgt := 102) hx hb dX9_readsBuyer_94 (by decide) (fun h10 => ?_) (fun h10 => ?_)
        · have hf := it_t h10 hf
          refine lv_aload_n hx hb dX9_readsBuyer_102 rfl (lv_at hl 2 rfl) ?_
          refine lv_iload_n hx hb dX9_readsBuyer_103 rfl (lv_at hl 3 rfl) ?_
          refine lv_iload_n hx hb dX9_readsBuyer_104 rfl (lv_at hl 4 rfl) ?_
          refine lv_iload hx hb dX9_readsBuyer_105 (lv_at hl 0 rfl) ?_
          refine lv_if_ne (tgt := 114) hx hb dX9_readsBuyer_107 (by decide) (fun h11 => ?_) (fun h11 => ?_)
          · have hf := it_f h11 hf
            refine lv_iconst (v := 0) hx hb dX9_readsBuyer_114 ic_0 ?_
            refine lv_bipush (v := 9) hx hb dX9_readsBuyer_115 ib_9 ?_
            obtain ⟨r12, e13, hf⟩ := bd hf
            refine ct_V1 (q0 := 0) (ci := 9) (rest := []) C hw hA (kX9_figure l D cI cB cS a0 am e13) cfX9_figure tg_771 tg_773 ts_yX9_figure ⟨(Nat.le_of_ble_eq_true rfl), (Nat.le_of_ble_eq_true rfl)⟩ ⟨(Nat.le_of_ble_eq_true rfl), (Nat.le_of_ble_eq_true rfl)⟩ rfl rfl rfl rfl hl.1 rfl (Nat.le_of_ble_eq_true rfl) dX9_readsBuyer_117 (fun H locs hw => ?_)
            refine lv_istore (lv' := [(5, .int r12.1), (4, .int r8.1), (3, .int r5), (0, .ref a0), (1, .int p1), (2, .int p2)]) hx hb dX9_readsBuyer_120 hl (by decide) rfl (fun ls hl => ?_)
            refine lv_iload hx hb dX9_readsBuyer_122 (lv_at hl 0 rfl) ?_
            refine lv_if_ge (tgt := 129) hx hb dX9_readsBuyer_124 (by decide) (fun h14 => ?_) (fun h14 => ?_)
            · have hf := it_t h14 hf
              refine lv_aload_n hx hb dX9_readsBuyer_129 rfl (lv_at hl 3 rfl) ?_
              refine mg_13 C hw dX9_readsBuyer_130 ?_
              refine lv_aload_n hx hb dX9_readsBuyer_133 rfl (lv_at hl 3 rfl) ?_
              refine mg_12 C hw dX9_readsBuyer_134 ?_
              refine lv_iload_n hx hb dX9_readsBuyer_137 rfl (lv_at hl 2 rfl) ?_
              refine lv_bipush (v := 98) hx hb dX9_readsBuyer_138 ib_98 ?_
              refine lv_icmp_ne (tgt := 147) hx hb dX9_readsBuyer_140 (by decide) (fun h15 => ?_) (fun h15 => ?_)
              · have hf := it_f h15 hf
                refine lv_iload_n hx hb dX9_readsBuyer_147 rfl (lv_at hl 2 rfl) ?_
                refine lv_bipush (v := 104) hx hb dX9_readsBuyer_148 ib_104 ?_
                refine lv_icmp_ne (tgt := 157) hx hb dX9_readsBuyer_150 (by decide) (fun h16 => ?_) (fun h16 => ?_)
                · have hf := it_f h16 hf
                  refine lv_iconst (v := 2) hx hb dX9_readsBuyer_157 ic_2 ?_
                  obtain ⟨g17, hf⟩ := gd_inv hf
                  refine ms_13 C hw g17 dX9_readsBuyer_158 (fun H locs hw => ?_)
                  refine lv_aload_n hx hb dX9_readsBuyer_159 rfl (lv_at hl 3 rfl) ?_
                  refine mg_14 C hw dX9_readsBuyer_160 ?_
                  refine lv_aload_n hx hb dX9_readsBuyer_163 rfl (lv_at hl 3 rfl) ?_
                  refine mg_12 C hw dX9_readsBuyer_164 ?_
                  refine lv_bipush (v := 10) hx hb dX9_readsBuyer_167 ib_10 ?_
                  refine lv_iload hx hb dX9_readsBuyer_169 (lv_at hl 1 rfl) ?_
                  refine lv_imul hx hb dX9_readsBuyer_171 ?_
                  refine lv_iload hx hb dX9_readsBuyer_172 (lv_at hl 0 rfl) ?_
                  refine lv_iadd hx hb dX9_readsBuyer_174 ?_
                  obtain ⟨g18, hf⟩ := gd_inv hf
                  refine ms_14 C hw g18 dX9_readsBuyer_175 (fun H locs hw => ?_)
                  refine lv_aload_n hx hb dX9_readsBuyer_176 rfl (lv_at hl 3 rfl) ?_
                  refine lv_dup hx hb dX9_readsBuyer_177 rfl ?_
                  refine mg_12 C hw dX9_readsBuyer_178 ?_
                  refine lv_iconst (v := 1) hx hb dX9_readsBuyer_181 ic_1 ?_
                  refine lv_iadd hx hb dX9_readsBuyer_182 ?_
                  refine mp_12 C hw dX9_readsBuyer_183 (fun H locs hw => ?_)
                  refine lv_iconst (v := 1) hx hb dX9_readsBuyer_186 ic_1 ?_
                  obtain rfl := Option.some.inj hf
                  exact qt_z C hr hlocks (Or.inr rfl) hw dX9_readsBuyer_187
                · have hf := it_t h16 hf
                  refine lv_iconst (v := 1) hx hb dX9_readsBuyer_153 ic_1 ?_
                  refine lv_goto (tgt := 158) hx hb dX9_readsBuyer_154 (by decide) ?_
                  obtain ⟨g19, hf⟩ := gd_inv hf
                  refine ms_13 C hw g19 dX9_readsBuyer_158 (fun H locs hw => ?_)
                  refine lv_aload_n hx hb dX9_readsBuyer_159 rfl (lv_at hl 3 rfl) ?_
                  refine mg_14 C hw dX9_readsBuyer_160 ?_
                  refine lv_aload_n hx hb dX9_readsBuyer_163 rfl (lv_at hl 3 rfl) ?_
                  refine mg_12 C hw dX9_readsBuyer_164 ?_
                  refine lv_bipush (v := 10) hx hb dX9_readsBuyer_167 ib_10 ?_
                  refine lv_iload hx hb dX9_readsBuyer_169 (lv_at hl 1 rfl) ?_
                  refine lv_imul hx hb dX9_readsBuyer_171 ?_
                  refine lv_iload hx hb dX9_readsBuyer_172 (lv_at hl 0 rfl) ?_
                  refine lv_iadd hx hb dX9_readsBuyer_174 ?_
                  obtain ⟨g20, hf⟩ := gd_inv hf
                  refine ms_14 C hw g20 dX9_readsBuyer_175 (fun H locs hw => ?_)
                  refine lv_aload_n hx hb dX9_readsBuyer_176 rfl (lv_at hl 3 rfl) ?_
                  refine lv_dup hx hb dX9_readsBuyer_177 rfl ?_
                  refine mg_12 C hw dX9_readsBuyer_178 ?_
                  refine lv_iconst (v := 1) hx hb dX9_readsBuyer_181 ic_1 ?_
                  refine lv_iadd hx hb dX9_readsBuyer_182 ?_
                  refine mp_12 C hw dX9_readsBuyer_183 (fun H locs hw => ?_)
                  refine lv_iconst (v := 1) hx hb dX9_readsBuyer_186 ic_1 ?_
                  obtain rfl := Option.some.inj hf
                  exact qt_z C hr hlocks (Or.inr rfl) hw dX9_readsBuyer_187
              · have hf := it_t h15 hf
                refine lv_iconst (v := 0) hx hb dX9_readsBuyer_143 ic_0 ?_
                refine lv_goto (tgt := 158) hx hb dX9_readsBuyer_144 (by decide) ?_
                obtain ⟨g21, hf⟩ := gd_inv hf
                refine ms_13 C hw g21 dX9_readsBuyer_158 (fun H locs hw => ?_)
                refine lv_aload_n hx hb dX9_readsBuyer_159 rfl (lv_at hl 3 rfl) ?_
                refine mg_14 C hw dX9_readsBuyer_160 ?_
                refine lv_aload_n hx hb dX9_readsBuyer_163 rfl (lv_at hl 3 rfl) ?_
                refine mg_12 C hw dX9_readsBuyer_164 ?_
                refine lv_bipush (v := 10) hx hb dX9_readsBuyer_167 ib_10 ?_
                refine lv_iload hx hb dX9_readsBuyer_169 (lv_at hl 1 rfl) ?_
                refine lv_imul hx hb dX9_readsBuyer_171 ?_
                refine lv_iload hx hb dX9_readsBuyer_172 (lv_at hl 0 rfl) ?_
                refine lv_iadd hx hb dX9_readsBuyer_174 ?_
                obtain ⟨g22, hf⟩ := gd_inv hf
                refine ms_14 C hw g22 dX9_readsBuyer_175 (fun H locs hw => ?_)
                refine lv_aload_n hx hb dX9_readsBuyer_176 rfl (lv_at hl 3 rfl) ?_
                refine lv_dup hx hb dX9_readsBuyer_177 rfl ?_
                refine mg_12 C hw dX9_readsBuyer_178 ?_
                refine lv_iconst (v := 1) hx hb dX9_readsBuyer_181 ic_1 ?_
                refine lv_iadd hx hb dX9_readsBuyer_182 ?_
                refine mp_12 C hw dX9_readsBuyer_183 (fun H locs hw => ?_)
                refine lv_iconst (v := 1) hx hb dX9_readsBuyer_186 ic_1 ?_
                obtain rfl := Option.some.inj hf
                exact qt_z C hr hlocks (Or.inr rfl) hw dX9_readsBuyer_187
            · have hf := it_f h14 hf
              refine lv_iconst (v := 0) hx hb dX9_readsBuyer_127 ic_0 ?_
              obtain rfl := Option.some.inj hf
              exact qt_z C hr hlocks (Or.inl rfl) hw dX9_readsBuyer_128
          · have hf := it_t h11 hf
            refine lv_iconst (v := 1) hx hb dX9_readsBuyer_110 ic_1 ?_
            refine lv_goto (tgt := 115) hx hb dX9_readsBuyer_111 (by decide) ?_
            refine lv_bipush (v := 9) hx hb dX9_readsBuyer_115 ib_9 ?_
            obtain ⟨r23, e24, hf⟩ := bd hf
            refine ct_V1 (q0 := 0) (ci := 9) (rest := []) C hw hA (kX9_figure l D cI cB cS a0 am e24) cfX9_figure tg_771 tg_773 ts_yX9_figure ⟨(Nat.le_of_ble_eq_true rfl), (Nat.le_of_ble_eq_true rfl)⟩ ⟨(Nat.le_of_ble_eq_true rfl), (Nat.le_of_ble_eq_true rfl)⟩ rfl rfl rfl rfl hl.1 rfl (Nat.le_of_ble_eq_true rfl) dX9_readsBuyer_117 (fun H locs hw => ?_)
            refine lv_istore (lv' := [(5, .int r23.1), (4, .int r8.1), (3, .int r5), (0, .ref a0), (1, .int p1), (2, .int p2)]) hx hb dX9_readsBuyer_120 hl (by decide) rfl (fun ls hl => ?_)
            refine lv_iload hx hb dX9_readsBuyer_122 (lv_at hl 0 rfl) ?_
            refine lv_if_ge (tgt := 129) hx hb dX9_readsBuyer_124 (by decide) (fun h25 => ?_) (fun h25 => ?_)
            · have hf := it_t h25 hf
              refine lv_aload_n hx hb dX9_readsBuyer_129 rfl (lv_at hl 3 rfl) ?_
              refine mg_13 C hw dX9_readsBuyer_130 ?_
              refine lv_aload_n hx hb dX9_readsBuyer_133 rfl (lv_at hl 3 rfl) ?_
              refine mg_12 C hw dX9_readsBuyer_134 ?_
              refine lv_iload_n hx hb dX9_readsBuyer_137 rfl (lv_at hl 2 rfl) ?_
              refine lv_bipush (v := 98) hx hb dX9_readsBuyer_138 ib_98 ?_
              refine lv_icmp_ne (tgt := 147) hx hb dX9_readsBuyer_140 (by decide) (fun h26 => ?_) (fun h26 => ?_)
              · have hf := it_f h26 hf
                refine lv_iload_n hx hb dX9_readsBuyer_147 rfl (lv_at hl 2 rfl) ?_
                refine lv_bipush (v := 104) hx hb dX9_readsBuyer_148 ib_104 ?_
                refine lv_icmp_ne (tgt := 157) hx hb dX9_readsBuyer_150 (by decide) (fun h27 => ?_) (fun h27 => ?_)
                · have hf := it_f h27 hf
                  refine lv_iconst (v := 2) hx hb dX9_readsBuyer_157 ic_2 ?_
                  obtain ⟨g28, hf⟩ := gd_inv hf
                  refine ms_13 C hw g28 dX9_readsBuyer_158 (fun H locs hw => ?_)
                  refine lv_aload_n hx hb dX9_readsBuyer_159 rfl (lv_at hl 3 rfl) ?_
                  refine mg_14 C hw dX9_readsBuyer_160 ?_
                  refine lv_aload_n hx hb dX9_readsBuyer_163 rfl (lv_at hl 3 rfl) ?_
                  refine mg_12 C hw dX9_readsBuyer_164 ?_
                  refine lv_bipush (v := 10) hx hb dX9_readsBuyer_167 ib_10 ?_
                  refine lv_iload hx hb dX9_readsBuyer_169 (lv_at hl 1 rfl) ?_
                  refine lv_imul hx hb dX9_readsBuyer_171 ?_
                  refine lv_iload hx hb dX9_readsBuyer_172 (lv_at hl 0 rfl) ?_
                  refine lv_iadd hx hb dX9_readsBuyer_174 ?_
                  obtain ⟨g29, hf⟩ := gd_inv hf
                  refine ms_14 C hw g29 dX9_readsBuyer_175 (fun H locs hw => ?_)
                  refine lv_aload_n hx hb dX9_readsBuyer_176 rfl (lv_at hl 3 rfl) ?_
                  refine lv_dup hx hb dX9_readsBuyer_177 rfl ?_
                  refine mg_12 C hw dX9_readsBuyer_178 ?_
                  refine lv_iconst (v := 1) hx hb dX9_readsBuyer_181 ic_1 ?_
                  refine lv_iadd hx hb dX9_readsBuyer_182 ?_
                  refine mp_12 C hw dX9_readsBuyer_183 (fun H locs hw => ?_)
                  refine lv_iconst (v := 1) hx hb dX9_readsBuyer_186 ic_1 ?_
                  obtain rfl := Option.some.inj hf
                  exact qt_z C hr hlocks (Or.inr rfl) hw dX9_readsBuyer_187
                · have hf := it_t h27 hf
                  refine lv_iconst (v := 1) hx hb dX9_readsBuyer_153 ic_1 ?_
                  refine lv_goto (tgt := 158) hx hb dX9_readsBuyer_154 (by decide) ?_
                  obtain ⟨g30, hf⟩ := gd_inv hf
                  refine ms_13 C hw g30 dX9_readsBuyer_158 (fun H locs hw => ?_)
                  refine lv_aload_n hx hb dX9_readsBuyer_159 rfl (lv_at hl 3 rfl) ?_
                  refine mg_14 C hw dX9_readsBuyer_160 ?_
                  refine lv_aload_n hx hb dX9_readsBuyer_163 rfl (lv_at hl 3 rfl) ?_
                  refine mg_12 C hw dX9_readsBuyer_164 ?_
                  refine lv_bipush (v := 10) hx hb dX9_readsBuyer_167 ib_10 ?_
                  refine lv_iload hx hb dX9_readsBuyer_169 (lv_at hl 1 rfl) ?_
                  refine lv_imul hx hb dX9_readsBuyer_171 ?_
                  refine lv_iload hx hb dX9_readsBuyer_172 (lv_at hl 0 rfl) ?_
                  refine lv_iadd hx hb dX9_readsBuyer_174 ?_
                  obtain ⟨g31, hf⟩ := gd_inv hf
                  refine ms_14 C hw g31 dX9_readsBuyer_175 (fun H locs hw => ?_)
                  refine lv_aload_n hx hb dX9_readsBuyer_176 rfl (lv_at hl 3 rfl) ?_
                  refine lv_dup hx hb dX9_readsBuyer_177 rfl ?_
                  refine mg_12 C hw dX9_readsBuyer_178 ?_
                  refine lv_iconst (v := 1) hx hb dX9_readsBuyer_181 ic_1 ?_
                  refine lv_iadd hx hb dX9_readsBuyer_182 ?_
                  refine mp_12 C hw dX9_readsBuyer_183 (fun H locs hw => ?_)
                  refine lv_iconst (v := 1) hx hb dX9_readsBuyer_186 ic_1 ?_
                  obtain rfl := Option.some.inj hf
                  exact qt_z C hr hlocks (Or.inr rfl) hw dX9_readsBuyer_187
              · have hf := it_t h26 hf
                refine lv_iconst (v := 0) hx hb dX9_readsBuyer_143 ic_0 ?_
                refine lv_goto (tgt := 158) hx hb dX9_readsBuyer_144 (by decide) ?_
                obtain ⟨g32, hf⟩ := gd_inv hf
                refine ms_13 C hw g32 dX9_readsBuyer_158 (fun H locs hw => ?_)
                refine lv_aload_n hx hb dX9_readsBuyer_159 rfl (lv_at hl 3 rfl) ?_
                refine mg_14 C hw dX9_readsBuyer_160 ?_
                refine lv_aload_n hx hb dX9_readsBuyer_163 rfl (lv_at hl 3 rfl) ?_
                refine mg_12 C hw dX9_readsBuyer_164 ?_
                refine lv_bipush (v := 10) hx hb dX9_readsBuyer_167 ib_10 ?_
                refine lv_iload hx hb dX9_readsBuyer_169 (lv_at hl 1 rfl) ?_
                refine lv_imul hx hb dX9_readsBuyer_171 ?_
                refine lv_iload hx hb dX9_readsBuyer_172 (lv_at hl 0 rfl) ?_
                refine lv_iadd hx hb dX9_readsBuyer_174 ?_
                obtain ⟨g33, hf⟩ := gd_inv hf
                refine ms_14 C hw g33 dX9_readsBuyer_175 (fun H locs hw => ?_)
                refine lv_aload_n hx hb dX9_readsBuyer_176 rfl (lv_at hl 3 rfl) ?_
                refine lv_dup hx hb dX9_readsBuyer_177 rfl ?_
                refine mg_12 C hw dX9_readsBuyer_178 ?_
                refine lv_iconst (v := 1) hx hb dX9_readsBuyer_181 ic_1 ?_
                refine lv_iadd hx hb dX9_readsBuyer_182 ?_
                refine mp_12 C hw dX9_readsBuyer_183 (fun H locs hw => ?_)
                refine lv_iconst (v := 1) hx hb dX9_readsBuyer_186 ic_1 ?_
                obtain rfl := Option.some.inj hf
                exact qt_z C hr hlocks (Or.inr rfl) hw dX9_readsBuyer_187
            · have hf := it_f h25 hf
              refine lv_iconst (v := 0) hx hb dX9_readsBuyer_127 ic_0 ?_
              obtain rfl := Option.some.inj hf
              exact qt_z C hr hlocks (Or.inl rfl) hw dX9_readsBuyer_128
        · have hf := it_f h10 hf
          refine lv_bipush (v := (-9)) hx hb dX9_readsBuyer_97 ib_m9 ?_
          refine lv_goto (tgt := 120) hx hb dX9_readsBuyer_99 (by decide) ?_
          refine lv_istore (lv' := [(5, .int (-9)), (4, .int r8.1), (3, .int r5), (0, .ref a0), (1, .int p1), (2, .int p2)]) hx hb dX9_readsBuyer_120 hl (by decide) rfl (fun ls hl => ?_)
          refine lv_iload hx hb dX9_readsBuyer_122 (lv_at hl 0 rfl) ?_
          refine lv_if_ge (tgt := 129) hx hb dX9_readsBuyer_124 (by decide) (fun hz => absurd hz (by decide)) (fun _ => ?_)
          refine lv_iconst (v := 0) hx hb dX9_readsBuyer_127 ic_0 ?_
          obtain rfl := Option.some.inj hf
          exact qt_z C hr hlocks (Or.inl rfl) hw dX9_readsBuyer_128
      · have hf := it_f h7 hf
        refine lv_iload_n hx hb dX9_readsBuyer_57 rfl (lv_at hl 0 rfl) ?_
        refine lv_bipush (v := 104) hx hb dX9_readsBuyer_58 ib_104 ?_
        refine lv_icmp_eq (tgt := 71) hx hb dX9_readsBuyer_60 (by decide) (fun h34 => ?_) (fun h34 => ?_)
        · have hf := it_t h34 hf
          refine lv_aload_n hx hb dX9_readsBuyer_71 rfl (lv_at hl 1 rfl) ?_
          refine lv_dup hx hb dX9_readsBuyer_72 rfl ?_
          refine mg_9 C hw dX9_readsBuyer_73 ?_
          refine lv_iconst (v := 1) hx hb dX9_readsBuyer_76 ic_1 ?_
          refine lv_iadd hx hb dX9_readsBuyer_77 ?_
          refine mp_9 C hw dX9_readsBuyer_78 (fun H locs hw => ?_)
          refine lv_aload_n hx hb dX9_readsBuyer_81 rfl (lv_at hl 1 rfl) ?_
          refine lv_iload_n hx hb dX9_readsBuyer_82 rfl (lv_at hl 2 rfl) ?_
          refine lv_iload_n hx hb dX9_readsBuyer_83 rfl (lv_at hl 3 rfl) ?_
          refine lv_iconst (v := 0) hx hb dX9_readsBuyer_84 ic_0 ?_
          refine lv_bipush (v := 9) hx hb dX9_readsBuyer_85 ib_9 ?_
          obtain ⟨r35, e36, hf⟩ := bd hf
          refine ct_V1 (q0 := 0) (ci := 9) (rest := []) C hw hA (kX9_figure l D cI cB cS a0 am e36) cfX9_figure tg_771 tg_773 ts_yX9_figure ⟨(Nat.le_of_ble_eq_true rfl), (Nat.le_of_ble_eq_true rfl)⟩ ⟨(Nat.le_of_ble_eq_true rfl), (Nat.le_of_ble_eq_true rfl)⟩ rfl rfl rfl rfl hl.1 rfl (Nat.le_of_ble_eq_true rfl) dX9_readsBuyer_87 (fun H locs hw => ?_)
          refine lv_istore (lv' := [(4, .int r35.1), (3, .int r5), (0, .ref a0), (1, .int p1), (2, .int p2)]) hx hb dX9_readsBuyer_90 hl (by decide) rfl (fun ls hl => ?_)
          refine lv_iload hx hb dX9_readsBuyer_92 (lv_at hl 0 rfl) ?_
          refine lv_if_ge (tgt := 102) hx hb dX9_readsBuyer_94 (by decide) (fun h37 => ?_) (fun h37 => ?_)
          · have hf := it_t h37 hf
            refine lv_aload_n hx hb dX9_readsBuyer_102 rfl (lv_at hl 2 rfl) ?_
            refine lv_iload_n hx hb dX9_readsBuyer_103 rfl (lv_at hl 3 rfl) ?_
            refine lv_iload_n hx hb dX9_readsBuyer_104 rfl (lv_at hl 4 rfl) ?_
            refine lv_iload hx hb dX9_readsBuyer_105 (lv_at hl 0 rfl) ?_
            refine lv_if_ne (tgt := 114) hx hb dX9_readsBuyer_107 (by decide) (fun h38 => ?_) (fun h38 => ?_)
            · have hf := it_f h38 hf
              refine lv_iconst (v := 0) hx hb dX9_readsBuyer_114 ic_0 ?_
              refine lv_bipush (v := 9) hx hb dX9_readsBuyer_115 ib_9 ?_
              obtain ⟨r39, e40, hf⟩ := bd hf
              refine ct_V1 (q0 := 0) (ci := 9) (rest := []) C hw hA (kX9_figure l D cI cB cS a0 am e40) cfX9_figure tg_771 tg_773 ts_yX9_figure ⟨(Nat.le_of_ble_eq_true rfl), (Nat.le_of_ble_eq_true rfl)⟩ ⟨(Nat.le_of_ble_eq_true rfl), (Nat.le_of_ble_eq_true rfl)⟩ rfl rfl rfl rfl hl.1 rfl (Nat.le_of_ble_eq_true rfl) dX9_readsBuyer_117 (fun H locs hw => ?_)
              refine lv_istore (lv' := [(5, .int r39.1), (4, .int r35.1), (3, .int r5), (0, .ref a0), (1, .int p1), (2, .int p2)]) hx hb dX9_readsBuyer_120 hl (by decide) rfl (fun ls hl => ?_)
              refine lv_iload hx hb dX9_readsBuyer_122 (lv_at hl 0 rfl) ?_
              refine lv_if_ge (tgt := 129) hx hb dX9_readsBuyer_124 (by decide) (fun h41 => ?_) (fun h41 => ?_)
              · have hf := it_t h41 hf
                refine lv_aload_n hx hb dX9_readsBuyer_129 rfl (lv_at hl 3 rfl) ?_
                refine mg_13 C hw dX9_readsBuyer_130 ?_
                refine lv_aload_n hx hb dX9_readsBuyer_133 rfl (lv_at hl 3 rfl) ?_
                refine mg_12 C hw dX9_readsBuyer_134 ?_
                refine lv_iload_n hx hb dX9_readsBuyer_137 rfl (lv_at hl 2 rfl) ?_
                refine lv_bipush (v := 98) hx hb dX9_readsBuyer_138 ib_98 ?_
                refine lv_icmp_ne (tgt := 147) hx hb dX9_readsBuyer_140 (by decide) (fun h42 => ?_) (fun h42 => ?_)
                · have hf := it_f h42 hf
                  refine lv_iload_n hx hb dX9_readsBuyer_147 rfl (lv_at hl 2 rfl) ?_
                  refine lv_bipush (v := 104) hx hb dX9_readsBuyer_148 ib_104 ?_
                  refine lv_icmp_ne (tgt := 157) hx hb dX9_readsBuyer_150 (by decide) (fun h43 => ?_) (fun h43 => ?_)
                  · have hf := it_f h43 hf
                    refine lv_iconst (v := 2) hx hb dX9_readsBuyer_157 ic_2 ?_
                    obtain ⟨g44, hf⟩ := gd_inv hf
                    refine ms_13 C hw g44 dX9_readsBuyer_158 (fun H locs hw => ?_)
                    refine lv_aload_n hx hb dX9_readsBuyer_159 rfl (lv_at hl 3 rfl) ?_
                    refine mg_14 C hw dX9_readsBuyer_160 ?_
                    refine lv_aload_n hx hb dX9_readsBuyer_163 rfl (lv_at hl 3 rfl) ?_
                    refine mg_12 C hw dX9_readsBuyer_164 ?_
                    refine lv_bipush (v := 10) hx hb dX9_readsBuyer_167 ib_10 ?_
                    refine lv_iload hx hb dX9_readsBuyer_169 (lv_at hl 1 rfl) ?_
                    refine lv_imul hx hb dX9_readsBuyer_171 ?_
                    refine lv_iload hx hb dX9_readsBuyer_172 (lv_at hl 0 rfl) ?_
                    refine lv_iadd hx hb dX9_readsBuyer_174 ?_
                    obtain ⟨g45, hf⟩ := gd_inv hf
                    refine ms_14 C hw g45 dX9_readsBuyer_175 (fun H locs hw => ?_)
                    refine lv_aload_n hx hb dX9_readsBuyer_176 rfl (lv_at hl 3 rfl) ?_
                    refine lv_dup hx hb dX9_readsBuyer_177 rfl ?_
                    refine mg_12 C hw dX9_readsBuyer_178 ?_
                    refine lv_iconst (v := 1) hx hb dX9_readsBuyer_181 ic_1 ?_
                    refine lv_iadd hx hb dX9_readsBuyer_182 ?_
                    refine mp_12 C hw dX9_readsBuyer_183 (fun H locs hw => ?_)
                    refine lv_iconst (v := 1) hx hb dX9_readsBuyer_186 ic_1 ?_
                    obtain rfl := Option.some.inj hf
                    exact qt_z C hr hlocks (Or.inr rfl) hw dX9_readsBuyer_187
                  · have hf := it_t h43 hf
                    refine lv_iconst (v := 1) hx hb dX9_readsBuyer_153 ic_1 ?_
                    refine lv_goto (tgt := 158) hx hb dX9_readsBuyer_154 (by decide) ?_
                    obtain ⟨g46, hf⟩ := gd_inv hf
                    refine ms_13 C hw g46 dX9_readsBuyer_158 (fun H locs hw => ?_)
                    refine lv_aload_n hx hb dX9_readsBuyer_159 rfl (lv_at hl 3 rfl) ?_
                    refine mg_14 C hw dX9_readsBuyer_160 ?_
                    refine lv_aload_n hx hb dX9_readsBuyer_163 rfl (lv_at hl 3 rfl) ?_
                    refine mg_12 C hw dX9_readsBuyer_164 ?_
                    refine lv_bipush (v := 10) hx hb dX9_readsBuyer_167 ib_10 ?_
                    refine lv_iload hx hb dX9_readsBuyer_169 (lv_at hl 1 rfl) ?_
                    refine lv_imul hx hb dX9_readsBuyer_171 ?_
                    refine lv_iload hx hb dX9_readsBuyer_172 (lv_at hl 0 rfl) ?_
                    refine lv_iadd hx hb dX9_readsBuyer_174 ?_
                    obtain ⟨g47, hf⟩ := gd_inv hf
                    refine ms_14 C hw g47 dX9_readsBuyer_175 (fun H locs hw => ?_)
                    refine lv_aload_n hx hb dX9_readsBuyer_176 rfl (lv_at hl 3 rfl) ?_
                    refine lv_dup hx hb dX9_readsBuyer_177 rfl ?_
                    refine mg_12 C hw dX9_readsBuyer_178 ?_
                    refine lv_iconst (v := 1) hx hb dX9_readsBuyer_181 ic_1 ?_
                    refine lv_iadd hx hb dX9_readsBuyer_182 ?_
                    refine mp_12 C hw dX9_readsBuyer_183 (fun H locs hw => ?_)
                    refine lv_iconst (v := 1) hx hb dX9_readsBuyer_186 ic_1 ?_
                    obtain rfl := Option.some.inj hf
                    exact qt_z C hr hlocks (Or.inr rfl) hw dX9_readsBuyer_187
                · have hf := it_t h42 hf
                  refine lv_iconst (v := 0) hx hb dX9_readsBuyer_143 ic_0 ?_
                  refine lv_goto (tgt := 158) hx hb dX9_readsBuyer_144 (by decide) ?_
                  obtain ⟨g48, hf⟩ := gd_inv hf
                  refine ms_13 C hw g48 dX9_readsBuyer_158 (fun H locs hw => ?_)
                  refine lv_aload_n hx hb dX9_readsBuyer_159 rfl (lv_at hl 3 rfl) ?_
                  refine mg_14 C hw dX9_readsBuyer_160 ?_
                  refine lv_aload_n hx hb dX9_readsBuyer_163 rfl (lv_at hl 3 rfl) ?_
                  refine mg_12 C hw dX9_readsBuyer_164 ?_
                  refine lv_bipush (v := 10) hx hb dX9_readsBuyer_167 ib_10 ?_
                  refine lv_iload hx hb dX9_readsBuyer_169 (lv_at hl 1 rfl) ?_
                  refine lv_imul hx hb dX9_readsBuyer_171 ?_
                  refine lv_iload hx hb dX9_readsBuyer_172 (lv_at hl 0 rfl) ?_
                  refine lv_iadd hx hb dX9_readsBuyer_174 ?_
                  obtain ⟨g49, hf⟩ := gd_inv hf
                  refine ms_14 C hw g49 dX9_readsBuyer_175 (fun H locs hw => ?_)
                  refine lv_aload_n hx hb dX9_readsBuyer_176 rfl (lv_at hl 3 rfl) ?_
                  refine lv_dup hx hb dX9_readsBuyer_177 rfl ?_
                  refine mg_12 C hw dX9_readsBuyer_178 ?_
                  refine lv_iconst (v := 1) hx hb dX9_readsBuyer_181 ic_1 ?_
                  refine lv_iadd hx hb dX9_readsBuyer_182 ?_
                  refine mp_12 C hw dX9_readsBuyer_183 (fun H locs hw => ?_)
                  refine lv_iconst (v := 1) hx hb dX9_readsBuyer_186 ic_1 ?_
                  obtain rfl := Option.some.inj hf
                  exact qt_z C hr hlocks (Or.inr rfl) hw dX9_readsBuyer_187
              · have hf := it_f h41 hf
                refine lv_iconst (v := 0) hx hb dX9_readsBuyer_127 ic_0 ?_
                obtain rfl := Option.some.inj hf
                exact qt_z C hr hlocks (Or.inl rfl) hw dX9_readsBuyer_128
            · have hf := it_t h38 hf
              refine lv_iconst (v := 1) hx hb dX9_readsBuyer_110 ic_1 ?_
              refine lv_goto (tgt := 115) hx hb dX9_readsBuyer_111 (by decide) ?_
              refine lv_bipush (v := 9) hx hb dX9_readsBuyer_115 ib_9 ?_
              obtain ⟨r50, e51, hf⟩ := bd hf
              refine ct_V1 (q0 := 0) (ci := 9) (rest := []) C hw hA (kX9_figure l D cI cB cS a0 am e51) cfX9_figure tg_771 tg_773 ts_yX9_figure ⟨(Nat.le_of_ble_eq_true rfl), (Nat.le_of_ble_eq_true rfl)⟩ ⟨(Nat.le_of_ble_eq_true rfl), (Nat.le_of_ble_eq_true rfl)⟩ rfl rfl rfl rfl hl.1 rfl (Nat.le_of_ble_eq_true rfl) dX9_readsBuyer_117 (fun H locs hw => ?_)
              refine lv_istore (lv' := [(5, .int r50.1), (4, .int r35.1), (3, .int r5), (0, .ref a0), (1, .int p1), (2, .int p2)]) hx hb dX9_readsBuyer_120 hl (by decide) rfl (fun ls hl => ?_)
              refine lv_iload hx hb dX9_readsBuyer_122 (lv_at hl 0 rfl) ?_
              refine lv_if_ge (tgt := 129) hx hb dX9_readsBuyer_124 (by decide) (fun h52 => ?_) (fun h52 => ?_)
              · have hf := it_t h52 hf
                refine lv_aload_n hx hb dX9_readsBuyer_129 rfl (lv_at hl 3 rfl) ?_
                refine mg_13 C hw dX9_readsBuyer_130 ?_
                refine lv_aload_n hx hb dX9_readsBuyer_133 rfl (lv_at hl 3 rfl) ?_
                refine mg_12 C hw dX9_readsBuyer_134 ?_
                refine lv_iload_n hx hb dX9_readsBuyer_137 rfl (lv_at hl 2 rfl) ?_
                refine lv_bipush (v := 98) hx hb dX9_readsBuyer_138 ib_98 ?_
                refine lv_icmp_ne (tgt := 147) hx hb dX9_readsBuyer_140 (by decide) (fun h53 => ?_) (fun h53 => ?_)
                · have hf := it_f h53 hf
                  refine lv_iload_n hx hb dX9_readsBuyer_147 rfl (lv_at hl 2 rfl) ?_
                  refine lv_bipush (v := 104) hx hb dX9_readsBuyer_148 ib_104 ?_
                  refine lv_icmp_ne (tgt := 157) hx hb dX9_readsBuyer_150 (by decide) (fun h54 => ?_) (fun h54 => ?_)
                  · have hf := it_f h54 hf
                    refine lv_iconst (v := 2) hx hb dX9_readsBuyer_157 ic_2 ?_
                    obtain ⟨g55, hf⟩ := gd_inv hf
                    refine ms_13 C hw g55 dX9_readsBuyer_158 (fun H locs hw => ?_)
                    refine lv_aload_n hx hb dX9_readsBuyer_159 rfl (lv_at hl 3 rfl) ?_
                    refine mg_14 C hw dX9_readsBuyer_160 ?_
                    refine lv_aload_n hx hb dX9_readsBuyer_163 rfl (lv_at hl 3 rfl) ?_
                    refine mg_12 C hw dX9_readsBuyer_164 ?_
                    refine lv_bipush (v := 10) hx hb dX9_readsBuyer_167 ib_10 ?_
                    refine lv_iload hx hb dX9_readsBuyer_169 (lv_at hl 1 rfl) ?_
                    refine lv_imul hx hb dX9_readsBuyer_171 ?_
                    refine lv_iload hx hb dX9_readsBuyer_172 (lv_at hl 0 rfl) ?_
                    refine lv_iadd hx hb dX9_readsBuyer_174 ?_
                    obtain ⟨g56, hf⟩ := gd_inv hf
                    refine ms_14 C hw g56 dX9_readsBuyer_175 (fun H locs hw => ?_)
                    refine lv_aload_n hx hb dX9_readsBuyer_176 rfl (lv_at hl 3 rfl) ?_
                    refine lv_dup hx hb dX9_readsBuyer_177 rfl ?_
                    refine mg_12 C hw dX9_readsBuyer_178 ?_
                    refine lv_iconst (v := 1) hx hb dX9_readsBuyer_181 ic_1 ?_
                    refine lv_iadd hx hb dX9_readsBuyer_182 ?_
                    refine mp_12 C hw dX9_readsBuyer_183 (fun H locs hw => ?_)
                    refine lv_iconst (v := 1) hx hb dX9_readsBuyer_186 ic_1 ?_
                    obtain rfl := Option.some.inj hf
                    exact qt_z C hr hlocks (Or.inr rfl) hw dX9_readsBuyer_187
                  · have hf := it_t h54 hf
                    refine lv_iconst (v := 1) hx hb dX9_readsBuyer_153 ic_1 ?_
                    refine lv_goto (tgt := 158) hx hb dX9_readsBuyer_154 (by decide) ?_
                    obtain ⟨g57, hf⟩ := gd_inv hf
                    refine ms_13 C hw g57 dX9_readsBuyer_158 (fun H locs hw => ?_)
                    refine lv_aload_n hx hb dX9_readsBuyer_159 rfl (lv_at hl 3 rfl) ?_
                    refine mg_14 C hw dX9_readsBuyer_160 ?_
                    refine lv_aload_n hx hb dX9_readsBuyer_163 rfl (lv_at hl 3 rfl) ?_
                    refine mg_12 C hw dX9_readsBuyer_164 ?_
                    refine lv_bipush (v := 10) hx hb dX9_readsBuyer_167 ib_10 ?_
                    refine lv_iload hx hb dX9_readsBuyer_169 (lv_at hl 1 rfl) ?_
                    refine lv_imul hx hb dX9_readsBuyer_171 ?_
                    refine lv_iload hx hb dX9_readsBuyer_172 (lv_at hl 0 rfl) ?_
                    refine lv_iadd hx hb dX9_readsBuyer_174 ?_
                    obtain ⟨g58, hf⟩ := gd_inv hf
                    refine ms_14 C hw g58 dX9_readsBuyer_175 (fun H locs hw => ?_)
                    refine lv_aload_n hx hb dX9_readsBuyer_176 rfl (lv_at hl 3 rfl) ?_
                    refine lv_dup hx hb dX9_readsBuyer_177 rfl ?_
                    refine mg_12 C hw dX9_readsBuyer_178 ?_
                    refine lv_iconst (v := 1) hx hb dX9_readsBuyer_181 ic_1 ?_
                    refine lv_iadd hx hb dX9_readsBuyer_182 ?_
                    refine mp_12 C hw dX9_readsBuyer_183 (fun H locs hw => ?_)
                    refine lv_iconst (v := 1) hx hb dX9_readsBuyer_186 ic_1 ?_
                    obtain rfl := Option.some.inj hf
                    exact qt_z C hr hlocks (Or.inr rfl) hw dX9_readsBuyer_187
                · have hf := it_t h53 hf
                  refine lv_iconst (v := 0) hx hb dX9_readsBuyer_143 ic_0 ?_
                  refine lv_goto (tgt := 158) hx hb dX9_readsBuyer_144 (by decide) ?_
                  obtain ⟨g59, hf⟩ := gd_inv hf
                  refine ms_13 C hw g59 dX9_readsBuyer_158 (fun H locs hw => ?_)
                  refine lv_aload_n hx hb dX9_readsBuyer_159 rfl (lv_at hl 3 rfl) ?_
                  refine mg_14 C hw dX9_readsBuyer_160 ?_
                  refine lv_aload_n hx hb dX9_readsBuyer_163 rfl (lv_at hl 3 rfl) ?_
                  refine mg_12 C hw dX9_readsBuyer_164 ?_
                  refine lv_bipush (v := 10) hx hb dX9_readsBuyer_167 ib_10 ?_
                  refine lv_iload hx hb dX9_readsBuyer_169 (lv_at hl 1 rfl) ?_
                  refine lv_imul hx hb dX9_readsBuyer_171 ?_
                  refine lv_iload hx hb dX9_readsBuyer_172 (lv_at hl 0 rfl) ?_
                  refine lv_iadd hx hb dX9_readsBuyer_174 ?_
                  obtain ⟨g60, hf⟩ := gd_inv hf
                  refine ms_14 C hw g60 dX9_readsBuyer_175 (fun H locs hw => ?_)
                  refine lv_aload_n hx hb dX9_readsBuyer_176 rfl (lv_at hl 3 rfl) ?_
                  refine lv_dup hx hb dX9_readsBuyer_177 rfl ?_
                  refine mg_12 C hw dX9_readsBuyer_178 ?_
                  refine lv_iconst (v := 1) hx hb dX9_readsBuyer_181 ic_1 ?_
                  refine lv_iadd hx hb dX9_readsBuyer_182 ?_
                  refine mp_12 C hw dX9_readsBuyer_183 (fun H locs hw => ?_)
                  refine lv_iconst (v := 1) hx hb dX9_readsBuyer_186 ic_1 ?_
                  obtain rfl := Option.some.inj hf
                  exact qt_z C hr hlocks (Or.inr rfl) hw dX9_readsBuyer_187
              · have hf := it_f h52 hf
                refine lv_iconst (v := 0) hx hb dX9_readsBuyer_127 ic_0 ?_
                obtain rfl := Option.some.inj hf
                exact qt_z C hr hlocks (Or.inl rfl) hw dX9_readsBuyer_128
          · have hf := it_f h37 hf
            refine lv_bipush (v := (-9)) hx hb dX9_readsBuyer_97 ib_m9 ?_
            refine lv_goto (tgt := 120) hx hb dX9_readsBuyer_99 (by decide) ?_
            refine lv_istore (lv' := [(5, .int (-9)), (4, .int r35.1), (3, .int r5), (0, .ref a0), (1, .int p1), (2, .int p2)]) hx hb dX9_readsBuyer_120 hl (by decide) rfl (fun ls hl => ?_)
            refine lv_iload hx hb dX9_readsBuyer_122 (lv_at hl 0 rfl) ?_
            refine lv_if_ge (tgt := 129) hx hb dX9_readsBuyer_124 (by decide) (fun hz => absurd hz (by decide)) (fun _ => ?_)
            refine lv_iconst (v := 0) hx hb dX9_readsBuyer_127 ic_0 ?_
            obtain rfl := Option.some.inj hf
            exact qt_z C hr hlocks (Or.inl rfl) hw dX9_readsBuyer_128
        · have hf := it_f h34 hf
          refine lv_iload_n hx hb dX9_readsBuyer_63 rfl (lv_at hl 0 rfl) ?_
          refine lv_bipush (v := 110) hx hb dX9_readsBuyer_64 ib_110 ?_
          refine lv_icmp_eq (tgt := 71) hx hb dX9_readsBuyer_66 (by decide) (fun h61 => ?_) (fun h61 => ?_)
          · have hf := it_t h61 hf
            refine lv_aload_n hx hb dX9_readsBuyer_71 rfl (lv_at hl 1 rfl) ?_
            refine lv_dup hx hb dX9_readsBuyer_72 rfl ?_
            refine mg_9 C hw dX9_readsBuyer_73 ?_
            refine lv_iconst (v := 1) hx hb dX9_readsBuyer_76 ic_1 ?_
            refine lv_iadd hx hb dX9_readsBuyer_77 ?_
            refine mp_9 C hw dX9_readsBuyer_78 (fun H locs hw => ?_)
            refine lv_aload_n hx hb dX9_readsBuyer_81 rfl (lv_at hl 1 rfl) ?_
            refine lv_iload_n hx hb dX9_readsBuyer_82 rfl (lv_at hl 2 rfl) ?_
            refine lv_iload_n hx hb dX9_readsBuyer_83 rfl (lv_at hl 3 rfl) ?_
            refine lv_iconst (v := 0) hx hb dX9_readsBuyer_84 ic_0 ?_
            refine lv_bipush (v := 9) hx hb dX9_readsBuyer_85 ib_9 ?_
            obtain ⟨r62, e63, hf⟩ := bd hf
            refine ct_V1 (q0 := 0) (ci := 9) (rest := []) C hw hA (kX9_figure l D cI cB cS a0 am e63) cfX9_figure tg_771 tg_773 ts_yX9_figure ⟨(Nat.le_of_ble_eq_true rfl), (Nat.le_of_ble_eq_true rfl)⟩ ⟨(Nat.le_of_ble_eq_true rfl), (Nat.le_of_ble_eq_true rfl)⟩ rfl rfl rfl rfl hl.1 rfl (Nat.le_of_ble_eq_true rfl) dX9_readsBuyer_87 (fun H locs hw => ?_)
            refine lv_istore (lv' := [(4, .int r62.1), (3, .int r5), (0, .ref a0), (1, .int p1), (2, .int p2)]) hx hb dX9_readsBuyer_90 hl (by decide) rfl (fun ls hl => ?_)
            refine lv_iload hx hb dX9_readsBuyer_92 (lv_at hl 0 rfl) ?_
            refine lv_if_ge (tgt := 102) hx hb dX9_readsBuyer_94 (by decide) (fun h64 => ?_) (fun h64 => ?_)
            · have hf := it_t h64 hf
              refine lv_aload_n hx hb dX9_readsBuyer_102 rfl (lv_at hl 2 rfl) ?_
              refine lv_iload_n hx hb dX9_readsBuyer_103 rfl (lv_at hl 3 rfl) ?_
              refine lv_iload_n hx hb dX9_readsBuyer_104 rfl (lv_at hl 4 rfl) ?_
              refine lv_iload hx hb dX9_readsBuyer_105 (lv_at hl 0 rfl) ?_
              refine lv_if_ne (tgt := 114) hx hb dX9_readsBuyer_107 (by decide) (fun h65 => ?_) (fun h65 => ?_)
              · have hf := it_f h65 hf
                refine lv_iconst (v := 0) hx hb dX9_readsBuyer_114 ic_0 ?_
                refine lv_bipush (v := 9) hx hb dX9_readsBuyer_115 ib_9 ?_
                obtain ⟨r66, e67, hf⟩ := bd hf
                refine ct_V1 (q0 := 0) (ci := 9) (rest := []) C hw hA (kX9_figure l D cI cB cS a0 am e67) cfX9_figure tg_771 tg_773 ts_yX9_figure ⟨(Nat.le_of_ble_eq_true rfl), (Nat.le_of_ble_eq_true rfl)⟩ ⟨(Nat.le_of_ble_eq_true rfl), (Nat.le_of_ble_eq_true rfl)⟩ rfl rfl rfl rfl hl.1 rfl (Nat.le_of_ble_eq_true rfl) dX9_readsBuyer_117 (fun H locs hw => ?_)
                refine lv_istore (lv' := [(5, .int r66.1), (4, .int r62.1), (3, .int r5), (0, .ref a0), (1, .int p1), (2, .int p2)]) hx hb dX9_readsBuyer_120 hl (by decide) rfl (fun ls hl => ?_)
                refine lv_iload hx hb dX9_readsBuyer_122 (lv_at hl 0 rfl) ?_
                refine lv_if_ge (tgt := 129) hx hb dX9_readsBuyer_124 (by decide) (fun h68 => ?_) (fun h68 => ?_)
                · have hf := it_t h68 hf
                  refine lv_aload_n hx hb dX9_readsBuyer_129 rfl (lv_at hl 3 rfl) ?_
                  refine mg_13 C hw dX9_readsBuyer_130 ?_
                  refine lv_aload_n hx hb dX9_readsBuyer_133 rfl (lv_at hl 3 rfl) ?_
                  refine mg_12 C hw dX9_readsBuyer_134 ?_
                  refine lv_iload_n hx hb dX9_readsBuyer_137 rfl (lv_at hl 2 rfl) ?_
                  refine lv_bipush (v := 98) hx hb dX9_readsBuyer_138 ib_98 ?_
                  refine lv_icmp_ne (tgt := 147) hx hb dX9_readsBuyer_140 (by decide) (fun h69 => ?_) (fun h69 => ?_)
                  · have hf := it_f h69 hf
                    refine lv_iload_n hx hb dX9_readsBuyer_147 rfl (lv_at hl 2 rfl) ?_
                    refine lv_bipush (v := 104) hx hb dX9_readsBuyer_148 ib_104 ?_
                    refine lv_icmp_ne (tgt := 157) hx hb dX9_readsBuyer_150 (by decide) (fun h70 => ?_) (fun h70 => ?_)
                    · have hf := it_f h70 hf
                      refine lv_iconst (v := 2) hx hb dX9_readsBuyer_157 ic_2 ?_
                      obtain ⟨g71, hf⟩ := gd_inv hf
                      refine ms_13 C hw g71 dX9_readsBuyer_158 (fun H locs hw => ?_)
                      refine lv_aload_n hx hb dX9_readsBuyer_159 rfl (lv_at hl 3 rfl) ?_
                      refine mg_14 C hw dX9_readsBuyer_160 ?_
                      refine lv_aload_n hx hb dX9_readsBuyer_163 rfl (lv_at hl 3 rfl) ?_
                      refine mg_12 C hw dX9_readsBuyer_164 ?_
                      refine lv_bipush (v := 10) hx hb dX9_readsBuyer_167 ib_10 ?_
                      refine lv_iload hx hb dX9_readsBuyer_169 (lv_at hl 1 rfl) ?_
                      refine lv_imul hx hb dX9_readsBuyer_171 ?_
                      refine lv_iload hx hb dX9_readsBuyer_172 (lv_at hl 0 rfl) ?_
                      refine lv_iadd hx hb dX9_readsBuyer_174 ?_
                      obtain ⟨g72, hf⟩ := gd_inv hf
                      refine ms_14 C hw g72 dX9_readsBuyer_175 (fun H locs hw => ?_)
                      refine lv_aload_n hx hb dX9_readsBuyer_176 rfl (lv_at hl 3 rfl) ?_
                      refine lv_dup hx hb dX9_readsBuyer_177 rfl ?_
                      refine mg_12 C hw dX9_readsBuyer_178 ?_
                      refine lv_iconst (v := 1) hx hb dX9_readsBuyer_181 ic_1 ?_
                      refine lv_iadd hx hb dX9_readsBuyer_182 ?_
                      refine mp_12 C hw dX9_readsBuyer_183 (fun H locs hw => ?_)
                      refine lv_iconst (v := 1) hx hb dX9_readsBuyer_186 ic_1 ?_
                      obtain rfl := Option.some.inj hf
                      exact qt_z C hr hlocks (Or.inr rfl) hw dX9_readsBuyer_187
                    · have hf := it_t h70 hf
                      refine lv_iconst (v := 1) hx hb dX9_readsBuyer_153 ic_1 ?_
                      refine lv_goto (tgt := 158) hx hb dX9_readsBuyer_154 (by decide) ?_
                      obtain ⟨g73, hf⟩ := gd_inv hf
                      refine ms_13 C hw g73 dX9_readsBuyer_158 (fun H locs hw => ?_)
                      refine lv_aload_n hx hb dX9_readsBuyer_159 rfl (lv_at hl 3 rfl) ?_
                      refine mg_14 C hw dX9_readsBuyer_160 ?_
                      refine lv_aload_n hx hb dX9_readsBuyer_163 rfl (lv_at hl 3 rfl) ?_
                      refine mg_12 C hw dX9_readsBuyer_164 ?_
                      refine lv_bipush (v := 10) hx hb dX9_readsBuyer_167 ib_10 ?_
                      refine lv_iload hx hb dX9_readsBuyer_169 (lv_at hl 1 rfl) ?_
                      refine lv_imul hx hb dX9_readsBuyer_171 ?_
                      refine lv_iload hx hb dX9_readsBuyer_172 (lv_at hl 0 rfl) ?_
                      refine lv_iadd hx hb dX9_readsBuyer_174 ?_
                      obtain ⟨g74, hf⟩ := gd_inv hf
                      refine ms_14 C hw g74 dX9_readsBuyer_175 (fun H locs hw => ?_)
                      refine lv_aload_n hx hb dX9_readsBuyer_176 rfl (lv_at hl 3 rfl) ?_
                      refine lv_dup hx hb dX9_readsBuyer_177 rfl ?_
                      refine mg_12 C hw dX9_readsBuyer_178 ?_
                      refine lv_iconst (v := 1) hx hb dX9_readsBuyer_181 ic_1 ?_
                      refine lv_iadd hx hb dX9_readsBuyer_182 ?_
                      refine mp_12 C hw dX9_readsBuyer_183 (fun H locs hw => ?_)
                      refine lv_iconst (v := 1) hx hb dX9_readsBuyer_186 ic_1 ?_
                      obtain rfl := Option.some.inj hf
                      exact qt_z C hr hlocks (Or.inr rfl) hw dX9_readsBuyer_187
                  · have hf := it_t h69 hf
                    refine lv_iconst (v := 0) hx hb dX9_readsBuyer_143 ic_0 ?_
                    refine lv_goto (tgt := 158) hx hb dX9_readsBuyer_144 (by decide) ?_
                    obtain ⟨g75, hf⟩ := gd_inv hf
                    refine ms_13 C hw g75 dX9_readsBuyer_158 (fun H locs hw => ?_)
                    refine lv_aload_n hx hb dX9_readsBuyer_159 rfl (lv_at hl 3 rfl) ?_
                    refine mg_14 C hw dX9_readsBuyer_160 ?_
                    refine lv_aload_n hx hb dX9_readsBuyer_163 rfl (lv_at hl 3 rfl) ?_
                    refine mg_12 C hw dX9_readsBuyer_164 ?_
                    refine lv_bipush (v := 10) hx hb dX9_readsBuyer_167 ib_10 ?_
                    refine lv_iload hx hb dX9_readsBuyer_169 (lv_at hl 1 rfl) ?_
                    refine lv_imul hx hb dX9_readsBuyer_171 ?_
                    refine lv_iload hx hb dX9_readsBuyer_172 (lv_at hl 0 rfl) ?_
                    refine lv_iadd hx hb dX9_readsBuyer_174 ?_
                    obtain ⟨g76, hf⟩ := gd_inv hf
                    refine ms_14 C hw g76 dX9_readsBuyer_175 (fun H locs hw => ?_)
                    refine lv_aload_n hx hb dX9_readsBuyer_176 rfl (lv_at hl 3 rfl) ?_
                    refine lv_dup hx hb dX9_readsBuyer_177 rfl ?_
                    refine mg_12 C hw dX9_readsBuyer_178 ?_
                    refine lv_iconst (v := 1) hx hb dX9_readsBuyer_181 ic_1 ?_
                    refine lv_iadd hx hb dX9_readsBuyer_182 ?_
                    refine mp_12 C hw dX9_readsBuyer_183 (fun H locs hw => ?_)
                    refine lv_iconst (v := 1) hx hb dX9_readsBuyer_186 ic_1 ?_
                    obtain rfl := Option.some.inj hf
                    exact qt_z C hr hlocks (Or.inr rfl) hw dX9_readsBuyer_187
                · have hf := it_f h68 hf
                  refine lv_iconst (v := 0) hx hb dX9_readsBuyer_127 ic_0 ?_
                  obtain rfl := Option.some.inj hf
                  exact qt_z C hr hlocks (Or.inl rfl) hw dX9_readsBuyer_128
              · have hf := it_t h65 hf
                refine lv_iconst (v := 1) hx hb dX9_readsBuyer_110 ic_1 ?_
                refine lv_goto (tgt := 115) hx hb dX9_readsBuyer_111 (by decide) ?_
                refine lv_bipush (v := 9) hx hb dX9_readsBuyer_115 ib_9 ?_
                obtain ⟨r77, e78, hf⟩ := bd hf
                refine ct_V1 (q0 := 0) (ci := 9) (rest := []) C hw hA (kX9_figure l D cI cB cS a0 am e78) cfX9_figure tg_771 tg_773 ts_yX9_figure ⟨(Nat.le_of_ble_eq_true rfl), (Nat.le_of_ble_eq_true rfl)⟩ ⟨(Nat.le_of_ble_eq_true rfl), (Nat.le_of_ble_eq_true rfl)⟩ rfl rfl rfl rfl hl.1 rfl (Nat.le_of_ble_eq_true rfl) dX9_readsBuyer_117 (fun H locs hw => ?_)
                refine lv_istore (lv' := [(5, .int r77.1), (4, .int r62.1), (3, .int r5), (0, .ref a0), (1, .int p1), (2, .int p2)]) hx hb dX9_readsBuyer_120 hl (by decide) rfl (fun ls hl => ?_)
                refine lv_iload hx hb dX9_readsBuyer_122 (lv_at hl 0 rfl) ?_
                refine lv_if_ge (tgt := 129) hx hb dX9_readsBuyer_124 (by decide) (fun h79 => ?_) (fun h79 => ?_)
                · have hf := it_t h79 hf
                  refine lv_aload_n hx hb dX9_readsBuyer_129 rfl (lv_at hl 3 rfl) ?_
                  refine mg_13 C hw dX9_readsBuyer_130 ?_
                  refine lv_aload_n hx hb dX9_readsBuyer_133 rfl (lv_at hl 3 rfl) ?_
                  refine mg_12 C hw dX9_readsBuyer_134 ?_
                  refine lv_iload_n hx hb dX9_readsBuyer_137 rfl (lv_at hl 2 rfl) ?_
                  refine lv_bipush (v := 98) hx hb dX9_readsBuyer_138 ib_98 ?_
                  refine lv_icmp_ne (tgt := 147) hx hb dX9_readsBuyer_140 (by decide) (fun h80 => ?_) (fun h80 => ?_)
                  · have hf := it_f h80 hf
                    refine lv_iload_n hx hb dX9_readsBuyer_147 rfl (lv_at hl 2 rfl) ?_
                    refine lv_bipush (v := 104) hx hb dX9_readsBuyer_148 ib_104 ?_
                    refine lv_icmp_ne (tgt := 157) hx hb dX9_readsBuyer_150 (by decide) (fun h81 => ?_) (fun h81 => ?_)
                    · have hf := it_f h81 hf
                      refine lv_iconst (v := 2) hx hb dX9_readsBuyer_157 ic_2 ?_
                      obtain ⟨g82, hf⟩ := gd_inv hf
                      refine ms_13 C hw g82 dX9_readsBuyer_158 (fun H locs hw => ?_)
                      refine lv_aload_n hx hb dX9_readsBuyer_159 rfl (lv_at hl 3 rfl) ?_
                      refine mg_14 C hw dX9_readsBuyer_160 ?_
                      refine lv_aload_n hx hb dX9_readsBuyer_163 rfl (lv_at hl 3 rfl) ?_
                      refine mg_12 C hw dX9_readsBuyer_164 ?_
                      refine lv_bipush (v := 10) hx hb dX9_readsBuyer_167 ib_10 ?_
                      refine lv_iload hx hb dX9_readsBuyer_169 (lv_at hl 1 rfl) ?_
                      refine lv_imul hx hb dX9_readsBuyer_171 ?_
                      refine lv_iload hx hb dX9_readsBuyer_172 (lv_at hl 0 rfl) ?_
                      refine lv_iadd hx hb dX9_readsBuyer_174 ?_
                      obtain ⟨g83, hf⟩ := gd_inv hf
                      refine ms_14 C hw g83 dX9_readsBuyer_175 (fun H locs hw => ?_)
                      refine lv_aload_n hx hb dX9_readsBuyer_176 rfl (lv_at hl 3 rfl) ?_
                      refine lv_dup hx hb dX9_readsBuyer_177 rfl ?_
                      refine mg_12 C hw dX9_readsBuyer_178 ?_
                      refine lv_iconst (v := 1) hx hb dX9_readsBuyer_181 ic_1 ?_
                      refine lv_iadd hx hb dX9_readsBuyer_182 ?_
                      refine mp_12 C hw dX9_readsBuyer_183 (fun H locs hw => ?_)
                      refine lv_iconst (v := 1) hx hb dX9_readsBuyer_186 ic_1 ?_
                      obtain rfl := Option.some.inj hf
                      exact qt_z C hr hlocks (Or.inr rfl) hw dX9_readsBuyer_187
                    · have hf := it_t h81 hf
                      refine lv_iconst (v := 1) hx hb dX9_readsBuyer_153 ic_1 ?_
                      refine lv_goto (tgt := 158) hx hb dX9_readsBuyer_154 (by decide) ?_
                      obtain ⟨g84, hf⟩ := gd_inv hf
                      refine ms_13 C hw g84 dX9_readsBuyer_158 (fun H locs hw => ?_)
                      refine lv_aload_n hx hb dX9_readsBuyer_159 rfl (lv_at hl 3 rfl) ?_
                      refine mg_14 C hw dX9_readsBuyer_160 ?_
                      refine lv_aload_n hx hb dX9_readsBuyer_163 rfl (lv_at hl 3 rfl) ?_
                      refine mg_12 C hw dX9_readsBuyer_164 ?_
                      refine lv_bipush (v := 10) hx hb dX9_readsBuyer_167 ib_10 ?_
                      refine lv_iload hx hb dX9_readsBuyer_169 (lv_at hl 1 rfl) ?_
                      refine lv_imul hx hb dX9_readsBuyer_171 ?_
                      refine lv_iload hx hb dX9_readsBuyer_172 (lv_at hl 0 rfl) ?_
                      refine lv_iadd hx hb dX9_readsBuyer_174 ?_
                      obtain ⟨g85, hf⟩ := gd_inv hf
                      refine ms_14 C hw g85 dX9_readsBuyer_175 (fun H locs hw => ?_)
                      refine lv_aload_n hx hb dX9_readsBuyer_176 rfl (lv_at hl 3 rfl) ?_
                      refine lv_dup hx hb dX9_readsBuyer_177 rfl ?_
                      refine mg_12 C hw dX9_readsBuyer_178 ?_
                      refine lv_iconst (v := 1) hx hb dX9_readsBuyer_181 ic_1 ?_
                      refine lv_iadd hx hb dX9_readsBuyer_182 ?_
                      refine mp_12 C hw dX9_readsBuyer_183 (fun H locs hw => ?_)
                      refine lv_iconst (v := 1) hx hb dX9_readsBuyer_186 ic_1 ?_
                      obtain rfl := Option.some.inj hf
                      exact qt_z C hr hlocks (Or.inr rfl) hw dX9_readsBuyer_187
                  · have hf := it_t h80 hf
                    refine lv_iconst (v := 0) hx hb dX9_readsBuyer_143 ic_0 ?_
                    refine lv_goto (tgt := 158) hx hb dX9_readsBuyer_144 (by decide) ?_
                    obtain ⟨g86, hf⟩ := gd_inv hf
                    refine ms_13 C hw g86 dX9_readsBuyer_158 (fun H locs hw => ?_)
                    refine lv_aload_n hx hb dX9_readsBuyer_159 rfl (lv_at hl 3 rfl) ?_
                    refine mg_14 C hw dX9_readsBuyer_160 ?_
                    refine lv_aload_n hx hb dX9_readsBuyer_163 rfl (lv_at hl 3 rfl) ?_
                    refine mg_12 C hw dX9_readsBuyer_164 ?_
                    refine lv_bipush (v := 10) hx hb dX9_readsBuyer_167 ib_10 ?_
                    refine lv_iload hx hb dX9_readsBuyer_169 (lv_at hl 1 rfl) ?_
                    refine lv_imul hx hb dX9_readsBuyer_171 ?_
                    refine lv_iload hx hb dX9_readsBuyer_172 (lv_at hl 0 rfl) ?_
                    refine lv_iadd hx hb dX9_readsBuyer_174 ?_
                    obtain ⟨g87, hf⟩ := gd_inv hf
                    refine ms_14 C hw g87 dX9_readsBuyer_175 (fun H locs hw => ?_)
                    refine lv_aload_n hx hb dX9_readsBuyer_176 rfl (lv_at hl 3 rfl) ?_
                    refine lv_dup hx hb dX9_readsBuyer_177 rfl ?_
                    refine mg_12 C hw dX9_readsBuyer_178 ?_
                    refine lv_iconst (v := 1) hx hb dX9_readsBuyer_181 ic_1 ?_
                    refine lv_iadd hx hb dX9_readsBuyer_182 ?_
                    refine mp_12 C hw dX9_readsBuyer_183 (fun H locs hw => ?_)
                    refine lv_iconst (v := 1) hx hb dX9_readsBuyer_186 ic_1 ?_
                    obtain rfl := Option.some.inj hf
                    exact qt_z C hr hlocks (Or.inr rfl) hw dX9_readsBuyer_187
                · have hf := it_f h79 hf
                  refine lv_iconst (v := 0) hx hb dX9_readsBuyer_127 ic_0 ?_
                  obtain rfl := Option.some.inj hf
                  exact qt_z C hr hlocks (Or.inl rfl) hw dX9_readsBuyer_128
            · have hf := it_f h64 hf
              refine lv_bipush (v := (-9)) hx hb dX9_readsBuyer_97 ib_m9 ?_
              refine lv_goto (tgt := 120) hx hb dX9_readsBuyer_99 (by decide) ?_
              refine lv_istore (lv' := [(5, .int (-9)), (4, .int r62.1), (3, .int r5), (0, .ref a0), (1, .int p1), (2, .int p2)]) hx hb dX9_readsBuyer_120 hl (by decide) rfl (fun ls hl => ?_)
              refine lv_iload hx hb dX9_readsBuyer_122 (lv_at hl 0 rfl) ?_
              refine lv_if_ge (tgt := 129) hx hb dX9_readsBuyer_124 (by decide) (fun hz => absurd hz (by decide)) (fun _ => ?_)
              refine lv_iconst (v := 0) hx hb dX9_readsBuyer_127 ic_0 ?_
              obtain rfl := Option.some.inj hf
              exact qt_z C hr hlocks (Or.inl rfl) hw dX9_readsBuyer_128
          · have hf := it_f h61 hf
            refine lv_iconst (v := 0) hx hb dX9_readsBuyer_69 ic_0 ?_
            obtain rfl := Option.some.inj hf
            exact qt_z C hr hlocks (Or.inl rfl) hw dX9_readsBuyer_70
    · have hf := it_f h4 hf
      refine lv_iconst (v := 0) hx hb dX9_readsBuyer_32 ic_0 ?_
      obtain rfl := Option.some.inj hf
      exact qt_z C hr hlocks (Or.inl rfl) hw dX9_readsBuyer_33
theorem cfX9_readsHall : cf yX9_readsHall cX9_readsHall 4 (some .boolean) 2 := ⟨tg_766, by decide +kernel, tg_7⟩
set_option maxHeartbeats 4000000 in
theorem wX9_readsHall_104 {p : Program} {l : Launch} {e : Env} {s : State} {m : MethodId} {args : Array Value} {below : List Frame} {meth : Method} {c : Code} {D : va_G} {cI cB cS : ClassId} {a0 : Nat} {am : Nat → Nat} {ws0 : va_W} {v1 : Int32} {v2 : Int32} (C : cx p c cX9_readsHall 4 s args m RX9 D cI cB cS) (hr : meth.sig.returnType = (some .boolean)) (hlocks : meth.locks = false) (hA : ∀ q, s.heap.size ≤ q → va_A ws0 s.heap.size q) {k : Int32 → MS → Option (Int32 × MS)} {q : (Int32 × MS)}
    (hcg : True) : ∀ (fu : Nat) (v3 : Int32) (M : MS) (H : Heap) (locs : List Loc) (ls : Array Slot), wd D (va_A ws0 s.heap.size) s.heap (mW cI a0 am M) H locs → lv_has ls 4 [(0, .ref a0), (1, .int v1), (2, .int v2), (3, .int v3)] → fX9_readsHall_104 fu k v1 v2 v3 M = some q →
    (∀ (x3 : Int32) (M1 : MS) (H : Heap) (locs : List Loc) (ls : Array Slot), wd D (va_A ws0 s.heap.size) s.heap (mW cI a0 am M1) H locs → lv_has ls 4 [(3, .int x3)] → k x3 M1 = some q → W p l e { frames := 3, cells := 0, slots := 0, locals := 76 } s m args below meth c H locs 0 0 (Qt D below args s ws0 (some (.int q.1)) (mW cI a0 am q.2)) (F0 m 134 ls [])) →
    W p l e { frames := 3, cells := 0, slots := 0, locals := 76 } s m args below meth c H locs 0 0 (Qt D below args s ws0 (some (.int q.1)) (mW cI a0 am q.2)) (F0 m 104 ls []) := by
  have hx := C.1
  have hb := C.2.1
  intro fu
  induction fu with
  | zero => intro v3 M H locs ls hw hl hf hk; rw [fX9_readsHall_104] at hf; cases hf
  | succ fu ih =>
      intro v3 M H locs ls hw hl hf hk
      rw [fX9_readsHall_104] at hf
      refine lv_iload_n hx hb dX9_readsHall_104 rfl (lv_at hl 3 rfl) ?_
      refine lv_if_eq (tgt := 134) hx hb dX9_readsHall_105 (by decide) (fun h6 => ?_) (fun h6 => ?_)
      · have hf := it_t h6 hf
        exact hk _ _ _ _ _ hw (lv_sub hl [3] rfl) hf
      · have hf := it_f h6 hf
        refine lv_aload_n hx hb dX9_readsHall_108 rfl (lv_at hl 0 rfl) ?_
        refine mg_12 C hw dX9_readsHall_109 ?_
        refine lv_iconst (v := 2) hx hb dX9_readsHall_112 ic_2 ?_
        refine lv_icmp_lt (tgt := 124) hx hb dX9_readsHall_113 (by decide) (fun h7 => ?_) (fun h7 => ?_)
        · have hf := it_t h7 hf
          refine lv_aload_n hx hb dX9_readsHall_124 rfl (lv_at hl 0 rfl) ?_
          refine lv_iload_n hx hb dX9_readsHall_125 rfl (lv_at hl 1 rfl) ?_
          refine lv_iload_n hx hb dX9_readsHall_126 rfl (lv_at hl 2 rfl) ?_
          obtain ⟨r8, e9, hf⟩ := bd hf
          refine ct_V1 (q0 := 0) (ci := 9) (rest := []) C hw hA (kX9_readsBuyer l D cI cB cS a0 am e9) cfX9_readsBuyer tg_775 tg_777 ts_yX9_readsBuyer ⟨(Nat.le_of_ble_eq_true rfl), (Nat.le_of_ble_eq_true rfl)⟩ ⟨(Nat.le_of_ble_eq_true rfl), (Nat.le_of_ble_eq_true rfl)⟩ rfl rfl rfl rfl hl.1 rfl (Nat.le_of_ble_eq_true rfl) dX9_readsHall_127 (fun H locs hw => ?_)
          refine lv_istore_n (lv' := [(3, .int r8.1), (0, .ref a0), (1, .int v1), (2, .int v2)]) hx hb dX9_readsHall_130 rfl hl (by decide) rfl (fun ls hl => ?_)
          refine lv_goto (tgt := 104) hx hb dX9_readsHall_131 (by decide) ?_
          exact ih _ _ _ _ _ hw (lv_sub hl [1, 2, 3, 0] rfl) hf hk
        · have hf := it_f h7 hf
          refine lv_aload_n hx hb dX9_readsHall_116 rfl (lv_at hl 0 rfl) ?_
          refine mg_9 C hw dX9_readsHall_117 ?_
          refine lv_iload_n hx hb dX9_readsHall_120 rfl (lv_at hl 2 rfl) ?_
          refine lv_icmp_ge (tgt := 134) hx hb dX9_readsHall_121 (by decide) (fun h10 => ?_) (fun h10 => ?_)
          · have hf := it_t h10 hf
            exact hk _ _ _ _ _ hw (lv_sub hl [3] rfl) hf
          · have hf := it_f h10 hf
            refine lv_aload_n hx hb dX9_readsHall_124 rfl (lv_at hl 0 rfl) ?_
            refine lv_iload_n hx hb dX9_readsHall_125 rfl (lv_at hl 1 rfl) ?_
            refine lv_iload_n hx hb dX9_readsHall_126 rfl (lv_at hl 2 rfl) ?_
            obtain ⟨r11, e12, hf⟩ := bd hf
            refine ct_V1 (q0 := 0) (ci := 9) (rest := []) C hw hA (kX9_readsBuyer l D cI cB cS a0 am e12) cfX9_readsBuyer tg_775 tg_777 ts_yX9_readsBuyer ⟨(Nat.le_of_ble_eq_true rfl), (Nat.le_of_ble_eq_true rfl)⟩ ⟨(Nat.le_of_ble_eq_true rfl), (Nat.le_of_ble_eq_true rfl)⟩ rfl rfl rfl rfl hl.1 rfl (Nat.le_of_ble_eq_true rfl) dX9_readsHall_127 (fun H locs hw => ?_)
            refine lv_istore_n (lv' := [(3, .int r11.1), (0, .ref a0), (1, .int v1), (2, .int v2)]) hx hb dX9_readsHall_130 rfl hl (by decide) rfl (fun ls hl => ?_)
            refine lv_goto (tgt := 104) hx hb dX9_readsHall_131 (by decide) ?_
            exact ih _ _ _ _ _ hw (lv_sub hl [1, 2, 3, 0] rfl) hf hk
set_option maxHeartbeats 4000000 in
theorem kX9_readsHall (l : Launch) (D : va_G) (cI cB cS : ClassId) (a0 : Nat) (am : Nat → Nat) {p1 : Int32} {p2 : Int32} {M : MS} {q : (Int32 × MS)} (hf : fX9_readsHall p1 p2 M = some q) : Ct l D cI cB cS yX9_readsHall cX9_readsHall 4 (some .boolean) 3 76 [.ref a0, .int p1, .int p2] (mW cI a0 am M) (some (.int q.1)) (mW cI a0 am q.2) := by
  refine Ct.ofW (by decide) (Nat.le_of_ble_eq_true rfl) ?_
  intro p e s m args below meth c ls C hr hlocks _ hw hl
  have hx := C.1
  have hb := C.2.1
  have hA : ∀ q, s.heap.size ≤ q → va_A (mW cI a0 am M) s.heap.size q := fun q h => Or.inr h
  have hcg := trivial
  have hl : lv_has ls 4 [(0, .ref a0), (1, .int p1), (2, .int p2)] := hl
  unfold fX9_readsHall at hf
  refine lv_aload_n hx hb dX9_readsHall_0 rfl (lv_at hl 0 rfl) ?_
  refine lv_iconst (v := 0) hx hb dX9_readsHall_1 ic_0 ?_
  refine mp_9 C hw dX9_readsHall_2 (fun H locs hw => ?_)
  refine lv_aload_n hx hb dX9_readsHall_5 rfl (lv_at hl 0 rfl) ?_
  refine lv_iconst (v := 0) hx hb dX9_readsHall_6 ic_0 ?_
  refine mp_12 C hw dX9_readsHall_7 (fun H locs hw => ?_)
  refine lv_aload_n hx hb dX9_readsHall_10 rfl (lv_at hl 0 rfl) ?_
  refine lv_iload_n hx hb dX9_readsHall_11 rfl (lv_at hl 1 rfl) ?_
  refine lv_iload_n hx hb dX9_readsHall_12 rfl (lv_at hl 2 rfl) ?_
  obtain ⟨r1, e2, hf⟩ := bd hf
  refine ct_V1 (q0 := 0) (ci := 9) (rest := []) C hw hA (kX9_codeAt l D cI cB cS a0 am e2) cfX9_codeAt tg_767 tg_769 ts_yX9_codeAt ⟨(Nat.le_of_ble_eq_true rfl), (Nat.le_of_ble_eq_true rfl)⟩ ⟨(Nat.le_of_ble_eq_true rfl), (Nat.le_of_ble_eq_true rfl)⟩ rfl rfl rfl rfl hl.1 rfl (Nat.le_of_ble_eq_true rfl) dX9_readsHall_13 (fun H locs hw => ?_)
  refine lv_bipush (v := 97) hx hb dX9_readsHall_16 ib_97 ?_
  refine lv_icmp_ne (tgt := 25) hx hb dX9_readsHall_18 (by decide) (fun h3 => ?_) (fun h3 => ?_)
  · have hf := it_f h3 hf
    refine lv_iconst (v := 0) hx hb dX9_readsHall_25 ic_0 ?_
    refine lv_istore_n (lv' := [(3, .int 0), (0, .ref a0), (1, .int p1), (2, .int p2)]) hx hb dX9_readsHall_26 rfl hl (by decide) rfl (fun ls hl => ?_)
    refine lv_aload_n hx hb dX9_readsHall_27 rfl (lv_at hl 1 rfl) ?_
    refine lv_dup hx hb dX9_readsHall_28 rfl ?_
    refine mg_9 C hw dX9_readsHall_29 ?_
    refine lv_iload_n hx hb dX9_readsHall_32 rfl (lv_at hl 0 rfl) ?_
    refine lv_if_eq (tgt := 40) hx hb dX9_readsHall_33 (by decide) (fun _ => ?_) (fun hz => absurd hz (by decide))
    refine lv_iconst (v := 0) hx hb dX9_readsHall_40 ic_0 ?_
    refine lv_iadd hx hb dX9_readsHall_41 ?_
    refine mp_9 C hw dX9_readsHall_42 (fun H locs hw => ?_)
    refine lv_aload_n hx hb dX9_readsHall_45 rfl (lv_at hl 1 rfl) ?_
    refine lv_iload_n hx hb dX9_readsHall_46 rfl (lv_at hl 0 rfl) ?_
    refine lv_if_eq (tgt := 61) hx hb dX9_readsHall_47 (by decide) (fun _ => ?_) (fun hz => absurd hz (by decide))
    refine lv_bipush (v := (-9)) hx hb dX9_readsHall_61 ib_m9 ?_
    refine mp_10 C hw dX9_readsHall_63 (fun H locs hw => ?_)
    refine lv_aload_n hx hb dX9_readsHall_66 rfl (lv_at hl 1 rfl) ?_
    refine lv_aload_n hx hb dX9_readsHall_67 rfl (lv_at hl 1 rfl) ?_
    refine mg_10 C hw dX9_readsHall_68 ?_
    refine lv_if_le (tgt := 86) hx hb dX9_readsHall_71 (by decide) (fun h4 => ?_) (fun h4 => ?_)
    · have hf := it_t h4 hf
      refine lv_bipush (v := (-9)) hx hb dX9_readsHall_86 ib_m9 ?_
      refine mp_11 C hw dX9_readsHall_88 (fun H locs hw => ?_)
      refine lv_aload_n hx hb dX9_readsHall_91 rfl (lv_at hl 1 rfl) ?_
      refine mg_11 C hw dX9_readsHall_92 ?_
      refine lv_if_le (tgt := 102) hx hb dX9_readsHall_95 (by decide) (fun h5 => ?_) (fun h5 => ?_)
      · have hf := it_t h5 hf
        refine lv_iconst (v := 0) hx hb dX9_readsHall_102 ic_0 ?_
        refine lv_istore_n (lv' := [(3, .int 0), (0, .ref a0), (1, .int p1), (2, .int p2)]) hx hb dX9_readsHall_103 rfl hl (by decide) rfl (fun ls hl => ?_)
        refine wX9_readsHall_104 C hr hlocks hA hcg 300 _ _ _ _ _ hw (lv_sub hl [1, 2, 3, 0] rfl) hf (fun x13 M14 H locs ls hw hl hf => ?_)
        refine lv_iload_n hx hb dX9_readsHall_134 rfl (lv_at hl 0 rfl) ?_
        obtain ⟨z15, hf⟩ := zb_inv hf
        obtain rfl := Option.some.inj hf
        exact qt_z C hr hlocks z15 hw dX9_readsHall_135
      · have hf := it_f h5 hf
        refine lv_iconst (v := 1) hx hb dX9_readsHall_98 ic_1 ?_
        refine lv_goto (tgt := 103) hx hb dX9_readsHall_99 (by decide) ?_
        refine lv_istore_n (lv' := [(3, .int 1), (0, .ref a0), (1, .int p1), (2, .int p2)]) hx hb dX9_readsHall_103 rfl hl (by decide) rfl (fun ls hl => ?_)
        refine wX9_readsHall_104 C hr hlocks hA hcg 300 _ _ _ _ _ hw (lv_sub hl [1, 2, 3, 0] rfl) hf (fun x16 M17 H locs ls hw hl hf => ?_)
        refine lv_iload_n hx hb dX9_readsHall_134 rfl (lv_at hl 0 rfl) ?_
        obtain ⟨z18, hf⟩ := zb_inv hf
        obtain rfl := Option.some.inj hf
        exact qt_z C hr hlocks z18 hw dX9_readsHall_135
    · have hf := it_f h4 hf
      refine lv_aload_n hx hb dX9_readsHall_74 rfl (lv_at hl 1 rfl) ?_
      refine lv_iload_n hx hb dX9_readsHall_75 rfl (lv_at hl 2 rfl) ?_
      refine lv_iload_n hx hb dX9_readsHall_76 rfl (lv_at hl 3 rfl) ?_
      refine lv_iconst (v := 2) hx hb dX9_readsHall_77 ic_2 ?_
      refine lv_bipush (v := 6) hx hb dX9_readsHall_78 ib_6 ?_
      obtain ⟨r19, e20, hf⟩ := bd hf
      refine ct_V1 (q0 := 0) (ci := 9) (rest := [.ref a0]) C hw hA (kX9_figure l D cI cB cS a0 am e20) cfX9_figure tg_771 tg_773 ts_yX9_figure ⟨(Nat.le_of_ble_eq_true rfl), (Nat.le_of_ble_eq_true rfl)⟩ ⟨(Nat.le_of_ble_eq_true rfl), (Nat.le_of_ble_eq_true rfl)⟩ rfl rfl rfl rfl hl.1 rfl (Nat.le_of_ble_eq_true rfl) dX9_readsHall_80 (fun H locs hw => ?_)
      refine lv_goto (tgt := 88) hx hb dX9_readsHall_83 (by decide) ?_
      refine mp_11 C hw dX9_readsHall_88 (fun H locs hw => ?_)
      refine lv_aload_n hx hb dX9_readsHall_91 rfl (lv_at hl 1 rfl) ?_
      refine mg_11 C hw dX9_readsHall_92 ?_
      refine lv_if_le (tgt := 102) hx hb dX9_readsHall_95 (by decide) (fun h21 => ?_) (fun h21 => ?_)
      · have hf := it_t h21 hf
        refine lv_iconst (v := 0) hx hb dX9_readsHall_102 ic_0 ?_
        refine lv_istore_n (lv' := [(3, .int 0), (0, .ref a0), (1, .int p1), (2, .int p2)]) hx hb dX9_readsHall_103 rfl hl (by decide) rfl (fun ls hl => ?_)
        refine wX9_readsHall_104 C hr hlocks hA hcg 300 _ _ _ _ _ hw (lv_sub hl [1, 2, 3, 0] rfl) hf (fun x22 M23 H locs ls hw hl hf => ?_)
        refine lv_iload_n hx hb dX9_readsHall_134 rfl (lv_at hl 0 rfl) ?_
        obtain ⟨z24, hf⟩ := zb_inv hf
        obtain rfl := Option.some.inj hf
        exact qt_z C hr hlocks z24 hw dX9_readsHall_135
      · have hf := it_f h21 hf
        refine lv_iconst (v := 1) hx hb dX9_readsHall_98 ic_1 ?_
        refine lv_goto (tgt := 103) hx hb dX9_readsHall_99 (by decide) ?_
        refine lv_istore_n (lv' := [(3, .int 1), (0, .ref a0), (1, .int p1), (2, .int p2)]) hx hb dX9_readsHall_103 rfl hl (by decide) rfl (fun ls hl => ?_)
        refine wX9_readsHall_104 C hr hlocks hA hcg 300 _ _ _ _ _ hw (lv_sub hl [1, 2, 3, 0] rfl) hf (fun x25 M26 H locs ls hw hl hf => ?_)
        refine lv_iload_n hx hb dX9_readsHall_134 rfl (lv_at hl 0 rfl) ?_
        obtain ⟨z27, hf⟩ := zb_inv hf
        obtain rfl := Option.some.inj hf
        exact qt_z C hr hlocks z27 hw dX9_readsHall_135
  · have hf := it_t h3 hf
    refine lv_iconst (v := 1) hx hb dX9_readsHall_21 ic_1 ?_
    refine lv_goto (tgt := 26) hx hb dX9_readsHall_22 (by decide) ?_
    refine lv_istore_n (lv' := [(3, .int 1), (0, .ref a0), (1, .int p1), (2, .int p2)]) hx hb dX9_readsHall_26 rfl hl (by decide) rfl (fun ls hl => ?_)
    refine lv_aload_n hx hb dX9_readsHall_27 rfl (lv_at hl 1 rfl) ?_
    refine lv_dup hx hb dX9_readsHall_28 rfl ?_
    refine mg_9 C hw dX9_readsHall_29 ?_
    refine lv_iload_n hx hb dX9_readsHall_32 rfl (lv_at hl 0 rfl) ?_
    refine lv_if_eq (tgt := 40) hx hb dX9_readsHall_33 (by decide) (fun hz => absurd hz (by decide)) (fun _ => ?_)
    refine lv_iconst (v := 1) hx hb dX9_readsHall_36 ic_1 ?_
    refine lv_goto (tgt := 41) hx hb dX9_readsHall_37 (by decide) ?_
    refine lv_iadd hx hb dX9_readsHall_41 ?_
    refine mp_9 C hw dX9_readsHall_42 (fun H locs hw => ?_)
    refine lv_aload_n hx hb dX9_readsHall_45 rfl (lv_at hl 1 rfl) ?_
    refine lv_iload_n hx hb dX9_readsHall_46 rfl (lv_at hl 0 rfl) ?_
    refine lv_if_eq (tgt := 61) hx hb dX9_readsHall_47 (by decide) (fun hz => absurd hz (by decide)) (fun _ => ?_)
    refine lv_aload_n hx hb dX9_readsHall_50 rfl (lv_at hl 1 rfl) ?_
    refine lv_iload_n hx hb dX9_readsHall_51 rfl (lv_at hl 2 rfl) ?_
    refine lv_iload_n hx hb dX9_readsHall_52 rfl (lv_at hl 3 rfl) ?_
    refine lv_iconst (v := 1) hx hb dX9_readsHall_53 ic_1 ?_
    refine lv_iconst (v := 4) hx hb dX9_readsHall_54 ic_4 ?_
    obtain ⟨r28, e29, hf⟩ := bd hf
    refine ct_V1 (q0 := 0) (ci := 9) (rest := [.ref a0]) C hw hA (kX9_figure l D cI cB cS a0 am e29) cfX9_figure tg_771 tg_773 ts_yX9_figure ⟨(Nat.le_of_ble_eq_true rfl), (Nat.le_of_ble_eq_true rfl)⟩ ⟨(Nat.le_of_ble_eq_true rfl), (Nat.le_of_ble_eq_true rfl)⟩ rfl rfl rfl rfl hl.1 rfl (Nat.le_of_ble_eq_true rfl) dX9_readsHall_55 (fun H locs hw => ?_)
    refine lv_goto (tgt := 63) hx hb dX9_readsHall_58 (by decide) ?_
    refine mp_10 C hw dX9_readsHall_63 (fun H locs hw => ?_)
    refine lv_aload_n hx hb dX9_readsHall_66 rfl (lv_at hl 1 rfl) ?_
    refine lv_aload_n hx hb dX9_readsHall_67 rfl (lv_at hl 1 rfl) ?_
    refine mg_10 C hw dX9_readsHall_68 ?_
    refine lv_if_le (tgt := 86) hx hb dX9_readsHall_71 (by decide) (fun h30 => ?_) (fun h30 => ?_)
    · have hf := it_t h30 hf
      refine lv_bipush (v := (-9)) hx hb dX9_readsHall_86 ib_m9 ?_
      refine mp_11 C hw dX9_readsHall_88 (fun H locs hw => ?_)
      refine lv_aload_n hx hb dX9_readsHall_91 rfl (lv_at hl 1 rfl) ?_
      refine mg_11 C hw dX9_readsHall_92 ?_
      refine lv_if_le (tgt := 102) hx hb dX9_readsHall_95 (by decide) (fun h31 => ?_) (fun h31 => ?_)
      · have hf := it_t h31 hf
        refine lv_iconst (v := 0) hx hb dX9_readsHall_102 ic_0 ?_
        refine lv_istore_n (lv' := [(3, .int 0), (0, .ref a0), (1, .int p1), (2, .int p2)]) hx hb dX9_readsHall_103 rfl hl (by decide) rfl (fun ls hl => ?_)
        refine wX9_readsHall_104 C hr hlocks hA hcg 300 _ _ _ _ _ hw (lv_sub hl [1, 2, 3, 0] rfl) hf (fun x32 M33 H locs ls hw hl hf => ?_)
        refine lv_iload_n hx hb dX9_readsHall_134 rfl (lv_at hl 0 rfl) ?_
        obtain ⟨z34, hf⟩ := zb_inv hf
        obtain rfl := Option.some.inj hf
        exact qt_z C hr hlocks z34 hw dX9_readsHall_135
      · have hf := it_f h31 hf
        refine lv_iconst (v := 1) hx hb dX9_readsHall_98 ic_1 ?_
        refine lv_goto (tgt := 103) hx hb dX9_readsHall_99 (by decide) ?_
        refine lv_istore_n (lv' := [(3, .int 1), (0, .ref a0), (1, .int p1), (2, .int p2)]) hx hb dX9_readsHall_103 rfl hl (by decide) rfl (fun ls hl => ?_)
        refine wX9_readsHall_104 C hr hlocks hA hcg 300 _ _ _ _ _ hw (lv_sub hl [1, 2, 3, 0] rfl) hf (fun x35 M36 H locs ls hw hl hf => ?_)
        refine lv_iload_n hx hb dX9_readsHall_134 rfl (lv_at hl 0 rfl) ?_
        obtain ⟨z37, hf⟩ := zb_inv hf
        obtain rfl := Option.some.inj hf
        exact qt_z C hr hlocks z37 hw dX9_readsHall_135
    · have hf := it_f h30 hf
      refine lv_aload_n hx hb dX9_readsHall_74 rfl (lv_at hl 1 rfl) ?_
      refine lv_iload_n hx hb dX9_readsHall_75 rfl (lv_at hl 2 rfl) ?_
      refine lv_iload_n hx hb dX9_readsHall_76 rfl (lv_at hl 3 rfl) ?_
      refine lv_iconst (v := 2) hx hb dX9_readsHall_77 ic_2 ?_
      refine lv_bipush (v := 6) hx hb dX9_readsHall_78 ib_6 ?_
      obtain ⟨r38, e39, hf⟩ := bd hf
      refine ct_V1 (q0 := 0) (ci := 9) (rest := [.ref a0]) C hw hA (kX9_figure l D cI cB cS a0 am e39) cfX9_figure tg_771 tg_773 ts_yX9_figure ⟨(Nat.le_of_ble_eq_true rfl), (Nat.le_of_ble_eq_true rfl)⟩ ⟨(Nat.le_of_ble_eq_true rfl), (Nat.le_of_ble_eq_true rfl)⟩ rfl rfl rfl rfl hl.1 rfl (Nat.le_of_ble_eq_true rfl) dX9_readsHall_80 (fun H locs hw => ?_)
      refine lv_goto (tgt := 88) hx hb dX9_readsHall_83 (by decide) ?_
      refine mp_11 C hw dX9_readsHall_88 (fun H locs hw => ?_)
      refine lv_aload_n hx hb dX9_readsHall_91 rfl (lv_at hl 1 rfl) ?_
      refine mg_11 C hw dX9_readsHall_92 ?_
      refine lv_if_le (tgt := 102) hx hb dX9_readsHall_95 (by decide) (fun h40 => ?_) (fun h40 => ?_)
      · have hf := it_t h40 hf
        refine lv_iconst (v := 0) hx hb dX9_readsHall_102 ic_0 ?_
        refine lv_istore_n (lv' := [(3, .int 0), (0, .ref a0), (1, .int p1), (2, .int p2)]) hx hb dX9_readsHall_103 rfl hl (by decide) rfl (fun ls hl => ?_)
        refine wX9_readsHall_104 C hr hlocks hA hcg 300 _ _ _ _ _ hw (lv_sub hl [1, 2, 3, 0] rfl) hf (fun x41 M42 H locs ls hw hl hf => ?_)
        refine lv_iload_n hx hb dX9_readsHall_134 rfl (lv_at hl 0 rfl) ?_
        obtain ⟨z43, hf⟩ := zb_inv hf
        obtain rfl := Option.some.inj hf
        exact qt_z C hr hlocks z43 hw dX9_readsHall_135
      · have hf := it_f h40 hf
        refine lv_iconst (v := 1) hx hb dX9_readsHall_98 ic_1 ?_
        refine lv_goto (tgt := 103) hx hb dX9_readsHall_99 (by decide) ?_
        refine lv_istore_n (lv' := [(3, .int 1), (0, .ref a0), (1, .int p1), (2, .int p2)]) hx hb dX9_readsHall_103 rfl hl (by decide) rfl (fun ls hl => ?_)
        refine wX9_readsHall_104 C hr hlocks hA hcg 300 _ _ _ _ _ hw (lv_sub hl [1, 2, 3, 0] rfl) hf (fun x44 M45 H locs ls hw hl hf => ?_)
        refine lv_iload_n hx hb dX9_readsHall_134 rfl (lv_at hl 0 rfl) ?_
        obtain ⟨z46, hf⟩ := zb_inv hf
        obtain rfl := Option.some.inj hf
        exact qt_z C hr hlocks z46 hw dX9_readsHall_135
