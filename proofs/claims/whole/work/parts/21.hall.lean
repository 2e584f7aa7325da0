/-! a buyer comes into the hall; the hall by a text -/
def adx (ad : Nat → Nat) (n q qa : Nat) : Nat → Nat := fun k => if k = 30 + n then q else if k = 40 + n then qa else ad k
theorem adx_lt {n q qa k : Nat} (ad : Nat → Nat) (h : k < 30) : adx ad n q qa k = ad k := by
  unfold adx
  rw [if_neg (by omega), if_neg (by omega)]
def wel (n : Nat) (kd pu : Int32) (S : MS) : MS := fun k => bif Nat.beq k 20 then upd (S 20) n kd else bif Nat.beq k 21 then upd (S 21) n pu else bif Nat.beq k 22 then upd (S 22) n (nI n) else bif Nat.beq k 23 then (fun i => if i % 6 = n then 0 else S 23 i) else S k
section WEL
variable {cI cB cS : ClassId} {n q qa : Nat} {ad : Nat → Nat} {bf : Nat → Option Nat} {S : MS} {kd pu : Int32}
theorem wel_cF : cF cI cB cS (n + 1) (adx ad n q qa) (va_up bf n (some q)) (wel n kd pu S) = cF cI cB cS (n + 1) ad (va_up bf n (some q)) S := by
  have hs : (fun j => some (adx ad n q qa (2 + j % 4))) = fun j => some (ad (2 + j % 4)) := by
    funext j
    rw [adx_lt ad (by omega)]
  unfold cF
  rw [hs]
  simp only [adx_lt (n := n) (q := q) (qa := qa) ad (show 0 < 30 by decide), adx_lt (n := n) (q := q) (qa := qa) ad (show 1 < 30 by decide), adx_lt (n := n) (q := q) (qa := qa) ad (show 2 < 30 by decide), adx_lt (n := n) (q := q) (qa := qa) ad (show 3 < 30 by decide), adx_lt (n := n) (q := q) (qa := qa) ad (show 4 < 30 by decide), adx_lt (n := n) (q := q) (qa := qa) ad (show 5 < 30 by decide), adx_lt (n := n) (q := q) (qa := qa) ad (show 6 < 30 by decide), adx_lt (n := n) (q := q) (qa := qa) ad (show 7 < 30 by decide), adx_lt (n := n) (q := q) (qa := qa) ad (show 8 < 30 by decide), adx_lt (n := n) (q := q) (qa := qa) ad (show 9 < 30 by decide), adx_lt (n := n) (q := q) (qa := qa) ad (show 10 < 30 by decide), adx_lt (n := n) (q := q) (qa := qa) ad (show 11 < 30 by decide), adx_lt (n := n) (q := q) (qa := qa) ad (show 12 < 30 by decide), adx_lt (n := n) (q := q) (qa := qa) ad (show 13 < 30 by decide), adx_lt (n := n) (q := q) (qa := qa) ad (show 14 < 30 by decide), adx_lt (n := n) (q := q) (qa := qa) ad (show 15 < 30 by decide), adx_lt (n := n) (q := q) (qa := qa) ad (show 16 < 30 by decide), adx_lt (n := n) (q := q) (qa := qa) ad (show 17 < 30 by decide), adx_lt (n := n) (q := q) (qa := qa) ad (show 18 < 30 by decide), adx_lt (n := n) (q := q) (qa := qa) ad (show 19 < 30 by decide), adx_lt (n := n) (q := q) (qa := qa) ad (show 20 < 30 by decide), adx_lt (n := n) (q := q) (qa := qa) ad (show 21 < 30 by decide)]
  rfl
theorem wel_bO (hn : n < 6) : bO (n + 1) (adx ad n q qa) (wel n kd pu S) = bO n ad S ++ [(q, .inr (kcls kd, [.int (nI n), .int pu, .ref qa, .int (nI n)]))] := by
  unfold bO
  rw [List.range_succ, List.map_append]
  congr 1
  · refine List.map_congr_left fun b hb => ?_
    have hb := List.mem_range.mp hb
    have e1 : adx ad n q qa (30 + b) = ad (30 + b) := by unfold adx; rw [if_neg (by omega), if_neg (by omega)]
    have e2 : adx ad n q qa (40 + b) = ad (40 + b) := by unfold adx; rw [if_neg (by omega), if_neg (by omega)]
    have e3 : wel n kd pu S 20 b = S 20 b := if_neg (by omega)
    have e4 : wel n kd pu S 21 b = S 21 b := if_neg (by omega)
    have e5 : wel n kd pu S 22 b = S 22 b := if_neg (by omega)
    rw [e1, e2, e3, e4, e5]
  · have e1 : adx ad n q qa (30 + n) = q := if_pos rfl
    have e2 : adx ad n q qa (40 + n) = qa := by unfold adx; rw [if_neg (by omega), if_pos rfl]
    have e3 : wel n kd pu S 20 n = kd := if_pos rfl
    have e4 : wel n kd pu S 21 n = pu := if_pos rfl
    have e5 : wel n kd pu S 22 n = nI n := if_pos rfl
    rw [List.map_singleton, e1, e2, e3, e4, e5]
theorem wel_bA (hn : n < 6) : bA cI (n + 1) (adx ad n q qa) (wel n kd pu S) = bA cI n ad S ++ [(qa, .inl (cI, 4, .inl (fun _ => 0)))] := by
  unfold bA
  rw [List.range_succ, List.map_append]
  congr 1
  · refine List.map_congr_left fun b hb => ?_
    have hb := List.mem_range.mp hb
    have e2 : adx ad n q qa (40 + b) = ad (40 + b) := by unfold adx; rw [if_neg (by omega), if_neg (by omega)]
    have e3 : (fun j => wel n kd pu S 23 (6 * j + b)) = fun j => S 23 (6 * j + b) := by
      funext j
      exact if_neg (by omega)
    rw [e2, e3]
  · have e2 : adx ad n q qa (40 + n) = qa := by unfold adx; rw [if_neg (by omega), if_pos rfl]
    have e3 : (fun j => wel n kd pu S 23 (6 * j + n)) = fun _ => 0 := by
      funext j
      exact if_pos (by omega)
    rw [List.map_singleton, e2, e3]
theorem wel_perm (hn : n < 6) : ((cF cI cB cS (n + 1) ad (va_up bf n (some q)) S ++ (bO n ad S ++ bA cI n ad S)) ++ ([(q, .inr (kcls kd, [.int (nI n), .int pu, .ref qa, .int (nI n)])), (qa, .inl (cI, 4, .inl (fun _ => 0)))] : va_W)).Perm (cW cI cB cS (n + 1) (adx ad n q qa) (va_up bf n (some q)) (wel n kd pu S)) := by
  unfold cW
  rw [wel_cF, wel_bO hn, wel_bA hn, List.append_assoc, List.append_assoc, List.append_assoc]
  refine List.Perm.append_left _ (List.Perm.append_left _ ?_)
  exact (List.perm_middle (l₁ := bA cI n ad S)).trans (List.Perm.refl _)
theorem wel_bok (hn : n < 6) (h : bok n ad bf) : bok (n + 1) (adx ad n q qa) (va_up bf n (some q)) := by
  refine ⟨hn, fun j hj => ?_⟩
  by_cases e : j = n
  · subst e
    show (if j = j then some q else bf j) = some (if 30 + j = 30 + j then q else _)
    rw [if_pos rfl, if_pos rfl]
  · show (if j = n then some q else bf j) = some (if 30 + j = 30 + n then q else if 30 + j = 40 + n then qa else ad (30 + j))
    rw [if_neg e, if_neg (by omega), if_neg (by omega)]
    exact h.2 j (by omega)
end WEL
set_option maxHeartbeats 4000000 in
theorem kX5_welcome (l : Launch) (D : va_G) (cI cB cS : ClassId) (n : Nat) (hn : n < 6) (ad : Nat → Nat) (bf : Nat → Option Nat) (q qa : Nat) (kd pu : Int32) (S : MS) : CtA l D cI cB cS yX5_welcome cX5_welcome 2 none 0 0 0 0 [.ref (ad 11), .ref q] (cW cI cB cS n ad bf S ++ [(q, .inr (kcls kd, [.int (nI n), .int pu, .ref qa, .int (nI n)])), (qa, .inl (cI, 4, .inl (fun _ => 0)))]) (fun v w => v = none ∧ w = cW cI cB cS (n + 1) (adx ad n q qa) (va_up bf n (some q)) (wel n kd pu S)) := by
  refine CtA.ofW (by decide) (Nat.le_of_ble_eq_true rfl) ?_
  intro p e s m args below meth c ls C hr hlocks hnm hw hl
  have hx := C.1
  have hb := C.2.1
  have hl : lv_has ls 2 [(0, .ref (ad 11)), (1, .ref q)] := hl
  refine lv_aload_n hx hb dX5_welcome_0 rfl (lv_at hl 0 rfl) ?_
  refine va_get (D := D) (ci := 5) (v := .int (nI n)) (C := RX5) (T := TX5) (N := 7) hx hb C.2.2.2.2.1 inX5 C.2.2.2.1 C.2.2.2.2.2.1 hw.1 11 rfl rfl 1 (by decide) (C.2.2.2.2.1 _ tg_61) (fun _ h9 => h9) rfl dX5_welcome_1 ?_
  refine lv_bipush (v := 6) hx hb dX5_welcome_4 ib_6 ?_
  refine lv_icmp_ge (tgt := 29) hx hb dX5_welcome_6 (by decide) (fun h6 => absurd h6 (by rw [show (6 : Int32) = nI 6 from rfl]; exact nI_ge hn (by decide))) (fun _ => ?_)
  refine lv_aload_n hx hb dX5_welcome_9 rfl (lv_at hl 0 rfl) ?_
  refine va_get (D := D) (ci := 5) (v := .ref (ad 12)) (C := RX5) (T := TX5) (N := 7) hx hb C.2.2.2.2.1 inX5 C.2.2.2.1 C.2.2.2.2.2.1 hw.1 11 rfl rfl 0 (by decide) (C.2.2.2.2.1 _ tg_60) (fun _ h9 => h9) rfl dX5_welcome_10 ?_
  refine lv_aload_n hx hb dX5_welcome_13 rfl (lv_at hl 0 rfl) ?_
  refine va_get (D := D) (ci := 5) (v := .int (nI n)) (C := RX5) (T := TX5) (N := 7) hx hb C.2.2.2.2.1 inX5 C.2.2.2.1 C.2.2.2.2.2.1 hw.1 11 rfl rfl 1 (by decide) (C.2.2.2.2.1 _ tg_61) (fun _ h9 => h9) rfl dX5_welcome_14 ?_
  refine lv_aload_n hx hb dX5_welcome_17 rfl (lv_at hl 1 rfl) ?_
  have hlen : (cW cI cB cS n ad bf S).length = 22 + (n + n) := by unfold cW; rw [List.length_append, List.length_append, cF_len, bO_len, bA_len]
  have hob : ∀ c : Nat, kcls kd = c → (cW cI cB cS n ad bf S ++ [(q, .inr (kcls kd, [.int (nI n), .int pu, .ref qa, .int (nI n)])), (qa, .inl (cI, 4, .inl (fun _ => 0)))])[22 + (n + n)]? = some (q, .inr (c, [.int (nI n), .int pu, .ref qa, .int (nI n)])) := by
    intro c hc
    rw [List.getElem?_append_right (by rw [hlen]; exact Nat.le_refl _), hlen, Nat.sub_self, hc]
    rfl
  have hin : vp_in (nI n) 6 := vp_in_nI hn (by decide)
  have hcl : (nI n).toNatClampNeg = n := nI_clamp (by omega)
  suffices hK : ∀ (H : Heap) (locs : List Loc), wd D (va_A (cW cI cB cS n ad bf S ++ [(q, .inr (kcls kd, [.int (nI n), .int pu, .ref qa, .int (nI n)])), (qa, .inl (cI, 4, .inl (fun _ => 0)))]) s.heap.size) s.heap (cW cI cB cS n ad (va_up bf n (some q)) S ++ [(q, .inr (kcls kd, [.int (nI n), .int pu, .ref qa, .int (nI n)])), (qa, .inl (cI, 4, .inl (fun _ => 0)))]) H locs → W p l e { frames := 0, cells := 0, slots := 0, locals := 0 } s m args below meth c H locs 0 0 (QtA D below args s 0 0 (cW cI cB cS n ad bf S ++ [(q, .inr (kcls kd, [.int (nI n), .int pu, .ref qa, .int (nI n)])), (qa, .inl (cI, 4, .inl (fun _ => 0)))]) (fun v w => v = none ∧ w = cW cI cB cS (n + 1) (adx ad n q qa) (va_up bf n (some q)) (wel n kd pu S))) (F0 m 19 ls []) by
    rcases kcls_c kd with ⟨-, hc⟩ | ⟨-, hc⟩ | ⟨-, -, hc⟩
    · exact va_astq (r := (RX1, TX1, 4)) hx hb C.2.2.2.2.2.1 hw.1 hw.2.1 hw.2.2 12 1 (22 + (n + n)) 1 rfl rfl (hob 1 hc) rfl hin dX5_welcome_18 (fun H locs h1 h2 h3 => by rw [hcl] at h1 h2; exact hK H locs ⟨h1, h2, h3⟩)
    · exact va_astqO (E := "DeafAuction$Buyer") (r := (RX3, TX3, 4)) hx hb C.2.2.2.2.2.1 hw.1 hw.2.1 hw.2.2 12 1 (22 + (n + n)) 3 rfl rfl C.2.2.2.2.2.2.2.2.2.2.2.2 (hob 3 hc) rfl hin dX5_welcome_18 (fun H locs h1 h2 h3 => by rw [hcl] at h1 h2; exact hK H locs ⟨h1, h2, h3⟩)
    · exact va_astqO (E := "DeafAuction$Buyer") (r := (RX4, TX4, 4)) hx hb C.2.2.2.2.2.1 hw.1 hw.2.1 hw.2.2 12 1 (22 + (n + n)) 4 rfl rfl C.2.2.2.2.2.2.2.2.2.2.2.1 (hob 4 hc) rfl hin dX5_welcome_18 (fun H locs h1 h2 h3 => by rw [hcl] at h1 h2; exact hK H locs ⟨h1, h2, h3⟩)
  intro H locs hw
  refine lv_aload_n hx hb dX5_welcome_19 rfl (lv_at hl 0 rfl) ?_
  refine lv_dup hx hb dX5_welcome_20 rfl ?_
  refine va_get (D := D) (ci := 5) (v := .int (nI n)) (C := RX5) (T := TX5) (N := 7) hx hb C.2.2.2.2.1 inX5 C.2.2.2.1 C.2.2.2.2.2.1 hw.1 11 rfl rfl 1 (by decide) (C.2.2.2.2.1 _ tg_61) (fun _ h9 => h9) rfl dX5_welcome_21 ?_
  refine lv_iconst (v := 1) hx hb dX5_welcome_24 ic_1 ?_
  refine lv_iadd hx hb dX5_welcome_25 ?_
  rw [nI_1]
  refine va_put (D := D) (ci := 5) (v := .int (nI (n + 1))) (ty := .int) (C := RX5) (T := TX5) (N := 7) hx hb C.2.2.2.2.1 inX5 tyX5 tyX5_ok nmX5 C.2.2.2.1 C.2.2.2.2.2.1 hw.1 hw.2.1 hw.2.2 11 rfl rfl 1 (by decide) (C.2.2.2.2.1 _ tg_61) (fun _ h9 => h9) rfl (by decide +kernel) rfl rfl (Nat.le_of_ble_eq_true rfl) dX5_welcome_26 (fun H locs h1 h2 h3 => ?_)
  have hw : wd D (va_A (cW cI cB cS n ad bf S ++ [(q, .inr (kcls kd, [.int (nI n), .int pu, .ref qa, .int (nI n)])), (qa, .inl (cI, 4, .inl (fun _ => 0)))]) s.heap.size) s.heap ((cF cI cB cS (n + 1) ad (va_up bf n (some q)) S ++ (bO n ad S ++ bA cI n ad S)) ++ [(q, .inr (kcls kd, [.int (nI n), .int pu, .ref qa, .int (nI n)])), (qa, .inl (cI, 4, .inl (fun _ => 0)))]) H locs := ⟨h1, h2, h3⟩
  exact qtA_v C hr hlocks (hw.perm (wel_perm hn)) ⟨rfl, rfl⟩ dX5_welcome_29
def fRoomL : Nat → Nat → Int32 → Int32 → Int32 → Nat → MS → Option (Nat × MS)
  | 0, _, _, _, _, _, _ => none
  | fu + 1, k, i, nn, fr, n, S => if nn ≤ fr then some (n, S) else ((fX8_digitAt n k ((i + fr) + 2) S).bind fun r1 => ((fX8_digitAt n k ((i + fr) + 3) S).bind fun r2 => ((fX6_at n k ((i + fr) + 1) S).bind fun r3 => (if n < 6 then fRoomL fu k i nn (fr + 4) (n + 1) (wel n (bkd r3) ((10 * r1) + r2) S) else none))))
def fX8_fillRoom (n : Nat) (p1 : Nat) (p2 p3 : Int32) (M : MS) : Option (Nat × MS) := ((fX8_digitAt n p1 (p2 + 1) M).bind fun r1 => ((fX8_digitAt n p1 (p2 + 2) M).bind fun r2 => ((fX5_lay n r1 r2 M).bind fun S1 => fRoomL 300 p1 p2 p3 3 0 S1)))
def roomPost (cI cB cS : ClassId) (a0 : Nat) (q : Nat × MS) : Option Value → va_W → Prop := fun v w => v = none ∧ ∃ ad bf, w = cW cI cB cS q.1 ad bf q.2 ∧ bok q.1 ad bf ∧ ad 0 = a0
set_option maxHeartbeats 4000000 in
theorem w_fill {p : Program} {l : Launch} {e : Env} {s : State} {m : MethodId} {args : Array Value} {below : List Frame} {meth : Method} {c : Code} {D : va_G} {cI cB cS : ClassId} {ws0 : va_W} {k : Nat} {i nn : Int32} {a0 : Nat} (C : cx p c cX8_fillRoom 6 s args m RX8 D cI cB cS) (hr : meth.sig.returnType = none) (hlocks : meth.locks = false) (hA : ∀ q, s.heap.size ≤ q → va_A ws0 s.heap.size q) (hk : k < 4) {q : Nat × MS} :
    ∀ (fu : Nat) (fr : Int32) (n : Nat) (ad : Nat → Nat) (bf : Nat → Option Nat) (S : MS) (H : Heap) (locs : List Loc) (ls : Array Slot), bok n ad bf → ad 0 = a0 → wd D (va_A ws0 s.heap.size) s.heap (cW cI cB cS n ad bf S) H locs → lv_has ls 6 [(0, .ref (ad 0)), (1, .ref (ad (2 + k))), (2, .int i), (3, .int nn), (4, .int fr)] → fRoomL fu k i nn fr n S = some q →
    W p l e { frames := 5, cells := 12, slots := 48, locals := 100 } s m args below meth c H locs (2 * n) (8 * n) (QtA D below args s 12 48 ws0 (roomPost cI cB cS a0 q)) (F0 m 24 ls []) := by
  have hx := C.1
  have hb := C.2.1
  intro fu
  induction fu with
  | zero => intro fr n ad bf S H locs ls hcg ha hw hl hf; rw [fRoomL] at hf; cases hf
  | succ fu ih =>
    intro fr n ad bf S H locs ls hcg ha hw hl hf
    rw [fRoomL] at hf
    have hn6 := hcg.1
    refine lv_iload hx hb dX8_fillRoom_24 (lv_at hl 4 rfl) ?_
    refine lv_iload_n hx hb dX8_fillRoom_26 rfl (lv_at hl 3 rfl) ?_
    refine lv_icmp_ge (tgt := 91) hx hb dX8_fillRoom_27 (by decide) (fun h1 => ?_) (fun h1 => ?_)
    · have hf := it_t h1 hf
      obtain rfl := Option.some.inj hf
      refine W.widen (k := 12) (n := 48) (by omega) (by omega) ?_
      exact qtA_v C hr hlocks hw ⟨rfl, ad, bf, rfl, hcg, ha⟩ dX8_fillRoom_91
    · have hf := it_f h1 hf
      obtain ⟨r1, e1, hf⟩ := bd hf
      obtain ⟨r2, e2, hf⟩ := bd hf
      obtain ⟨r3, e3, hf⟩ := bd hf
      refine lv_bipush (v := 10) hx hb dX8_fillRoom_30 ib_10 ?_
      refine lv_aload_n hx hb dX8_fillRoom_32 rfl (lv_at hl 1 rfl) ?_
      refine lv_iload_n hx hb dX8_fillRoom_33 rfl (lv_at hl 2 rfl) ?_
      refine lv_iload hx hb dX8_fillRoom_34 (lv_at hl 4 rfl) ?_
      refine lv_iadd hx hb dX8_fillRoom_36 ?_
      refine lv_iconst (v := 2) hx hb dX8_fillRoom_37 ic_2 ?_
      refine lv_iadd hx hb dX8_fillRoom_38 ?_
      refine ct_S1 (rest := [.int 10]) C hw hA (kX8_digitAt l D cI cB cS _ ad bf hcg hk e1) cfX8_digitAt tg_218 tg_219 ⟨(Nat.le_of_ble_eq_true rfl), (Nat.le_of_ble_eq_true rfl)⟩ ⟨by show 2 * n ≤ 12; omega, by show 8 * n ≤ 48; omega⟩ rfl hl.1 rfl (Nat.le_of_ble_eq_true rfl) dX8_fillRoom_39 (fun H locs hw => ?_)
      refine lv_imul hx hb dX8_fillRoom_42 ?_
      refine lv_aload_n hx hb dX8_fillRoom_43 rfl (lv_at hl 1 rfl) ?_
      refine lv_iload_n hx hb dX8_fillRoom_44 rfl (lv_at hl 2 rfl) ?_
      refine lv_iload hx hb dX8_fillRoom_45 (lv_at hl 4 rfl) ?_
      refine lv_iadd hx hb dX8_fillRoom_47 ?_
      refine lv_iconst (v := 3) hx hb dX8_fillRoom_48 ic_3 ?_
      refine lv_iadd hx hb dX8_fillRoom_49 ?_
      refine ct_S1 (rest := [.int (10 * r1)]) C hw hA (kX8_digitAt l D cI cB cS _ ad bf hcg hk e2) cfX8_digitAt tg_218 tg_219 ⟨(Nat.le_of_ble_eq_true rfl), (Nat.le_of_ble_eq_true rfl)⟩ ⟨by show 2 * n ≤ 12; omega, by show 8 * n ≤ 48; omega⟩ rfl hl.1 rfl (Nat.le_of_ble_eq_true rfl) dX8_fillRoom_50 (fun H locs hw => ?_)
      refine lv_iadd hx hb dX8_fillRoom_53 ?_
      refine lv_istore (lv' := [(5, .int ((10 * r1) + r2)), (0, .ref (ad 0)), (1, .ref (ad (2 + k))), (2, .int i), (3, .int nn), (4, .int fr)]) hx hb dX8_fillRoom_54 hl (by decide) rfl (fun ls hl => ?_)
      refine lv_aload_n hx hb dX8_fillRoom_56 rfl (lv_at hl 1 rfl) ?_
      refine cg_8_28 C hw dX8_fillRoom_57 ?_
      refine lv_aload_n hx hb dX8_fillRoom_60 rfl (lv_at hl 2 rfl) ?_
      refine lv_iload_n hx hb dX8_fillRoom_61 rfl (lv_at hl 3 rfl) ?_
      refine lv_iload hx hb dX8_fillRoom_62 (lv_at hl 5 rfl) ?_
      refine lv_iadd hx hb dX8_fillRoom_64 ?_
      refine lv_iconst (v := 1) hx hb dX8_fillRoom_65 ic_1 ?_
      refine lv_iadd hx hb dX8_fillRoom_66 ?_
      refine ct_V1 (q0 := 2 + k) (ci := 6) (rest := [.ref (ad 11)]) C hw hA (kX6_at l D cI cB cS n ad bf hcg hk e3) cfX6_at tg_207 tg_208 tg_209 ⟨(Nat.le_of_ble_eq_true rfl), (Nat.le_of_ble_eq_true rfl)⟩ ⟨by show 2 * n ≤ 12; omega, by show 8 * n ≤ 48; omega⟩ rfl rfl rfl (cW_sh hk) hl.1 rfl (Nat.le_of_ble_eq_true rfl) dX8_fillRoom_67 (fun H locs hw => ?_)
      refine lv_aload_n hx hb dX8_fillRoom_70 rfl (lv_at hl 1 rfl) ?_
      refine cg_8_28 C hw dX8_fillRoom_71 ?_
      refine cg_8_80 C hw dX8_fillRoom_74 ?_
      refine lv_iload hx hb dX8_fillRoom_77 (lv_at hl 0 rfl) ?_
      by_cases hn : n < 6
      · have hf := it_t hn hf
        refine ctA_S (rest := [.ref (ad 11)]) C hw hA (kX8_buyerBy l D cI cB cS _ r3 (nI n) ((10 * r1) + r2)) cfX8_buyerBy tg_229 tg_230 ⟨(Nat.le_of_ble_eq_true rfl), (Nat.le_of_ble_eq_true rfl)⟩ ⟨by show 2 * n + 2 ≤ 12; omega, by show 8 * n + 8 ≤ 48; omega⟩ rfl hl.1 rfl (Nat.le_of_ble_eq_true rfl) dX8_fillRoom_79 (fun v ws1 H locs hp hw => ?_)
        obtain ⟨z, za, rfl, rfl⟩ := hp
        refine ctA_V (q0 := 11) (ci := 5) (rest := []) C hw hA (kX5_welcome l D cI cB cS n hn ad bf z za (bkd r3) ((10 * r1) + r2) S) cfX5_welcome tg_281 tg_282 tg_283 ⟨(Nat.le_of_ble_eq_true rfl), (Nat.le_of_ble_eq_true rfl)⟩ ⟨by show 2 * n + 2 + 0 ≤ 12; omega, by show 8 * n + 8 + 0 ≤ 48; omega⟩ rfl rfl rfl rfl hl.1 rfl (Nat.le_of_ble_eq_true rfl) dX8_fillRoom_82 (fun v ws1 H locs hp hw => ?_)
        obtain ⟨rfl, rfl⟩ := hp
        refine lv_iinc (v := (fr + 4)) (lv' := [(4, .int (fr + 4)), (5, .int ((10 * r1) + r2)), (0, .ref (ad 0)), (1, .ref (ad (2 + k))), (2, .int i), (3, .int nn)]) hx hb dX8_fillRoom_85 hl (k := 5) rfl (iv_4 _) (by decide) rfl (fun ls hl => ?_)
        refine lv_goto (tgt := 24) hx hb dX8_fillRoom_88 (by decide) ?_
        have a0e : adx ad n z za 0 = ad 0 := adx_lt ad (by omega)
        have a2e : adx ad n z za (2 + k) = ad (2 + k) := adx_lt ad (by omega)
        have hl' := lv_sub (l' := [(0, .ref (ad 0)), (1, .ref (ad (2 + k))), (2, .int i), (3, .int nn), (4, .int (fr + 4))]) hl [2, 3, 4, 5, 0] rfl
        rw [← a0e, ← a2e] at hl'
        exact ih (fr + 4) (n + 1) (adx ad n z za) _ _ H locs ls (wel_bok hn hcg) (a0e.trans ha) hw hl' hf
      · have hf := it_f hn hf
        cases hf
set_option maxHeartbeats 4000000 in
theorem kX8_fillRoom (l : Launch) (D : va_G) (cI cB cS : ClassId) (n : Nat) (ad : Nat → Nat) (bf : Nat → Option Nat) (hcg : bok n ad bf) {k : Nat} (hk : k < 4) {i nn : Int32} {M : MS} {q : Nat × MS} (hf : fX8_fillRoom n k i nn M = some q) : CtA l D cI cB cS yX8_fillRoom cX8_fillRoom 6 none 5 100 12 48 [.ref (ad 0), .ref (ad (2 + k)), .int i, .int nn] (cW cI cB cS n ad bf M) (roomPost cI cB cS (ad 0) q) := by
  refine CtA.ofW (by decide) (Nat.le_of_ble_eq_true rfl) ?_
  intro p e s m args below meth c ls C hr hlocks _ hw hl
  have hx := C.1
  have hb := C.2.1
  have hA : ∀ q, s.heap.size ≤ q → va_A (cW cI cB cS n ad bf M) s.heap.size q := fun q h => Or.inr h
  have hl : lv_has ls 6 [(0, .ref (ad 0)), (1, .ref (ad (2 + k))), (2, .int i), (3, .int nn)] := hl
  unfold fX8_fillRoom at hf
  obtain ⟨r1, e1, hf⟩ := bd hf
  obtain ⟨r2, e2, hf⟩ := bd hf
  obtain ⟨S1, e3, hf⟩ := bd hf
  refine lv_aload_n hx hb dX8_fillRoom_0 rfl (lv_at hl 0 rfl) ?_
  refine cg_8_28 C hw dX8_fillRoom_1 ?_
  refine lv_aload_n hx hb dX8_fillRoom_4 rfl (lv_at hl 1 rfl) ?_
  refine lv_iload_n hx hb dX8_fillRoom_5 rfl (lv_at hl 2 rfl) ?_
  refine lv_iconst (v := 1) hx hb dX8_fillRoom_6 ic_1 ?_
  refine lv_iadd hx hb dX8_fillRoom_7 ?_
  refine ct_S1 (rest := [.ref (ad 11)]) C hw hA (kX8_digitAt l D cI cB cS _ ad bf hcg hk e1) cfX8_digitAt tg_218 tg_219 ⟨(Nat.le_of_ble_eq_true rfl), (Nat.le_of_ble_eq_true rfl)⟩ ⟨(Nat.le_of_ble_eq_true rfl), (Nat.le_of_ble_eq_true rfl)⟩ rfl hl.1 rfl (Nat.le_of_ble_eq_true rfl) dX8_fillRoom_8 (fun H locs hw => ?_)
  refine lv_aload_n hx hb dX8_fillRoom_11 rfl (lv_at hl 1 rfl) ?_
  refine lv_iload_n hx hb dX8_fillRoom_12 rfl (lv_at hl 2 rfl) ?_
  refine lv_iconst (v := 2) hx hb dX8_fillRoom_13 ic_2 ?_
  refine lv_iadd hx hb dX8_fillRoom_14 ?_
  refine ct_S1 (rest := [.int r1, .ref (ad 11)]) C hw hA (kX8_digitAt l D cI cB cS _ ad bf hcg hk e2) cfX8_digitAt tg_218 tg_219 ⟨(Nat.le_of_ble_eq_true rfl), (Nat.le_of_ble_eq_true rfl)⟩ ⟨(Nat.le_of_ble_eq_true rfl), (Nat.le_of_ble_eq_true rfl)⟩ rfl hl.1 rfl (Nat.le_of_ble_eq_true rfl) dX8_fillRoom_15 (fun H locs hw => ?_)
  refine ct_V0 (q0 := 11) (ci := 5) (rest := []) C hw hA (kX5_lay l D cI cB cS n ad bf hcg e3) cfX5_lay tg_225 tg_226 tg_227 ⟨(Nat.le_of_ble_eq_true rfl), (Nat.le_of_ble_eq_true rfl)⟩ ⟨(Nat.le_of_ble_eq_true rfl), (Nat.le_of_ble_eq_true rfl)⟩ rfl rfl rfl rfl hl.1 rfl (Nat.le_of_ble_eq_true rfl) dX8_fillRoom_18 (fun H locs hw => ?_)
  refine lv_iconst (v := 3) hx hb dX8_fillRoom_21 ic_3 ?_
  refine lv_istore (lv' := [(4, .int 3), (0, .ref (ad 0)), (1, .ref (ad (2 + k))), (2, .int i), (3, .int nn)]) hx hb dX8_fillRoom_22 hl (by decide) rfl (fun ls hl => ?_)
  exact w_fill C hr hlocks hA hk 300 3 0 ad bf S1 H locs ls (bok0 hcg) rfl hw (lv_sub hl [1, 2, 3, 4, 0] rfl) hf
def hallPost (cI cB cS : ClassId) (a0 : Nat) (q : Int32 × Nat × MS) : Option Value → va_W → Prop := fun v w => v = some (.int q.1) ∧ ∃ ad bf, w = cW cI cB cS q.2.1 ad bf q.2.2 ∧ bok q.2.1 ad bf ∧ ad 0 = a0
def fX8_hall (n : Nat) (p1 p2 p3 p4 : Int32) (M : MS) : Option (Int32 × Nat × MS) :=
  (om (fX8_sheetOf p1) (some ((-1), n, (u2 M 0 0 0))) (fun j2 => (if (fX8_isLane p2) = 0 then (some ((-2), n, (u2 M 0 0 0))) else (if (fX6_faultOfTaking n j2 p2 p3 p4 (u2 M 0 0 0)) = 0 then ((fX8_firstFault n j2 p3 p4 (u2 M 0 0 0)).bind fun r5 => (if r5 = (-1) then ((fX8_fillRoom n j2 p3 p4 (u2 M 0 0 0)).bind fun r8 => (some ((nI r8.1), r8.1, (fX2_keepOnly r8.1 (0 : Int32) r8.2)))) else (some (((-100) - r5), n, (u2 M 0 0 0))))) else (some ((fX8_meet n (fX6_faultOfTaking n j2 p2 p3 p4 (u2 M 0 0 0)) (u2 M 0 0 0)).1, n, (fX8_meet n (fX6_faultOfTaking n j2 p2 p3 p4 (u2 M 0 0 0)) (u2 M 0 0 0)).2))))))
set_option maxHeartbeats 4000000 in
theorem kX8_hall (l : Launch) (D : va_G) (cI cB cS : ClassId) (n : Nat) (ad : Nat → Nat) (bf : Nat → Option Nat) (hcg : bok n ad bf) {p1 p2 p3 p4 : Int32} {M : MS} {q : Int32 × Nat × MS} (hf : fX8_hall n p1 p2 p3 p4 M = some q) : CtA l D cI cB cS yX8_hall cX8_hall 8 (some .int) 6 133 12 48 [.ref (ad 0), .int p1, .int p2, .int p3, .int p4] (cW cI cB cS n ad bf M) (hallPost cI cB cS (ad 0) q) := by
  refine CtA.ofW (by decide) (Nat.le_of_ble_eq_true rfl) ?_
  intro p e s m args below meth c ls C hr hlocks _ hw hl
  have hx := C.1
  have hb := C.2.1
  have hA : ∀ q, s.heap.size ≤ q → va_A (cW cI cB cS n ad bf M) s.heap.size q := fun q h => Or.inr h
  have hl : lv_has ls 8 [(0, .ref (ad 0)), (1, .int p1), (2, .int p2), (3, .int p3), (4, .int p4)] := hl
  unfold fX8_hall at hf
  refine lv_aload_n hx hb dX8_hall_0 rfl (lv_at hl 0 rfl) ?_
  refine lv_iconst (v := 0) hx hb dX8_hall_1 ic_0 ?_
  refine cp_8_48 C hw dX8_hall_2 (fun H locs hw => ?_)
  refine lv_aload_n hx hb dX8_hall_5 rfl (lv_at hl 0 rfl) ?_
  refine lv_iload_n hx hb dX8_hall_6 rfl (lv_at hl 1 rfl) ?_
  refine ct_V1 (q0 := 0) (ci := 8) (rest := []) C hw hA (kX8_sheetOf l D cI cB cS n ad bf hcg _ _) cfX8_sheetOf tg_179 tg_181 ts_yX8_sheetOf ⟨(Nat.le_of_ble_eq_true rfl), (Nat.le_of_ble_eq_true rfl)⟩ ⟨(Nat.le_of_ble_eq_true rfl), (Nat.le_of_ble_eq_true rfl)⟩ rfl rfl rfl rfl hl.1 rfl (Nat.le_of_ble_eq_true rfl) dX8_hall_7 (fun H locs hw => ?_)
  rcases em_o (fX8_sheetOf p1) with h1 | ⟨j2, h1⟩
  · rw [h1]
    have hf := om_n h1 hf
    refine lv_astoreN (lv' := [(5, .null), (0, .ref (ad 0)), (1, .int p1), (2, .int p2), (3, .int p3), (4, .int p4)]) hx hb dX8_hall_10 hl (by decide) rfl (fun ls hl => ?_)
    refine lv_aloadN hx hb dX8_hall_12 (lv_at hl 0 rfl) ?_
    refine lv_ifnonnullN hx hb dX8_hall_14 ?_
    refine lv_iconst (v := (-1)) hx hb dX8_hall_17 ic_m1 ?_
    obtain rfl := Option.some.inj hf
    refine W.widen (k := 12) (n := 48) (Nat.le_of_ble_eq_true rfl) (Nat.le_of_ble_eq_true rfl) ?_
    exact qtA_i C hr hlocks hw ⟨rfl, _, _, rfl, hcg, rfl⟩ dX8_hall_18
  · rw [h1]
    have hf := om_s h1 hf
    have hj2 := sheetOf_lt h1
    refine lv_astore (lv' := [(5, .ref (ad (2 + j2))), (0, .ref (ad 0)), (1, .int p1), (2, .int p2), (3, .int p3), (4, .int p4)]) hx hb dX8_hall_10 hl (by decide) rfl (fun ls hl => ?_)
    refine lv_aload hx hb dX8_hall_12 (lv_at hl 0 rfl) ?_
    refine lv_ifnonnull (tgt := 19) hx hb dX8_hall_14 (by decide) ?_
    refine lv_iload_n hx hb dX8_hall_19 rfl (lv_at hl 3 rfl) ?_
    refine ct_S1 (rest := []) C hw hA (kX8_isLane l D cI cB cS _ _) cfX8_isLane tg_186 tg_187 ⟨(Nat.le_of_ble_eq_true rfl), (Nat.le_of_ble_eq_true rfl)⟩ ⟨(Nat.le_of_ble_eq_true rfl), (Nat.le_of_ble_eq_true rfl)⟩ rfl hl.1 rfl (Nat.le_of_ble_eq_true rfl) dX8_hall_20 (fun H locs hw => ?_)
    refine lv_if_ne (tgt := 29) hx hb dX8_hall_23 (by decide) (fun h3 => ?_) (fun h3 => ?_)
    · have hf := it_f h3 hf
      refine lv_aload hx hb dX8_hall_29 (lv_at hl 0 rfl) ?_
      refine lv_iload_n hx hb dX8_hall_31 rfl (lv_at hl 3 rfl) ?_
      refine lv_iload_n hx hb dX8_hall_32 rfl (lv_at hl 4 rfl) ?_
      refine lv_iload hx hb dX8_hall_33 (lv_at hl 5 rfl) ?_
      refine ct_V1 (q0 := 2 + j2) (ci := 6) (rest := []) C hw hA (kX6_faultOfTaking l D cI cB cS n ad bf hcg hj2 _ _ _ _) cfX6_faultOfTaking tg_189 tg_190 tg_191 ⟨(Nat.le_of_ble_eq_true rfl), (Nat.le_of_ble_eq_true rfl)⟩ ⟨(Nat.le_of_ble_eq_true rfl), (Nat.le_of_ble_eq_true rfl)⟩ rfl rfl rfl (cW_sh hj2) hl.1 rfl (Nat.le_of_ble_eq_true rfl) dX8_hall_35 (fun H locs hw => ?_)
      refine lv_istore (lv' := [(6, .int (fX6_faultOfTaking n j2 p2 p3 p4 (u2 M 0 0 0))), (5, .ref (ad (2 + j2))), (0, .ref (ad 0)), (1, .int p1), (2, .int p2), (3, .int p3), (4, .int p4)]) hx hb dX8_hall_38 hl (by decide) rfl (fun ls hl => ?_)
      refine lv_iload hx hb dX8_hall_40 (lv_at hl 0 rfl) ?_
      refine lv_if_eq (tgt := 52) hx hb dX8_hall_42 (by decide) (fun h4 => ?_) (fun h4 => ?_)
      · have hf := it_t h4 hf
        refine lv_aload hx hb dX8_hall_52 (lv_at hl 1 rfl) ?_
        refine lv_iload_n hx hb dX8_hall_54 rfl (lv_at hl 5 rfl) ?_
        refine lv_iload hx hb dX8_hall_55 (lv_at hl 6 rfl) ?_
        obtain ⟨r5, e6, hf⟩ := bd hf
        refine ct_S1 (rest := []) C hw hA (kX8_firstFault l D cI cB cS n ad bf hcg hj2 e6) cfX8_firstFault tg_201 tg_202 ⟨(Nat.le_of_ble_eq_true rfl), (Nat.le_of_ble_eq_true rfl)⟩ ⟨(Nat.le_of_ble_eq_true rfl), (Nat.le_of_ble_eq_true rfl)⟩ rfl hl.1 rfl (Nat.le_of_ble_eq_true rfl) dX8_hall_57 (fun H locs hw => ?_)
        refine lv_istore (lv' := [(7, .int r5), (6, .int (fX6_faultOfTaking n j2 p2 p3 p4 (u2 M 0 0 0))), (5, .ref (ad (2 + j2))), (0, .ref (ad 0)), (1, .int p1), (2, .int p2), (3, .int p3), (4, .int p4)]) hx hb dX8_hall_60 hl (by decide) rfl (fun ls hl => ?_)
        refine lv_iload hx hb dX8_hall_62 (lv_at hl 0 rfl) ?_
        refine lv_iconst (v := (-1)) hx hb dX8_hall_64 ic_m1 ?_
        refine lv_icmp_eq (tgt := 74) hx hb dX8_hall_65 (by decide) (fun h7 => ?_) (fun h7 => ?_)
        · have hf := it_t h7 hf
          refine lv_aload_n hx hb dX8_hall_74 rfl (lv_at hl 3 rfl) ?_
          refine lv_aload hx hb dX8_hall_75 (lv_at hl 2 rfl) ?_
          refine lv_iload_n hx hb dX8_hall_77 rfl (lv_at hl 6 rfl) ?_
          refine lv_iload hx hb dX8_hall_78 (lv_at hl 7 rfl) ?_
          obtain ⟨r8, e9, hf⟩ := bd hf
          refine ctA_V (q0 := 0) (ci := 8) (rest := []) C hw hA (kX8_fillRoom l D cI cB cS n ad bf hcg hj2 e9) cfX8_fillRoom tg_221 tg_223 ts_yX8_fillRoom ⟨(Nat.le_of_ble_eq_true rfl), (Nat.le_of_ble_eq_true rfl)⟩ ⟨(Nat.le_of_ble_eq_true rfl), (Nat.le_of_ble_eq_true rfl)⟩ rfl rfl rfl rfl hl.1 rfl (Nat.le_of_ble_eq_true rfl) dX8_hall_80 (fun v ws1 H locs hp hw => ?_)
          obtain ⟨rfl, ad1, bf1, rfl, hcg1, ha1⟩ := hp
          have hl0 := lv_sub (l' := [(0, .ref (ad 0))]) hl [3] rfl
          rw [← ha1] at hl0 ⊢
          clear hl
          have hl := hl0
          have hcg := hcg1
          refine lv_aload_n hx hb dX8_hall_83 rfl (lv_at hl 0 rfl) ?_
          refine cg_8_44 C hw dX8_hall_84 ?_
          refine lv_iconst (v := 0) hx hb dX8_hall_87 ic_0 ?_
          refine ct_V0 (q0 := 19) (ci := 2) (rest := []) C hw hA (kX2_keepOnly l D cI cB cS _ ad1 bf1 hcg _ _) cfX2_keepOnly tg_285 tg_286 tg_287 ⟨(Nat.le_of_ble_eq_true rfl), (Nat.le_of_ble_eq_true rfl)⟩ ⟨(Nat.le_of_ble_eq_true rfl), (Nat.le_of_ble_eq_true rfl)⟩ rfl rfl rfl rfl hl.1 rfl (Nat.le_of_ble_eq_true rfl) dX8_hall_88 (fun H locs hw => ?_)
          refine lv_aload_n hx hb dX8_hall_91 rfl (lv_at hl 0 rfl) ?_
          refine cg_8_28 C hw dX8_hall_92 ?_
          refine cg_8_80 C hw dX8_hall_95 ?_
          obtain rfl := Option.some.inj hf
          refine W.widen (k := 12) (n := 48) (Nat.le_of_ble_eq_true rfl) (Nat.le_of_ble_eq_true rfl) ?_
          exact qtA_i C hr hlocks hw ⟨rfl, _, _, rfl, hcg, rfl⟩ dX8_hall_98
        · have hf := it_f h7 hf
          refine lv_bipush (v := (-100)) hx hb dX8_hall_68 ib_m100 ?_
          refine lv_iload hx hb dX8_hall_70 (lv_at hl 0 rfl) ?_
          refine lv_isub hx hb dX8_hall_72 ?_
          obtain rfl := Option.some.inj hf
          refine W.widen (k := 12) (n := 48) (Nat.le_of_ble_eq_true rfl) (Nat.le_of_ble_eq_true rfl) ?_
          exact qtA_i C hr hlocks hw ⟨rfl, _, _, rfl, hcg, rfl⟩ dX8_hall_73
      · have hf := it_f h4 hf
        refine lv_aload_n hx hb dX8_hall_45 rfl (lv_at hl 2 rfl) ?_
        refine lv_iload hx hb dX8_hall_46 (lv_at hl 0 rfl) ?_
        refine ct_V1 (q0 := 0) (ci := 8) (rest := []) C hw hA (kX8_meet l D cI cB cS n ad bf hcg _ _) cfX8_meet tg_197 tg_199 ts_yX8_meet ⟨(Nat.le_of_ble_eq_true rfl), (Nat.le_of_ble_eq_true rfl)⟩ ⟨(Nat.le_of_ble_eq_true rfl), (Nat.le_of_ble_eq_true rfl)⟩ rfl rfl rfl rfl hl.1 rfl (Nat.le_of_ble_eq_true rfl) dX8_hall_48 (fun H locs hw => ?_)
        obtain rfl := Option.some.inj hf
        refine W.widen (k := 12) (n := 48) (Nat.le_of_ble_eq_true rfl) (Nat.le_of_ble_eq_true rfl) ?_
        exact qtA_i C hr hlocks hw ⟨rfl, _, _, rfl, hcg, rfl⟩ dX8_hall_51
    · have hf := it_t h3 hf
      refine lv_bipush (v := (-2)) hx hb dX8_hall_26 ib_m2 ?_
      obtain rfl := Option.some.inj hf
      refine W.widen (k := 12) (n := 48) (Nat.le_of_ble_eq_true rfl) (Nat.le_of_ble_eq_true rfl) ?_
      exact qtA_i C hr hlocks hw ⟨rfl, _, _, rfl, hcg, rfl⟩ dX8_hall_28
