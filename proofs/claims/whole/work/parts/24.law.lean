/-! the law's loop -/
theorem cW_len {cI cB cS : ClassId} {n : Nat} {ad : Nat → Nat} {bf : Nat → Option Nat} {S : MS} : (cW cI cB cS n ad bf S).length = 22 + (n + n) := by
  unfold cW
  rw [List.length_append, List.length_append, cF_len, bO_len, bA_len]
theorem law_at {cI cB cS : ClassId} {n : Nat} {ad : Nat → Nat} {bf : Nat → Option Nat} {S M : MS} {a0 : Nat} {am : Nat → Nat} : (cW cI cB cS n ad bf S ++ mW cI a0 am M)[22 + (n + n)]? = (mW cI a0 am M)[0]? := by
  rw [List.getElem?_append_right (by rw [cW_len]; exact Nat.le_refl _), cW_len, Nat.sub_self]
theorem sc_in {j k L : Nat} {x : Int32} (hx : x = nI k) (hL : L ≤ 3072) (h : j + k < L) : vp_in (nI j + x) L := by
  subst hx
  rw [nI_add]
  exact vp_in_nI h (by omega)
theorem sc_le {j L : Nat} (hL : L ≤ 3072) (hj : j ≤ 6000) (h : ¬ nI L - 6 < nI j) : j + 6 ≤ L := by
  rcases Nat.lt_or_ge L (j + 6) with q | q
  · refine absurd ?_ h
    rw [Int32.lt_iff_toInt_lt, show (6 : Int32) = nI 6 from rfl, pk_sub_toInt (by omega) (by decide), nI_toInt (by omega)]
    omega
  · exact q
theorem sw_out30 {x : Int32} (h : ∀ k, k < 31 → ¬ x = nI k) : x.toInt < 0 ∨ 30 < x.toInt := by
  rcases Int.lt_or_le x.toInt 0 with q | q
  · exact Or.inl q
  · rcases Int.lt_or_le 30 x.toInt with r | r
    · exact Or.inr r
    · refine absurd ?_ (h x.toInt.toNat (by omega))
      refine Int32.toInt_inj.mp ?_
      rw [nI_toInt (by omega)]
      omega
theorem law_cx {p : Program} {s : State} {m : MethodId} {meth : Method} {c : Code} {D : va_G} {cI cB cS : ClassId} {b L : Nat} {xs : Nat → Int32} (C0 : lw_At p s m meth c b L xs) (hgK : gK D cI cB cS s) : cx p c code 4 s #[Value.ref b] m R_law D cI cB cS := by
  obtain ⟨hx, hb, hr, hml, hown, hts, hX, hbl, hlocks, hgv⟩ := C0
  exact ⟨hx, hb, hml, hown, fun w hw => hts w (List.mem_filter.mp hw).1, hgK⟩
set_option maxHeartbeats 4000000 in
theorem law_hall {p : Program} {l : Launch} {e : Env} {s : State} {m : MethodId} {below : List Frame} {meth : Method} {c : Code} {D : va_G} {cI cB cS : ClassId} {b L : Nat} {xs : Nat → Int32} {xD xM : Nat} {am : Nat → Nat} {Inv : Nat → MS → MS → Prop} (hL : L ≤ 3072) (C0 : lw_At p s m meth c b L xs) (hgK : gK D cI cB cS s) (hI : opsOk Inv) {n j : Nat} {ad : Nat → Nat} {bf : Nat → Option Nat} {S M : MS} {H : Heap} {locs : List Loc} {ls : Array Slot} (hj : j + 6 ≤ L) (hinv : Inv n S M) (hcg : bok n ad bf) (hxD : ad 0 = xD) (hw : wd D (fun q : Nat => s.heap.size ≤ q) s.heap (mW cI xM am M ++ cW cI cB cS n ad bf S) H locs) (hl : lv_has ls 4 [(0, .ref b), (1, .ref xD), (2, .ref xM), (3, .int (nI j))])
    (hback : ∀ (n2 : Nat) (ad2 : Nat → Nat) (bf2 : Nat → Option Nat) (S2 M2 : MS) (H : Heap) (locs : List Loc) (ls : Array Slot), Inv n2 S2 M2 → bok n2 ad2 bf2 → ad2 0 = xD → wd D (fun q : Nat => s.heap.size ≤ q) s.heap (mW cI xM am M2 ++ cW cI cB cS n2 ad2 bf2 S2) H locs → lv_has ls 4 [(0, .ref b), (1, .ref xD), (2, .ref xM), (3, .int (nI (j + 6)))] → W p l e room_1 s m #[Value.ref b] below meth c H locs (200 + 2 * (j + 6)) (2000 + 8 * (j + 6)) (lw_Z below #[Value.ref b] s) (F0 m 18 ls [])) : W p l e room_1 s m #[Value.ref b] below meth c H locs (200 + 2 * j) (2000 + 8 * j) (lw_Z below #[Value.ref b] s) (F0 m 172 ls []) := by
  have C := law_cx C0 hgK
  obtain ⟨hx, hb, hr, hml, hown, hts, hX, hbl, hlocks, hgv⟩ := C0
  have hA : ∀ q : Nat, s.heap.size ≤ q → (fun q : Nat => s.heap.size ≤ q) q := fun _ h => h
  have hbA : ¬ (fun q : Nat => s.heap.size ≤ q) b := Nat.not_le.mpr hbl
  subst hxD
  obtain ⟨q, qm, e1, e2, e3, e4⟩ := hI.1 n S M (xs (nI j + 1).toNatClampNeg) (xs (nI j + 2).toNatClampNeg) (xs (nI j + 3).toNatClampNeg) (xs (nI j + 4).toNatClampNeg) hinv
  refine lv_aload_n hx hb dL_law_172 rfl (lv_at hl 1 rfl) ?_
  refine lv_aload_n hx hb dL_law_173 rfl (lv_at hl 0 rfl) ?_
  refine lv_iload_n hx hb dL_law_174 rfl (lv_at hl 3 rfl) ?_
  refine lv_iconst (v := 1) hx hb dL_law_175 ic_1 ?_
  refine lv_iadd hx hb dL_law_176 ?_
  refine va_sld hx hb hX hbl hbA hw.2.2 (sc_in (k := 1) rfl hL (by omega)) dL_law_177 ?_
  refine lv_aload_n hx hb dL_law_178 rfl (lv_at hl 0 rfl) ?_
  refine lv_iload_n hx hb dL_law_179 rfl (lv_at hl 3 rfl) ?_
  refine lv_iconst (v := 2) hx hb dL_law_180 ic_2 ?_
  refine lv_iadd hx hb dL_law_181 ?_
  refine va_sld hx hb hX hbl hbA hw.2.2 (sc_in (k := 2) rfl hL (by omega)) dL_law_182 ?_
  refine lv_aload_n hx hb dL_law_183 rfl (lv_at hl 0 rfl) ?_
  refine lv_iload_n hx hb dL_law_184 rfl (lv_at hl 3 rfl) ?_
  refine lv_iconst (v := 3) hx hb dL_law_185 ic_3 ?_
  refine lv_iadd hx hb dL_law_186 ?_
  refine va_sld hx hb hX hbl hbA hw.2.2 (sc_in (k := 3) rfl hL (by omega)) dL_law_187 ?_
  refine lv_aload_n hx hb dL_law_188 rfl (lv_at hl 0 rfl) ?_
  refine lv_iload_n hx hb dL_law_189 rfl (lv_at hl 3 rfl) ?_
  refine lv_iconst (v := 4) hx hb dL_law_190 ic_4 ?_
  refine lv_iadd hx hb dL_law_191 ?_
  refine va_sld hx hb hX hbl hbA hw.2.2 (sc_in (k := 4) rfl hL (by omega)) dL_law_192 ?_
  refine ctA_V (As := [.int (xs (nI j + 1).toNatClampNeg), .int (xs (nI j + 2).toNatClampNeg), .int (xs (nI j + 3).toNatClampNeg), .int (xs (nI j + 4).toNatClampNeg)]) (q0 := 19) (ci := 8) (rest := []) C hw hA ((kX8_hall l D cI cB cS n ad bf hcg e1).frame _) cfX8_hall tg_175 tg_176 tg_177 ⟨(Nat.le_of_ble_eq_true rfl), (Nat.le_of_ble_eq_true rfl)⟩ ⟨by show 200 + 2 * j + 12 ≤ 600000; omega, by show 2000 + 8 * j + 48 ≤ 7302250; omega⟩ rfl rfl rfl rfl hl.1 rfl (Nat.le_of_ble_eq_true rfl) dL_law_193 (fun v ws1 H locs hp hw => ?_)
  obtain ⟨w1, rfl, rfl, ad1, bf1, rfl, hcg1, ha1⟩ := hp
  have hw := hw.swap
  refine lv_aload_n hx hb dL_law_196 rfl (lv_at hl 2 rfl) ?_
  refine lv_aload_n hx hb dL_law_197 rfl (lv_at hl 0 rfl) ?_
  refine lv_iload_n hx hb dL_law_198 rfl (lv_at hl 3 rfl) ?_
  refine lv_iconst (v := 1) hx hb dL_law_199 ic_1 ?_
  refine lv_iadd hx hb dL_law_200 ?_
  refine va_sld hx hb hX hbl hbA hw.2.2 (sc_in (k := 1) rfl hL (by omega)) dL_law_201 ?_
  refine lv_aload_n hx hb dL_law_202 rfl (lv_at hl 0 rfl) ?_
  refine lv_iload_n hx hb dL_law_203 rfl (lv_at hl 3 rfl) ?_
  refine lv_iconst (v := 2) hx hb dL_law_204 ic_2 ?_
  refine lv_iadd hx hb dL_law_205 ?_
  refine va_sld hx hb hX hbl hbA hw.2.2 (sc_in (k := 2) rfl hL (by omega)) dL_law_206 ?_
  refine lv_aload_n hx hb dL_law_207 rfl (lv_at hl 0 rfl) ?_
  refine lv_iload_n hx hb dL_law_208 rfl (lv_at hl 3 rfl) ?_
  refine lv_iconst (v := 3) hx hb dL_law_209 ic_3 ?_
  refine lv_iadd hx hb dL_law_210 ?_
  refine va_sld hx hb hX hbl hbA hw.2.2 (sc_in (k := 3) rfl hL (by omega)) dL_law_211 ?_
  refine lv_aload_n hx hb dL_law_212 rfl (lv_at hl 0 rfl) ?_
  refine lv_iload_n hx hb dL_law_213 rfl (lv_at hl 3 rfl) ?_
  refine lv_iconst (v := 4) hx hb dL_law_214 ic_4 ?_
  refine lv_iadd hx hb dL_law_215 ?_
  refine va_sld hx hb hX hbl hbA hw.2.2 (sc_in (k := 4) rfl hL (by omega)) dL_law_216 ?_
  refine ctA_V (As := [.int (xs (nI j + 1).toNatClampNeg), .int (xs (nI j + 2).toNatClampNeg), .int (xs (nI j + 3).toNatClampNeg), .int (xs (nI j + 4).toNatClampNeg)]) (q0 := 22 + (q.2.1 + q.2.1)) (ci := 9) (rest := [.int q.1]) C hw hA ((KM_hall l D cI cB cS xM am e2).toA.frame _) cfX9_hall tg_736 tg_737 tg_738 ⟨(Nat.le_of_ble_eq_true rfl), (Nat.le_of_ble_eq_true rfl)⟩ ⟨by show 200 + 2 * j + 12 + 0 ≤ 600000; omega, by show 2000 + 8 * j + 48 + 0 ≤ 7302250; omega⟩ rfl rfl rfl law_at hl.1 rfl (Nat.le_of_ble_eq_true rfl) dL_law_217 (fun v ws1 H locs hp hw => ?_)
  obtain ⟨w1, rfl, rfl, rfl⟩ := hp
  have hw := hw.swap
  refine lv_icmp_eq (tgt := 1207) hx hb dL_law_220 (by decide) (fun _ => ?_) (fun hz => absurd e3 hz)
  refine lv_iinc (v := (nI j + 6)) (lv' := [(3, .int (nI j + 6)), (0, .ref b), (1, .ref (ad 0)), (2, .ref xM)]) hx hb dL_law_1207 hl (k := 3) rfl (iv_6 _) (by decide) rfl (fun ls hl => ?_)
  refine lv_goto (tgt := 18) hx hb dL_law_1210 (by decide) ?_
  refine W.widen (k := 200 + 2 * (j + 6)) (n := 2000 + 8 * (j + 6)) (by omega) (by omega) ?_
  have hl := lv_sub (l' := [(0, .ref b), (1, .ref (ad 0)), (2, .ref xM), (3, .int (nI j + 6))]) hl [1, 2, 3, 0] rfl
  rw [show (6 : Int32) = nI 6 from rfl, nI_add] at hl
  exact hback _ _ _ _ _ _ _ _ e4 hcg1 ha1 hw hl
set_option maxHeartbeats 4000000 in
theorem law_ofBuyer {p : Program} {l : Launch} {e : Env} {s : State} {m : MethodId} {below : List Frame} {meth : Method} {c : Code} {D : va_G} {cI cB cS : ClassId} {b L : Nat} {xs : Nat → Int32} {xD xM : Nat} {am : Nat → Nat} {Inv : Nat → MS → MS → Prop} (hL : L ≤ 3072) (C0 : lw_At p s m meth c b L xs) (hgK : gK D cI cB cS s) (hI : opsOk Inv) {n j : Nat} {ad : Nat → Nat} {bf : Nat → Option Nat} {S M : MS} {H : Heap} {locs : List Loc} {ls : Array Slot} (hj : j + 6 ≤ L) (hinv : Inv n S M) (hcg : bok n ad bf) (hxD : ad 0 = xD) (hw : wd D (fun q : Nat => s.heap.size ≤ q) s.heap (mW cI xM am M ++ cW cI cB cS n ad bf S) H locs) (hl : lv_has ls 4 [(0, .ref b), (1, .ref xD), (2, .ref xM), (3, .int (nI j))])
    (hback : ∀ (n2 : Nat) (ad2 : Nat → Nat) (bf2 : Nat → Option Nat) (S2 M2 : MS) (H : Heap) (locs : List Loc) (ls : Array Slot), Inv n2 S2 M2 → bok n2 ad2 bf2 → ad2 0 = xD → wd D (fun q : Nat => s.heap.size ≤ q) s.heap (mW cI xM am M2 ++ cW cI cB cS n2 ad2 bf2 S2) H locs → lv_has ls 4 [(0, .ref b), (1, .ref xD), (2, .ref xM), (3, .int (nI (j + 6)))] → W p l e room_1 s m #[Value.ref b] below meth c H locs (200 + 2 * (j + 6)) (2000 + 8 * (j + 6)) (lw_Z below #[Value.ref b] s) (F0 m 18 ls [])) : W p l e room_1 s m #[Value.ref b] below meth c H locs (200 + 2 * j) (2000 + 8 * j) (lw_Z below #[Value.ref b] s) (F0 m 225 ls []) := by
  have C := law_cx C0 hgK
  obtain ⟨hx, hb, hr, hml, hown, hts, hX, hbl, hlocks, hgv⟩ := C0
  have hA : ∀ q : Nat, s.heap.size ≤ q → (fun q : Nat => s.heap.size ≤ q) q := fun _ h => h
  have hbA : ¬ (fun q : Nat => s.heap.size ≤ q) b := Nat.not_le.mpr hbl
  subst hxD
  obtain ⟨q, qm, e1, e2, e3, e4⟩ := hI.2.1 n S M (xs (nI j + 1).toNatClampNeg) (xs (nI j + 2).toNatClampNeg) hinv
  refine lv_aload_n hx hb dL_law_225 rfl (lv_at hl 1 rfl) ?_
  refine lv_aload_n hx hb dL_law_226 rfl (lv_at hl 0 rfl) ?_
  refine lv_iload_n hx hb dL_law_227 rfl (lv_at hl 3 rfl) ?_
  refine lv_iconst (v := 1) hx hb dL_law_228 ic_1 ?_
  refine lv_iadd hx hb dL_law_229 ?_
  refine va_sld hx hb hX hbl hbA hw.2.2 (sc_in (k := 1) rfl hL (by omega)) dL_law_230 ?_
  refine lv_aload_n hx hb dL_law_231 rfl (lv_at hl 0 rfl) ?_
  refine lv_iload_n hx hb dL_law_232 rfl (lv_at hl 3 rfl) ?_
  refine lv_iconst (v := 2) hx hb dL_law_233 ic_2 ?_
  refine lv_iadd hx hb dL_law_234 ?_
  refine va_sld hx hb hX hbl hbA hw.2.2 (sc_in (k := 2) rfl hL (by omega)) dL_law_235 ?_
  refine ctA_V (As := [.int (xs (nI j + 1).toNatClampNeg), .int (xs (nI j + 2).toNatClampNeg)]) (q0 := 19) (ci := 8) (rest := []) C hw hA ((KC_ofBuyer l D cI cB cS n ad bf hcg e1).toA.frame _) cfX8_ofBuyer tg_289 tg_290 tg_291 ⟨(Nat.le_of_ble_eq_true rfl), (Nat.le_of_ble_eq_true rfl)⟩ ⟨by show 200 + 2 * j + 0 ≤ 600000; omega, by show 2000 + 8 * j + 0 ≤ 7302250; omega⟩ rfl rfl rfl rfl hl.1 rfl (Nat.le_of_ble_eq_true rfl) dL_law_236 (fun v ws1 H locs hp hw => ?_)
  obtain ⟨w1, rfl, rfl, rfl⟩ := hp
  have hw := hw.swap
  refine lv_aload_n hx hb dL_law_239 rfl (lv_at hl 2 rfl) ?_
  refine lv_aload_n hx hb dL_law_240 rfl (lv_at hl 0 rfl) ?_
  refine lv_iload_n hx hb dL_law_241 rfl (lv_at hl 3 rfl) ?_
  refine lv_iconst (v := 1) hx hb dL_law_242 ic_1 ?_
  refine lv_iadd hx hb dL_law_243 ?_
  refine va_sld hx hb hX hbl hbA hw.2.2 (sc_in (k := 1) rfl hL (by omega)) dL_law_244 ?_
  refine lv_aload_n hx hb dL_law_245 rfl (lv_at hl 0 rfl) ?_
  refine lv_iload_n hx hb dL_law_246 rfl (lv_at hl 3 rfl) ?_
  refine lv_iconst (v := 2) hx hb dL_law_247 ic_2 ?_
  refine lv_iadd hx hb dL_law_248 ?_
  refine va_sld hx hb hX hbl hbA hw.2.2 (sc_in (k := 2) rfl hL (by omega)) dL_law_249 ?_
  refine ctA_V (As := [.int (xs (nI j + 1).toNatClampNeg), .int (xs (nI j + 2).toNatClampNeg)]) (q0 := 22 + (n + n)) (ci := 9) (rest := [.int q.1]) C hw hA ((KM_ofBuyer l D cI cB cS xM am e2).toA.frame _) cfX9_ofBuyer tg_782 tg_783 tg_784 ⟨(Nat.le_of_ble_eq_true rfl), (Nat.le_of_ble_eq_true rfl)⟩ ⟨by show 200 + 2 * j + 0 + 0 ≤ 600000; omega, by show 2000 + 8 * j + 0 + 0 ≤ 7302250; omega⟩ rfl rfl rfl law_at hl.1 rfl (Nat.le_of_ble_eq_true rfl) dL_law_250 (fun v ws1 H locs hp hw => ?_)
  obtain ⟨w1, rfl, rfl, rfl⟩ := hp
  have hw := hw.swap
  refine lv_icmp_eq (tgt := 1207) hx hb dL_law_253 (by decide) (fun _ => ?_) (fun hz => absurd e3 hz)
  refine lv_iinc (v := (nI j + 6)) (lv' := [(3, .int (nI j + 6)), (0, .ref b), (1, .ref (ad 0)), (2, .ref xM)]) hx hb dL_law_1207 hl (k := 3) rfl (iv_6 _) (by decide) rfl (fun ls hl => ?_)
  refine lv_goto (tgt := 18) hx hb dL_law_1210 (by decide) ?_
  refine W.widen (k := 200 + 2 * (j + 6)) (n := 2000 + 8 * (j + 6)) (by omega) (by omega) ?_
  have hl := lv_sub (l' := [(0, .ref b), (1, .ref (ad 0)), (2, .ref xM), (3, .int (nI j + 6))]) hl [1, 2, 3, 0] rfl
  rw [show (6 : Int32) = nI 6 from rfl, nI_add] at hl
  exact hback _ _ _ _ _ _ _ _ e4 hcg rfl hw hl
set_option maxHeartbeats 4000000 in
theorem law_worth {p : Program} {l : Launch} {e : Env} {s : State} {m : MethodId} {below : List Frame} {meth : Method} {c : Code} {D : va_G} {cI cB cS : ClassId} {b L : Nat} {xs : Nat → Int32} {xD xM : Nat} {am : Nat → Nat} {Inv : Nat → MS → MS → Prop} (hL : L ≤ 3072) (C0 : lw_At p s m meth c b L xs) (hgK : gK D cI cB cS s) (hI : opsOk Inv) {n j : Nat} {ad : Nat → Nat} {bf : Nat → Option Nat} {S M : MS} {H : Heap} {locs : List Loc} {ls : Array Slot} (hj : j + 6 ≤ L) (hinv : Inv n S M) (hcg : bok n ad bf) (hxD : ad 0 = xD) (hw : wd D (fun q : Nat => s.heap.size ≤ q) s.heap (mW cI xM am M ++ cW cI cB cS n ad bf S) H locs) (hl : lv_has ls 4 [(0, .ref b), (1, .ref xD), (2, .ref xM), (3, .int (nI j))])
    (hback : ∀ (n2 : Nat) (ad2 : Nat → Nat) (bf2 : Nat → Option Nat) (S2 M2 : MS) (H : Heap) (locs : List Loc) (ls : Array Slot), Inv n2 S2 M2 → bok n2 ad2 bf2 → ad2 0 = xD → wd D (fun q : Nat => s.heap.size ≤ q) s.heap (mW cI xM am M2 ++ cW cI cB cS n2 ad2 bf2 S2) H locs → lv_has ls 4 [(0, .ref b), (1, .ref xD), (2, .ref xM), (3, .int (nI (j + 6)))] → W p l e room_1 s m #[Value.ref b] below meth c H locs (200 + 2 * (j + 6)) (2000 + 8 * (j + 6)) (lw_Z below #[Value.ref b] s) (F0 m 18 ls [])) : W p l e room_1 s m #[Value.ref b] below meth c H locs (200 + 2 * j) (2000 + 8 * j) (lw_Z below #[Value.ref b] s) (F0 m 258 ls []) := by
  have C := law_cx C0 hgK
  obtain ⟨hx, hb, hr, hml, hown, hts, hX, hbl, hlocks, hgv⟩ := C0
  have hA : ∀ q : Nat, s.heap.size ≤ q → (fun q : Nat => s.heap.size ≤ q) q := fun _ h => h
  have hbA : ¬ (fun q : Nat => s.heap.size ≤ q) b := Nat.not_le.mpr hbl
  subst hxD
  obtain ⟨q, qm, e1, e2, e3, e4⟩ := hI.2.2.1 n S M (xs (nI j + 1).toNatClampNeg) (xs (nI j + 2).toNatClampNeg) (xs (nI j + 3).toNatClampNeg) hinv
  refine lv_aload_n hx hb dL_law_258 rfl (lv_at hl 1 rfl) ?_
  refine lv_aload_n hx hb dL_law_259 rfl (lv_at hl 0 rfl) ?_
  refine lv_iload_n hx hb dL_law_260 rfl (lv_at hl 3 rfl) ?_
  refine lv_iconst (v := 1) hx hb dL_law_261 ic_1 ?_
  refine lv_iadd hx hb dL_law_262 ?_
  refine va_sld hx hb hX hbl hbA hw.2.2 (sc_in (k := 1) rfl hL (by omega)) dL_law_263 ?_
  refine lv_aload_n hx hb dL_law_264 rfl (lv_at hl 0 rfl) ?_
  refine lv_iload_n hx hb dL_law_265 rfl (lv_at hl 3 rfl) ?_
  refine lv_iconst (v := 2) hx hb dL_law_266 ic_2 ?_
  refine lv_iadd hx hb dL_law_267 ?_
  refine va_sld hx hb hX hbl hbA hw.2.2 (sc_in (k := 2) rfl hL (by omega)) dL_law_268 ?_
  refine lv_aload_n hx hb dL_law_269 rfl (lv_at hl 0 rfl) ?_
  refine lv_iload_n hx hb dL_law_270 rfl (lv_at hl 3 rfl) ?_
  refine lv_iconst (v := 3) hx hb dL_law_271 ic_3 ?_
  refine lv_iadd hx hb dL_law_272 ?_
  refine va_sld hx hb hX hbl hbA hw.2.2 (sc_in (k := 3) rfl hL (by omega)) dL_law_273 ?_
  refine ctA_V (As := [.int (xs (nI j + 1).toNatClampNeg), .int (xs (nI j + 2).toNatClampNeg), .int (xs (nI j + 3).toNatClampNeg)]) (q0 := 19) (ci := 8) (rest := []) C hw hA ((KC_worth l D cI cB cS n ad bf hcg e1).toA.frame _) cfX8_worth tg_327 tg_328 tg_329 ⟨(Nat.le_of_ble_eq_true rfl), (Nat.le_of_ble_eq_true rfl)⟩ ⟨by show 200 + 2 * j + 0 ≤ 600000; omega, by show 2000 + 8 * j + 0 ≤ 7302250; omega⟩ rfl rfl rfl rfl hl.1 rfl (Nat.le_of_ble_eq_true rfl) dL_law_274 (fun v ws1 H locs hp hw => ?_)
  obtain ⟨w1, rfl, rfl, rfl⟩ := hp
  have hw := hw.swap
  refine lv_aload_n hx hb dL_law_277 rfl (lv_at hl 2 rfl) ?_
  refine lv_aload_n hx hb dL_law_278 rfl (lv_at hl 0 rfl) ?_
  refine lv_iload_n hx hb dL_law_279 rfl (lv_at hl 3 rfl) ?_
  refine lv_iconst (v := 1) hx hb dL_law_280 ic_1 ?_
  refine lv_iadd hx hb dL_law_281 ?_
  refine va_sld hx hb hX hbl hbA hw.2.2 (sc_in (k := 1) rfl hL (by omega)) dL_law_282 ?_
  refine lv_aload_n hx hb dL_law_283 rfl (lv_at hl 0 rfl) ?_
  refine lv_iload_n hx hb dL_law_284 rfl (lv_at hl 3 rfl) ?_
  refine lv_iconst (v := 2) hx hb dL_law_285 ic_2 ?_
  refine lv_iadd hx hb dL_law_286 ?_
  refine va_sld hx hb hX hbl hbA hw.2.2 (sc_in (k := 2) rfl hL (by omega)) dL_law_287 ?_
  refine lv_aload_n hx hb dL_law_288 rfl (lv_at hl 0 rfl) ?_
  refine lv_iload_n hx hb dL_law_289 rfl (lv_at hl 3 rfl) ?_
  refine lv_iconst (v := 3) hx hb dL_law_290 ic_3 ?_
  refine lv_iadd hx hb dL_law_291 ?_
  refine va_sld hx hb hX hbl hbA hw.2.2 (sc_in (k := 3) rfl hL (by omega)) dL_law_292 ?_
  refine ctA_V (As := [.int (xs (nI j + 1).toNatClampNeg), .int (xs (nI j + 2).toNatClampNeg), .int (xs (nI j + 3).toNatClampNeg)]) (q0 := 22 + (n + n)) (ci := 9) (rest := [.int q.1]) C hw hA ((KM_worth l D cI cB cS xM am e2).toA.frame _) cfX9_worth tg_805 tg_806 tg_807 ⟨(Nat.le_of_ble_eq_true rfl), (Nat.le_of_ble_eq_true rfl)⟩ ⟨by show 200 + 2 * j + 0 + 0 ≤ 600000; omega, by show 2000 + 8 * j + 0 + 0 ≤ 7302250; omega⟩ rfl rfl rfl law_at hl.1 rfl (Nat.le_of_ble_eq_true rfl) dL_law_293 (fun v ws1 H locs hp hw => ?_)
  obtain ⟨w1, rfl, rfl, rfl⟩ := hp
  have hw := hw.swap
  refine lv_icmp_eq (tgt := 1207) hx hb dL_law_296 (by decide) (fun _ => ?_) (fun hz => absurd e3 hz)
  refine lv_iinc (v := (nI j + 6)) (lv' := [(3, .int (nI j + 6)), (0, .ref b), (1, .ref (ad 0)), (2, .ref xM)]) hx hb dL_law_1207 hl (k := 3) rfl (iv_6 _) (by decide) rfl (fun ls hl => ?_)
  refine lv_goto (tgt := 18) hx hb dL_law_1210 (by decide) ?_
  refine W.widen (k := 200 + 2 * (j + 6)) (n := 2000 + 8 * (j + 6)) (by omega) (by omega) ?_
  have hl := lv_sub (l' := [(0, .ref b), (1, .ref (ad 0)), (2, .ref xM), (3, .int (nI j + 6))]) hl [1, 2, 3, 0] rfl
  rw [show (6 : Int32) = nI 6 from rfl, nI_add] at hl
  exact hback _ _ _ _ _ _ _ _ e4 hcg rfl hw hl
set_option maxHeartbeats 4000000 in
theorem law_limit {p : Program} {l : Launch} {e : Env} {s : State} {m : MethodId} {below : List Frame} {meth : Method} {c : Code} {D : va_G} {cI cB cS : ClassId} {b L : Nat} {xs : Nat → Int32} {xD xM : Nat} {am : Nat → Nat} {Inv : Nat → MS → MS → Prop} (hL : L ≤ 3072) (C0 : lw_At p s m meth c b L xs) (hgK : gK D cI cB cS s) (hI : opsOk Inv) {n j : Nat} {ad : Nat → Nat} {bf : Nat → Option Nat} {S M : MS} {H : Heap} {locs : List Loc} {ls : Array Slot} (hj : j + 6 ≤ L) (hinv : Inv n S M) (hcg : bok n ad bf) (hxD : ad 0 = xD) (hw : wd D (fun q : Nat => s.heap.size ≤ q) s.heap (mW cI xM am M ++ cW cI cB cS n ad bf S) H locs) (hl : lv_has ls 4 [(0, .ref b), (1, .ref xD), (2, .ref xM), (3, .int (nI j))])
    (hback : ∀ (n2 : Nat) (ad2 : Nat → Nat) (bf2 : Nat → Option Nat) (S2 M2 : MS) (H : Heap) (locs : List Loc) (ls : Array Slot), Inv n2 S2 M2 → bok n2 ad2 bf2 → ad2 0 = xD → wd D (fun q : Nat => s.heap.size ≤ q) s.heap (mW cI xM am M2 ++ cW cI cB cS n2 ad2 bf2 S2) H locs → lv_has ls 4 [(0, .ref b), (1, .ref xD), (2, .ref xM), (3, .int (nI (j + 6)))] → W p l e room_1 s m #[Value.ref b] below meth c H locs (200 + 2 * (j + 6)) (2000 + 8 * (j + 6)) (lw_Z below #[Value.ref b] s) (F0 m 18 ls [])) : W p l e room_1 s m #[Value.ref b] below meth c H locs (200 + 2 * j) (2000 + 8 * j) (lw_Z below #[Value.ref b] s) (F0 m 301 ls []) := by
  have C := law_cx C0 hgK
  obtain ⟨hx, hb, hr, hml, hown, hts, hX, hbl, hlocks, hgv⟩ := C0
  have hA : ∀ q : Nat, s.heap.size ≤ q → (fun q : Nat => s.heap.size ≤ q) q := fun _ h => h
  have hbA : ¬ (fun q : Nat => s.heap.size ≤ q) b := Nat.not_le.mpr hbl
  subst hxD
  obtain ⟨q, qm, e1, e2, e3, e4⟩ := hI.2.2.2.1 n S M (xs (nI j + 1).toNatClampNeg) (xs (nI j + 2).toNatClampNeg) hinv
  refine lv_aload_n hx hb dL_law_301 rfl (lv_at hl 1 rfl) ?_
  refine lv_aload_n hx hb dL_law_302 rfl (lv_at hl 0 rfl) ?_
  refine lv_iload_n hx hb dL_law_303 rfl (lv_at hl 3 rfl) ?_
  refine lv_iconst (v := 1) hx hb dL_law_304 ic_1 ?_
  refine lv_iadd hx hb dL_law_305 ?_
  refine va_sld hx hb hX hbl hbA hw.2.2 (sc_in (k := 1) rfl hL (by omega)) dL_law_306 ?_
  refine lv_aload_n hx hb dL_law_307 rfl (lv_at hl 0 rfl) ?_
  refine lv_iload_n hx hb dL_law_308 rfl (lv_at hl 3 rfl) ?_
  refine lv_iconst (v := 2) hx hb dL_law_309 ic_2 ?_
  refine lv_iadd hx hb dL_law_310 ?_
  refine va_sld hx hb hX hbl hbA hw.2.2 (sc_in (k := 2) rfl hL (by omega)) dL_law_311 ?_
  refine ctA_V (As := [.int (xs (nI j + 1).toNatClampNeg), .int (xs (nI j + 2).toNatClampNeg)]) (q0 := 19) (ci := 8) (rest := []) C hw hA ((KC_limit l D cI cB cS n ad bf hcg e1).toA.frame _) cfX8_limit tg_334 tg_335 tg_336 ⟨(Nat.le_of_ble_eq_true rfl), (Nat.le_of_ble_eq_true rfl)⟩ ⟨by show 200 + 2 * j + 0 ≤ 600000; omega, by show 2000 + 8 * j + 0 ≤ 7302250; omega⟩ rfl rfl rfl rfl hl.1 rfl (Nat.le_of_ble_eq_true rfl) dL_law_312 (fun v ws1 H locs hp hw => ?_)
  obtain ⟨w1, rfl, rfl, rfl⟩ := hp
  have hw := hw.swap
  refine lv_aload_n hx hb dL_law_315 rfl (lv_at hl 2 rfl) ?_
  refine lv_aload_n hx hb dL_law_316 rfl (lv_at hl 0 rfl) ?_
  refine lv_iload_n hx hb dL_law_317 rfl (lv_at hl 3 rfl) ?_
  refine lv_iconst (v := 1) hx hb dL_law_318 ic_1 ?_
  refine lv_iadd hx hb dL_law_319 ?_
  refine va_sld hx hb hX hbl hbA hw.2.2 (sc_in (k := 1) rfl hL (by omega)) dL_law_320 ?_
  refine lv_aload_n hx hb dL_law_321 rfl (lv_at hl 0 rfl) ?_
  refine lv_iload_n hx hb dL_law_322 rfl (lv_at hl 3 rfl) ?_
  refine lv_iconst (v := 2) hx hb dL_law_323 ic_2 ?_
  refine lv_iadd hx hb dL_law_324 ?_
  refine va_sld hx hb hX hbl hbA hw.2.2 (sc_in (k := 2) rfl hL (by omega)) dL_law_325 ?_
  refine ctA_V (As := [.int (xs (nI j + 1).toNatClampNeg), .int (xs (nI j + 2).toNatClampNeg)]) (q0 := 22 + (n + n)) (ci := 9) (rest := [.int q.1]) C hw hA ((KM_limit l D cI cB cS xM am e2).toA.frame _) cfX9_limit tg_813 tg_814 tg_815 ⟨(Nat.le_of_ble_eq_true rfl), (Nat.le_of_ble_eq_true rfl)⟩ ⟨by show 200 + 2 * j + 0 + 0 ≤ 600000; omega, by show 2000 + 8 * j + 0 + 0 ≤ 7302250; omega⟩ rfl rfl rfl law_at hl.1 rfl (Nat.le_of_ble_eq_true rfl) dL_law_326 (fun v ws1 H locs hp hw => ?_)
  obtain ⟨w1, rfl, rfl, rfl⟩ := hp
  have hw := hw.swap
  refine lv_icmp_eq (tgt := 1207) hx hb dL_law_329 (by decide) (fun _ => ?_) (fun hz => absurd e3 hz)
  refine lv_iinc (v := (nI j + 6)) (lv' := [(3, .int (nI j + 6)), (0, .ref b), (1, .ref (ad 0)), (2, .ref xM)]) hx hb dL_law_1207 hl (k := 3) rfl (iv_6 _) (by decide) rfl (fun ls hl => ?_)
  refine lv_goto (tgt := 18) hx hb dL_law_1210 (by decide) ?_
  refine W.widen (k := 200 + 2 * (j + 6)) (n := 2000 + 8 * (j + 6)) (by omega) (by omega) ?_
  have hl := lv_sub (l' := [(0, .ref b), (1, .ref (ad 0)), (2, .ref xM), (3, .int (nI j + 6))]) hl [1, 2, 3, 0] rfl
  rw [show (6 : Int32) = nI 6 from rfl, nI_add] at hl
  exact hback _ _ _ _ _ _ _ _ e4 hcg rfl hw hl
set_option maxHeartbeats 4000000 in
theorem law_sit {p : Program} {l : Launch} {e : Env} {s : State} {m : MethodId} {below : List Frame} {meth : Method} {c : Code} {D : va_G} {cI cB cS : ClassId} {b L : Nat} {xs : Nat → Int32} {xD xM : Nat} {am : Nat → Nat} {Inv : Nat → MS → MS → Prop} (hL : L ≤ 3072) (C0 : lw_At p s m meth c b L xs) (hgK : gK D cI cB cS s) (hI : opsOk Inv) {n j : Nat} {ad : Nat → Nat} {bf : Nat → Option Nat} {S M : MS} {H : Heap} {locs : List Loc} {ls : Array Slot} (hj : j + 6 ≤ L) (hinv : Inv n S M) (hcg : bok n ad bf) (hxD : ad 0 = xD) (hw : wd D (fun q : Nat => s.heap.size ≤ q) s.heap (mW cI xM am M ++ cW cI cB cS n ad bf S) H locs) (hl : lv_has ls 4 [(0, .ref b), (1, .ref xD), (2, .ref xM), (3, .int (nI j))])
    (hback : ∀ (n2 : Nat) (ad2 : Nat → Nat) (bf2 : Nat → Option Nat) (S2 M2 : MS) (H : Heap) (locs : List Loc) (ls : Array Slot), Inv n2 S2 M2 → bok n2 ad2 bf2 → ad2 0 = xD → wd D (fun q : Nat => s.heap.size ≤ q) s.heap (mW cI xM am M2 ++ cW cI cB cS n2 ad2 bf2 S2) H locs → lv_has ls 4 [(0, .ref b), (1, .ref xD), (2, .ref xM), (3, .int (nI (j + 6)))] → W p l e room_1 s m #[Value.ref b] below meth c H locs (200 + 2 * (j + 6)) (2000 + 8 * (j + 6)) (lw_Z below #[Value.ref b] s) (F0 m 18 ls [])) : W p l e room_1 s m #[Value.ref b] below meth c H locs (200 + 2 * j) (2000 + 8 * j) (lw_Z below #[Value.ref b] s) (F0 m 334 ls []) := by
  have C := law_cx C0 hgK
  obtain ⟨hx, hb, hr, hml, hown, hts, hX, hbl, hlocks, hgv⟩ := C0
  have hA : ∀ q : Nat, s.heap.size ≤ q → (fun q : Nat => s.heap.size ≤ q) q := fun _ h => h
  have hbA : ¬ (fun q : Nat => s.heap.size ≤ q) b := Nat.not_le.mpr hbl
  subst hxD
  obtain ⟨q, qm, e1, e2, e3, e4⟩ := hI.2.2.2.2.1 n S M (xs (nI j + 1).toNatClampNeg) (xs (nI j + 2).toNatClampNeg) hinv
  refine lv_aload_n hx hb dL_law_334 rfl (lv_at hl 1 rfl) ?_
  refine lv_aload_n hx hb dL_law_335 rfl (lv_at hl 0 rfl) ?_
  refine lv_iload_n hx hb dL_law_336 rfl (lv_at hl 3 rfl) ?_
  refine lv_iconst (v := 1) hx hb dL_law_337 ic_1 ?_
  refine lv_iadd hx hb dL_law_338 ?_
  refine va_sld hx hb hX hbl hbA hw.2.2 (sc_in (k := 1) rfl hL (by omega)) dL_law_339 ?_
  refine lv_aload_n hx hb dL_law_340 rfl (lv_at hl 0 rfl) ?_
  refine lv_iload_n hx hb dL_law_341 rfl (lv_at hl 3 rfl) ?_
  refine lv_iconst (v := 2) hx hb dL_law_342 ic_2 ?_
  refine lv_iadd hx hb dL_law_343 ?_
  refine va_sld hx hb hX hbl hbA hw.2.2 (sc_in (k := 2) rfl hL (by omega)) dL_law_344 ?_
  refine ctA_V (As := [.int (xs (nI j + 1).toNatClampNeg), .int (xs (nI j + 2).toNatClampNeg)]) (q0 := 19) (ci := 8) (rest := []) C hw hA ((KC_sit l D cI cB cS n ad bf hcg e1).toA.frame _) cfX8_sit tg_354 tg_355 tg_356 ⟨(Nat.le_of_ble_eq_true rfl), (Nat.le_of_ble_eq_true rfl)⟩ ⟨by show 200 + 2 * j + 0 ≤ 600000; omega, by show 2000 + 8 * j + 0 ≤ 7302250; omega⟩ rfl rfl rfl rfl hl.1 rfl (Nat.le_of_ble_eq_true rfl) dL_law_345 (fun v ws1 H locs hp hw => ?_)
  obtain ⟨w1, rfl, rfl, rfl⟩ := hp
  have hw := hw.swap
  refine lv_aload_n hx hb dL_law_348 rfl (lv_at hl 2 rfl) ?_
  refine lv_aload_n hx hb dL_law_349 rfl (lv_at hl 0 rfl) ?_
  refine lv_iload_n hx hb dL_law_350 rfl (lv_at hl 3 rfl) ?_
  refine lv_iconst (v := 1) hx hb dL_law_351 ic_1 ?_
  refine lv_iadd hx hb dL_law_352 ?_
  refine va_sld hx hb hX hbl hbA hw.2.2 (sc_in (k := 1) rfl hL (by omega)) dL_law_353 ?_
  refine lv_aload_n hx hb dL_law_354 rfl (lv_at hl 0 rfl) ?_
  refine lv_iload_n hx hb dL_law_355 rfl (lv_at hl 3 rfl) ?_
  refine lv_iconst (v := 2) hx hb dL_law_356 ic_2 ?_
  refine lv_iadd hx hb dL_law_357 ?_
  refine va_sld hx hb hX hbl hbA hw.2.2 (sc_in (k := 2) rfl hL (by omega)) dL_law_358 ?_
  refine ctA_V (As := [.int (xs (nI j + 1).toNatClampNeg), .int (xs (nI j + 2).toNatClampNeg)]) (q0 := 22 + (n + n)) (ci := 9) (rest := [.int q.1]) C hw hA ((KM_sit l D cI cB cS xM am e2).toA.frame _) cfX9_sit tg_821 tg_822 tg_823 ⟨(Nat.le_of_ble_eq_true rfl), (Nat.le_of_ble_eq_true rfl)⟩ ⟨by show 200 + 2 * j + 0 + 0 ≤ 600000; omega, by show 2000 + 8 * j + 0 + 0 ≤ 7302250; omega⟩ rfl rfl rfl law_at hl.1 rfl (Nat.le_of_ble_eq_true rfl) dL_law_359 (fun v ws1 H locs hp hw => ?_)
  obtain ⟨w1, rfl, rfl, rfl⟩ := hp
  have hw := hw.swap
  refine lv_icmp_eq (tgt := 1207) hx hb dL_law_362 (by decide) (fun _ => ?_) (fun hz => absurd e3 hz)
  refine lv_iinc (v := (nI j + 6)) (lv' := [(3, .int (nI j + 6)), (0, .ref b), (1, .ref (ad 0)), (2, .ref xM)]) hx hb dL_law_1207 hl (k := 3) rfl (iv_6 _) (by decide) rfl (fun ls hl => ?_)
  refine lv_goto (tgt := 18) hx hb dL_law_1210 (by decide) ?_
  refine W.widen (k := 200 + 2 * (j + 6)) (n := 2000 + 8 * (j + 6)) (by omega) (by omega) ?_
  have hl := lv_sub (l' := [(0, .ref b), (1, .ref (ad 0)), (2, .ref xM), (3, .int (nI j + 6))]) hl [1, 2, 3, 0] rfl
  rw [show (6 : Int32) = nI 6 from rfl, nI_add] at hl
  exact hback _ _ _ _ _ _ _ _ e4 hcg rfl hw hl
set_option maxHeartbeats 4000000 in
theorem law_law {p : Program} {l : Launch} {e : Env} {s : State} {m : MethodId} {below : List Frame} {meth : Method} {c : Code} {D : va_G} {cI cB cS : ClassId} {b L : Nat} {xs : Nat → Int32} {xD xM : Nat} {am : Nat → Nat} {Inv : Nat → MS → MS → Prop} (hL : L ≤ 3072) (C0 : lw_At p s m meth c b L xs) (hgK : gK D cI cB cS s) (hI : opsOk Inv) {n j : Nat} {ad : Nat → Nat} {bf : Nat → Option Nat} {S M : MS} {H : Heap} {locs : List Loc} {ls : Array Slot} (hj : j + 6 ≤ L) (hinv : Inv n S M) (hcg : bok n ad bf) (hxD : ad 0 = xD) (hw : wd D (fun q : Nat => s.heap.size ≤ q) s.heap (mW cI xM am M ++ cW cI cB cS n ad bf S) H locs) (hl : lv_has ls 4 [(0, .ref b), (1, .ref xD), (2, .ref xM), (3, .int (nI j))])
    (hback : ∀ (n2 : Nat) (ad2 : Nat → Nat) (bf2 : Nat → Option Nat) (S2 M2 : MS) (H : Heap) (locs : List Loc) (ls : Array Slot), Inv n2 S2 M2 → bok n2 ad2 bf2 → ad2 0 = xD → wd D (fun q : Nat => s.heap.size ≤ q) s.heap (mW cI xM am M2 ++ cW cI cB cS n2 ad2 bf2 S2) H locs → lv_has ls 4 [(0, .ref b), (1, .ref xD), (2, .ref xM), (3, .int (nI (j + 6)))] → W p l e room_1 s m #[Value.ref b] below meth c H locs (200 + 2 * (j + 6)) (2000 + 8 * (j + 6)) (lw_Z below #[Value.ref b] s) (F0 m 18 ls [])) : W p l e room_1 s m #[Value.ref b] below meth c H locs (200 + 2 * j) (2000 + 8 * j) (lw_Z below #[Value.ref b] s) (F0 m 367 ls []) := by
  have C := law_cx C0 hgK
  obtain ⟨hx, hb, hr, hml, hown, hts, hX, hbl, hlocks, hgv⟩ := C0
  have hA : ∀ q : Nat, s.heap.size ≤ q → (fun q : Nat => s.heap.size ≤ q) q := fun _ h => h
  have hbA : ¬ (fun q : Nat => s.heap.size ≤ q) b := Nat.not_le.mpr hbl
  subst hxD
  obtain ⟨q, qm, e1, e2, e3, e4⟩ := hI.2.2.2.2.2.1 n S M (xs (nI j + 1).toNatClampNeg) hinv
  refine lv_aload_n hx hb dL_law_367 rfl (lv_at hl 1 rfl) ?_
  refine lv_aload_n hx hb dL_law_368 rfl (lv_at hl 0 rfl) ?_
  refine lv_iload_n hx hb dL_law_369 rfl (lv_at hl 3 rfl) ?_
  refine lv_iconst (v := 1) hx hb dL_law_370 ic_1 ?_
  refine lv_iadd hx hb dL_law_371 ?_
  refine va_sld hx hb hX hbl hbA hw.2.2 (sc_in (k := 1) rfl hL (by omega)) dL_law_372 ?_
  refine ctA_V (As := [.int (xs (nI j + 1).toNatClampNeg)]) (q0 := 19) (ci := 8) (rest := []) C hw hA ((KC_law l D cI cB cS n ad bf hcg e1).toA.frame _) cfX8_law tg_359 tg_360 tg_361 ⟨(Nat.le_of_ble_eq_true rfl), (Nat.le_of_ble_eq_true rfl)⟩ ⟨by show 200 + 2 * j + 0 ≤ 600000; omega, by show 2000 + 8 * j + 0 ≤ 7302250; omega⟩ rfl rfl rfl rfl hl.1 rfl (Nat.le_of_ble_eq_true rfl) dL_law_373 (fun v ws1 H locs hp hw => ?_)
  obtain ⟨w1, rfl, rfl, rfl⟩ := hp
  have hw := hw.swap
  refine lv_aload_n hx hb dL_law_376 rfl (lv_at hl 2 rfl) ?_
  refine lv_aload_n hx hb dL_law_377 rfl (lv_at hl 0 rfl) ?_
  refine lv_iload_n hx hb dL_law_378 rfl (lv_at hl 3 rfl) ?_
  refine lv_iconst (v := 1) hx hb dL_law_379 ic_1 ?_
  refine lv_iadd hx hb dL_law_380 ?_
  refine va_sld hx hb hX hbl hbA hw.2.2 (sc_in (k := 1) rfl hL (by omega)) dL_law_381 ?_
  refine ctA_V (As := [.int (xs (nI j + 1).toNatClampNeg)]) (q0 := 22 + (n + n)) (ci := 9) (rest := [.int q.1]) C hw hA ((KM_law l D cI cB cS xM am e2).toA.frame _) cfX9_law tg_833 tg_834 tg_835 ⟨(Nat.le_of_ble_eq_true rfl), (Nat.le_of_ble_eq_true rfl)⟩ ⟨by show 200 + 2 * j + 0 + 0 ≤ 600000; omega, by show 2000 + 8 * j + 0 + 0 ≤ 7302250; omega⟩ rfl rfl rfl law_at hl.1 rfl (Nat.le_of_ble_eq_true rfl) dL_law_382 (fun v ws1 H locs hp hw => ?_)
  obtain ⟨w1, rfl, rfl, rfl⟩ := hp
  have hw := hw.swap
  refine lv_icmp_eq (tgt := 1207) hx hb dL_law_385 (by decide) (fun _ => ?_) (fun hz => absurd e3 hz)
  refine lv_iinc (v := (nI j + 6)) (lv' := [(3, .int (nI j + 6)), (0, .ref b), (1, .ref (ad 0)), (2, .ref xM)]) hx hb dL_law_1207 hl (k := 3) rfl (iv_6 _) (by decide) rfl (fun ls hl => ?_)
  refine lv_goto (tgt := 18) hx hb dL_law_1210 (by decide) ?_
  refine W.widen (k := 200 + 2 * (j + 6)) (n := 2000 + 8 * (j + 6)) (by omega) (by omega) ?_
  have hl := lv_sub (l' := [(0, .ref b), (1, .ref (ad 0)), (2, .ref xM), (3, .int (nI j + 6))]) hl [1, 2, 3, 0] rfl
  rw [show (6 : Int32) = nI 6 from rfl, nI_add] at hl
  exact hback _ _ _ _ _ _ _ _ e4 hcg rfl hw hl
set_option maxHeartbeats 4000000 in
theorem law_sale {p : Program} {l : Launch} {e : Env} {s : State} {m : MethodId} {below : List Frame} {meth : Method} {c : Code} {D : va_G} {cI cB cS : ClassId} {b L : Nat} {xs : Nat → Int32} {xD xM : Nat} {am : Nat → Nat} {Inv : Nat → MS → MS → Prop} (hL : L ≤ 3072) (C0 : lw_At p s m meth c b L xs) (hgK : gK D cI cB cS s) (hI : opsOk Inv) {n j : Nat} {ad : Nat → Nat} {bf : Nat → Option Nat} {S M : MS} {H : Heap} {locs : List Loc} {ls : Array Slot} (hj : j + 6 ≤ L) (hinv : Inv n S M) (hcg : bok n ad bf) (hxD : ad 0 = xD) (hw : wd D (fun q : Nat => s.heap.size ≤ q) s.heap (mW cI xM am M ++ cW cI cB cS n ad bf S) H locs) (hl : lv_has ls 4 [(0, .ref b), (1, .ref xD), (2, .ref xM), (3, .int (nI j))])
    (hback : ∀ (n2 : Nat) (ad2 : Nat → Nat) (bf2 : Nat → Option Nat) (S2 M2 : MS) (H : Heap) (locs : List Loc) (ls : Array Slot), Inv n2 S2 M2 → bok n2 ad2 bf2 → ad2 0 = xD → wd D (fun q : Nat => s.heap.size ≤ q) s.heap (mW cI xM am M2 ++ cW cI cB cS n2 ad2 bf2 S2) H locs → lv_has ls 4 [(0, .ref b), (1, .ref xD), (2, .ref xM), (3, .int (nI (j + 6)))] → W p l e room_1 s m #[Value.ref b] below meth c H locs (200 + 2 * (j + 6)) (2000 + 8 * (j + 6)) (lw_Z below #[Value.ref b] s) (F0 m 18 ls [])) : W p l e room_1 s m #[Value.ref b] below meth c H locs (200 + 2 * j) (2000 + 8 * j) (lw_Z below #[Value.ref b] s) (F0 m 390 ls []) := by
  have C := law_cx C0 hgK
  obtain ⟨hx, hb, hr, hml, hown, hts, hX, hbl, hlocks, hgv⟩ := C0
  have hA : ∀ q : Nat, s.heap.size ≤ q → (fun q : Nat => s.heap.size ≤ q) q := fun _ h => h
  have hbA : ¬ (fun q : Nat => s.heap.size ≤ q) b := Nat.not_le.mpr hbl
  subst hxD
  obtain ⟨q, qm, e1, e2, e3, e4⟩ := hI.2.2.2.2.2.2.1 n S M (xs (nI j + 1).toNatClampNeg) (xs (nI j + 2).toNatClampNeg) hinv
  refine lv_aload_n hx hb dL_law_390 rfl (lv_at hl 1 rfl) ?_
  refine lv_aload_n hx hb dL_law_391 rfl (lv_at hl 0 rfl) ?_
  refine lv_iload_n hx hb dL_law_392 rfl (lv_at hl 3 rfl) ?_
  refine lv_iconst (v := 1) hx hb dL_law_393 ic_1 ?_
  refine lv_iadd hx hb dL_law_394 ?_
  refine va_sld hx hb hX hbl hbA hw.2.2 (sc_in (k := 1) rfl hL (by omega)) dL_law_395 ?_
  refine lv_aload_n hx hb dL_law_396 rfl (lv_at hl 0 rfl) ?_
  refine lv_iload_n hx hb dL_law_397 rfl (lv_at hl 3 rfl) ?_
  refine lv_iconst (v := 2) hx hb dL_law_398 ic_2 ?_
  refine lv_iadd hx hb dL_law_399 ?_
  refine va_sld hx hb hX hbl hbA hw.2.2 (sc_in (k := 2) rfl hL (by omega)) dL_law_400 ?_
  refine ctA_V (As := [.int (xs (nI j + 1).toNatClampNeg), .int (xs (nI j + 2).toNatClampNeg)]) (q0 := 19) (ci := 8) (rest := []) C hw hA ((KC_sale l D cI cB cS n ad bf hcg e1).toA.frame _) cfX8_sale tg_367 tg_368 tg_369 ⟨(Nat.le_of_ble_eq_true rfl), (Nat.le_of_ble_eq_true rfl)⟩ ⟨by show 200 + 2 * j + 0 ≤ 600000; omega, by show 2000 + 8 * j + 0 ≤ 7302250; omega⟩ rfl rfl rfl rfl hl.1 rfl (Nat.le_of_ble_eq_true rfl) dL_law_401 (fun v ws1 H locs hp hw => ?_)
  obtain ⟨w1, rfl, rfl, rfl⟩ := hp
  have hw := hw.swap
  refine lv_aload_n hx hb dL_law_404 rfl (lv_at hl 2 rfl) ?_
  refine lv_aload_n hx hb dL_law_405 rfl (lv_at hl 0 rfl) ?_
  refine lv_iload_n hx hb dL_law_406 rfl (lv_at hl 3 rfl) ?_
  refine lv_iconst (v := 1) hx hb dL_law_407 ic_1 ?_
  refine lv_iadd hx hb dL_law_408 ?_
  refine va_sld hx hb hX hbl hbA hw.2.2 (sc_in (k := 1) rfl hL (by omega)) dL_law_409 ?_
  refine lv_aload_n hx hb dL_law_410 rfl (lv_at hl 0 rfl) ?_
  refine lv_iload_n hx hb dL_law_411 rfl (lv_at hl 3 rfl) ?_
  refine lv_iconst (v := 2) hx hb dL_law_412 ic_2 ?_
  refine lv_iadd hx hb dL_law_413 ?_
  refine va_sld hx hb hX hbl hbA hw.2.2 (sc_in (k := 2) rfl hL (by omega)) dL_law_414 ?_
  refine ctA_V (As := [.int (xs (nI j + 1).toNatClampNeg), .int (xs (nI j + 2).toNatClampNeg)]) (q0 := 22 + (n + n)) (ci := 9) (rest := [.int q.1]) C hw hA ((KM_sale l D cI cB cS xM am e2).toA.frame _) cfX9_sale tg_837 tg_838 tg_839 ⟨(Nat.le_of_ble_eq_true rfl), (Nat.le_of_ble_eq_true rfl)⟩ ⟨by show 200 + 2 * j + 0 + 0 ≤ 600000; omega, by show 2000 + 8 * j + 0 + 0 ≤ 7302250; omega⟩ rfl rfl rfl law_at hl.1 rfl (Nat.le_of_ble_eq_true rfl) dL_law_415 (fun v ws1 H locs hp hw => ?_)
  obtain ⟨w1, rfl, rfl, rfl⟩ := hp
  have hw := hw.swap
  refine lv_icmp_eq (tgt := 1207) hx hb dL_law_418 (by decide) (fun _ => ?_) (fun hz => absurd e3 hz)
  refine lv_iinc (v := (nI j + 6)) (lv' := [(3, .int (nI j + 6)), (0, .ref b), (1, .ref (ad 0)), (2, .ref xM)]) hx hb dL_law_1207 hl (k := 3) rfl (iv_6 _) (by decide) rfl (fun ls hl => ?_)
  refine lv_goto (tgt := 18) hx hb dL_law_1210 (by decide) ?_
  refine W.widen (k := 200 + 2 * (j + 6)) (n := 2000 + 8 * (j + 6)) (by omega) (by omega) ?_
  have hl := lv_sub (l' := [(0, .ref b), (1, .ref (ad 0)), (2, .ref xM), (3, .int (nI j + 6))]) hl [1, 2, 3, 0] rfl
  rw [show (6 : Int32) = nI 6 from rfl, nI_add] at hl
  exact hback _ _ _ _ _ _ _ _ e4 hcg rfl hw hl
set_option maxHeartbeats 4000000 in
theorem law_bid {p : Program} {l : Launch} {e : Env} {s : State} {m : MethodId} {below : List Frame} {meth : Method} {c : Code} {D : va_G} {cI cB cS : ClassId} {b L : Nat} {xs : Nat → Int32} {xD xM : Nat} {am : Nat → Nat} {Inv : Nat → MS → MS → Prop} (hL : L ≤ 3072) (C0 : lw_At p s m meth c b L xs) (hgK : gK D cI cB cS s) (hI : opsOk Inv) {n j : Nat} {ad : Nat → Nat} {bf : Nat → Option Nat} {S M : MS} {H : Heap} {locs : List Loc} {ls : Array Slot} (hj : j + 6 ≤ L) (hinv : Inv n S M) (hcg : bok n ad bf) (hxD : ad 0 = xD) (hw : wd D (fun q : Nat => s.heap.size ≤ q) s.heap (mW cI xM am M ++ cW cI cB cS n ad bf S) H locs) (hl : lv_has ls 4 [(0, .ref b), (1, .ref xD), (2, .ref xM), (3, .int (nI j))])
    (hback : ∀ (n2 : Nat) (ad2 : Nat → Nat) (bf2 : Nat → Option Nat) (S2 M2 : MS) (H : Heap) (locs : List Loc) (ls : Array Slot), Inv n2 S2 M2 → bok n2 ad2 bf2 → ad2 0 = xD → wd D (fun q : Nat => s.heap.size ≤ q) s.heap (mW cI xM am M2 ++ cW cI cB cS n2 ad2 bf2 S2) H locs → lv_has ls 4 [(0, .ref b), (1, .ref xD), (2, .ref xM), (3, .int (nI (j + 6)))] → W p l e room_1 s m #[Value.ref b] below meth c H locs (200 + 2 * (j + 6)) (2000 + 8 * (j + 6)) (lw_Z below #[Value.ref b] s) (F0 m 18 ls [])) : W p l e room_1 s m #[Value.ref b] below meth c H locs (200 + 2 * j) (2000 + 8 * j) (lw_Z below #[Value.ref b] s) (F0 m 423 ls []) := by
  have C := law_cx C0 hgK
  obtain ⟨hx, hb, hr, hml, hown, hts, hX, hbl, hlocks, hgv⟩ := C0
  have hA : ∀ q : Nat, s.heap.size ≤ q → (fun q : Nat => s.heap.size ≤ q) q := fun _ h => h
  have hbA : ¬ (fun q : Nat => s.heap.size ≤ q) b := Nat.not_le.mpr hbl
  subst hxD
  obtain ⟨q, qm, e1, e2, e3, e4⟩ := hI.2.2.2.2.2.2.2.1 n S M (xs (nI j + 1).toNatClampNeg) (xs (nI j + 2).toNatClampNeg) hinv
  refine lv_aload_n hx hb dL_law_423 rfl (lv_at hl 1 rfl) ?_
  refine lv_aload_n hx hb dL_law_424 rfl (lv_at hl 0 rfl) ?_
  refine lv_iload_n hx hb dL_law_425 rfl (lv_at hl 3 rfl) ?_
  refine lv_iconst (v := 1) hx hb dL_law_426 ic_1 ?_
  refine lv_iadd hx hb dL_law_427 ?_
  refine va_sld hx hb hX hbl hbA hw.2.2 (sc_in (k := 1) rfl hL (by omega)) dL_law_428 ?_
  refine lv_aload_n hx hb dL_law_429 rfl (lv_at hl 0 rfl) ?_
  refine lv_iload_n hx hb dL_law_430 rfl (lv_at hl 3 rfl) ?_
  refine lv_iconst (v := 2) hx hb dL_law_431 ic_2 ?_
  refine lv_iadd hx hb dL_law_432 ?_
  refine va_sld hx hb hX hbl hbA hw.2.2 (sc_in (k := 2) rfl hL (by omega)) dL_law_433 ?_
  refine ctA_V (As := [.int (xs (nI j + 1).toNatClampNeg), .int (xs (nI j + 2).toNatClampNeg)]) (q0 := 19) (ci := 8) (rest := []) C hw hA ((KC_bid l D cI cB cS n ad bf hcg e1).toA.frame _) cfX8_bid tg_418 tg_419 tg_420 ⟨(Nat.le_of_ble_eq_true rfl), (Nat.le_of_ble_eq_true rfl)⟩ ⟨by show 200 + 2 * j + 0 ≤ 600000; omega, by show 2000 + 8 * j + 0 ≤ 7302250; omega⟩ rfl rfl rfl rfl hl.1 rfl (Nat.le_of_ble_eq_true rfl) dL_law_434 (fun v ws1 H locs hp hw => ?_)
  obtain ⟨w1, rfl, rfl, rfl⟩ := hp
  have hw := hw.swap
  refine lv_aload_n hx hb dL_law_437 rfl (lv_at hl 2 rfl) ?_
  refine lv_aload_n hx hb dL_law_438 rfl (lv_at hl 0 rfl) ?_
  refine lv_iload_n hx hb dL_law_439 rfl (lv_at hl 3 rfl) ?_
  refine lv_iconst (v := 1) hx hb dL_law_440 ic_1 ?_
  refine lv_iadd hx hb dL_law_441 ?_
  refine va_sld hx hb hX hbl hbA hw.2.2 (sc_in (k := 1) rfl hL (by omega)) dL_law_442 ?_
  refine lv_aload_n hx hb dL_law_443 rfl (lv_at hl 0 rfl) ?_
  refine lv_iload_n hx hb dL_law_444 rfl (lv_at hl 3 rfl) ?_
  refine lv_iconst (v := 2) hx hb dL_law_445 ic_2 ?_
  refine lv_iadd hx hb dL_law_446 ?_
  refine va_sld hx hb hX hbl hbA hw.2.2 (sc_in (k := 2) rfl hL (by omega)) dL_law_447 ?_
  refine ctA_V (As := [.int (xs (nI j + 1).toNatClampNeg), .int (xs (nI j + 2).toNatClampNeg)]) (q0 := 22 + (n + n)) (ci := 9) (rest := [.int q.1]) C hw hA ((KM_bid l D cI cB cS xM am e2).toA.frame _) cfX9_bid tg_861 tg_862 tg_863 ⟨(Nat.le_of_ble_eq_true rfl), (Nat.le_of_ble_eq_true rfl)⟩ ⟨by show 200 + 2 * j + 0 + 0 ≤ 600000; omega, by show 2000 + 8 * j + 0 + 0 ≤ 7302250; omega⟩ rfl rfl rfl law_at hl.1 rfl (Nat.le_of_ble_eq_true rfl) dL_law_448 (fun v ws1 H locs hp hw => ?_)
  obtain ⟨w1, rfl, rfl, rfl⟩ := hp
  have hw := hw.swap
  refine lv_icmp_eq (tgt := 1207) hx hb dL_law_451 (by decide) (fun _ => ?_) (fun hz => absurd e3 hz)
  refine lv_iinc (v := (nI j + 6)) (lv' := [(3, .int (nI j + 6)), (0, .ref b), (1, .ref (ad 0)), (2, .ref xM)]) hx hb dL_law_1207 hl (k := 3) rfl (iv_6 _) (by decide) rfl (fun ls hl => ?_)
  refine lv_goto (tgt := 18) hx hb dL_law_1210 (by decide) ?_
  refine W.widen (k := 200 + 2 * (j + 6)) (n := 2000 + 8 * (j + 6)) (by omega) (by omega) ?_
  have hl := lv_sub (l' := [(0, .ref b), (1, .ref (ad 0)), (2, .ref xM), (3, .int (nI j + 6))]) hl [1, 2, 3, 0] rfl
  rw [show (6 : Int32) = nI 6 from rfl, nI_add] at hl
  exact hback _ _ _ _ _ _ _ _ e4 hcg rfl hw hl
set_option maxHeartbeats 4000000 in
theorem law_ends {p : Program} {l : Launch} {e : Env} {s : State} {m : MethodId} {below : List Frame} {meth : Method} {c : Code} {D : va_G} {cI cB cS : ClassId} {b L : Nat} {xs : Nat → Int32} {xD xM : Nat} {am : Nat → Nat} {Inv : Nat → MS → MS → Prop} (hL : L ≤ 3072) (C0 : lw_At p s m meth c b L xs) (hgK : gK D cI cB cS s) (hI : opsOk Inv) {n j : Nat} {ad : Nat → Nat} {bf : Nat → Option Nat} {S M : MS} {H : Heap} {locs : List Loc} {ls : Array Slot} (hj : j + 6 ≤ L) (hinv : Inv n S M) (hcg : bok n ad bf) (hxD : ad 0 = xD) (hw : wd D (fun q : Nat => s.heap.size ≤ q) s.heap (mW cI xM am M ++ cW cI cB cS n ad bf S) H locs) (hl : lv_has ls 4 [(0, .ref b), (1, .ref xD), (2, .ref xM), (3, .int (nI j))])
    (hback : ∀ (n2 : Nat) (ad2 : Nat → Nat) (bf2 : Nat → Option Nat) (S2 M2 : MS) (H : Heap) (locs : List Loc) (ls : Array Slot), Inv n2 S2 M2 → bok n2 ad2 bf2 → ad2 0 = xD → wd D (fun q : Nat => s.heap.size ≤ q) s.heap (mW cI xM am M2 ++ cW cI cB cS n2 ad2 bf2 S2) H locs → lv_has ls 4 [(0, .ref b), (1, .ref xD), (2, .ref xM), (3, .int (nI (j + 6)))] → W p l e room_1 s m #[Value.ref b] below meth c H locs (200 + 2 * (j + 6)) (2000 + 8 * (j + 6)) (lw_Z below #[Value.ref b] s) (F0 m 18 ls [])) : W p l e room_1 s m #[Value.ref b] below meth c H locs (200 + 2 * j) (2000 + 8 * j) (lw_Z below #[Value.ref b] s) (F0 m 456 ls []) := by
  have C := law_cx C0 hgK
  obtain ⟨hx, hb, hr, hml, hown, hts, hX, hbl, hlocks, hgv⟩ := C0
  have hA : ∀ q : Nat, s.heap.size ≤ q → (fun q : Nat => s.heap.size ≤ q) q := fun _ h => h
  have hbA : ¬ (fun q : Nat => s.heap.size ≤ q) b := Nat.not_le.mpr hbl
  subst hxD
  obtain ⟨q, qm, e1, e2, e3, e4⟩ := hI.2.2.2.2.2.2.2.2.1 n S M (xs (nI j + 1).toNatClampNeg) (xs (nI j + 2).toNatClampNeg) hinv
  refine lv_aload_n hx hb dL_law_456 rfl (lv_at hl 1 rfl) ?_
  refine lv_aload_n hx hb dL_law_457 rfl (lv_at hl 0 rfl) ?_
  refine lv_iload_n hx hb dL_law_458 rfl (lv_at hl 3 rfl) ?_
  refine lv_iconst (v := 1) hx hb dL_law_459 ic_1 ?_
  refine lv_iadd hx hb dL_law_460 ?_
  refine va_sld hx hb hX hbl hbA hw.2.2 (sc_in (k := 1) rfl hL (by omega)) dL_law_461 ?_
  refine lv_aload_n hx hb dL_law_462 rfl (lv_at hl 0 rfl) ?_
  refine lv_iload_n hx hb dL_law_463 rfl (lv_at hl 3 rfl) ?_
  refine lv_iconst (v := 2) hx hb dL_law_464 ic_2 ?_
  refine lv_iadd hx hb dL_law_465 ?_
  refine va_sld hx hb hX hbl hbA hw.2.2 (sc_in (k := 2) rfl hL (by omega)) dL_law_466 ?_
  refine ctA_V (As := [.int (xs (nI j + 1).toNatClampNeg), .int (xs (nI j + 2).toNatClampNeg)]) (q0 := 19) (ci := 8) (rest := []) C hw hA ((KC_ends l D cI cB cS n ad bf hcg e1).toA.frame _) cfX8_ends tg_426 tg_427 tg_428 ⟨(Nat.le_of_ble_eq_true rfl), (Nat.le_of_ble_eq_true rfl)⟩ ⟨by show 200 + 2 * j + 0 ≤ 600000; omega, by show 2000 + 8 * j + 0 ≤ 7302250; omega⟩ rfl rfl rfl rfl hl.1 rfl (Nat.le_of_ble_eq_true rfl) dL_law_467 (fun v ws1 H locs hp hw => ?_)
  obtain ⟨w1, rfl, rfl, rfl⟩ := hp
  have hw := hw.swap
  refine lv_aload_n hx hb dL_law_470 rfl (lv_at hl 2 rfl) ?_
  refine lv_aload_n hx hb dL_law_471 rfl (lv_at hl 0 rfl) ?_
  refine lv_iload_n hx hb dL_law_472 rfl (lv_at hl 3 rfl) ?_
  refine lv_iconst (v := 1) hx hb dL_law_473 ic_1 ?_
  refine lv_iadd hx hb dL_law_474 ?_
  refine va_sld hx hb hX hbl hbA hw.2.2 (sc_in (k := 1) rfl hL (by omega)) dL_law_475 ?_
  refine lv_aload_n hx hb dL_law_476 rfl (lv_at hl 0 rfl) ?_
  refine lv_iload_n hx hb dL_law_477 rfl (lv_at hl 3 rfl) ?_
  refine lv_iconst (v := 2) hx hb dL_law_478 ic_2 ?_
  refine lv_iadd hx hb dL_law_479 ?_
  refine va_sld hx hb hX hbl hbA hw.2.2 (sc_in (k := 2) rfl hL (by omega)) dL_law_480 ?_
  refine ctA_V (As := [.int (xs (nI j + 1).toNatClampNeg), .int (xs (nI j + 2).toNatClampNeg)]) (q0 := 22 + (n + n)) (ci := 9) (rest := [.int q.1]) C hw hA ((KM_ends l D cI cB cS xM am e2).toA.frame _) cfX9_ends tg_865 tg_866 tg_867 ⟨(Nat.le_of_ble_eq_true rfl), (Nat.le_of_ble_eq_true rfl)⟩ ⟨by show 200 + 2 * j + 0 + 0 ≤ 600000; omega, by show 2000 + 8 * j + 0 + 0 ≤ 7302250; omega⟩ rfl rfl rfl law_at hl.1 rfl (Nat.le_of_ble_eq_true rfl) dL_law_481 (fun v ws1 H locs hp hw => ?_)
  obtain ⟨w1, rfl, rfl, rfl⟩ := hp
  have hw := hw.swap
  refine lv_icmp_eq (tgt := 1207) hx hb dL_law_484 (by decide) (fun _ => ?_) (fun hz => absurd e3 hz)
  refine lv_iinc (v := (nI j + 6)) (lv' := [(3, .int (nI j + 6)), (0, .ref b), (1, .ref (ad 0)), (2, .ref xM)]) hx hb dL_law_1207 hl (k := 3) rfl (iv_6 _) (by decide) rfl (fun ls hl => ?_)
  refine lv_goto (tgt := 18) hx hb dL_law_1210 (by decide) ?_
  refine W.widen (k := 200 + 2 * (j + 6)) (n := 2000 + 8 * (j + 6)) (by omega) (by omega) ?_
  have hl := lv_sub (l' := [(0, .ref b), (1, .ref (ad 0)), (2, .ref xM), (3, .int (nI j + 6))]) hl [1, 2, 3, 0] rfl
  rw [show (6 : Int32) = nI 6 from rfl, nI_add] at hl
  exact hback _ _ _ _ _ _ _ _ e4 hcg rfl hw hl
set_option maxHeartbeats 4000000 in
theorem law_row {p : Program} {l : Launch} {e : Env} {s : State} {m : MethodId} {below : List Frame} {meth : Method} {c : Code} {D : va_G} {cI cB cS : ClassId} {b L : Nat} {xs : Nat → Int32} {xD xM : Nat} {am : Nat → Nat} {Inv : Nat → MS → MS → Prop} (hL : L ≤ 3072) (C0 : lw_At p s m meth c b L xs) (hgK : gK D cI cB cS s) (hI : opsOk Inv) {n j : Nat} {ad : Nat → Nat} {bf : Nat → Option Nat} {S M : MS} {H : Heap} {locs : List Loc} {ls : Array Slot} (hj : j + 6 ≤ L) (hinv : Inv n S M) (hcg : bok n ad bf) (hxD : ad 0 = xD) (hw : wd D (fun q : Nat => s.heap.size ≤ q) s.heap (mW cI xM am M ++ cW cI cB cS n ad bf S) H locs) (hl : lv_has ls 4 [(0, .ref b), (1, .ref xD), (2, .ref xM), (3, .int (nI j))])
    (hback : ∀ (n2 : Nat) (ad2 : Nat → Nat) (bf2 : Nat → Option Nat) (S2 M2 : MS) (H : Heap) (locs : List Loc) (ls : Array Slot), Inv n2 S2 M2 → bok n2 ad2 bf2 → ad2 0 = xD → wd D (fun q : Nat => s.heap.size ≤ q) s.heap (mW cI xM am M2 ++ cW cI cB cS n2 ad2 bf2 S2) H locs → lv_has ls 4 [(0, .ref b), (1, .ref xD), (2, .ref xM), (3, .int (nI (j + 6)))] → W p l e room_1 s m #[Value.ref b] below meth c H locs (200 + 2 * (j + 6)) (2000 + 8 * (j + 6)) (lw_Z below #[Value.ref b] s) (F0 m 18 ls [])) : W p l e room_1 s m #[Value.ref b] below meth c H locs (200 + 2 * j) (2000 + 8 * j) (lw_Z below #[Value.ref b] s) (F0 m 489 ls []) := by
  have C := law_cx C0 hgK
  obtain ⟨hx, hb, hr, hml, hown, hts, hX, hbl, hlocks, hgv⟩ := C0
  have hA : ∀ q : Nat, s.heap.size ≤ q → (fun q : Nat => s.heap.size ≤ q) q := fun _ h => h
  have hbA : ¬ (fun q : Nat => s.heap.size ≤ q) b := Nat.not_le.mpr hbl
  subst hxD
  obtain ⟨q, qm, e1, e2, e3, e4⟩ := hI.2.2.2.2.2.2.2.2.2.1 n S M (xs (nI j + 1).toNatClampNeg) (xs (nI j + 2).toNatClampNeg) (xs (nI j + 3).toNatClampNeg) (xs (nI j + 4).toNatClampNeg) (xs (nI j + 5).toNatClampNeg) hinv
  refine lv_aload_n hx hb dL_law_489 rfl (lv_at hl 1 rfl) ?_
  refine lv_aload_n hx hb dL_law_490 rfl (lv_at hl 0 rfl) ?_
  refine lv_iload_n hx hb dL_law_491 rfl (lv_at hl 3 rfl) ?_
  refine lv_iconst (v := 1) hx hb dL_law_492 ic_1 ?_
  refine lv_iadd hx hb dL_law_493 ?_
  refine va_sld hx hb hX hbl hbA hw.2.2 (sc_in (k := 1) rfl hL (by omega)) dL_law_494 ?_
  refine lv_aload_n hx hb dL_law_495 rfl (lv_at hl 0 rfl) ?_
  refine lv_iload_n hx hb dL_law_496 rfl (lv_at hl 3 rfl) ?_
  refine lv_iconst (v := 2) hx hb dL_law_497 ic_2 ?_
  refine lv_iadd hx hb dL_law_498 ?_
  refine va_sld hx hb hX hbl hbA hw.2.2 (sc_in (k := 2) rfl hL (by omega)) dL_law_499 ?_
  refine lv_aload_n hx hb dL_law_500 rfl (lv_at hl 0 rfl) ?_
  refine lv_iload_n hx hb dL_law_501 rfl (lv_at hl 3 rfl) ?_
  refine lv_iconst (v := 3) hx hb dL_law_502 ic_3 ?_
  refine lv_iadd hx hb dL_law_503 ?_
  refine va_sld hx hb hX hbl hbA hw.2.2 (sc_in (k := 3) rfl hL (by omega)) dL_law_504 ?_
  refine lv_aload_n hx hb dL_law_505 rfl (lv_at hl 0 rfl) ?_
  refine lv_iload_n hx hb dL_law_506 rfl (lv_at hl 3 rfl) ?_
  refine lv_iconst (v := 4) hx hb dL_law_507 ic_4 ?_
  refine lv_iadd hx hb dL_law_508 ?_
  refine va_sld hx hb hX hbl hbA hw.2.2 (sc_in (k := 4) rfl hL (by omega)) dL_law_509 ?_
  refine lv_aload_n hx hb dL_law_510 rfl (lv_at hl 0 rfl) ?_
  refine lv_iload_n hx hb dL_law_511 rfl (lv_at hl 3 rfl) ?_
  refine lv_iconst (v := 5) hx hb dL_law_512 ic_5 ?_
  refine lv_iadd hx hb dL_law_513 ?_
  refine va_sld hx hb hX hbl hbA hw.2.2 (sc_in (k := 5) rfl hL (by omega)) dL_law_514 ?_
  refine ctA_V (As := [.int (xs (nI j + 1).toNatClampNeg), .int (xs (nI j + 2).toNatClampNeg), .int (xs (nI j + 3).toNatClampNeg), .int (xs (nI j + 4).toNatClampNeg), .int (xs (nI j + 5).toNatClampNeg)]) (q0 := 19) (ci := 8) (rest := []) C hw hA ((KC_row l D cI cB cS n ad bf hcg e1).toA.frame _) cfX8_row tg_430 tg_431 tg_432 ⟨(Nat.le_of_ble_eq_true rfl), (Nat.le_of_ble_eq_true rfl)⟩ ⟨by show 200 + 2 * j + 0 ≤ 600000; omega, by show 2000 + 8 * j + 0 ≤ 7302250; omega⟩ rfl rfl rfl rfl hl.1 rfl (Nat.le_of_ble_eq_true rfl) dL_law_515 (fun v ws1 H locs hp hw => ?_)
  obtain ⟨w1, rfl, rfl, rfl⟩ := hp
  have hw := hw.swap
  refine lv_aload_n hx hb dL_law_518 rfl (lv_at hl 2 rfl) ?_
  refine lv_aload_n hx hb dL_law_519 rfl (lv_at hl 0 rfl) ?_
  refine lv_iload_n hx hb dL_law_520 rfl (lv_at hl 3 rfl) ?_
  refine lv_iconst (v := 1) hx hb dL_law_521 ic_1 ?_
  refine lv_iadd hx hb dL_law_522 ?_
  refine va_sld hx hb hX hbl hbA hw.2.2 (sc_in (k := 1) rfl hL (by omega)) dL_law_523 ?_
  refine lv_aload_n hx hb dL_law_524 rfl (lv_at hl 0 rfl) ?_
  refine lv_iload_n hx hb dL_law_525 rfl (lv_at hl 3 rfl) ?_
  refine lv_iconst (v := 2) hx hb dL_law_526 ic_2 ?_
  refine lv_iadd hx hb dL_law_527 ?_
  refine va_sld hx hb hX hbl hbA hw.2.2 (sc_in (k := 2) rfl hL (by omega)) dL_law_528 ?_
  refine lv_aload_n hx hb dL_law_529 rfl (lv_at hl 0 rfl) ?_
  refine lv_iload_n hx hb dL_law_530 rfl (lv_at hl 3 rfl) ?_
  refine lv_iconst (v := 3) hx hb dL_law_531 ic_3 ?_
  refine lv_iadd hx hb dL_law_532 ?_
  refine va_sld hx hb hX hbl hbA hw.2.2 (sc_in (k := 3) rfl hL (by omega)) dL_law_533 ?_
  refine lv_aload_n hx hb dL_law_534 rfl (lv_at hl 0 rfl) ?_
  refine lv_iload_n hx hb dL_law_535 rfl (lv_at hl 3 rfl) ?_
  refine lv_iconst (v := 4) hx hb dL_law_536 ic_4 ?_
  refine lv_iadd hx hb dL_law_537 ?_
  refine va_sld hx hb hX hbl hbA hw.2.2 (sc_in (k := 4) rfl hL (by omega)) dL_law_538 ?_
  refine lv_aload_n hx hb dL_law_539 rfl (lv_at hl 0 rfl) ?_
  refine lv_iload_n hx hb dL_law_540 rfl (lv_at hl 3 rfl) ?_
  refine lv_iconst (v := 5) hx hb dL_law_541 ic_5 ?_
  refine lv_iadd hx hb dL_law_542 ?_
  refine va_sld hx hb hX hbl hbA hw.2.2 (sc_in (k := 5) rfl hL (by omega)) dL_law_543 ?_
  refine ctA_V (As := [.int (xs (nI j + 1).toNatClampNeg), .int (xs (nI j + 2).toNatClampNeg), .int (xs (nI j + 3).toNatClampNeg), .int (xs (nI j + 4).toNatClampNeg), .int (xs (nI j + 5).toNatClampNeg)]) (q0 := 22 + (n + n)) (ci := 9) (rest := [.int q.1]) C hw hA ((KM_row l D cI cB cS xM am e2).toA.frame _) cfX9_row tg_869 tg_870 tg_871 ⟨(Nat.le_of_ble_eq_true rfl), (Nat.le_of_ble_eq_true rfl)⟩ ⟨by show 200 + 2 * j + 0 + 0 ≤ 600000; omega, by show 2000 + 8 * j + 0 + 0 ≤ 7302250; omega⟩ rfl rfl rfl law_at hl.1 rfl (Nat.le_of_ble_eq_true rfl) dL_law_544 (fun v ws1 H locs hp hw => ?_)
  obtain ⟨w1, rfl, rfl, rfl⟩ := hp
  have hw := hw.swap
  refine lv_icmp_eq (tgt := 1207) hx hb dL_law_547 (by decide) (fun _ => ?_) (fun hz => absurd e3 hz)
  refine lv_iinc (v := (nI j + 6)) (lv' := [(3, .int (nI j + 6)), (0, .ref b), (1, .ref (ad 0)), (2, .ref xM)]) hx hb dL_law_1207 hl (k := 3) rfl (iv_6 _) (by decide) rfl (fun ls hl => ?_)
  refine lv_goto (tgt := 18) hx hb dL_law_1210 (by decide) ?_
  refine W.widen (k := 200 + 2 * (j + 6)) (n := 2000 + 8 * (j + 6)) (by omega) (by omega) ?_
  have hl := lv_sub (l' := [(0, .ref b), (1, .ref (ad 0)), (2, .ref xM), (3, .int (nI j + 6))]) hl [1, 2, 3, 0] rfl
  rw [show (6 : Int32) = nI 6 from rfl, nI_add] at hl
  exact hback _ _ _ _ _ _ _ _ e4 hcg rfl hw hl
set_option maxHeartbeats 4000000 in
theorem law_gain {p : Program} {l : Launch} {e : Env} {s : State} {m : MethodId} {below : List Frame} {meth : Method} {c : Code} {D : va_G} {cI cB cS : ClassId} {b L : Nat} {xs : Nat → Int32} {xD xM : Nat} {am : Nat → Nat} {Inv : Nat → MS → MS → Prop} (hL : L ≤ 3072) (C0 : lw_At p s m meth c b L xs) (hgK : gK D cI cB cS s) (hI : opsOk Inv) {n j : Nat} {ad : Nat → Nat} {bf : Nat → Option Nat} {S M : MS} {H : Heap} {locs : List Loc} {ls : Array Slot} (hj : j + 6 ≤ L) (hinv : Inv n S M) (hcg : bok n ad bf) (hxD : ad 0 = xD) (hw : wd D (fun q : Nat => s.heap.size ≤ q) s.heap (mW cI xM am M ++ cW cI cB cS n ad bf S) H locs) (hl : lv_has ls 4 [(0, .ref b), (1, .ref xD), (2, .ref xM), (3, .int (nI j))])
    (hback : ∀ (n2 : Nat) (ad2 : Nat → Nat) (bf2 : Nat → Option Nat) (S2 M2 : MS) (H : Heap) (locs : List Loc) (ls : Array Slot), Inv n2 S2 M2 → bok n2 ad2 bf2 → ad2 0 = xD → wd D (fun q : Nat => s.heap.size ≤ q) s.heap (mW cI xM am M2 ++ cW cI cB cS n2 ad2 bf2 S2) H locs → lv_has ls 4 [(0, .ref b), (1, .ref xD), (2, .ref xM), (3, .int (nI (j + 6)))] → W p l e room_1 s m #[Value.ref b] below meth c H locs (200 + 2 * (j + 6)) (2000 + 8 * (j + 6)) (lw_Z below #[Value.ref b] s) (F0 m 18 ls [])) : W p l e room_1 s m #[Value.ref b] below meth c H locs (200 + 2 * j) (2000 + 8 * j) (lw_Z below #[Value.ref b] s) (F0 m 552 ls []) := by
  have C := law_cx C0 hgK
  obtain ⟨hx, hb, hr, hml, hown, hts, hX, hbl, hlocks, hgv⟩ := C0
  have hA : ∀ q : Nat, s.heap.size ≤ q → (fun q : Nat => s.heap.size ≤ q) q := fun _ h => h
  have hbA : ¬ (fun q : Nat => s.heap.size ≤ q) b := Nat.not_le.mpr hbl
  subst hxD
  obtain ⟨q, qm, e1, e2, e3, e4⟩ := hI.2.2.2.2.2.2.2.2.2.2.1 n S M (xs (nI j + 1).toNatClampNeg) (xs (nI j + 2).toNatClampNeg) hinv
  refine lv_aload_n hx hb dL_law_552 rfl (lv_at hl 1 rfl) ?_
  refine lv_aload_n hx hb dL_law_553 rfl (lv_at hl 0 rfl) ?_
  refine lv_iload_n hx hb dL_law_554 rfl (lv_at hl 3 rfl) ?_
  refine lv_iconst (v := 1) hx hb dL_law_555 ic_1 ?_
  refine lv_iadd hx hb dL_law_556 ?_
  refine va_sld hx hb hX hbl hbA hw.2.2 (sc_in (k := 1) rfl hL (by omega)) dL_law_557 ?_
  refine lv_aload_n hx hb dL_law_558 rfl (lv_at hl 0 rfl) ?_
  refine lv_iload_n hx hb dL_law_559 rfl (lv_at hl 3 rfl) ?_
  refine lv_iconst (v := 2) hx hb dL_law_560 ic_2 ?_
  refine lv_iadd hx hb dL_law_561 ?_
  refine va_sld hx hb hX hbl hbA hw.2.2 (sc_in (k := 2) rfl hL (by omega)) dL_law_562 ?_
  refine ctA_V (As := [.int (xs (nI j + 1).toNatClampNeg), .int (xs (nI j + 2).toNatClampNeg)]) (q0 := 19) (ci := 8) (rest := []) C hw hA ((KC_gain l D cI cB cS n ad bf hcg e1).toA.frame _) cfX8_gain tg_448 tg_449 tg_450 ⟨(Nat.le_of_ble_eq_true rfl), (Nat.le_of_ble_eq_true rfl)⟩ ⟨by show 200 + 2 * j + 0 ≤ 600000; omega, by show 2000 + 8 * j + 0 ≤ 7302250; omega⟩ rfl rfl rfl rfl hl.1 rfl (Nat.le_of_ble_eq_true rfl) dL_law_563 (fun v ws1 H locs hp hw => ?_)
  obtain ⟨w1, rfl, rfl, rfl⟩ := hp
  have hw := hw.swap
  refine lv_aload_n hx hb dL_law_566 rfl (lv_at hl 2 rfl) ?_
  refine lv_aload_n hx hb dL_law_567 rfl (lv_at hl 0 rfl) ?_
  refine lv_iload_n hx hb dL_law_568 rfl (lv_at hl 3 rfl) ?_
  refine lv_iconst (v := 1) hx hb dL_law_569 ic_1 ?_
  refine lv_iadd hx hb dL_law_570 ?_
  refine va_sld hx hb hX hbl hbA hw.2.2 (sc_in (k := 1) rfl hL (by omega)) dL_law_571 ?_
  refine lv_aload_n hx hb dL_law_572 rfl (lv_at hl 0 rfl) ?_
  refine lv_iload_n hx hb dL_law_573 rfl (lv_at hl 3 rfl) ?_
  refine lv_iconst (v := 2) hx hb dL_law_574 ic_2 ?_
  refine lv_iadd hx hb dL_law_575 ?_
  refine va_sld hx hb hX hbl hbA hw.2.2 (sc_in (k := 2) rfl hL (by omega)) dL_law_576 ?_
  refine ctA_V (As := [.int (xs (nI j + 1).toNatClampNeg), .int (xs (nI j + 2).toNatClampNeg)]) (q0 := 22 + (n + n)) (ci := 9) (rest := [.int q.1]) C hw hA ((KM_gain l D cI cB cS xM am e2).toA.frame _) cfX9_gain tg_877 tg_878 tg_879 ⟨(Nat.le_of_ble_eq_true rfl), (Nat.le_of_ble_eq_true rfl)⟩ ⟨by show 200 + 2 * j + 0 + 0 ≤ 600000; omega, by show 2000 + 8 * j + 0 + 0 ≤ 7302250; omega⟩ rfl rfl rfl law_at hl.1 rfl (Nat.le_of_ble_eq_true rfl) dL_law_577 (fun v ws1 H locs hp hw => ?_)
  obtain ⟨w1, rfl, rfl, rfl⟩ := hp
  have hw := hw.swap
  refine lv_icmp_eq (tgt := 1207) hx hb dL_law_580 (by decide) (fun _ => ?_) (fun hz => absurd e3 hz)
  refine lv_iinc (v := (nI j + 6)) (lv' := [(3, .int (nI j + 6)), (0, .ref b), (1, .ref (ad 0)), (2, .ref xM)]) hx hb dL_law_1207 hl (k := 3) rfl (iv_6 _) (by decide) rfl (fun ls hl => ?_)
  refine lv_goto (tgt := 18) hx hb dL_law_1210 (by decide) ?_
  refine W.widen (k := 200 + 2 * (j + 6)) (n := 2000 + 8 * (j + 6)) (by omega) (by omega) ?_
  have hl := lv_sub (l' := [(0, .ref b), (1, .ref (ad 0)), (2, .ref xM), (3, .int (nI j + 6))]) hl [1, 2, 3, 0] rfl
  rw [show (6 : Int32) = nI 6 from rfl, nI_add] at hl
  exact hback _ _ _ _ _ _ _ _ e4 hcg rfl hw hl
set_option maxHeartbeats 4000000 in
theorem law_best {p : Program} {l : Launch} {e : Env} {s : State} {m : MethodId} {below : List Frame} {meth : Method} {c : Code} {D : va_G} {cI cB cS : ClassId} {b L : Nat} {xs : Nat → Int32} {xD xM : Nat} {am : Nat → Nat} {Inv : Nat → MS → MS → Prop} (hL : L ≤ 3072) (C0 : lw_At p s m meth c b L xs) (hgK : gK D cI cB cS s) (hI : opsOk Inv) {n j : Nat} {ad : Nat → Nat} {bf : Nat → Option Nat} {S M : MS} {H : Heap} {locs : List Loc} {ls : Array Slot} (hj : j + 6 ≤ L) (hinv : Inv n S M) (hcg : bok n ad bf) (hxD : ad 0 = xD) (hw : wd D (fun q : Nat => s.heap.size ≤ q) s.heap (mW cI xM am M ++ cW cI cB cS n ad bf S) H locs) (hl : lv_has ls 4 [(0, .ref b), (1, .ref xD), (2, .ref xM), (3, .int (nI j))])
    (hback : ∀ (n2 : Nat) (ad2 : Nat → Nat) (bf2 : Nat → Option Nat) (S2 M2 : MS) (H : Heap) (locs : List Loc) (ls : Array Slot), Inv n2 S2 M2 → bok n2 ad2 bf2 → ad2 0 = xD → wd D (fun q : Nat => s.heap.size ≤ q) s.heap (mW cI xM am M2 ++ cW cI cB cS n2 ad2 bf2 S2) H locs → lv_has ls 4 [(0, .ref b), (1, .ref xD), (2, .ref xM), (3, .int (nI (j + 6)))] → W p l e room_1 s m #[Value.ref b] below meth c H locs (200 + 2 * (j + 6)) (2000 + 8 * (j + 6)) (lw_Z below #[Value.ref b] s) (F0 m 18 ls [])) : W p l e room_1 s m #[Value.ref b] below meth c H locs (200 + 2 * j) (2000 + 8 * j) (lw_Z below #[Value.ref b] s) (F0 m 585 ls []) := by
  have C := law_cx C0 hgK
  obtain ⟨hx, hb, hr, hml, hown, hts, hX, hbl, hlocks, hgv⟩ := C0
  have hA : ∀ q : Nat, s.heap.size ≤ q → (fun q : Nat => s.heap.size ≤ q) q := fun _ h => h
  have hbA : ¬ (fun q : Nat => s.heap.size ≤ q) b := Nat.not_le.mpr hbl
  subst hxD
  obtain ⟨q, qm, e1, e2, e3, e4⟩ := hI.2.2.2.2.2.2.2.2.2.2.2.1 n S M (xs (nI j + 1).toNatClampNeg) (xs (nI j + 2).toNatClampNeg) (xs (nI j + 3).toNatClampNeg) hinv
  refine lv_aload_n hx hb dL_law_585 rfl (lv_at hl 1 rfl) ?_
  refine lv_aload_n hx hb dL_law_586 rfl (lv_at hl 0 rfl) ?_
  refine lv_iload_n hx hb dL_law_587 rfl (lv_at hl 3 rfl) ?_
  refine lv_iconst (v := 1) hx hb dL_law_588 ic_1 ?_
  refine lv_iadd hx hb dL_law_589 ?_
  refine va_sld hx hb hX hbl hbA hw.2.2 (sc_in (k := 1) rfl hL (by omega)) dL_law_590 ?_
  refine lv_aload_n hx hb dL_law_591 rfl (lv_at hl 0 rfl) ?_
  refine lv_iload_n hx hb dL_law_592 rfl (lv_at hl 3 rfl) ?_
  refine lv_iconst (v := 2) hx hb dL_law_593 ic_2 ?_
  refine lv_iadd hx hb dL_law_594 ?_
  refine va_sld hx hb hX hbl hbA hw.2.2 (sc_in (k := 2) rfl hL (by omega)) dL_law_595 ?_
  refine lv_aload_n hx hb dL_law_596 rfl (lv_at hl 0 rfl) ?_
  refine lv_iload_n hx hb dL_law_597 rfl (lv_at hl 3 rfl) ?_
  refine lv_iconst (v := 3) hx hb dL_law_598 ic_3 ?_
  refine lv_iadd hx hb dL_law_599 ?_
  refine va_sld hx hb hX hbl hbA hw.2.2 (sc_in (k := 3) rfl hL (by omega)) dL_law_600 ?_
  refine ctA_V (As := [.int (xs (nI j + 1).toNatClampNeg), .int (xs (nI j + 2).toNatClampNeg), .int (xs (nI j + 3).toNatClampNeg)]) (q0 := 19) (ci := 8) (rest := []) C hw hA ((KC_best l D cI cB cS n ad bf hcg e1).toA.frame _) cfX8_best tg_460 tg_461 tg_462 ⟨(Nat.le_of_ble_eq_true rfl), (Nat.le_of_ble_eq_true rfl)⟩ ⟨by show 200 + 2 * j + 0 ≤ 600000; omega, by show 2000 + 8 * j + 0 ≤ 7302250; omega⟩ rfl rfl rfl rfl hl.1 rfl (Nat.le_of_ble_eq_true rfl) dL_law_601 (fun v ws1 H locs hp hw => ?_)
  obtain ⟨w1, rfl, rfl, rfl⟩ := hp
  have hw := hw.swap
  refine lv_aload_n hx hb dL_law_604 rfl (lv_at hl 2 rfl) ?_
  refine lv_aload_n hx hb dL_law_605 rfl (lv_at hl 0 rfl) ?_
  refine lv_iload_n hx hb dL_law_606 rfl (lv_at hl 3 rfl) ?_
  refine lv_iconst (v := 1) hx hb dL_law_607 ic_1 ?_
  refine lv_iadd hx hb dL_law_608 ?_
  refine va_sld hx hb hX hbl hbA hw.2.2 (sc_in (k := 1) rfl hL (by omega)) dL_law_609 ?_
  refine lv_aload_n hx hb dL_law_610 rfl (lv_at hl 0 rfl) ?_
  refine lv_iload_n hx hb dL_law_611 rfl (lv_at hl 3 rfl) ?_
  refine lv_iconst (v := 2) hx hb dL_law_612 ic_2 ?_
  refine lv_iadd hx hb dL_law_613 ?_
  refine va_sld hx hb hX hbl hbA hw.2.2 (sc_in (k := 2) rfl hL (by omega)) dL_law_614 ?_
  refine lv_aload_n hx hb dL_law_615 rfl (lv_at hl 0 rfl) ?_
  refine lv_iload_n hx hb dL_law_616 rfl (lv_at hl 3 rfl) ?_
  refine lv_iconst (v := 3) hx hb dL_law_617 ic_3 ?_
  refine lv_iadd hx hb dL_law_618 ?_
  refine va_sld hx hb hX hbl hbA hw.2.2 (sc_in (k := 3) rfl hL (by omega)) dL_law_619 ?_
  refine ctA_V (As := [.int (xs (nI j + 1).toNatClampNeg), .int (xs (nI j + 2).toNatClampNeg), .int (xs (nI j + 3).toNatClampNeg)]) (q0 := 22 + (n + n)) (ci := 9) (rest := [.int q.1]) C hw hA ((KM_best l D cI cB cS xM am e2).toA.frame _) cfX9_best tg_885 tg_886 tg_887 ⟨(Nat.le_of_ble_eq_true rfl), (Nat.le_of_ble_eq_true rfl)⟩ ⟨by show 200 + 2 * j + 0 + 0 ≤ 600000; omega, by show 2000 + 8 * j + 0 + 0 ≤ 7302250; omega⟩ rfl rfl rfl law_at hl.1 rfl (Nat.le_of_ble_eq_true rfl) dL_law_620 (fun v ws1 H locs hp hw => ?_)
  obtain ⟨w1, rfl, rfl, rfl⟩ := hp
  have hw := hw.swap
  refine lv_icmp_eq (tgt := 1207) hx hb dL_law_623 (by decide) (fun _ => ?_) (fun hz => absurd e3 hz)
  refine lv_iinc (v := (nI j + 6)) (lv' := [(3, .int (nI j + 6)), (0, .ref b), (1, .ref (ad 0)), (2, .ref xM)]) hx hb dL_law_1207 hl (k := 3) rfl (iv_6 _) (by decide) rfl (fun ls hl => ?_)
  refine lv_goto (tgt := 18) hx hb dL_law_1210 (by decide) ?_
  refine W.widen (k := 200 + 2 * (j + 6)) (n := 2000 + 8 * (j + 6)) (by omega) (by omega) ?_
  have hl := lv_sub (l' := [(0, .ref b), (1, .ref (ad 0)), (2, .ref xM), (3, .int (nI j + 6))]) hl [1, 2, 3, 0] rfl
  rw [show (6 : Int32) = nI 6 from rfl, nI_add] at hl
  exact hback _ _ _ _ _ _ _ _ e4 hcg rfl hw hl
set_option maxHeartbeats 4000000 in
theorem law_order {p : Program} {l : Launch} {e : Env} {s : State} {m : MethodId} {below : List Frame} {meth : Method} {c : Code} {D : va_G} {cI cB cS : ClassId} {b L : Nat} {xs : Nat → Int32} {xD xM : Nat} {am : Nat → Nat} {Inv : Nat → MS → MS → Prop} (hL : L ≤ 3072) (C0 : lw_At p s m meth c b L xs) (hgK : gK D cI cB cS s) (hI : opsOk Inv) {n j : Nat} {ad : Nat → Nat} {bf : Nat → Option Nat} {S M : MS} {H : Heap} {locs : List Loc} {ls : Array Slot} (hj : j + 6 ≤ L) (hinv : Inv n S M) (hcg : bok n ad bf) (hxD : ad 0 = xD) (hw : wd D (fun q : Nat => s.heap.size ≤ q) s.heap (mW cI xM am M ++ cW cI cB cS n ad bf S) H locs) (hl : lv_has ls 4 [(0, .ref b), (1, .ref xD), (2, .ref xM), (3, .int (nI j))])
    (hback : ∀ (n2 : Nat) (ad2 : Nat → Nat) (bf2 : Nat → Option Nat) (S2 M2 : MS) (H : Heap) (locs : List Loc) (ls : Array Slot), Inv n2 S2 M2 → bok n2 ad2 bf2 → ad2 0 = xD → wd D (fun q : Nat => s.heap.size ≤ q) s.heap (mW cI xM am M2 ++ cW cI cB cS n2 ad2 bf2 S2) H locs → lv_has ls 4 [(0, .ref b), (1, .ref xD), (2, .ref xM), (3, .int (nI (j + 6)))] → W p l e room_1 s m #[Value.ref b] below meth c H locs (200 + 2 * (j + 6)) (2000 + 8 * (j + 6)) (lw_Z below #[Value.ref b] s) (F0 m 18 ls [])) : W p l e room_1 s m #[Value.ref b] below meth c H locs (200 + 2 * j) (2000 + 8 * j) (lw_Z below #[Value.ref b] s) (F0 m 628 ls []) := by
  have C := law_cx C0 hgK
  obtain ⟨hx, hb, hr, hml, hown, hts, hX, hbl, hlocks, hgv⟩ := C0
  have hA : ∀ q : Nat, s.heap.size ≤ q → (fun q : Nat => s.heap.size ≤ q) q := fun _ h => h
  have hbA : ¬ (fun q : Nat => s.heap.size ≤ q) b := Nat.not_le.mpr hbl
  subst hxD
  obtain ⟨q, qm, e1, e2, e3, e4⟩ := hI.2.2.2.2.2.2.2.2.2.2.2.2.1 n S M (xs (nI j + 1).toNatClampNeg) hinv
  refine lv_aload_n hx hb dL_law_628 rfl (lv_at hl 1 rfl) ?_
  refine lv_aload_n hx hb dL_law_629 rfl (lv_at hl 0 rfl) ?_
  refine lv_iload_n hx hb dL_law_630 rfl (lv_at hl 3 rfl) ?_
  refine lv_iconst (v := 1) hx hb dL_law_631 ic_1 ?_
  refine lv_iadd hx hb dL_law_632 ?_
  refine va_sld hx hb hX hbl hbA hw.2.2 (sc_in (k := 1) rfl hL (by omega)) dL_law_633 ?_
  refine ctA_V (As := [.int (xs (nI j + 1).toNatClampNeg)]) (q0 := 19) (ci := 8) (rest := []) C hw hA ((KC_order l D cI cB cS n ad bf hcg e1).toA.frame _) cfX8_order tg_464 tg_465 tg_466 ⟨(Nat.le_of_ble_eq_true rfl), (Nat.le_of_ble_eq_true rfl)⟩ ⟨by show 200 + 2 * j + 0 ≤ 600000; omega, by show 2000 + 8 * j + 0 ≤ 7302250; omega⟩ rfl rfl rfl rfl hl.1 rfl (Nat.le_of_ble_eq_true rfl) dL_law_634 (fun v ws1 H locs hp hw => ?_)
  obtain ⟨w1, rfl, rfl, rfl⟩ := hp
  have hw := hw.swap
  refine lv_aload_n hx hb dL_law_637 rfl (lv_at hl 2 rfl) ?_
  refine lv_aload_n hx hb dL_law_638 rfl (lv_at hl 0 rfl) ?_
  refine lv_iload_n hx hb dL_law_639 rfl (lv_at hl 3 rfl) ?_
  refine lv_iconst (v := 1) hx hb dL_law_640 ic_1 ?_
  refine lv_iadd hx hb dL_law_641 ?_
  refine va_sld hx hb hX hbl hbA hw.2.2 (sc_in (k := 1) rfl hL (by omega)) dL_law_642 ?_
  refine ctA_V (As := [.int (xs (nI j + 1).toNatClampNeg)]) (q0 := 22 + (n + n)) (ci := 9) (rest := [.int q.1]) C hw hA ((KM_order l D cI cB cS xM am e2).toA.frame _) cfX9_order tg_889 tg_890 tg_891 ⟨(Nat.le_of_ble_eq_true rfl), (Nat.le_of_ble_eq_true rfl)⟩ ⟨by show 200 + 2 * j + 0 + 0 ≤ 600000; omega, by show 2000 + 8 * j + 0 + 0 ≤ 7302250; omega⟩ rfl rfl rfl law_at hl.1 rfl (Nat.le_of_ble_eq_true rfl) dL_law_643 (fun v ws1 H locs hp hw => ?_)
  obtain ⟨w1, rfl, rfl, rfl⟩ := hp
  have hw := hw.swap
  refine lv_icmp_eq (tgt := 1207) hx hb dL_law_646 (by decide) (fun _ => ?_) (fun hz => absurd e3 hz)
  refine lv_iinc (v := (nI j + 6)) (lv' := [(3, .int (nI j + 6)), (0, .ref b), (1, .ref (ad 0)), (2, .ref xM)]) hx hb dL_law_1207 hl (k := 3) rfl (iv_6 _) (by decide) rfl (fun ls hl => ?_)
  refine lv_goto (tgt := 18) hx hb dL_law_1210 (by decide) ?_
  refine W.widen (k := 200 + 2 * (j + 6)) (n := 2000 + 8 * (j + 6)) (by omega) (by omega) ?_
  have hl := lv_sub (l' := [(0, .ref b), (1, .ref (ad 0)), (2, .ref xM), (3, .int (nI j + 6))]) hl [1, 2, 3, 0] rfl
  rw [show (6 : Int32) = nI 6 from rfl, nI_add] at hl
  exact hback _ _ _ _ _ _ _ _ e4 hcg rfl hw hl
set_option maxHeartbeats 4000000 in
theorem law_ring {p : Program} {l : Launch} {e : Env} {s : State} {m : MethodId} {below : List Frame} {meth : Method} {c : Code} {D : va_G} {cI cB cS : ClassId} {b L : Nat} {xs : Nat → Int32} {xD xM : Nat} {am : Nat → Nat} {Inv : Nat → MS → MS → Prop} (hL : L ≤ 3072) (C0 : lw_At p s m meth c b L xs) (hgK : gK D cI cB cS s) (hI : opsOk Inv) {n j : Nat} {ad : Nat → Nat} {bf : Nat → Option Nat} {S M : MS} {H : Heap} {locs : List Loc} {ls : Array Slot} (hj : j + 6 ≤ L) (hinv : Inv n S M) (hcg : bok n ad bf) (hxD : ad 0 = xD) (hw : wd D (fun q : Nat => s.heap.size ≤ q) s.heap (mW cI xM am M ++ cW cI cB cS n ad bf S) H locs) (hl : lv_has ls 4 [(0, .ref b), (1, .ref xD), (2, .ref xM), (3, .int (nI j))])
    (hback : ∀ (n2 : Nat) (ad2 : Nat → Nat) (bf2 : Nat → Option Nat) (S2 M2 : MS) (H : Heap) (locs : List Loc) (ls : Array Slot), Inv n2 S2 M2 → bok n2 ad2 bf2 → ad2 0 = xD → wd D (fun q : Nat => s.heap.size ≤ q) s.heap (mW cI xM am M2 ++ cW cI cB cS n2 ad2 bf2 S2) H locs → lv_has ls 4 [(0, .ref b), (1, .ref xD), (2, .ref xM), (3, .int (nI (j + 6)))] → W p l e room_1 s m #[Value.ref b] below meth c H locs (200 + 2 * (j + 6)) (2000 + 8 * (j + 6)) (lw_Z below #[Value.ref b] s) (F0 m 18 ls [])) : W p l e room_1 s m #[Value.ref b] below meth c H locs (200 + 2 * j) (2000 + 8 * j) (lw_Z below #[Value.ref b] s) (F0 m 651 ls []) := by
  have C := law_cx C0 hgK
  obtain ⟨hx, hb, hr, hml, hown, hts, hX, hbl, hlocks, hgv⟩ := C0
  have hA : ∀ q : Nat, s.heap.size ≤ q → (fun q : Nat => s.heap.size ≤ q) q := fun _ h => h
  have hbA : ¬ (fun q : Nat => s.heap.size ≤ q) b := Nat.not_le.mpr hbl
  subst hxD
  obtain ⟨q, qm, e1, e2, e3, e4⟩ := hI.2.2.2.2.2.2.2.2.2.2.2.2.2.1 n S M (xs (nI j + 1).toNatClampNeg) (xs (nI j + 2).toNatClampNeg) hinv
  refine lv_aload_n hx hb dL_law_651 rfl (lv_at hl 1 rfl) ?_
  refine lv_aload_n hx hb dL_law_652 rfl (lv_at hl 0 rfl) ?_
  refine lv_iload_n hx hb dL_law_653 rfl (lv_at hl 3 rfl) ?_
  refine lv_iconst (v := 1) hx hb dL_law_654 ic_1 ?_
  refine lv_iadd hx hb dL_law_655 ?_
  refine va_sld hx hb hX hbl hbA hw.2.2 (sc_in (k := 1) rfl hL (by omega)) dL_law_656 ?_
  refine lv_aload_n hx hb dL_law_657 rfl (lv_at hl 0 rfl) ?_
  refine lv_iload_n hx hb dL_law_658 rfl (lv_at hl 3 rfl) ?_
  refine lv_iconst (v := 2) hx hb dL_law_659 ic_2 ?_
  refine lv_iadd hx hb dL_law_660 ?_
  refine va_sld hx hb hX hbl hbA hw.2.2 (sc_in (k := 2) rfl hL (by omega)) dL_law_661 ?_
  refine ctA_V (As := [.int (xs (nI j + 1).toNatClampNeg), .int (xs (nI j + 2).toNatClampNeg)]) (q0 := 19) (ci := 8) (rest := []) C hw hA ((KC_ring l D cI cB cS n ad bf hcg e1).toA.frame _) cfX8_ring tg_478 tg_479 tg_480 ⟨(Nat.le_of_ble_eq_true rfl), (Nat.le_of_ble_eq_true rfl)⟩ ⟨by show 200 + 2 * j + 0 ≤ 600000; omega, by show 2000 + 8 * j + 0 ≤ 7302250; omega⟩ rfl rfl rfl rfl hl.1 rfl (Nat.le_of_ble_eq_true rfl) dL_law_662 (fun v ws1 H locs hp hw => ?_)
  obtain ⟨w1, rfl, rfl, rfl⟩ := hp
  have hw := hw.swap
  refine lv_aload_n hx hb dL_law_665 rfl (lv_at hl 2 rfl) ?_
  refine lv_aload_n hx hb dL_law_666 rfl (lv_at hl 0 rfl) ?_
  refine lv_iload_n hx hb dL_law_667 rfl (lv_at hl 3 rfl) ?_
  refine lv_iconst (v := 1) hx hb dL_law_668 ic_1 ?_
  refine lv_iadd hx hb dL_law_669 ?_
  refine va_sld hx hb hX hbl hbA hw.2.2 (sc_in (k := 1) rfl hL (by omega)) dL_law_670 ?_
  refine lv_aload_n hx hb dL_law_671 rfl (lv_at hl 0 rfl) ?_
  refine lv_iload_n hx hb dL_law_672 rfl (lv_at hl 3 rfl) ?_
  refine lv_iconst (v := 2) hx hb dL_law_673 ic_2 ?_
  refine lv_iadd hx hb dL_law_674 ?_
  refine va_sld hx hb hX hbl hbA hw.2.2 (sc_in (k := 2) rfl hL (by omega)) dL_law_675 ?_
  refine ctA_V (As := [.int (xs (nI j + 1).toNatClampNeg), .int (xs (nI j + 2).toNatClampNeg)]) (q0 := 22 + (n + n)) (ci := 9) (rest := [.int q.1]) C hw hA ((KM_ring l D cI cB cS xM am e2).toA.frame _) cfX9_ring tg_894 tg_895 tg_896 ⟨(Nat.le_of_ble_eq_true rfl), (Nat.le_of_ble_eq_true rfl)⟩ ⟨by show 200 + 2 * j + 0 + 0 ≤ 600000; omega, by show 2000 + 8 * j + 0 + 0 ≤ 7302250; omega⟩ rfl rfl rfl law_at hl.1 rfl (Nat.le_of_ble_eq_true rfl) dL_law_676 (fun v ws1 H locs hp hw => ?_)
  obtain ⟨w1, rfl, rfl, rfl⟩ := hp
  have hw := hw.swap
  refine lv_icmp_eq (tgt := 1207) hx hb dL_law_679 (by decide) (fun _ => ?_) (fun hz => absurd e3 hz)
  refine lv_iinc (v := (nI j + 6)) (lv' := [(3, .int (nI j + 6)), (0, .ref b), (1, .ref (ad 0)), (2, .ref xM)]) hx hb dL_law_1207 hl (k := 3) rfl (iv_6 _) (by decide) rfl (fun ls hl => ?_)
  refine lv_goto (tgt := 18) hx hb dL_law_1210 (by decide) ?_
  refine W.widen (k := 200 + 2 * (j + 6)) (n := 2000 + 8 * (j + 6)) (by omega) (by omega) ?_
  have hl := lv_sub (l' := [(0, .ref b), (1, .ref (ad 0)), (2, .ref xM), (3, .int (nI j + 6))]) hl [1, 2, 3, 0] rfl
  rw [show (6 : Int32) = nI 6 from rfl, nI_add] at hl
  exact hback _ _ _ _ _ _ _ _ e4 hcg rfl hw hl
set_option maxHeartbeats 4000000 in
theorem law_mean {p : Program} {l : Launch} {e : Env} {s : State} {m : MethodId} {below : List Frame} {meth : Method} {c : Code} {D : va_G} {cI cB cS : ClassId} {b L : Nat} {xs : Nat → Int32} {xD xM : Nat} {am : Nat → Nat} {Inv : Nat → MS → MS → Prop} (hL : L ≤ 3072) (C0 : lw_At p s m meth c b L xs) (hgK : gK D cI cB cS s) (hI : opsOk Inv) {n j : Nat} {ad : Nat → Nat} {bf : Nat → Option Nat} {S M : MS} {H : Heap} {locs : List Loc} {ls : Array Slot} (hj : j + 6 ≤ L) (hinv : Inv n S M) (hcg : bok n ad bf) (hxD : ad 0 = xD) (hw : wd D (fun q : Nat => s.heap.size ≤ q) s.heap (mW cI xM am M ++ cW cI cB cS n ad bf S) H locs) (hl : lv_has ls 4 [(0, .ref b), (1, .ref xD), (2, .ref xM), (3, .int (nI j))])
    (hback : ∀ (n2 : Nat) (ad2 : Nat → Nat) (bf2 : Nat → Option Nat) (S2 M2 : MS) (H : Heap) (locs : List Loc) (ls : Array Slot), Inv n2 S2 M2 → bok n2 ad2 bf2 → ad2 0 = xD → wd D (fun q : Nat => s.heap.size ≤ q) s.heap (mW cI xM am M2 ++ cW cI cB cS n2 ad2 bf2 S2) H locs → lv_has ls 4 [(0, .ref b), (1, .ref xD), (2, .ref xM), (3, .int (nI (j + 6)))] → W p l e room_1 s m #[Value.ref b] below meth c H locs (200 + 2 * (j + 6)) (2000 + 8 * (j + 6)) (lw_Z below #[Value.ref b] s) (F0 m 18 ls [])) : W p l e room_1 s m #[Value.ref b] below meth c H locs (200 + 2 * j) (2000 + 8 * j) (lw_Z below #[Value.ref b] s) (F0 m 684 ls []) := by
  have C := law_cx C0 hgK
  obtain ⟨hx, hb, hr, hml, hown, hts, hX, hbl, hlocks, hgv⟩ := C0
  have hA : ∀ q : Nat, s.heap.size ≤ q → (fun q : Nat => s.heap.size ≤ q) q := fun _ h => h
  have hbA : ¬ (fun q : Nat => s.heap.size ≤ q) b := Nat.not_le.mpr hbl
  subst hxD
  obtain ⟨q, qm, e1, e2, e3, e4⟩ := hI.2.2.2.2.2.2.2.2.2.2.2.2.2.2.1 n S M (xs (nI j + 1).toNatClampNeg) (xs (nI j + 2).toNatClampNeg) hinv
  refine lv_aload_n hx hb dL_law_684 rfl (lv_at hl 1 rfl) ?_
  refine lv_aload_n hx hb dL_law_685 rfl (lv_at hl 0 rfl) ?_
  refine lv_iload_n hx hb dL_law_686 rfl (lv_at hl 3 rfl) ?_
  refine lv_iconst (v := 1) hx hb dL_law_687 ic_1 ?_
  refine lv_iadd hx hb dL_law_688 ?_
  refine va_sld hx hb hX hbl hbA hw.2.2 (sc_in (k := 1) rfl hL (by omega)) dL_law_689 ?_
  refine lv_aload_n hx hb dL_law_690 rfl (lv_at hl 0 rfl) ?_
  refine lv_iload_n hx hb dL_law_691 rfl (lv_at hl 3 rfl) ?_
  refine lv_iconst (v := 2) hx hb dL_law_692 ic_2 ?_
  refine lv_iadd hx hb dL_law_693 ?_
  refine va_sld hx hb hX hbl hbA hw.2.2 (sc_in (k := 2) rfl hL (by omega)) dL_law_694 ?_
  refine ctA_V (As := [.int (xs (nI j + 1).toNatClampNeg), .int (xs (nI j + 2).toNatClampNeg)]) (q0 := 19) (ci := 8) (rest := []) C hw hA ((KC_mean l D cI cB cS n ad bf hcg e1).toA.frame _) cfX8_mean tg_490 tg_491 tg_492 ⟨(Nat.le_of_ble_eq_true rfl), (Nat.le_of_ble_eq_true rfl)⟩ ⟨by show 200 + 2 * j + 0 ≤ 600000; omega, by show 2000 + 8 * j + 0 ≤ 7302250; omega⟩ rfl rfl rfl rfl hl.1 rfl (Nat.le_of_ble_eq_true rfl) dL_law_695 (fun v ws1 H locs hp hw => ?_)
  obtain ⟨w1, rfl, rfl, rfl⟩ := hp
  have hw := hw.swap
  refine lv_aload_n hx hb dL_law_698 rfl (lv_at hl 2 rfl) ?_
  refine lv_aload_n hx hb dL_law_699 rfl (lv_at hl 0 rfl) ?_
  refine lv_iload_n hx hb dL_law_700 rfl (lv_at hl 3 rfl) ?_
  refine lv_iconst (v := 1) hx hb dL_law_701 ic_1 ?_
  refine lv_iadd hx hb dL_law_702 ?_
  refine va_sld hx hb hX hbl hbA hw.2.2 (sc_in (k := 1) rfl hL (by omega)) dL_law_703 ?_
  refine lv_aload_n hx hb dL_law_704 rfl (lv_at hl 0 rfl) ?_
  refine lv_iload_n hx hb dL_law_705 rfl (lv_at hl 3 rfl) ?_
  refine lv_iconst (v := 2) hx hb dL_law_706 ic_2 ?_
  refine lv_iadd hx hb dL_law_707 ?_
  refine va_sld hx hb hX hbl hbA hw.2.2 (sc_in (k := 2) rfl hL (by omega)) dL_law_708 ?_
  refine ctA_V (As := [.int (xs (nI j + 1).toNatClampNeg), .int (xs (nI j + 2).toNatClampNeg)]) (q0 := 22 + (n + n)) (ci := 9) (rest := [.long q.1]) C hw hA ((KM_mean l D cI cB cS xM am e2).toA.frame _) cfX9_mean tg_898 tg_899 tg_900 ⟨(Nat.le_of_ble_eq_true rfl), (Nat.le_of_ble_eq_true rfl)⟩ ⟨by show 200 + 2 * j + 0 + 0 ≤ 600000; omega, by show 2000 + 8 * j + 0 + 0 ≤ 7302250; omega⟩ rfl rfl rfl law_at hl.1 rfl (Nat.le_of_ble_eq_true rfl) dL_law_709 (fun v ws1 H locs hp hw => ?_)
  obtain ⟨w1, rfl, rfl, rfl⟩ := hp
  have hw := hw.swap
  refine W.lcmp hx hb dL_law_712 ?_
  refine lv_if_eq (tgt := 1207) hx hb dL_law_713 (by decide) (fun _ => ?_) (fun hz => absurd ((lg_cmp_eq _ _).mpr e3) hz)
  refine lv_iinc (v := (nI j + 6)) (lv' := [(3, .int (nI j + 6)), (0, .ref b), (1, .ref (ad 0)), (2, .ref xM)]) hx hb dL_law_1207 hl (k := 3) rfl (iv_6 _) (by decide) rfl (fun ls hl => ?_)
  refine lv_goto (tgt := 18) hx hb dL_law_1210 (by decide) ?_
  refine W.widen (k := 200 + 2 * (j + 6)) (n := 2000 + 8 * (j + 6)) (by omega) (by omega) ?_
  have hl := lv_sub (l' := [(0, .ref b), (1, .ref (ad 0)), (2, .ref xM), (3, .int (nI j + 6))]) hl [1, 2, 3, 0] rfl
  rw [show (6 : Int32) = nI 6 from rfl, nI_add] at hl
  exact hback _ _ _ _ _ _ _ _ e4 hcg rfl hw hl
set_option maxHeartbeats 4000000 in
theorem law_hangs {p : Program} {l : Launch} {e : Env} {s : State} {m : MethodId} {below : List Frame} {meth : Method} {c : Code} {D : va_G} {cI cB cS : ClassId} {b L : Nat} {xs : Nat → Int32} {xD xM : Nat} {am : Nat → Nat} {Inv : Nat → MS → MS → Prop} (hL : L ≤ 3072) (C0 : lw_At p s m meth c b L xs) (hgK : gK D cI cB cS s) (hI : opsOk Inv) {n j : Nat} {ad : Nat → Nat} {bf : Nat → Option Nat} {S M : MS} {H : Heap} {locs : List Loc} {ls : Array Slot} (hj : j + 6 ≤ L) (hinv : Inv n S M) (hcg : bok n ad bf) (hxD : ad 0 = xD) (hw : wd D (fun q : Nat => s.heap.size ≤ q) s.heap (mW cI xM am M ++ cW cI cB cS n ad bf S) H locs) (hl : lv_has ls 4 [(0, .ref b), (1, .ref xD), (2, .ref xM), (3, .int (nI j))])
    (hback : ∀ (n2 : Nat) (ad2 : Nat → Nat) (bf2 : Nat → Option Nat) (S2 M2 : MS) (H : Heap) (locs : List Loc) (ls : Array Slot), Inv n2 S2 M2 → bok n2 ad2 bf2 → ad2 0 = xD → wd D (fun q : Nat => s.heap.size ≤ q) s.heap (mW cI xM am M2 ++ cW cI cB cS n2 ad2 bf2 S2) H locs → lv_has ls 4 [(0, .ref b), (1, .ref xD), (2, .ref xM), (3, .int (nI (j + 6)))] → W p l e room_1 s m #[Value.ref b] below meth c H locs (200 + 2 * (j + 6)) (2000 + 8 * (j + 6)) (lw_Z below #[Value.ref b] s) (F0 m 18 ls [])) : W p l e room_1 s m #[Value.ref b] below meth c H locs (200 + 2 * j) (2000 + 8 * j) (lw_Z below #[Value.ref b] s) (F0 m 718 ls []) := by
  have C := law_cx C0 hgK
  obtain ⟨hx, hb, hr, hml, hown, hts, hX, hbl, hlocks, hgv⟩ := C0
  have hA : ∀ q : Nat, s.heap.size ≤ q → (fun q : Nat => s.heap.size ≤ q) q := fun _ h => h
  have hbA : ¬ (fun q : Nat => s.heap.size ≤ q) b := Nat.not_le.mpr hbl
  subst hxD
  obtain ⟨q, qm, e1, e2, e3, e4⟩ := hI.2.2.2.2.2.2.2.2.2.2.2.2.2.2.2.1 n S M (xs (nI j + 1).toNatClampNeg) hinv
  refine lv_aload_n hx hb dL_law_718 rfl (lv_at hl 1 rfl) ?_
  refine lv_aload_n hx hb dL_law_719 rfl (lv_at hl 0 rfl) ?_
  refine lv_iload_n hx hb dL_law_720 rfl (lv_at hl 3 rfl) ?_
  refine lv_iconst (v := 1) hx hb dL_law_721 ic_1 ?_
  refine lv_iadd hx hb dL_law_722 ?_
  refine va_sld hx hb hX hbl hbA hw.2.2 (sc_in (k := 1) rfl hL (by omega)) dL_law_723 ?_
  refine ctA_V (As := [.int (xs (nI j + 1).toNatClampNeg)]) (q0 := 19) (ci := 8) (rest := []) C hw hA ((KC_hangs l D cI cB cS n ad bf hcg e1).toA.frame _) cfX8_hangs tg_495 tg_496 tg_497 ⟨(Nat.le_of_ble_eq_true rfl), (Nat.le_of_ble_eq_true rfl)⟩ ⟨by show 200 + 2 * j + 0 ≤ 600000; omega, by show 2000 + 8 * j + 0 ≤ 7302250; omega⟩ rfl rfl rfl rfl hl.1 rfl (Nat.le_of_ble_eq_true rfl) dL_law_724 (fun v ws1 H locs hp hw => ?_)
  obtain ⟨w1, rfl, rfl, rfl⟩ := hp
  have hw := hw.swap
  refine lv_aload_n hx hb dL_law_727 rfl (lv_at hl 2 rfl) ?_
  refine lv_aload_n hx hb dL_law_728 rfl (lv_at hl 0 rfl) ?_
  refine lv_iload_n hx hb dL_law_729 rfl (lv_at hl 3 rfl) ?_
  refine lv_iconst (v := 1) hx hb dL_law_730 ic_1 ?_
  refine lv_iadd hx hb dL_law_731 ?_
  refine va_sld hx hb hX hbl hbA hw.2.2 (sc_in (k := 1) rfl hL (by omega)) dL_law_732 ?_
  refine ctA_V (As := [.int (xs (nI j + 1).toNatClampNeg)]) (q0 := 22 + (n + n)) (ci := 9) (rest := [.int q.1]) C hw hA ((KM_hangs l D cI cB cS xM am e2).toA.frame _) cfX9_hangs tg_909 tg_910 tg_911 ⟨(Nat.le_of_ble_eq_true rfl), (Nat.le_of_ble_eq_true rfl)⟩ ⟨by show 200 + 2 * j + 0 + 0 ≤ 600000; omega, by show 2000 + 8 * j + 0 + 0 ≤ 7302250; omega⟩ rfl rfl rfl law_at hl.1 rfl (Nat.le_of_ble_eq_true rfl) dL_law_733 (fun v ws1 H locs hp hw => ?_)
  obtain ⟨w1, rfl, rfl, rfl⟩ := hp
  have hw := hw.swap
  refine lv_icmp_eq (tgt := 1207) hx hb dL_law_736 (by decide) (fun _ => ?_) (fun hz => absurd e3 hz)
  refine lv_iinc (v := (nI j + 6)) (lv' := [(3, .int (nI j + 6)), (0, .ref b), (1, .ref (ad 0)), (2, .ref xM)]) hx hb dL_law_1207 hl (k := 3) rfl (iv_6 _) (by decide) rfl (fun ls hl => ?_)
  refine lv_goto (tgt := 18) hx hb dL_law_1210 (by decide) ?_
  refine W.widen (k := 200 + 2 * (j + 6)) (n := 2000 + 8 * (j + 6)) (by omega) (by omega) ?_
  have hl := lv_sub (l' := [(0, .ref b), (1, .ref (ad 0)), (2, .ref xM), (3, .int (nI j + 6))]) hl [1, 2, 3, 0] rfl
  rw [show (6 : Int32) = nI 6 from rfl, nI_add] at hl
  exact hback _ _ _ _ _ _ _ _ e4 hcg rfl hw hl
set_option maxHeartbeats 4000000 in
theorem law_reading {p : Program} {l : Launch} {e : Env} {s : State} {m : MethodId} {below : List Frame} {meth : Method} {c : Code} {D : va_G} {cI cB cS : ClassId} {b L : Nat} {xs : Nat → Int32} {xD xM : Nat} {am : Nat → Nat} {Inv : Nat → MS → MS → Prop} (hL : L ≤ 3072) (C0 : lw_At p s m meth c b L xs) (hgK : gK D cI cB cS s) (hI : opsOk Inv) {n j : Nat} {ad : Nat → Nat} {bf : Nat → Option Nat} {S M : MS} {H : Heap} {locs : List Loc} {ls : Array Slot} (hj : j + 6 ≤ L) (hinv : Inv n S M) (hcg : bok n ad bf) (hxD : ad 0 = xD) (hw : wd D (fun q : Nat => s.heap.size ≤ q) s.heap (mW cI xM am M ++ cW cI cB cS n ad bf S) H locs) (hl : lv_has ls 4 [(0, .ref b), (1, .ref xD), (2, .ref xM), (3, .int (nI j))])
    (hback : ∀ (n2 : Nat) (ad2 : Nat → Nat) (bf2 : Nat → Option Nat) (S2 M2 : MS) (H : Heap) (locs : List Loc) (ls : Array Slot), Inv n2 S2 M2 → bok n2 ad2 bf2 → ad2 0 = xD → wd D (fun q : Nat => s.heap.size ≤ q) s.heap (mW cI xM am M2 ++ cW cI cB cS n2 ad2 bf2 S2) H locs → lv_has ls 4 [(0, .ref b), (1, .ref xD), (2, .ref xM), (3, .int (nI (j + 6)))] → W p l e room_1 s m #[Value.ref b] below meth c H locs (200 + 2 * (j + 6)) (2000 + 8 * (j + 6)) (lw_Z below #[Value.ref b] s) (F0 m 18 ls [])) : W p l e room_1 s m #[Value.ref b] below meth c H locs (200 + 2 * j) (2000 + 8 * j) (lw_Z below #[Value.ref b] s) (F0 m 741 ls []) := by
  have C := law_cx C0 hgK
  obtain ⟨hx, hb, hr, hml, hown, hts, hX, hbl, hlocks, hgv⟩ := C0
  have hA : ∀ q : Nat, s.heap.size ≤ q → (fun q : Nat => s.heap.size ≤ q) q := fun _ h => h
  have hbA : ¬ (fun q : Nat => s.heap.size ≤ q) b := Nat.not_le.mpr hbl
  subst hxD
  obtain ⟨q, qm, e1, e2, e3, e4⟩ := hI.2.2.2.2.2.2.2.2.2.2.2.2.2.2.2.2.1 n S M (xs (nI j + 1).toNatClampNeg) (xs (nI j + 2).toNatClampNeg) hinv
  refine lv_aload_n hx hb dL_law_741 rfl (lv_at hl 1 rfl) ?_
  refine lv_aload_n hx hb dL_law_742 rfl (lv_at hl 0 rfl) ?_
  refine lv_iload_n hx hb dL_law_743 rfl (lv_at hl 3 rfl) ?_
  refine lv_iconst (v := 1) hx hb dL_law_744 ic_1 ?_
  refine lv_iadd hx hb dL_law_745 ?_
  refine va_sld hx hb hX hbl hbA hw.2.2 (sc_in (k := 1) rfl hL (by omega)) dL_law_746 ?_
  refine lv_aload_n hx hb dL_law_747 rfl (lv_at hl 0 rfl) ?_
  refine lv_iload_n hx hb dL_law_748 rfl (lv_at hl 3 rfl) ?_
  refine lv_iconst (v := 2) hx hb dL_law_749 ic_2 ?_
  refine lv_iadd hx hb dL_law_750 ?_
  refine va_sld hx hb hX hbl hbA hw.2.2 (sc_in (k := 2) rfl hL (by omega)) dL_law_751 ?_
  refine ctA_V (As := [.int (xs (nI j + 1).toNatClampNeg), .int (xs (nI j + 2).toNatClampNeg)]) (q0 := 19) (ci := 8) (rest := []) C hw hA ((KC_reading l D cI cB cS n ad bf hcg e1).toA.frame _) cfX8_reading tg_499 tg_500 tg_501 ⟨(Nat.le_of_ble_eq_true rfl), (Nat.le_of_ble_eq_true rfl)⟩ ⟨by show 200 + 2 * j + 0 ≤ 600000; omega, by show 2000 + 8 * j + 0 ≤ 7302250; omega⟩ rfl rfl rfl rfl hl.1 rfl (Nat.le_of_ble_eq_true rfl) dL_law_752 (fun v ws1 H locs hp hw => ?_)
  obtain ⟨w1, rfl, rfl, rfl⟩ := hp
  have hw := hw.swap
  refine lv_aload_n hx hb dL_law_755 rfl (lv_at hl 2 rfl) ?_
  refine lv_aload_n hx hb dL_law_756 rfl (lv_at hl 0 rfl) ?_
  refine lv_iload_n hx hb dL_law_757 rfl (lv_at hl 3 rfl) ?_
  refine lv_iconst (v := 1) hx hb dL_law_758 ic_1 ?_
  refine lv_iadd hx hb dL_law_759 ?_
  refine va_sld hx hb hX hbl hbA hw.2.2 (sc_in (k := 1) rfl hL (by omega)) dL_law_760 ?_
  refine lv_aload_n hx hb dL_law_761 rfl (lv_at hl 0 rfl) ?_
  refine lv_iload_n hx hb dL_law_762 rfl (lv_at hl 3 rfl) ?_
  refine lv_iconst (v := 2) hx hb dL_law_763 ic_2 ?_
  refine lv_iadd hx hb dL_law_764 ?_
  refine va_sld hx hb hX hbl hbA hw.2.2 (sc_in (k := 2) rfl hL (by omega)) dL_law_765 ?_
  refine ctA_V (As := [.int (xs (nI j + 1).toNatClampNeg), .int (xs (nI j + 2).toNatClampNeg)]) (q0 := 22 + (n + n)) (ci := 9) (rest := [.int q.1]) C hw hA ((KM_reading l D cI cB cS xM am e2).toA.frame _) cfX9_reading tg_913 tg_914 tg_915 ⟨(Nat.le_of_ble_eq_true rfl), (Nat.le_of_ble_eq_true rfl)⟩ ⟨by show 200 + 2 * j + 0 + 0 ≤ 600000; omega, by show 2000 + 8 * j + 0 + 0 ≤ 7302250; omega⟩ rfl rfl rfl law_at hl.1 rfl (Nat.le_of_ble_eq_true rfl) dL_law_766 (fun v ws1 H locs hp hw => ?_)
  obtain ⟨w1, rfl, rfl, rfl⟩ := hp
  have hw := hw.swap
  refine lv_icmp_eq (tgt := 1207) hx hb dL_law_769 (by decide) (fun _ => ?_) (fun hz => absurd e3 hz)
  refine lv_iinc (v := (nI j + 6)) (lv' := [(3, .int (nI j + 6)), (0, .ref b), (1, .ref (ad 0)), (2, .ref xM)]) hx hb dL_law_1207 hl (k := 3) rfl (iv_6 _) (by decide) rfl (fun ls hl => ?_)
  refine lv_goto (tgt := 18) hx hb dL_law_1210 (by decide) ?_
  refine W.widen (k := 200 + 2 * (j + 6)) (n := 2000 + 8 * (j + 6)) (by omega) (by omega) ?_
  have hl := lv_sub (l' := [(0, .ref b), (1, .ref (ad 0)), (2, .ref xM), (3, .int (nI j + 6))]) hl [1, 2, 3, 0] rfl
  rw [show (6 : Int32) = nI 6 from rfl, nI_add] at hl
  exact hback _ _ _ _ _ _ _ _ e4 hcg rfl hw hl
set_option maxHeartbeats 4000000 in
theorem law_back {p : Program} {l : Launch} {e : Env} {s : State} {m : MethodId} {below : List Frame} {meth : Method} {c : Code} {D : va_G} {cI cB cS : ClassId} {b L : Nat} {xs : Nat → Int32} {xD xM : Nat} {am : Nat → Nat} {Inv : Nat → MS → MS → Prop} (hL : L ≤ 3072) (C0 : lw_At p s m meth c b L xs) (hgK : gK D cI cB cS s) (hI : opsOk Inv) {n j : Nat} {ad : Nat → Nat} {bf : Nat → Option Nat} {S M : MS} {H : Heap} {locs : List Loc} {ls : Array Slot} (hj : j + 6 ≤ L) (hinv : Inv n S M) (hcg : bok n ad bf) (hxD : ad 0 = xD) (hw : wd D (fun q : Nat => s.heap.size ≤ q) s.heap (mW cI xM am M ++ cW cI cB cS n ad bf S) H locs) (hl : lv_has ls 4 [(0, .ref b), (1, .ref xD), (2, .ref xM), (3, .int (nI j))])
    (hback : ∀ (n2 : Nat) (ad2 : Nat → Nat) (bf2 : Nat → Option Nat) (S2 M2 : MS) (H : Heap) (locs : List Loc) (ls : Array Slot), Inv n2 S2 M2 → bok n2 ad2 bf2 → ad2 0 = xD → wd D (fun q : Nat => s.heap.size ≤ q) s.heap (mW cI xM am M2 ++ cW cI cB cS n2 ad2 bf2 S2) H locs → lv_has ls 4 [(0, .ref b), (1, .ref xD), (2, .ref xM), (3, .int (nI (j + 6)))] → W p l e room_1 s m #[Value.ref b] below meth c H locs (200 + 2 * (j + 6)) (2000 + 8 * (j + 6)) (lw_Z below #[Value.ref b] s) (F0 m 18 ls [])) : W p l e room_1 s m #[Value.ref b] below meth c H locs (200 + 2 * j) (2000 + 8 * j) (lw_Z below #[Value.ref b] s) (F0 m 774 ls []) := by
  have C := law_cx C0 hgK
  obtain ⟨hx, hb, hr, hml, hown, hts, hX, hbl, hlocks, hgv⟩ := C0
  have hA : ∀ q : Nat, s.heap.size ≤ q → (fun q : Nat => s.heap.size ≤ q) q := fun _ h => h
  have hbA : ¬ (fun q : Nat => s.heap.size ≤ q) b := Nat.not_le.mpr hbl
  subst hxD
  obtain ⟨q, qm, e1, e2, e3, e4⟩ := hI.2.2.2.2.2.2.2.2.2.2.2.2.2.2.2.2.2.1 n S M (xs (nI j + 1).toNatClampNeg) hinv
  refine lv_aload_n hx hb dL_law_774 rfl (lv_at hl 1 rfl) ?_
  refine lv_aload_n hx hb dL_law_775 rfl (lv_at hl 0 rfl) ?_
  refine lv_iload_n hx hb dL_law_776 rfl (lv_at hl 3 rfl) ?_
  refine lv_iconst (v := 1) hx hb dL_law_777 ic_1 ?_
  refine lv_iadd hx hb dL_law_778 ?_
  refine va_sld hx hb hX hbl hbA hw.2.2 (sc_in (k := 1) rfl hL (by omega)) dL_law_779 ?_
  refine ctA_V (As := [.int (xs (nI j + 1).toNatClampNeg)]) (q0 := 19) (ci := 8) (rest := []) C hw hA ((KC_back l D cI cB cS n ad bf hcg e1).toA.frame _) cfX8_back tg_507 tg_508 tg_509 ⟨(Nat.le_of_ble_eq_true rfl), (Nat.le_of_ble_eq_true rfl)⟩ ⟨by show 200 + 2 * j + 0 ≤ 600000; omega, by show 2000 + 8 * j + 0 ≤ 7302250; omega⟩ rfl rfl rfl rfl hl.1 rfl (Nat.le_of_ble_eq_true rfl) dL_law_780 (fun v ws1 H locs hp hw => ?_)
  obtain ⟨w1, rfl, rfl, rfl⟩ := hp
  have hw := hw.swap
  refine lv_aload_n hx hb dL_law_783 rfl (lv_at hl 2 rfl) ?_
  refine lv_aload_n hx hb dL_law_784 rfl (lv_at hl 0 rfl) ?_
  refine lv_iload_n hx hb dL_law_785 rfl (lv_at hl 3 rfl) ?_
  refine lv_iconst (v := 1) hx hb dL_law_786 ic_1 ?_
  refine lv_iadd hx hb dL_law_787 ?_
  refine va_sld hx hb hX hbl hbA hw.2.2 (sc_in (k := 1) rfl hL (by omega)) dL_law_788 ?_
  refine ctA_V (As := [.int (xs (nI j + 1).toNatClampNeg)]) (q0 := 22 + (n + n)) (ci := 9) (rest := [.int q.1]) C hw hA ((KM_back l D cI cB cS xM am e2).toA.frame _) cfX9_back tg_917 tg_918 tg_919 ⟨(Nat.le_of_ble_eq_true rfl), (Nat.le_of_ble_eq_true rfl)⟩ ⟨by show 200 + 2 * j + 0 + 0 ≤ 600000; omega, by show 2000 + 8 * j + 0 + 0 ≤ 7302250; omega⟩ rfl rfl rfl law_at hl.1 rfl (Nat.le_of_ble_eq_true rfl) dL_law_789 (fun v ws1 H locs hp hw => ?_)
  obtain ⟨w1, rfl, rfl, rfl⟩ := hp
  have hw := hw.swap
  refine lv_icmp_eq (tgt := 1207) hx hb dL_law_792 (by decide) (fun _ => ?_) (fun hz => absurd e3 hz)
  refine lv_iinc (v := (nI j + 6)) (lv' := [(3, .int (nI j + 6)), (0, .ref b), (1, .ref (ad 0)), (2, .ref xM)]) hx hb dL_law_1207 hl (k := 3) rfl (iv_6 _) (by decide) rfl (fun ls hl => ?_)
  refine lv_goto (tgt := 18) hx hb dL_law_1210 (by decide) ?_
  refine W.widen (k := 200 + 2 * (j + 6)) (n := 2000 + 8 * (j + 6)) (by omega) (by omega) ?_
  have hl := lv_sub (l' := [(0, .ref b), (1, .ref (ad 0)), (2, .ref xM), (3, .int (nI j + 6))]) hl [1, 2, 3, 0] rfl
  rw [show (6 : Int32) = nI 6 from rfl, nI_add] at hl
  exact hback _ _ _ _ _ _ _ _ e4 hcg rfl hw hl
set_option maxHeartbeats 4000000 in
theorem law_values {p : Program} {l : Launch} {e : Env} {s : State} {m : MethodId} {below : List Frame} {meth : Method} {c : Code} {D : va_G} {cI cB cS : ClassId} {b L : Nat} {xs : Nat → Int32} {xD xM : Nat} {am : Nat → Nat} {Inv : Nat → MS → MS → Prop} (hL : L ≤ 3072) (C0 : lw_At p s m meth c b L xs) (hgK : gK D cI cB cS s) (hI : opsOk Inv) {n j : Nat} {ad : Nat → Nat} {bf : Nat → Option Nat} {S M : MS} {H : Heap} {locs : List Loc} {ls : Array Slot} (hj : j + 6 ≤ L) (hinv : Inv n S M) (hcg : bok n ad bf) (hxD : ad 0 = xD) (hw : wd D (fun q : Nat => s.heap.size ≤ q) s.heap (mW cI xM am M ++ cW cI cB cS n ad bf S) H locs) (hl : lv_has ls 4 [(0, .ref b), (1, .ref xD), (2, .ref xM), (3, .int (nI j))])
    (hback : ∀ (n2 : Nat) (ad2 : Nat → Nat) (bf2 : Nat → Option Nat) (S2 M2 : MS) (H : Heap) (locs : List Loc) (ls : Array Slot), Inv n2 S2 M2 → bok n2 ad2 bf2 → ad2 0 = xD → wd D (fun q : Nat => s.heap.size ≤ q) s.heap (mW cI xM am M2 ++ cW cI cB cS n2 ad2 bf2 S2) H locs → lv_has ls 4 [(0, .ref b), (1, .ref xD), (2, .ref xM), (3, .int (nI (j + 6)))] → W p l e room_1 s m #[Value.ref b] below meth c H locs (200 + 2 * (j + 6)) (2000 + 8 * (j + 6)) (lw_Z below #[Value.ref b] s) (F0 m 18 ls [])) : W p l e room_1 s m #[Value.ref b] below meth c H locs (200 + 2 * j) (2000 + 8 * j) (lw_Z below #[Value.ref b] s) (F0 m 797 ls []) := by
  have C := law_cx C0 hgK
  obtain ⟨hx, hb, hr, hml, hown, hts, hX, hbl, hlocks, hgv⟩ := C0
  have hA : ∀ q : Nat, s.heap.size ≤ q → (fun q : Nat => s.heap.size ≤ q) q := fun _ h => h
  have hbA : ¬ (fun q : Nat => s.heap.size ≤ q) b := Nat.not_le.mpr hbl
  subst hxD
  obtain ⟨q, qm, e1, e2, e3, e4⟩ := hI.2.2.2.2.2.2.2.2.2.2.2.2.2.2.2.2.2.2.1 n S M (xs (nI j + 1).toNatClampNeg) (xs (nI j + 2).toNatClampNeg) (xs (nI j + 3).toNatClampNeg) hinv
  refine lv_aload_n hx hb dL_law_797 rfl (lv_at hl 1 rfl) ?_
  refine lv_aload_n hx hb dL_law_798 rfl (lv_at hl 0 rfl) ?_
  refine lv_iload_n hx hb dL_law_799 rfl (lv_at hl 3 rfl) ?_
  refine lv_iconst (v := 1) hx hb dL_law_800 ic_1 ?_
  refine lv_iadd hx hb dL_law_801 ?_
  refine va_sld hx hb hX hbl hbA hw.2.2 (sc_in (k := 1) rfl hL (by omega)) dL_law_802 ?_
  refine lv_aload_n hx hb dL_law_803 rfl (lv_at hl 0 rfl) ?_
  refine lv_iload_n hx hb dL_law_804 rfl (lv_at hl 3 rfl) ?_
  refine lv_iconst (v := 2) hx hb dL_law_805 ic_2 ?_
  refine lv_iadd hx hb dL_law_806 ?_
  refine va_sld hx hb hX hbl hbA hw.2.2 (sc_in (k := 2) rfl hL (by omega)) dL_law_807 ?_
  refine lv_aload_n hx hb dL_law_808 rfl (lv_at hl 0 rfl) ?_
  refine lv_iload_n hx hb dL_law_809 rfl (lv_at hl 3 rfl) ?_
  refine lv_iconst (v := 3) hx hb dL_law_810 ic_3 ?_
  refine lv_iadd hx hb dL_law_811 ?_
  refine va_sld hx hb hX hbl hbA hw.2.2 (sc_in (k := 3) rfl hL (by omega)) dL_law_812 ?_
  refine ctA_V (As := [.int (xs (nI j + 1).toNatClampNeg), .int (xs (nI j + 2).toNatClampNeg), .int (xs (nI j + 3).toNatClampNeg)]) (q0 := 19) (ci := 8) (rest := []) C hw hA ((KC_values l D cI cB cS n ad bf hcg e1).toA.frame _) cfX8_values tg_511 tg_512 tg_513 ⟨(Nat.le_of_ble_eq_true rfl), (Nat.le_of_ble_eq_true rfl)⟩ ⟨by show 200 + 2 * j + 0 ≤ 600000; omega, by show 2000 + 8 * j + 0 ≤ 7302250; omega⟩ rfl rfl rfl rfl hl.1 rfl (Nat.le_of_ble_eq_true rfl) dL_law_813 (fun v ws1 H locs hp hw => ?_)
  obtain ⟨w1, rfl, rfl, rfl⟩ := hp
  have hw := hw.swap
  refine lv_aload_n hx hb dL_law_816 rfl (lv_at hl 2 rfl) ?_
  refine lv_aload_n hx hb dL_law_817 rfl (lv_at hl 0 rfl) ?_
  refine lv_iload_n hx hb dL_law_818 rfl (lv_at hl 3 rfl) ?_
  refine lv_iconst (v := 1) hx hb dL_law_819 ic_1 ?_
  refine lv_iadd hx hb dL_law_820 ?_
  refine va_sld hx hb hX hbl hbA hw.2.2 (sc_in (k := 1) rfl hL (by omega)) dL_law_821 ?_
  refine lv_aload_n hx hb dL_law_822 rfl (lv_at hl 0 rfl) ?_
  refine lv_iload_n hx hb dL_law_823 rfl (lv_at hl 3 rfl) ?_
  refine lv_iconst (v := 2) hx hb dL_law_824 ic_2 ?_
  refine lv_iadd hx hb dL_law_825 ?_
  refine va_sld hx hb hX hbl hbA hw.2.2 (sc_in (k := 2) rfl hL (by omega)) dL_law_826 ?_
  refine lv_aload_n hx hb dL_law_827 rfl (lv_at hl 0 rfl) ?_
  refine lv_iload_n hx hb dL_law_828 rfl (lv_at hl 3 rfl) ?_
  refine lv_iconst (v := 3) hx hb dL_law_829 ic_3 ?_
  refine lv_iadd hx hb dL_law_830 ?_
  refine va_sld hx hb hX hbl hbA hw.2.2 (sc_in (k := 3) rfl hL (by omega)) dL_law_831 ?_
  refine ctA_V (As := [.int (xs (nI j + 1).toNatClampNeg), .int (xs (nI j + 2).toNatClampNeg), .int (xs (nI j + 3).toNatClampNeg)]) (q0 := 22 + (n + n)) (ci := 9) (rest := [.int q.1]) C hw hA ((KM_values l D cI cB cS xM am e2).toA.frame _) cfX9_values tg_921 tg_922 tg_923 ⟨(Nat.le_of_ble_eq_true rfl), (Nat.le_of_ble_eq_true rfl)⟩ ⟨by show 200 + 2 * j + 0 + 0 ≤ 600000; omega, by show 2000 + 8 * j + 0 + 0 ≤ 7302250; omega⟩ rfl rfl rfl law_at hl.1 rfl (Nat.le_of_ble_eq_true rfl) dL_law_832 (fun v ws1 H locs hp hw => ?_)
  obtain ⟨w1, rfl, rfl, rfl⟩ := hp
  have hw := hw.swap
  refine lv_icmp_eq (tgt := 1207) hx hb dL_law_835 (by decide) (fun _ => ?_) (fun hz => absurd e3 hz)
  refine lv_iinc (v := (nI j + 6)) (lv' := [(3, .int (nI j + 6)), (0, .ref b), (1, .ref (ad 0)), (2, .ref xM)]) hx hb dL_law_1207 hl (k := 3) rfl (iv_6 _) (by decide) rfl (fun ls hl => ?_)
  refine lv_goto (tgt := 18) hx hb dL_law_1210 (by decide) ?_
  refine W.widen (k := 200 + 2 * (j + 6)) (n := 2000 + 8 * (j + 6)) (by omega) (by omega) ?_
  have hl := lv_sub (l' := [(0, .ref b), (1, .ref (ad 0)), (2, .ref xM), (3, .int (nI j + 6))]) hl [1, 2, 3, 0] rfl
  rw [show (6 : Int32) = nI 6 from rfl, nI_add] at hl
  exact hback _ _ _ _ _ _ _ _ e4 hcg rfl hw hl
set_option maxHeartbeats 4000000 in
theorem law_places {p : Program} {l : Launch} {e : Env} {s : State} {m : MethodId} {below : List Frame} {meth : Method} {c : Code} {D : va_G} {cI cB cS : ClassId} {b L : Nat} {xs : Nat → Int32} {xD xM : Nat} {am : Nat → Nat} {Inv : Nat → MS → MS → Prop} (hL : L ≤ 3072) (C0 : lw_At p s m meth c b L xs) (hgK : gK D cI cB cS s) (hI : opsOk Inv) {n j : Nat} {ad : Nat → Nat} {bf : Nat → Option Nat} {S M : MS} {H : Heap} {locs : List Loc} {ls : Array Slot} (hj : j + 6 ≤ L) (hinv : Inv n S M) (hcg : bok n ad bf) (hxD : ad 0 = xD) (hw : wd D (fun q : Nat => s.heap.size ≤ q) s.heap (mW cI xM am M ++ cW cI cB cS n ad bf S) H locs) (hl : lv_has ls 4 [(0, .ref b), (1, .ref xD), (2, .ref xM), (3, .int (nI j))])
    (hback : ∀ (n2 : Nat) (ad2 : Nat → Nat) (bf2 : Nat → Option Nat) (S2 M2 : MS) (H : Heap) (locs : List Loc) (ls : Array Slot), Inv n2 S2 M2 → bok n2 ad2 bf2 → ad2 0 = xD → wd D (fun q : Nat => s.heap.size ≤ q) s.heap (mW cI xM am M2 ++ cW cI cB cS n2 ad2 bf2 S2) H locs → lv_has ls 4 [(0, .ref b), (1, .ref xD), (2, .ref xM), (3, .int (nI (j + 6)))] → W p l e room_1 s m #[Value.ref b] below meth c H locs (200 + 2 * (j + 6)) (2000 + 8 * (j + 6)) (lw_Z below #[Value.ref b] s) (F0 m 18 ls [])) : W p l e room_1 s m #[Value.ref b] below meth c H locs (200 + 2 * j) (2000 + 8 * j) (lw_Z below #[Value.ref b] s) (F0 m 840 ls []) := by
  have C := law_cx C0 hgK
  obtain ⟨hx, hb, hr, hml, hown, hts, hX, hbl, hlocks, hgv⟩ := C0
  have hA : ∀ q : Nat, s.heap.size ≤ q → (fun q : Nat => s.heap.size ≤ q) q := fun _ h => h
  have hbA : ¬ (fun q : Nat => s.heap.size ≤ q) b := Nat.not_le.mpr hbl
  subst hxD
  obtain ⟨q, qm, e1, e2, e3, e4⟩ := hI.2.2.2.2.2.2.2.2.2.2.2.2.2.2.2.2.2.2.2.1 n S M (xs (nI j + 1).toNatClampNeg) hinv
  refine lv_aload_n hx hb dL_law_840 rfl (lv_at hl 1 rfl) ?_
  refine lv_aload_n hx hb dL_law_841 rfl (lv_at hl 0 rfl) ?_
  refine lv_iload_n hx hb dL_law_842 rfl (lv_at hl 3 rfl) ?_
  refine lv_iconst (v := 1) hx hb dL_law_843 ic_1 ?_
  refine lv_iadd hx hb dL_law_844 ?_
  refine va_sld hx hb hX hbl hbA hw.2.2 (sc_in (k := 1) rfl hL (by omega)) dL_law_845 ?_
  refine ctA_V (As := [.int (xs (nI j + 1).toNatClampNeg)]) (q0 := 19) (ci := 8) (rest := []) C hw hA ((KC_places l D cI cB cS n ad bf hcg e1).toA.frame _) cfX8_places tg_531 tg_532 tg_533 ⟨(Nat.le_of_ble_eq_true rfl), (Nat.le_of_ble_eq_true rfl)⟩ ⟨by show 200 + 2 * j + 0 ≤ 600000; omega, by show 2000 + 8 * j + 0 ≤ 7302250; omega⟩ rfl rfl rfl rfl hl.1 rfl (Nat.le_of_ble_eq_true rfl) dL_law_846 (fun v ws1 H locs hp hw => ?_)
  obtain ⟨w1, rfl, rfl, rfl⟩ := hp
  have hw := hw.swap
  refine lv_aload_n hx hb dL_law_849 rfl (lv_at hl 2 rfl) ?_
  refine lv_aload_n hx hb dL_law_850 rfl (lv_at hl 0 rfl) ?_
  refine lv_iload_n hx hb dL_law_851 rfl (lv_at hl 3 rfl) ?_
  refine lv_iconst (v := 1) hx hb dL_law_852 ic_1 ?_
  refine lv_iadd hx hb dL_law_853 ?_
  refine va_sld hx hb hX hbl hbA hw.2.2 (sc_in (k := 1) rfl hL (by omega)) dL_law_854 ?_
  refine ctA_V (As := [.int (xs (nI j + 1).toNatClampNeg)]) (q0 := 22 + (n + n)) (ci := 9) (rest := [.int q.1]) C hw hA ((KM_places l D cI cB cS xM am e2).toA.frame _) cfX9_places tg_929 tg_930 tg_931 ⟨(Nat.le_of_ble_eq_true rfl), (Nat.le_of_ble_eq_true rfl)⟩ ⟨by show 200 + 2 * j + 0 + 0 ≤ 600000; omega, by show 2000 + 8 * j + 0 + 0 ≤ 7302250; omega⟩ rfl rfl rfl law_at hl.1 rfl (Nat.le_of_ble_eq_true rfl) dL_law_855 (fun v ws1 H locs hp hw => ?_)
  obtain ⟨w1, rfl, rfl, rfl⟩ := hp
  have hw := hw.swap
  refine lv_icmp_eq (tgt := 1207) hx hb dL_law_858 (by decide) (fun _ => ?_) (fun hz => absurd e3 hz)
  refine lv_iinc (v := (nI j + 6)) (lv' := [(3, .int (nI j + 6)), (0, .ref b), (1, .ref (ad 0)), (2, .ref xM)]) hx hb dL_law_1207 hl (k := 3) rfl (iv_6 _) (by decide) rfl (fun ls hl => ?_)
  refine lv_goto (tgt := 18) hx hb dL_law_1210 (by decide) ?_
  refine W.widen (k := 200 + 2 * (j + 6)) (n := 2000 + 8 * (j + 6)) (by omega) (by omega) ?_
  have hl := lv_sub (l' := [(0, .ref b), (1, .ref (ad 0)), (2, .ref xM), (3, .int (nI j + 6))]) hl [1, 2, 3, 0] rfl
  rw [show (6 : Int32) = nI 6 from rfl, nI_add] at hl
  exact hback _ _ _ _ _ _ _ _ e4 hcg rfl hw hl
set_option maxHeartbeats 4000000 in
theorem law_sheet {p : Program} {l : Launch} {e : Env} {s : State} {m : MethodId} {below : List Frame} {meth : Method} {c : Code} {D : va_G} {cI cB cS : ClassId} {b L : Nat} {xs : Nat → Int32} {xD xM : Nat} {am : Nat → Nat} {Inv : Nat → MS → MS → Prop} (hL : L ≤ 3072) (C0 : lw_At p s m meth c b L xs) (hgK : gK D cI cB cS s) (hI : opsOk Inv) {n j : Nat} {ad : Nat → Nat} {bf : Nat → Option Nat} {S M : MS} {H : Heap} {locs : List Loc} {ls : Array Slot} (hj : j + 6 ≤ L) (hinv : Inv n S M) (hcg : bok n ad bf) (hxD : ad 0 = xD) (hw : wd D (fun q : Nat => s.heap.size ≤ q) s.heap (mW cI xM am M ++ cW cI cB cS n ad bf S) H locs) (hl : lv_has ls 4 [(0, .ref b), (1, .ref xD), (2, .ref xM), (3, .int (nI j))])
    (hback : ∀ (n2 : Nat) (ad2 : Nat → Nat) (bf2 : Nat → Option Nat) (S2 M2 : MS) (H : Heap) (locs : List Loc) (ls : Array Slot), Inv n2 S2 M2 → bok n2 ad2 bf2 → ad2 0 = xD → wd D (fun q : Nat => s.heap.size ≤ q) s.heap (mW cI xM am M2 ++ cW cI cB cS n2 ad2 bf2 S2) H locs → lv_has ls 4 [(0, .ref b), (1, .ref xD), (2, .ref xM), (3, .int (nI (j + 6)))] → W p l e room_1 s m #[Value.ref b] below meth c H locs (200 + 2 * (j + 6)) (2000 + 8 * (j + 6)) (lw_Z below #[Value.ref b] s) (F0 m 18 ls [])) : W p l e room_1 s m #[Value.ref b] below meth c H locs (200 + 2 * j) (2000 + 8 * j) (lw_Z below #[Value.ref b] s) (F0 m 863 ls []) := by
  have C := law_cx C0 hgK
  obtain ⟨hx, hb, hr, hml, hown, hts, hX, hbl, hlocks, hgv⟩ := C0
  have hA : ∀ q : Nat, s.heap.size ≤ q → (fun q : Nat => s.heap.size ≤ q) q := fun _ h => h
  have hbA : ¬ (fun q : Nat => s.heap.size ≤ q) b := Nat.not_le.mpr hbl
  subst hxD
  obtain ⟨q, qm, e1, e2, e3, e4⟩ := hI.2.2.2.2.2.2.2.2.2.2.2.2.2.2.2.2.2.2.2.2.1 n S M (xs (nI j + 1).toNatClampNeg) (xs (nI j + 2).toNatClampNeg) (xs (nI j + 3).toNatClampNeg) hinv
  refine lv_aload_n hx hb dL_law_863 rfl (lv_at hl 1 rfl) ?_
  refine lv_aload_n hx hb dL_law_864 rfl (lv_at hl 0 rfl) ?_
  refine lv_iload_n hx hb dL_law_865 rfl (lv_at hl 3 rfl) ?_
  refine lv_iconst (v := 1) hx hb dL_law_866 ic_1 ?_
  refine lv_iadd hx hb dL_law_867 ?_
  refine va_sld hx hb hX hbl hbA hw.2.2 (sc_in (k := 1) rfl hL (by omega)) dL_law_868 ?_
  refine lv_aload_n hx hb dL_law_869 rfl (lv_at hl 0 rfl) ?_
  refine lv_iload_n hx hb dL_law_870 rfl (lv_at hl 3 rfl) ?_
  refine lv_iconst (v := 2) hx hb dL_law_871 ic_2 ?_
  refine lv_iadd hx hb dL_law_872 ?_
  refine va_sld hx hb hX hbl hbA hw.2.2 (sc_in (k := 2) rfl hL (by omega)) dL_law_873 ?_
  refine lv_aload_n hx hb dL_law_874 rfl (lv_at hl 0 rfl) ?_
  refine lv_iload_n hx hb dL_law_875 rfl (lv_at hl 3 rfl) ?_
  refine lv_iconst (v := 3) hx hb dL_law_876 ic_3 ?_
  refine lv_iadd hx hb dL_law_877 ?_
  refine va_sld hx hb hX hbl hbA hw.2.2 (sc_in (k := 3) rfl hL (by omega)) dL_law_878 ?_
  refine ctA_V (As := [.int (xs (nI j + 1).toNatClampNeg), .int (xs (nI j + 2).toNatClampNeg), .int (xs (nI j + 3).toNatClampNeg)]) (q0 := 19) (ci := 8) (rest := []) C hw hA ((KC_sheet l D cI cB cS n ad bf hcg e1).toA.frame _) cfX8_sheet tg_535 tg_536 tg_537 ⟨(Nat.le_of_ble_eq_true rfl), (Nat.le_of_ble_eq_true rfl)⟩ ⟨by show 200 + 2 * j + 0 ≤ 600000; omega, by show 2000 + 8 * j + 0 ≤ 7302250; omega⟩ rfl rfl rfl rfl hl.1 rfl (Nat.le_of_ble_eq_true rfl) dL_law_879 (fun v ws1 H locs hp hw => ?_)
  obtain ⟨w1, rfl, rfl, rfl⟩ := hp
  have hw := hw.swap
  refine lv_aload_n hx hb dL_law_882 rfl (lv_at hl 2 rfl) ?_
  refine lv_aload_n hx hb dL_law_883 rfl (lv_at hl 0 rfl) ?_
  refine lv_iload_n hx hb dL_law_884 rfl (lv_at hl 3 rfl) ?_
  refine lv_iconst (v := 1) hx hb dL_law_885 ic_1 ?_
  refine lv_iadd hx hb dL_law_886 ?_
  refine va_sld hx hb hX hbl hbA hw.2.2 (sc_in (k := 1) rfl hL (by omega)) dL_law_887 ?_
  refine lv_aload_n hx hb dL_law_888 rfl (lv_at hl 0 rfl) ?_
  refine lv_iload_n hx hb dL_law_889 rfl (lv_at hl 3 rfl) ?_
  refine lv_iconst (v := 2) hx hb dL_law_890 ic_2 ?_
  refine lv_iadd hx hb dL_law_891 ?_
  refine va_sld hx hb hX hbl hbA hw.2.2 (sc_in (k := 2) rfl hL (by omega)) dL_law_892 ?_
  refine lv_aload_n hx hb dL_law_893 rfl (lv_at hl 0 rfl) ?_
  refine lv_iload_n hx hb dL_law_894 rfl (lv_at hl 3 rfl) ?_
  refine lv_iconst (v := 3) hx hb dL_law_895 ic_3 ?_
  refine lv_iadd hx hb dL_law_896 ?_
  refine va_sld hx hb hX hbl hbA hw.2.2 (sc_in (k := 3) rfl hL (by omega)) dL_law_897 ?_
  refine ctA_V (As := [.int (xs (nI j + 1).toNatClampNeg), .int (xs (nI j + 2).toNatClampNeg), .int (xs (nI j + 3).toNatClampNeg)]) (q0 := 22 + (n + n)) (ci := 9) (rest := [.int q.1]) C hw hA ((KM_sheet l D cI cB cS xM am e2).toA.frame _) cfX9_sheet tg_933 tg_934 tg_935 ⟨(Nat.le_of_ble_eq_true rfl), (Nat.le_of_ble_eq_true rfl)⟩ ⟨by show 200 + 2 * j + 0 + 0 ≤ 600000; omega, by show 2000 + 8 * j + 0 + 0 ≤ 7302250; omega⟩ rfl rfl rfl law_at hl.1 rfl (Nat.le_of_ble_eq_true rfl) dL_law_898 (fun v ws1 H locs hp hw => ?_)
  obtain ⟨w1, rfl, rfl, rfl⟩ := hp
  have hw := hw.swap
  refine lv_icmp_eq (tgt := 1207) hx hb dL_law_901 (by decide) (fun _ => ?_) (fun hz => absurd e3 hz)
  refine lv_iinc (v := (nI j + 6)) (lv' := [(3, .int (nI j + 6)), (0, .ref b), (1, .ref (ad 0)), (2, .ref xM)]) hx hb dL_law_1207 hl (k := 3) rfl (iv_6 _) (by decide) rfl (fun ls hl => ?_)
  refine lv_goto (tgt := 18) hx hb dL_law_1210 (by decide) ?_
  refine W.widen (k := 200 + 2 * (j + 6)) (n := 2000 + 8 * (j + 6)) (by omega) (by omega) ?_
  have hl := lv_sub (l' := [(0, .ref b), (1, .ref (ad 0)), (2, .ref xM), (3, .int (nI j + 6))]) hl [1, 2, 3, 0] rfl
  rw [show (6 : Int32) = nI 6 from rfl, nI_add] at hl
  exact hback _ _ _ _ _ _ _ _ e4 hcg rfl hw hl
set_option maxHeartbeats 4000000 in
theorem law_lose {p : Program} {l : Launch} {e : Env} {s : State} {m : MethodId} {below : List Frame} {meth : Method} {c : Code} {D : va_G} {cI cB cS : ClassId} {b L : Nat} {xs : Nat → Int32} {xD xM : Nat} {am : Nat → Nat} {Inv : Nat → MS → MS → Prop} (hL : L ≤ 3072) (C0 : lw_At p s m meth c b L xs) (hgK : gK D cI cB cS s) (hI : opsOk Inv) {n j : Nat} {ad : Nat → Nat} {bf : Nat → Option Nat} {S M : MS} {H : Heap} {locs : List Loc} {ls : Array Slot} (hj : j + 6 ≤ L) (hinv : Inv n S M) (hcg : bok n ad bf) (hxD : ad 0 = xD) (hw : wd D (fun q : Nat => s.heap.size ≤ q) s.heap (mW cI xM am M ++ cW cI cB cS n ad bf S) H locs) (hl : lv_has ls 4 [(0, .ref b), (1, .ref xD), (2, .ref xM), (3, .int (nI j))])
    (hback : ∀ (n2 : Nat) (ad2 : Nat → Nat) (bf2 : Nat → Option Nat) (S2 M2 : MS) (H : Heap) (locs : List Loc) (ls : Array Slot), Inv n2 S2 M2 → bok n2 ad2 bf2 → ad2 0 = xD → wd D (fun q : Nat => s.heap.size ≤ q) s.heap (mW cI xM am M2 ++ cW cI cB cS n2 ad2 bf2 S2) H locs → lv_has ls 4 [(0, .ref b), (1, .ref xD), (2, .ref xM), (3, .int (nI (j + 6)))] → W p l e room_1 s m #[Value.ref b] below meth c H locs (200 + 2 * (j + 6)) (2000 + 8 * (j + 6)) (lw_Z below #[Value.ref b] s) (F0 m 18 ls [])) : W p l e room_1 s m #[Value.ref b] below meth c H locs (200 + 2 * j) (2000 + 8 * j) (lw_Z below #[Value.ref b] s) (F0 m 906 ls []) := by
  have C := law_cx C0 hgK
  obtain ⟨hx, hb, hr, hml, hown, hts, hX, hbl, hlocks, hgv⟩ := C0
  have hA : ∀ q : Nat, s.heap.size ≤ q → (fun q : Nat => s.heap.size ≤ q) q := fun _ h => h
  have hbA : ¬ (fun q : Nat => s.heap.size ≤ q) b := Nat.not_le.mpr hbl
  subst hxD
  obtain ⟨q, qm, e1, e2, e3, e4⟩ := hI.2.2.2.2.2.2.2.2.2.2.2.2.2.2.2.2.2.2.2.2.2.1 n S M (xs (nI j + 1).toNatClampNeg) hinv
  refine lv_aload_n hx hb dL_law_906 rfl (lv_at hl 1 rfl) ?_
  refine lv_aload_n hx hb dL_law_907 rfl (lv_at hl 0 rfl) ?_
  refine lv_iload_n hx hb dL_law_908 rfl (lv_at hl 3 rfl) ?_
  refine lv_iconst (v := 1) hx hb dL_law_909 ic_1 ?_
  refine lv_iadd hx hb dL_law_910 ?_
  refine va_sld hx hb hX hbl hbA hw.2.2 (sc_in (k := 1) rfl hL (by omega)) dL_law_911 ?_
  refine ctA_V (As := [.int (xs (nI j + 1).toNatClampNeg)]) (q0 := 19) (ci := 8) (rest := []) C hw hA ((KC_lose l D cI cB cS n ad bf hcg e1).toA.frame _) cfX8_lose tg_543 tg_544 tg_545 ⟨(Nat.le_of_ble_eq_true rfl), (Nat.le_of_ble_eq_true rfl)⟩ ⟨by show 200 + 2 * j + 0 ≤ 600000; omega, by show 2000 + 8 * j + 0 ≤ 7302250; omega⟩ rfl rfl rfl rfl hl.1 rfl (Nat.le_of_ble_eq_true rfl) dL_law_912 (fun v ws1 H locs hp hw => ?_)
  obtain ⟨w1, rfl, rfl, rfl⟩ := hp
  have hw := hw.swap
  refine lv_aload_n hx hb dL_law_915 rfl (lv_at hl 2 rfl) ?_
  refine lv_aload_n hx hb dL_law_916 rfl (lv_at hl 0 rfl) ?_
  refine lv_iload_n hx hb dL_law_917 rfl (lv_at hl 3 rfl) ?_
  refine lv_iconst (v := 1) hx hb dL_law_918 ic_1 ?_
  refine lv_iadd hx hb dL_law_919 ?_
  refine va_sld hx hb hX hbl hbA hw.2.2 (sc_in (k := 1) rfl hL (by omega)) dL_law_920 ?_
  refine ctA_V (As := [.int (xs (nI j + 1).toNatClampNeg)]) (q0 := 22 + (n + n)) (ci := 9) (rest := [.int q.1]) C hw hA ((KM_lose l D cI cB cS xM am e2).toA.frame _) cfX9_lose tg_937 tg_938 tg_939 ⟨(Nat.le_of_ble_eq_true rfl), (Nat.le_of_ble_eq_true rfl)⟩ ⟨by show 200 + 2 * j + 0 + 0 ≤ 600000; omega, by show 2000 + 8 * j + 0 + 0 ≤ 7302250; omega⟩ rfl rfl rfl law_at hl.1 rfl (Nat.le_of_ble_eq_true rfl) dL_law_921 (fun v ws1 H locs hp hw => ?_)
  obtain ⟨w1, rfl, rfl, rfl⟩ := hp
  have hw := hw.swap
  refine lv_icmp_eq (tgt := 1207) hx hb dL_law_924 (by decide) (fun _ => ?_) (fun hz => absurd e3 hz)
  refine lv_iinc (v := (nI j + 6)) (lv' := [(3, .int (nI j + 6)), (0, .ref b), (1, .ref (ad 0)), (2, .ref xM)]) hx hb dL_law_1207 hl (k := 3) rfl (iv_6 _) (by decide) rfl (fun ls hl => ?_)
  refine lv_goto (tgt := 18) hx hb dL_law_1210 (by decide) ?_
  refine W.widen (k := 200 + 2 * (j + 6)) (n := 2000 + 8 * (j + 6)) (by omega) (by omega) ?_
  have hl := lv_sub (l' := [(0, .ref b), (1, .ref (ad 0)), (2, .ref xM), (3, .int (nI j + 6))]) hl [1, 2, 3, 0] rfl
  rw [show (6 : Int32) = nI 6 from rfl, nI_add] at hl
  exact hback _ _ _ _ _ _ _ _ e4 hcg rfl hw hl
set_option maxHeartbeats 4000000 in
theorem law_put {p : Program} {l : Launch} {e : Env} {s : State} {m : MethodId} {below : List Frame} {meth : Method} {c : Code} {D : va_G} {cI cB cS : ClassId} {b L : Nat} {xs : Nat → Int32} {xD xM : Nat} {am : Nat → Nat} {Inv : Nat → MS → MS → Prop} (hL : L ≤ 3072) (C0 : lw_At p s m meth c b L xs) (hgK : gK D cI cB cS s) (hI : opsOk Inv) {n j : Nat} {ad : Nat → Nat} {bf : Nat → Option Nat} {S M : MS} {H : Heap} {locs : List Loc} {ls : Array Slot} (hj : j + 6 ≤ L) (hinv : Inv n S M) (hcg : bok n ad bf) (hxD : ad 0 = xD) (hw : wd D (fun q : Nat => s.heap.size ≤ q) s.heap (mW cI xM am M ++ cW cI cB cS n ad bf S) H locs) (hl : lv_has ls 4 [(0, .ref b), (1, .ref xD), (2, .ref xM), (3, .int (nI j))])
    (hback : ∀ (n2 : Nat) (ad2 : Nat → Nat) (bf2 : Nat → Option Nat) (S2 M2 : MS) (H : Heap) (locs : List Loc) (ls : Array Slot), Inv n2 S2 M2 → bok n2 ad2 bf2 → ad2 0 = xD → wd D (fun q : Nat => s.heap.size ≤ q) s.heap (mW cI xM am M2 ++ cW cI cB cS n2 ad2 bf2 S2) H locs → lv_has ls 4 [(0, .ref b), (1, .ref xD), (2, .ref xM), (3, .int (nI (j + 6)))] → W p l e room_1 s m #[Value.ref b] below meth c H locs (200 + 2 * (j + 6)) (2000 + 8 * (j + 6)) (lw_Z below #[Value.ref b] s) (F0 m 18 ls [])) : W p l e room_1 s m #[Value.ref b] below meth c H locs (200 + 2 * j) (2000 + 8 * j) (lw_Z below #[Value.ref b] s) (F0 m 929 ls []) := by
  have C := law_cx C0 hgK
  obtain ⟨hx, hb, hr, hml, hown, hts, hX, hbl, hlocks, hgv⟩ := C0
  have hA : ∀ q : Nat, s.heap.size ≤ q → (fun q : Nat => s.heap.size ≤ q) q := fun _ h => h
  have hbA : ¬ (fun q : Nat => s.heap.size ≤ q) b := Nat.not_le.mpr hbl
  subst hxD
  obtain ⟨q, qm, e1, e2, e3, e4⟩ := hI.2.2.2.2.2.2.2.2.2.2.2.2.2.2.2.2.2.2.2.2.2.2.1 n S M (xs (nI j + 1).toNatClampNeg) (xs (nI j + 2).toNatClampNeg) (xs (nI j + 3).toNatClampNeg) hinv
  refine lv_aload_n hx hb dL_law_929 rfl (lv_at hl 1 rfl) ?_
  refine lv_aload_n hx hb dL_law_930 rfl (lv_at hl 0 rfl) ?_
  refine lv_iload_n hx hb dL_law_931 rfl (lv_at hl 3 rfl) ?_
  refine lv_iconst (v := 1) hx hb dL_law_932 ic_1 ?_
  refine lv_iadd hx hb dL_law_933 ?_
  refine va_sld hx hb hX hbl hbA hw.2.2 (sc_in (k := 1) rfl hL (by omega)) dL_law_934 ?_
  refine lv_aload_n hx hb dL_law_935 rfl (lv_at hl 0 rfl) ?_
  refine lv_iload_n hx hb dL_law_936 rfl (lv_at hl 3 rfl) ?_
  refine lv_iconst (v := 2) hx hb dL_law_937 ic_2 ?_
  refine lv_iadd hx hb dL_law_938 ?_
  refine va_sld hx hb hX hbl hbA hw.2.2 (sc_in (k := 2) rfl hL (by omega)) dL_law_939 ?_
  refine lv_aload_n hx hb dL_law_940 rfl (lv_at hl 0 rfl) ?_
  refine lv_iload_n hx hb dL_law_941 rfl (lv_at hl 3 rfl) ?_
  refine lv_iconst (v := 3) hx hb dL_law_942 ic_3 ?_
  refine lv_iadd hx hb dL_law_943 ?_
  refine va_sld hx hb hX hbl hbA hw.2.2 (sc_in (k := 3) rfl hL (by omega)) dL_law_944 ?_
  refine ctA_V (As := [.int (xs (nI j + 1).toNatClampNeg), .int (xs (nI j + 2).toNatClampNeg), .int (xs (nI j + 3).toNatClampNeg)]) (q0 := 19) (ci := 8) (rest := []) C hw hA ((KC_put l D cI cB cS n ad bf hcg e1).toA.frame _) cfX8_put tg_547 tg_548 tg_549 ⟨(Nat.le_of_ble_eq_true rfl), (Nat.le_of_ble_eq_true rfl)⟩ ⟨by show 200 + 2 * j + 0 ≤ 600000; omega, by show 2000 + 8 * j + 0 ≤ 7302250; omega⟩ rfl rfl rfl rfl hl.1 rfl (Nat.le_of_ble_eq_true rfl) dL_law_945 (fun v ws1 H locs hp hw => ?_)
  obtain ⟨w1, rfl, rfl, rfl⟩ := hp
  have hw := hw.swap
  refine lv_aload_n hx hb dL_law_948 rfl (lv_at hl 2 rfl) ?_
  refine lv_aload_n hx hb dL_law_949 rfl (lv_at hl 0 rfl) ?_
  refine lv_iload_n hx hb dL_law_950 rfl (lv_at hl 3 rfl) ?_
  refine lv_iconst (v := 1) hx hb dL_law_951 ic_1 ?_
  refine lv_iadd hx hb dL_law_952 ?_
  refine va_sld hx hb hX hbl hbA hw.2.2 (sc_in (k := 1) rfl hL (by omega)) dL_law_953 ?_
  refine lv_aload_n hx hb dL_law_954 rfl (lv_at hl 0 rfl) ?_
  refine lv_iload_n hx hb dL_law_955 rfl (lv_at hl 3 rfl) ?_
  refine lv_iconst (v := 2) hx hb dL_law_956 ic_2 ?_
  refine lv_iadd hx hb dL_law_957 ?_
  refine va_sld hx hb hX hbl hbA hw.2.2 (sc_in (k := 2) rfl hL (by omega)) dL_law_958 ?_
  refine lv_aload_n hx hb dL_law_959 rfl (lv_at hl 0 rfl) ?_
  refine lv_iload_n hx hb dL_law_960 rfl (lv_at hl 3 rfl) ?_
  refine lv_iconst (v := 3) hx hb dL_law_961 ic_3 ?_
  refine lv_iadd hx hb dL_law_962 ?_
  refine va_sld hx hb hX hbl hbA hw.2.2 (sc_in (k := 3) rfl hL (by omega)) dL_law_963 ?_
  refine ctA_V (As := [.int (xs (nI j + 1).toNatClampNeg), .int (xs (nI j + 2).toNatClampNeg), .int (xs (nI j + 3).toNatClampNeg)]) (q0 := 22 + (n + n)) (ci := 9) (rest := [.int q.1]) C hw hA ((KM_put l D cI cB cS xM am e2).toA.frame _) cfX9_put tg_941 tg_942 tg_943 ⟨(Nat.le_of_ble_eq_true rfl), (Nat.le_of_ble_eq_true rfl)⟩ ⟨by show 200 + 2 * j + 0 + 0 ≤ 600000; omega, by show 2000 + 8 * j + 0 + 0 ≤ 7302250; omega⟩ rfl rfl rfl law_at hl.1 rfl (Nat.le_of_ble_eq_true rfl) dL_law_964 (fun v ws1 H locs hp hw => ?_)
  obtain ⟨w1, rfl, rfl, rfl⟩ := hp
  have hw := hw.swap
  refine lv_icmp_eq (tgt := 1207) hx hb dL_law_967 (by decide) (fun _ => ?_) (fun hz => absurd e3 hz)
  refine lv_iinc (v := (nI j + 6)) (lv' := [(3, .int (nI j + 6)), (0, .ref b), (1, .ref (ad 0)), (2, .ref xM)]) hx hb dL_law_1207 hl (k := 3) rfl (iv_6 _) (by decide) rfl (fun ls hl => ?_)
  refine lv_goto (tgt := 18) hx hb dL_law_1210 (by decide) ?_
  refine W.widen (k := 200 + 2 * (j + 6)) (n := 2000 + 8 * (j + 6)) (by omega) (by omega) ?_
  have hl := lv_sub (l' := [(0, .ref b), (1, .ref (ad 0)), (2, .ref xM), (3, .int (nI j + 6))]) hl [1, 2, 3, 0] rfl
  rw [show (6 : Int32) = nI 6 from rfl, nI_add] at hl
  exact hback _ _ _ _ _ _ _ _ e4 hcg rfl hw hl
set_option maxHeartbeats 4000000 in
theorem law_cell {p : Program} {l : Launch} {e : Env} {s : State} {m : MethodId} {below : List Frame} {meth : Method} {c : Code} {D : va_G} {cI cB cS : ClassId} {b L : Nat} {xs : Nat → Int32} {xD xM : Nat} {am : Nat → Nat} {Inv : Nat → MS → MS → Prop} (hL : L ≤ 3072) (C0 : lw_At p s m meth c b L xs) (hgK : gK D cI cB cS s) (hI : opsOk Inv) {n j : Nat} {ad : Nat → Nat} {bf : Nat → Option Nat} {S M : MS} {H : Heap} {locs : List Loc} {ls : Array Slot} (hj : j + 6 ≤ L) (hinv : Inv n S M) (hcg : bok n ad bf) (hxD : ad 0 = xD) (hw : wd D (fun q : Nat => s.heap.size ≤ q) s.heap (mW cI xM am M ++ cW cI cB cS n ad bf S) H locs) (hl : lv_has ls 4 [(0, .ref b), (1, .ref xD), (2, .ref xM), (3, .int (nI j))])
    (hback : ∀ (n2 : Nat) (ad2 : Nat → Nat) (bf2 : Nat → Option Nat) (S2 M2 : MS) (H : Heap) (locs : List Loc) (ls : Array Slot), Inv n2 S2 M2 → bok n2 ad2 bf2 → ad2 0 = xD → wd D (fun q : Nat => s.heap.size ≤ q) s.heap (mW cI xM am M2 ++ cW cI cB cS n2 ad2 bf2 S2) H locs → lv_has ls 4 [(0, .ref b), (1, .ref xD), (2, .ref xM), (3, .int (nI (j + 6)))] → W p l e room_1 s m #[Value.ref b] below meth c H locs (200 + 2 * (j + 6)) (2000 + 8 * (j + 6)) (lw_Z below #[Value.ref b] s) (F0 m 18 ls [])) : W p l e room_1 s m #[Value.ref b] below meth c H locs (200 + 2 * j) (2000 + 8 * j) (lw_Z below #[Value.ref b] s) (F0 m 972 ls []) := by
  have C := law_cx C0 hgK
  obtain ⟨hx, hb, hr, hml, hown, hts, hX, hbl, hlocks, hgv⟩ := C0
  have hA : ∀ q : Nat, s.heap.size ≤ q → (fun q : Nat => s.heap.size ≤ q) q := fun _ h => h
  have hbA : ¬ (fun q : Nat => s.heap.size ≤ q) b := Nat.not_le.mpr hbl
  subst hxD
  obtain ⟨q, qm, e1, e2, e3, e4⟩ := hI.2.2.2.2.2.2.2.2.2.2.2.2.2.2.2.2.2.2.2.2.2.2.2.1 n S M (xs (nI j + 1).toNatClampNeg) (xs (nI j + 2).toNatClampNeg) (xs (nI j + 3).toNatClampNeg) hinv
  refine lv_aload_n hx hb dL_law_972 rfl (lv_at hl 1 rfl) ?_
  refine lv_aload_n hx hb dL_law_973 rfl (lv_at hl 0 rfl) ?_
  refine lv_iload_n hx hb dL_law_974 rfl (lv_at hl 3 rfl) ?_
  refine lv_iconst (v := 1) hx hb dL_law_975 ic_1 ?_
  refine lv_iadd hx hb dL_law_976 ?_
  refine va_sld hx hb hX hbl hbA hw.2.2 (sc_in (k := 1) rfl hL (by omega)) dL_law_977 ?_
  refine lv_aload_n hx hb dL_law_978 rfl (lv_at hl 0 rfl) ?_
  refine lv_iload_n hx hb dL_law_979 rfl (lv_at hl 3 rfl) ?_
  refine lv_iconst (v := 2) hx hb dL_law_980 ic_2 ?_
  refine lv_iadd hx hb dL_law_981 ?_
  refine va_sld hx hb hX hbl hbA hw.2.2 (sc_in (k := 2) rfl hL (by omega)) dL_law_982 ?_
  refine lv_aload_n hx hb dL_law_983 rfl (lv_at hl 0 rfl) ?_
  refine lv_iload_n hx hb dL_law_984 rfl (lv_at hl 3 rfl) ?_
  refine lv_iconst (v := 3) hx hb dL_law_985 ic_3 ?_
  refine lv_iadd hx hb dL_law_986 ?_
  refine va_sld hx hb hX hbl hbA hw.2.2 (sc_in (k := 3) rfl hL (by omega)) dL_law_987 ?_
  refine ctA_V (As := [.int (xs (nI j + 1).toNatClampNeg), .int (xs (nI j + 2).toNatClampNeg), .int (xs (nI j + 3).toNatClampNeg)]) (q0 := 19) (ci := 8) (rest := []) C hw hA ((KC_cell l D cI cB cS n ad bf hcg e1).toA.frame _) cfX8_cell tg_559 tg_560 tg_561 ⟨(Nat.le_of_ble_eq_true rfl), (Nat.le_of_ble_eq_true rfl)⟩ ⟨by show 200 + 2 * j + 0 ≤ 600000; omega, by show 2000 + 8 * j + 0 ≤ 7302250; omega⟩ rfl rfl rfl rfl hl.1 rfl (Nat.le_of_ble_eq_true rfl) dL_law_988 (fun v ws1 H locs hp hw => ?_)
  obtain ⟨w1, rfl, rfl, rfl⟩ := hp
  have hw := hw.swap
  refine lv_aload_n hx hb dL_law_991 rfl (lv_at hl 2 rfl) ?_
  refine lv_aload_n hx hb dL_law_992 rfl (lv_at hl 0 rfl) ?_
  refine lv_iload_n hx hb dL_law_993 rfl (lv_at hl 3 rfl) ?_
  refine lv_iconst (v := 1) hx hb dL_law_994 ic_1 ?_
  refine lv_iadd hx hb dL_law_995 ?_
  refine va_sld hx hb hX hbl hbA hw.2.2 (sc_in (k := 1) rfl hL (by omega)) dL_law_996 ?_
  refine lv_aload_n hx hb dL_law_997 rfl (lv_at hl 0 rfl) ?_
  refine lv_iload_n hx hb dL_law_998 rfl (lv_at hl 3 rfl) ?_
  refine lv_iconst (v := 2) hx hb dL_law_999 ic_2 ?_
  refine lv_iadd hx hb dL_law_1000 ?_
  refine va_sld hx hb hX hbl hbA hw.2.2 (sc_in (k := 2) rfl hL (by omega)) dL_law_1001 ?_
  refine lv_aload_n hx hb dL_law_1002 rfl (lv_at hl 0 rfl) ?_
  refine lv_iload_n hx hb dL_law_1003 rfl (lv_at hl 3 rfl) ?_
  refine lv_iconst (v := 3) hx hb dL_law_1004 ic_3 ?_
  refine lv_iadd hx hb dL_law_1005 ?_
  refine va_sld hx hb hX hbl hbA hw.2.2 (sc_in (k := 3) rfl hL (by omega)) dL_law_1006 ?_
  refine ctA_V (As := [.int (xs (nI j + 1).toNatClampNeg), .int (xs (nI j + 2).toNatClampNeg), .int (xs (nI j + 3).toNatClampNeg)]) (q0 := 22 + (n + n)) (ci := 9) (rest := [.long q.1]) C hw hA ((KM_cell l D cI cB cS xM am e2).toA.frame _) cfX9_cell tg_949 tg_950 tg_951 ⟨(Nat.le_of_ble_eq_true rfl), (Nat.le_of_ble_eq_true rfl)⟩ ⟨by show 200 + 2 * j + 0 + 0 ≤ 600000; omega, by show 2000 + 8 * j + 0 + 0 ≤ 7302250; omega⟩ rfl rfl rfl law_at hl.1 rfl (Nat.le_of_ble_eq_true rfl) dL_law_1007 (fun v ws1 H locs hp hw => ?_)
  obtain ⟨w1, rfl, rfl, rfl⟩ := hp
  have hw := hw.swap
  refine W.lcmp hx hb dL_law_1010 ?_
  refine lv_if_eq (tgt := 1207) hx hb dL_law_1011 (by decide) (fun _ => ?_) (fun hz => absurd ((lg_cmp_eq _ _).mpr e3) hz)
  refine lv_iinc (v := (nI j + 6)) (lv' := [(3, .int (nI j + 6)), (0, .ref b), (1, .ref (ad 0)), (2, .ref xM)]) hx hb dL_law_1207 hl (k := 3) rfl (iv_6 _) (by decide) rfl (fun ls hl => ?_)
  refine lv_goto (tgt := 18) hx hb dL_law_1210 (by decide) ?_
  refine W.widen (k := 200 + 2 * (j + 6)) (n := 2000 + 8 * (j + 6)) (by omega) (by omega) ?_
  have hl := lv_sub (l' := [(0, .ref b), (1, .ref (ad 0)), (2, .ref xM), (3, .int (nI j + 6))]) hl [1, 2, 3, 0] rfl
  rw [show (6 : Int32) = nI 6 from rfl, nI_add] at hl
  exact hback _ _ _ _ _ _ _ _ e4 hcg rfl hw hl
set_option maxHeartbeats 4000000 in
theorem law_copy {p : Program} {l : Launch} {e : Env} {s : State} {m : MethodId} {below : List Frame} {meth : Method} {c : Code} {D : va_G} {cI cB cS : ClassId} {b L : Nat} {xs : Nat → Int32} {xD xM : Nat} {am : Nat → Nat} {Inv : Nat → MS → MS → Prop} (hL : L ≤ 3072) (C0 : lw_At p s m meth c b L xs) (hgK : gK D cI cB cS s) (hI : opsOk Inv) {n j : Nat} {ad : Nat → Nat} {bf : Nat → Option Nat} {S M : MS} {H : Heap} {locs : List Loc} {ls : Array Slot} (hj : j + 6 ≤ L) (hinv : Inv n S M) (hcg : bok n ad bf) (hxD : ad 0 = xD) (hw : wd D (fun q : Nat => s.heap.size ≤ q) s.heap (mW cI xM am M ++ cW cI cB cS n ad bf S) H locs) (hl : lv_has ls 4 [(0, .ref b), (1, .ref xD), (2, .ref xM), (3, .int (nI j))])
    (hback : ∀ (n2 : Nat) (ad2 : Nat → Nat) (bf2 : Nat → Option Nat) (S2 M2 : MS) (H : Heap) (locs : List Loc) (ls : Array Slot), Inv n2 S2 M2 → bok n2 ad2 bf2 → ad2 0 = xD → wd D (fun q : Nat => s.heap.size ≤ q) s.heap (mW cI xM am M2 ++ cW cI cB cS n2 ad2 bf2 S2) H locs → lv_has ls 4 [(0, .ref b), (1, .ref xD), (2, .ref xM), (3, .int (nI (j + 6)))] → W p l e room_1 s m #[Value.ref b] below meth c H locs (200 + 2 * (j + 6)) (2000 + 8 * (j + 6)) (lw_Z below #[Value.ref b] s) (F0 m 18 ls [])) : W p l e room_1 s m #[Value.ref b] below meth c H locs (200 + 2 * j) (2000 + 8 * j) (lw_Z below #[Value.ref b] s) (F0 m 1016 ls []) := by
  have C := law_cx C0 hgK
  obtain ⟨hx, hb, hr, hml, hown, hts, hX, hbl, hlocks, hgv⟩ := C0
  have hA : ∀ q : Nat, s.heap.size ≤ q → (fun q : Nat => s.heap.size ≤ q) q := fun _ h => h
  have hbA : ¬ (fun q : Nat => s.heap.size ≤ q) b := Nat.not_le.mpr hbl
  subst hxD
  obtain ⟨q, qm, e1, e2, e3, e4⟩ := hI.2.2.2.2.2.2.2.2.2.2.2.2.2.2.2.2.2.2.2.2.2.2.2.2.1 n S M (xs (nI j + 1).toNatClampNeg) (xs (nI j + 2).toNatClampNeg) (xs (nI j + 3).toNatClampNeg) (xs (nI j + 4).toNatClampNeg) (xs (nI j + 5).toNatClampNeg) hinv
  refine lv_aload_n hx hb dL_law_1016 rfl (lv_at hl 1 rfl) ?_
  refine lv_aload_n hx hb dL_law_1017 rfl (lv_at hl 0 rfl) ?_
  refine lv_iload_n hx hb dL_law_1018 rfl (lv_at hl 3 rfl) ?_
  refine lv_iconst (v := 1) hx hb dL_law_1019 ic_1 ?_
  refine lv_iadd hx hb dL_law_1020 ?_
  refine va_sld hx hb hX hbl hbA hw.2.2 (sc_in (k := 1) rfl hL (by omega)) dL_law_1021 ?_
  refine lv_aload_n hx hb dL_law_1022 rfl (lv_at hl 0 rfl) ?_
  refine lv_iload_n hx hb dL_law_1023 rfl (lv_at hl 3 rfl) ?_
  refine lv_iconst (v := 2) hx hb dL_law_1024 ic_2 ?_
  refine lv_iadd hx hb dL_law_1025 ?_
  refine va_sld hx hb hX hbl hbA hw.2.2 (sc_in (k := 2) rfl hL (by omega)) dL_law_1026 ?_
  refine lv_aload_n hx hb dL_law_1027 rfl (lv_at hl 0 rfl) ?_
  refine lv_iload_n hx hb dL_law_1028 rfl (lv_at hl 3 rfl) ?_
  refine lv_iconst (v := 3) hx hb dL_law_1029 ic_3 ?_
  refine lv_iadd hx hb dL_law_1030 ?_
  refine va_sld hx hb hX hbl hbA hw.2.2 (sc_in (k := 3) rfl hL (by omega)) dL_law_1031 ?_
  refine lv_aload_n hx hb dL_law_1032 rfl (lv_at hl 0 rfl) ?_
  refine lv_iload_n hx hb dL_law_1033 rfl (lv_at hl 3 rfl) ?_
  refine lv_iconst (v := 4) hx hb dL_law_1034 ic_4 ?_
  refine lv_iadd hx hb dL_law_1035 ?_
  refine va_sld hx hb hX hbl hbA hw.2.2 (sc_in (k := 4) rfl hL (by omega)) dL_law_1036 ?_
  refine lv_aload_n hx hb dL_law_1037 rfl (lv_at hl 0 rfl) ?_
  refine lv_iload_n hx hb dL_law_1038 rfl (lv_at hl 3 rfl) ?_
  refine lv_iconst (v := 5) hx hb dL_law_1039 ic_5 ?_
  refine lv_iadd hx hb dL_law_1040 ?_
  refine va_sld hx hb hX hbl hbA hw.2.2 (sc_in (k := 5) rfl hL (by omega)) dL_law_1041 ?_
  refine ctA_V (As := [.int (xs (nI j + 1).toNatClampNeg), .int (xs (nI j + 2).toNatClampNeg), .int (xs (nI j + 3).toNatClampNeg), .int (xs (nI j + 4).toNatClampNeg), .int (xs (nI j + 5).toNatClampNeg)]) (q0 := 19) (ci := 8) (rest := []) C hw hA ((KC_copy l D cI cB cS n ad bf hcg e1).toA.frame _) cfX8_copy tg_563 tg_564 tg_565 ⟨(Nat.le_of_ble_eq_true rfl), (Nat.le_of_ble_eq_true rfl)⟩ ⟨by show 200 + 2 * j + 0 ≤ 600000; omega, by show 2000 + 8 * j + 0 ≤ 7302250; omega⟩ rfl rfl rfl rfl hl.1 rfl (Nat.le_of_ble_eq_true rfl) dL_law_1042 (fun v ws1 H locs hp hw => ?_)
  obtain ⟨w1, rfl, rfl, rfl⟩ := hp
  have hw := hw.swap
  refine lv_aload_n hx hb dL_law_1045 rfl (lv_at hl 2 rfl) ?_
  refine lv_aload_n hx hb dL_law_1046 rfl (lv_at hl 0 rfl) ?_
  refine lv_iload_n hx hb dL_law_1047 rfl (lv_at hl 3 rfl) ?_
  refine lv_iconst (v := 1) hx hb dL_law_1048 ic_1 ?_
  refine lv_iadd hx hb dL_law_1049 ?_
  refine va_sld hx hb hX hbl hbA hw.2.2 (sc_in (k := 1) rfl hL (by omega)) dL_law_1050 ?_
  refine lv_aload_n hx hb dL_law_1051 rfl (lv_at hl 0 rfl) ?_
  refine lv_iload_n hx hb dL_law_1052 rfl (lv_at hl 3 rfl) ?_
  refine lv_iconst (v := 2) hx hb dL_law_1053 ic_2 ?_
  refine lv_iadd hx hb dL_law_1054 ?_
  refine va_sld hx hb hX hbl hbA hw.2.2 (sc_in (k := 2) rfl hL (by omega)) dL_law_1055 ?_
  refine lv_aload_n hx hb dL_law_1056 rfl (lv_at hl 0 rfl) ?_
  refine lv_iload_n hx hb dL_law_1057 rfl (lv_at hl 3 rfl) ?_
  refine lv_iconst (v := 3) hx hb dL_law_1058 ic_3 ?_
  refine lv_iadd hx hb dL_law_1059 ?_
  refine va_sld hx hb hX hbl hbA hw.2.2 (sc_in (k := 3) rfl hL (by omega)) dL_law_1060 ?_
  refine lv_aload_n hx hb dL_law_1061 rfl (lv_at hl 0 rfl) ?_
  refine lv_iload_n hx hb dL_law_1062 rfl (lv_at hl 3 rfl) ?_
  refine lv_iconst (v := 4) hx hb dL_law_1063 ic_4 ?_
  refine lv_iadd hx hb dL_law_1064 ?_
  refine va_sld hx hb hX hbl hbA hw.2.2 (sc_in (k := 4) rfl hL (by omega)) dL_law_1065 ?_
  refine lv_aload_n hx hb dL_law_1066 rfl (lv_at hl 0 rfl) ?_
  refine lv_iload_n hx hb dL_law_1067 rfl (lv_at hl 3 rfl) ?_
  refine lv_iconst (v := 5) hx hb dL_law_1068 ic_5 ?_
  refine lv_iadd hx hb dL_law_1069 ?_
  refine va_sld hx hb hX hbl hbA hw.2.2 (sc_in (k := 5) rfl hL (by omega)) dL_law_1070 ?_
  refine ctA_V (As := [.int (xs (nI j + 1).toNatClampNeg), .int (xs (nI j + 2).toNatClampNeg), .int (xs (nI j + 3).toNatClampNeg), .int (xs (nI j + 4).toNatClampNeg), .int (xs (nI j + 5).toNatClampNeg)]) (q0 := 22 + (n + n)) (ci := 9) (rest := [.int q.1]) C hw hA ((KM_copy l D cI cB cS xM am e2).toA.frame _) cfX9_copy tg_957 tg_958 tg_959 ⟨(Nat.le_of_ble_eq_true rfl), (Nat.le_of_ble_eq_true rfl)⟩ ⟨by show 200 + 2 * j + 0 + 0 ≤ 600000; omega, by show 2000 + 8 * j + 0 + 0 ≤ 7302250; omega⟩ rfl rfl rfl law_at hl.1 rfl (Nat.le_of_ble_eq_true rfl) dL_law_1071 (fun v ws1 H locs hp hw => ?_)
  obtain ⟨w1, rfl, rfl, rfl⟩ := hp
  have hw := hw.swap
  refine lv_icmp_eq (tgt := 1207) hx hb dL_law_1074 (by decide) (fun _ => ?_) (fun hz => absurd e3 hz)
  refine lv_iinc (v := (nI j + 6)) (lv' := [(3, .int (nI j + 6)), (0, .ref b), (1, .ref (ad 0)), (2, .ref xM)]) hx hb dL_law_1207 hl (k := 3) rfl (iv_6 _) (by decide) rfl (fun ls hl => ?_)
  refine lv_goto (tgt := 18) hx hb dL_law_1210 (by decide) ?_
  refine W.widen (k := 200 + 2 * (j + 6)) (n := 2000 + 8 * (j + 6)) (by omega) (by omega) ?_
  have hl := lv_sub (l' := [(0, .ref b), (1, .ref (ad 0)), (2, .ref xM), (3, .int (nI j + 6))]) hl [1, 2, 3, 0] rfl
  rw [show (6 : Int32) = nI 6 from rfl, nI_add] at hl
  exact hback _ _ _ _ _ _ _ _ e4 hcg rfl hw hl
set_option maxHeartbeats 4000000 in
theorem law_tell {p : Program} {l : Launch} {e : Env} {s : State} {m : MethodId} {below : List Frame} {meth : Method} {c : Code} {D : va_G} {cI cB cS : ClassId} {b L : Nat} {xs : Nat → Int32} {xD xM : Nat} {am : Nat → Nat} {Inv : Nat → MS → MS → Prop} (hL : L ≤ 3072) (C0 : lw_At p s m meth c b L xs) (hgK : gK D cI cB cS s) (hI : opsOk Inv) {n j : Nat} {ad : Nat → Nat} {bf : Nat → Option Nat} {S M : MS} {H : Heap} {locs : List Loc} {ls : Array Slot} (hj : j + 6 ≤ L) (hinv : Inv n S M) (hcg : bok n ad bf) (hxD : ad 0 = xD) (hw : wd D (fun q : Nat => s.heap.size ≤ q) s.heap (mW cI xM am M ++ cW cI cB cS n ad bf S) H locs) (hl : lv_has ls 4 [(0, .ref b), (1, .ref xD), (2, .ref xM), (3, .int (nI j))])
    (hback : ∀ (n2 : Nat) (ad2 : Nat → Nat) (bf2 : Nat → Option Nat) (S2 M2 : MS) (H : Heap) (locs : List Loc) (ls : Array Slot), Inv n2 S2 M2 → bok n2 ad2 bf2 → ad2 0 = xD → wd D (fun q : Nat => s.heap.size ≤ q) s.heap (mW cI xM am M2 ++ cW cI cB cS n2 ad2 bf2 S2) H locs → lv_has ls 4 [(0, .ref b), (1, .ref xD), (2, .ref xM), (3, .int (nI (j + 6)))] → W p l e room_1 s m #[Value.ref b] below meth c H locs (200 + 2 * (j + 6)) (2000 + 8 * (j + 6)) (lw_Z below #[Value.ref b] s) (F0 m 18 ls [])) : W p l e room_1 s m #[Value.ref b] below meth c H locs (200 + 2 * j) (2000 + 8 * j) (lw_Z below #[Value.ref b] s) (F0 m 1079 ls []) := by
  have C := law_cx C0 hgK
  obtain ⟨hx, hb, hr, hml, hown, hts, hX, hbl, hlocks, hgv⟩ := C0
  have hA : ∀ q : Nat, s.heap.size ≤ q → (fun q : Nat => s.heap.size ≤ q) q := fun _ h => h
  have hbA : ¬ (fun q : Nat => s.heap.size ≤ q) b := Nat.not_le.mpr hbl
  subst hxD
  obtain ⟨q, qm, e1, e2, e3, e4⟩ := hI.2.2.2.2.2.2.2.2.2.2.2.2.2.2.2.2.2.2.2.2.2.2.2.2.2.1 n S M (xs (nI j + 1).toNatClampNeg) hinv
  refine lv_aload_n hx hb dL_law_1079 rfl (lv_at hl 1 rfl) ?_
  refine lv_aload_n hx hb dL_law_1080 rfl (lv_at hl 0 rfl) ?_
  refine lv_iload_n hx hb dL_law_1081 rfl (lv_at hl 3 rfl) ?_
  refine lv_iconst (v := 1) hx hb dL_law_1082 ic_1 ?_
  refine lv_iadd hx hb dL_law_1083 ?_
  refine va_sld hx hb hX hbl hbA hw.2.2 (sc_in (k := 1) rfl hL (by omega)) dL_law_1084 ?_
  refine ctA_V (As := [.int (xs (nI j + 1).toNatClampNeg)]) (q0 := 19) (ci := 8) (rest := []) C hw hA ((KC_tell l D cI cB cS n ad bf hcg e1).toA.frame _) cfX8_tell tg_571 tg_572 tg_573 ⟨(Nat.le_of_ble_eq_true rfl), (Nat.le_of_ble_eq_true rfl)⟩ ⟨by show 200 + 2 * j + 0 ≤ 600000; omega, by show 2000 + 8 * j + 0 ≤ 7302250; omega⟩ rfl rfl rfl rfl hl.1 rfl (Nat.le_of_ble_eq_true rfl) dL_law_1085 (fun v ws1 H locs hp hw => ?_)
  obtain ⟨w1, rfl, rfl, rfl⟩ := hp
  have hw := hw.swap
  refine lv_aload_n hx hb dL_law_1088 rfl (lv_at hl 2 rfl) ?_
  refine lv_aload_n hx hb dL_law_1089 rfl (lv_at hl 0 rfl) ?_
  refine lv_iload_n hx hb dL_law_1090 rfl (lv_at hl 3 rfl) ?_
  refine lv_iconst (v := 1) hx hb dL_law_1091 ic_1 ?_
  refine lv_iadd hx hb dL_law_1092 ?_
  refine va_sld hx hb hX hbl hbA hw.2.2 (sc_in (k := 1) rfl hL (by omega)) dL_law_1093 ?_
  refine ctA_V (As := [.int (xs (nI j + 1).toNatClampNeg)]) (q0 := 22 + (n + n)) (ci := 9) (rest := [.int q.1]) C hw hA ((KM_tell l D cI cB cS xM am e2).toA.frame _) cfX9_tell tg_961 tg_962 tg_963 ⟨(Nat.le_of_ble_eq_true rfl), (Nat.le_of_ble_eq_true rfl)⟩ ⟨by show 200 + 2 * j + 0 + 0 ≤ 600000; omega, by show 2000 + 8 * j + 0 + 0 ≤ 7302250; omega⟩ rfl rfl rfl law_at hl.1 rfl (Nat.le_of_ble_eq_true rfl) dL_law_1094 (fun v ws1 H locs hp hw => ?_)
  obtain ⟨w1, rfl, rfl, rfl⟩ := hp
  have hw := hw.swap
  refine lv_icmp_eq (tgt := 1207) hx hb dL_law_1097 (by decide) (fun _ => ?_) (fun hz => absurd e3 hz)
  refine lv_iinc (v := (nI j + 6)) (lv' := [(3, .int (nI j + 6)), (0, .ref b), (1, .ref (ad 0)), (2, .ref xM)]) hx hb dL_law_1207 hl (k := 3) rfl (iv_6 _) (by decide) rfl (fun ls hl => ?_)
  refine lv_goto (tgt := 18) hx hb dL_law_1210 (by decide) ?_
  refine W.widen (k := 200 + 2 * (j + 6)) (n := 2000 + 8 * (j + 6)) (by omega) (by omega) ?_
  have hl := lv_sub (l' := [(0, .ref b), (1, .ref (ad 0)), (2, .ref xM), (3, .int (nI j + 6))]) hl [1, 2, 3, 0] rfl
  rw [show (6 : Int32) = nI 6 from rfl, nI_add] at hl
  exact hback _ _ _ _ _ _ _ _ e4 hcg rfl hw hl
set_option maxHeartbeats 4000000 in
theorem law_nod {p : Program} {l : Launch} {e : Env} {s : State} {m : MethodId} {below : List Frame} {meth : Method} {c : Code} {D : va_G} {cI cB cS : ClassId} {b L : Nat} {xs : Nat → Int32} {xD xM : Nat} {am : Nat → Nat} {Inv : Nat → MS → MS → Prop} (hL : L ≤ 3072) (C0 : lw_At p s m meth c b L xs) (hgK : gK D cI cB cS s) (hI : opsOk Inv) {n j : Nat} {ad : Nat → Nat} {bf : Nat → Option Nat} {S M : MS} {H : Heap} {locs : List Loc} {ls : Array Slot} (hj : j + 6 ≤ L) (hinv : Inv n S M) (hcg : bok n ad bf) (hxD : ad 0 = xD) (hw : wd D (fun q : Nat => s.heap.size ≤ q) s.heap (mW cI xM am M ++ cW cI cB cS n ad bf S) H locs) (hl : lv_has ls 4 [(0, .ref b), (1, .ref xD), (2, .ref xM), (3, .int (nI j))])
    (hback : ∀ (n2 : Nat) (ad2 : Nat → Nat) (bf2 : Nat → Option Nat) (S2 M2 : MS) (H : Heap) (locs : List Loc) (ls : Array Slot), Inv n2 S2 M2 → bok n2 ad2 bf2 → ad2 0 = xD → wd D (fun q : Nat => s.heap.size ≤ q) s.heap (mW cI xM am M2 ++ cW cI cB cS n2 ad2 bf2 S2) H locs → lv_has ls 4 [(0, .ref b), (1, .ref xD), (2, .ref xM), (3, .int (nI (j + 6)))] → W p l e room_1 s m #[Value.ref b] below meth c H locs (200 + 2 * (j + 6)) (2000 + 8 * (j + 6)) (lw_Z below #[Value.ref b] s) (F0 m 18 ls [])) : W p l e room_1 s m #[Value.ref b] below meth c H locs (200 + 2 * j) (2000 + 8 * j) (lw_Z below #[Value.ref b] s) (F0 m 1102 ls []) := by
  have C := law_cx C0 hgK
  obtain ⟨hx, hb, hr, hml, hown, hts, hX, hbl, hlocks, hgv⟩ := C0
  have hA : ∀ q : Nat, s.heap.size ≤ q → (fun q : Nat => s.heap.size ≤ q) q := fun _ h => h
  have hbA : ¬ (fun q : Nat => s.heap.size ≤ q) b := Nat.not_le.mpr hbl
  subst hxD
  obtain ⟨q, qm, e1, e2, e3, e4⟩ := hI.2.2.2.2.2.2.2.2.2.2.2.2.2.2.2.2.2.2.2.2.2.2.2.2.2.2.1 n S M (xs (nI j + 1).toNatClampNeg) hinv
  refine lv_aload_n hx hb dL_law_1102 rfl (lv_at hl 1 rfl) ?_
  refine lv_aload_n hx hb dL_law_1103 rfl (lv_at hl 0 rfl) ?_
  refine lv_iload_n hx hb dL_law_1104 rfl (lv_at hl 3 rfl) ?_
  refine lv_iconst (v := 1) hx hb dL_law_1105 ic_1 ?_
  refine lv_iadd hx hb dL_law_1106 ?_
  refine va_sld hx hb hX hbl hbA hw.2.2 (sc_in (k := 1) rfl hL (by omega)) dL_law_1107 ?_
  refine ctA_V (As := [.int (xs (nI j + 1).toNatClampNeg)]) (q0 := 19) (ci := 8) (rest := []) C hw hA ((KC_nod l D cI cB cS n ad bf hcg e1).toA.frame _) cfX8_nod tg_604 tg_605 tg_606 ⟨(Nat.le_of_ble_eq_true rfl), (Nat.le_of_ble_eq_true rfl)⟩ ⟨by show 200 + 2 * j + 0 ≤ 600000; omega, by show 2000 + 8 * j + 0 ≤ 7302250; omega⟩ rfl rfl rfl rfl hl.1 rfl (Nat.le_of_ble_eq_true rfl) dL_law_1108 (fun v ws1 H locs hp hw => ?_)
  obtain ⟨w1, rfl, rfl, rfl⟩ := hp
  have hw := hw.swap
  refine lv_aload_n hx hb dL_law_1111 rfl (lv_at hl 2 rfl) ?_
  refine lv_aload_n hx hb dL_law_1112 rfl (lv_at hl 0 rfl) ?_
  refine lv_iload_n hx hb dL_law_1113 rfl (lv_at hl 3 rfl) ?_
  refine lv_iconst (v := 1) hx hb dL_law_1114 ic_1 ?_
  refine lv_iadd hx hb dL_law_1115 ?_
  refine va_sld hx hb hX hbl hbA hw.2.2 (sc_in (k := 1) rfl hL (by omega)) dL_law_1116 ?_
  refine ctA_V (As := [.int (xs (nI j + 1).toNatClampNeg)]) (q0 := 22 + (n + n)) (ci := 9) (rest := [.int q.1]) C hw hA ((KM_nod l D cI cB cS xM am e2).toA.frame _) cfX9_nod tg_969 tg_970 tg_971 ⟨(Nat.le_of_ble_eq_true rfl), (Nat.le_of_ble_eq_true rfl)⟩ ⟨by show 200 + 2 * j + 0 + 0 ≤ 600000; omega, by show 2000 + 8 * j + 0 + 0 ≤ 7302250; omega⟩ rfl rfl rfl law_at hl.1 rfl (Nat.le_of_ble_eq_true rfl) dL_law_1117 (fun v ws1 H locs hp hw => ?_)
  obtain ⟨w1, rfl, rfl, rfl⟩ := hp
  have hw := hw.swap
  refine lv_icmp_eq (tgt := 1207) hx hb dL_law_1120 (by decide) (fun _ => ?_) (fun hz => absurd e3 hz)
  refine lv_iinc (v := (nI j + 6)) (lv' := [(3, .int (nI j + 6)), (0, .ref b), (1, .ref (ad 0)), (2, .ref xM)]) hx hb dL_law_1207 hl (k := 3) rfl (iv_6 _) (by decide) rfl (fun ls hl => ?_)
  refine lv_goto (tgt := 18) hx hb dL_law_1210 (by decide) ?_
  refine W.widen (k := 200 + 2 * (j + 6)) (n := 2000 + 8 * (j + 6)) (by omega) (by omega) ?_
  have hl := lv_sub (l' := [(0, .ref b), (1, .ref (ad 0)), (2, .ref xM), (3, .int (nI j + 6))]) hl [1, 2, 3, 0] rfl
  rw [show (6 : Int32) = nI 6 from rfl, nI_add] at hl
  exact hback _ _ _ _ _ _ _ _ e4 hcg rfl hw hl
set_option maxHeartbeats 4000000 in
theorem law_as {p : Program} {l : Launch} {e : Env} {s : State} {m : MethodId} {below : List Frame} {meth : Method} {c : Code} {D : va_G} {cI cB cS : ClassId} {b L : Nat} {xs : Nat → Int32} {xD xM : Nat} {am : Nat → Nat} {Inv : Nat → MS → MS → Prop} (hL : L ≤ 3072) (C0 : lw_At p s m meth c b L xs) (hgK : gK D cI cB cS s) (hI : opsOk Inv) {n j : Nat} {ad : Nat → Nat} {bf : Nat → Option Nat} {S M : MS} {H : Heap} {locs : List Loc} {ls : Array Slot} (hj : j + 6 ≤ L) (hinv : Inv n S M) (hcg : bok n ad bf) (hxD : ad 0 = xD) (hw : wd D (fun q : Nat => s.heap.size ≤ q) s.heap (mW cI xM am M ++ cW cI cB cS n ad bf S) H locs) (hl : lv_has ls 4 [(0, .ref b), (1, .ref xD), (2, .ref xM), (3, .int (nI j))])
    (hback : ∀ (n2 : Nat) (ad2 : Nat → Nat) (bf2 : Nat → Option Nat) (S2 M2 : MS) (H : Heap) (locs : List Loc) (ls : Array Slot), Inv n2 S2 M2 → bok n2 ad2 bf2 → ad2 0 = xD → wd D (fun q : Nat => s.heap.size ≤ q) s.heap (mW cI xM am M2 ++ cW cI cB cS n2 ad2 bf2 S2) H locs → lv_has ls 4 [(0, .ref b), (1, .ref xD), (2, .ref xM), (3, .int (nI (j + 6)))] → W p l e room_1 s m #[Value.ref b] below meth c H locs (200 + 2 * (j + 6)) (2000 + 8 * (j + 6)) (lw_Z below #[Value.ref b] s) (F0 m 18 ls [])) : W p l e room_1 s m #[Value.ref b] below meth c H locs (200 + 2 * j) (2000 + 8 * j) (lw_Z below #[Value.ref b] s) (F0 m 1125 ls []) := by
  have C := law_cx C0 hgK
  obtain ⟨hx, hb, hr, hml, hown, hts, hX, hbl, hlocks, hgv⟩ := C0
  have hA : ∀ q : Nat, s.heap.size ≤ q → (fun q : Nat => s.heap.size ≤ q) q := fun _ h => h
  have hbA : ¬ (fun q : Nat => s.heap.size ≤ q) b := Nat.not_le.mpr hbl
  subst hxD
  obtain ⟨q, qm, e1, e2, e3, e4⟩ := hI.2.2.2.2.2.2.2.2.2.2.2.2.2.2.2.2.2.2.2.2.2.2.2.2.2.2.2.1 n S M (xs (nI j + 1).toNatClampNeg) (xs (nI j + 2).toNatClampNeg) hinv
  refine lv_aload_n hx hb dL_law_1125 rfl (lv_at hl 1 rfl) ?_
  refine lv_aload_n hx hb dL_law_1126 rfl (lv_at hl 0 rfl) ?_
  refine lv_iload_n hx hb dL_law_1127 rfl (lv_at hl 3 rfl) ?_
  refine lv_iconst (v := 1) hx hb dL_law_1128 ic_1 ?_
  refine lv_iadd hx hb dL_law_1129 ?_
  refine va_sld hx hb hX hbl hbA hw.2.2 (sc_in (k := 1) rfl hL (by omega)) dL_law_1130 ?_
  refine lv_aload_n hx hb dL_law_1131 rfl (lv_at hl 0 rfl) ?_
  refine lv_iload_n hx hb dL_law_1132 rfl (lv_at hl 3 rfl) ?_
  refine lv_iconst (v := 2) hx hb dL_law_1133 ic_2 ?_
  refine lv_iadd hx hb dL_law_1134 ?_
  refine va_sld hx hb hX hbl hbA hw.2.2 (sc_in (k := 2) rfl hL (by omega)) dL_law_1135 ?_
  refine ctA_V (As := [.int (xs (nI j + 1).toNatClampNeg), .int (xs (nI j + 2).toNatClampNeg)]) (q0 := 19) (ci := 8) (rest := []) C hw hA ((KC_as l D cI cB cS n ad bf hcg e1).toA.frame _) cfX8_as tg_617 tg_618 tg_619 ⟨(Nat.le_of_ble_eq_true rfl), (Nat.le_of_ble_eq_true rfl)⟩ ⟨by show 200 + 2 * j + 0 ≤ 600000; omega, by show 2000 + 8 * j + 0 ≤ 7302250; omega⟩ rfl rfl rfl rfl hl.1 rfl (Nat.le_of_ble_eq_true rfl) dL_law_1136 (fun v ws1 H locs hp hw => ?_)
  obtain ⟨w1, rfl, rfl, rfl⟩ := hp
  have hw := hw.swap
  refine lv_aload_n hx hb dL_law_1139 rfl (lv_at hl 2 rfl) ?_
  refine lv_aload_n hx hb dL_law_1140 rfl (lv_at hl 0 rfl) ?_
  refine lv_iload_n hx hb dL_law_1141 rfl (lv_at hl 3 rfl) ?_
  refine lv_iconst (v := 1) hx hb dL_law_1142 ic_1 ?_
  refine lv_iadd hx hb dL_law_1143 ?_
  refine va_sld hx hb hX hbl hbA hw.2.2 (sc_in (k := 1) rfl hL (by omega)) dL_law_1144 ?_
  refine lv_aload_n hx hb dL_law_1145 rfl (lv_at hl 0 rfl) ?_
  refine lv_iload_n hx hb dL_law_1146 rfl (lv_at hl 3 rfl) ?_
  refine lv_iconst (v := 2) hx hb dL_law_1147 ic_2 ?_
  refine lv_iadd hx hb dL_law_1148 ?_
  refine va_sld hx hb hX hbl hbA hw.2.2 (sc_in (k := 2) rfl hL (by omega)) dL_law_1149 ?_
  refine ctA_V (As := [.int (xs (nI j + 1).toNatClampNeg), .int (xs (nI j + 2).toNatClampNeg)]) (q0 := 22 + (n + n)) (ci := 9) (rest := [.int q.1]) C hw hA ((KM_as l D cI cB cS xM am e2).toA.frame _) cfX9_as tg_973 tg_974 tg_975 ⟨(Nat.le_of_ble_eq_true rfl), (Nat.le_of_ble_eq_true rfl)⟩ ⟨by show 200 + 2 * j + 0 + 0 ≤ 600000; omega, by show 2000 + 8 * j + 0 + 0 ≤ 7302250; omega⟩ rfl rfl rfl law_at hl.1 rfl (Nat.le_of_ble_eq_true rfl) dL_law_1150 (fun v ws1 H locs hp hw => ?_)
  obtain ⟨w1, rfl, rfl, rfl⟩ := hp
  have hw := hw.swap
  refine lv_icmp_eq (tgt := 1207) hx hb dL_law_1153 (by decide) (fun _ => ?_) (fun hz => absurd e3 hz)
  refine lv_iinc (v := (nI j + 6)) (lv' := [(3, .int (nI j + 6)), (0, .ref b), (1, .ref (ad 0)), (2, .ref xM)]) hx hb dL_law_1207 hl (k := 3) rfl (iv_6 _) (by decide) rfl (fun ls hl => ?_)
  refine lv_goto (tgt := 18) hx hb dL_law_1210 (by decide) ?_
  refine W.widen (k := 200 + 2 * (j + 6)) (n := 2000 + 8 * (j + 6)) (by omega) (by omega) ?_
  have hl := lv_sub (l' := [(0, .ref b), (1, .ref (ad 0)), (2, .ref xM), (3, .int (nI j + 6))]) hl [1, 2, 3, 0] rfl
  rw [show (6 : Int32) = nI 6 from rfl, nI_add] at hl
  exact hback _ _ _ _ _ _ _ _ e4 hcg rfl hw hl
set_option maxHeartbeats 4000000 in
theorem law_trace {p : Program} {l : Launch} {e : Env} {s : State} {m : MethodId} {below : List Frame} {meth : Method} {c : Code} {D : va_G} {cI cB cS : ClassId} {b L : Nat} {xs : Nat → Int32} {xD xM : Nat} {am : Nat → Nat} {Inv : Nat → MS → MS → Prop} (hL : L ≤ 3072) (C0 : lw_At p s m meth c b L xs) (hgK : gK D cI cB cS s) (hI : opsOk Inv) {n j : Nat} {ad : Nat → Nat} {bf : Nat → Option Nat} {S M : MS} {H : Heap} {locs : List Loc} {ls : Array Slot} (hj : j + 6 ≤ L) (hinv : Inv n S M) (hcg : bok n ad bf) (hxD : ad 0 = xD) (hw : wd D (fun q : Nat => s.heap.size ≤ q) s.heap (mW cI xM am M ++ cW cI cB cS n ad bf S) H locs) (hl : lv_has ls 4 [(0, .ref b), (1, .ref xD), (2, .ref xM), (3, .int (nI j))])
    (hback : ∀ (n2 : Nat) (ad2 : Nat → Nat) (bf2 : Nat → Option Nat) (S2 M2 : MS) (H : Heap) (locs : List Loc) (ls : Array Slot), Inv n2 S2 M2 → bok n2 ad2 bf2 → ad2 0 = xD → wd D (fun q : Nat => s.heap.size ≤ q) s.heap (mW cI xM am M2 ++ cW cI cB cS n2 ad2 bf2 S2) H locs → lv_has ls 4 [(0, .ref b), (1, .ref xD), (2, .ref xM), (3, .int (nI (j + 6)))] → W p l e room_1 s m #[Value.ref b] below meth c H locs (200 + 2 * (j + 6)) (2000 + 8 * (j + 6)) (lw_Z below #[Value.ref b] s) (F0 m 18 ls [])) : W p l e room_1 s m #[Value.ref b] below meth c H locs (200 + 2 * j) (2000 + 8 * j) (lw_Z below #[Value.ref b] s) (F0 m 1158 ls []) := by
  have C := law_cx C0 hgK
  obtain ⟨hx, hb, hr, hml, hown, hts, hX, hbl, hlocks, hgv⟩ := C0
  have hA : ∀ q : Nat, s.heap.size ≤ q → (fun q : Nat => s.heap.size ≤ q) q := fun _ h => h
  have hbA : ¬ (fun q : Nat => s.heap.size ≤ q) b := Nat.not_le.mpr hbl
  subst hxD
  obtain ⟨q, qm, e1, e2, e3, e4⟩ := hI.2.2.2.2.2.2.2.2.2.2.2.2.2.2.2.2.2.2.2.2.2.2.2.2.2.2.2.2.1 n S M hinv
  refine lv_aload_n hx hb dL_law_1158 rfl (lv_at hl 1 rfl) ?_
  refine ctA_V (As := []) (q0 := 19) (ci := 8) (rest := []) C hw hA ((KC_trace l D cI cB cS n ad bf hcg e1).toA.frame _) cfX8_trace tg_621 tg_622 tg_623 ⟨(Nat.le_of_ble_eq_true rfl), (Nat.le_of_ble_eq_true rfl)⟩ ⟨by show 200 + 2 * j + 0 ≤ 600000; omega, by show 2000 + 8 * j + 0 ≤ 7302250; omega⟩ rfl rfl rfl rfl hl.1 rfl (Nat.le_of_ble_eq_true rfl) dL_law_1159 (fun v ws1 H locs hp hw => ?_)
  obtain ⟨w1, rfl, rfl, rfl⟩ := hp
  have hw := hw.swap
  refine lv_aload_n hx hb dL_law_1162 rfl (lv_at hl 2 rfl) ?_
  refine ctA_V (As := []) (q0 := 22 + (n + n)) (ci := 9) (rest := [.int q.1]) C hw hA ((KM_trace l D cI cB cS xM am e2).toA.frame _) cfX9_trace tg_977 tg_978 tg_979 ⟨(Nat.le_of_ble_eq_true rfl), (Nat.le_of_ble_eq_true rfl)⟩ ⟨by show 200 + 2 * j + 0 + 0 ≤ 600000; omega, by show 2000 + 8 * j + 0 + 0 ≤ 7302250; omega⟩ rfl rfl rfl law_at hl.1 rfl (Nat.le_of_ble_eq_true rfl) dL_law_1163 (fun v ws1 H locs hp hw => ?_)
  obtain ⟨w1, rfl, rfl, rfl⟩ := hp
  have hw := hw.swap
  refine lv_icmp_eq (tgt := 1207) hx hb dL_law_1166 (by decide) (fun _ => ?_) (fun hz => absurd e3 hz)
  refine lv_iinc (v := (nI j + 6)) (lv' := [(3, .int (nI j + 6)), (0, .ref b), (1, .ref (ad 0)), (2, .ref xM)]) hx hb dL_law_1207 hl (k := 3) rfl (iv_6 _) (by decide) rfl (fun ls hl => ?_)
  refine lv_goto (tgt := 18) hx hb dL_law_1210 (by decide) ?_
  refine W.widen (k := 200 + 2 * (j + 6)) (n := 2000 + 8 * (j + 6)) (by omega) (by omega) ?_
  have hl := lv_sub (l' := [(0, .ref b), (1, .ref (ad 0)), (2, .ref xM), (3, .int (nI j + 6))]) hl [1, 2, 3, 0] rfl
  rw [show (6 : Int32) = nI 6 from rfl, nI_add] at hl
  exact hback _ _ _ _ _ _ _ _ e4 hcg rfl hw hl
set_option maxHeartbeats 4000000 in
theorem law_fault {p : Program} {l : Launch} {e : Env} {s : State} {m : MethodId} {below : List Frame} {meth : Method} {c : Code} {D : va_G} {cI cB cS : ClassId} {b L : Nat} {xs : Nat → Int32} {xD xM : Nat} {am : Nat → Nat} {Inv : Nat → MS → MS → Prop} (hL : L ≤ 3072) (C0 : lw_At p s m meth c b L xs) (hgK : gK D cI cB cS s) (hI : opsOk Inv) {n j : Nat} {ad : Nat → Nat} {bf : Nat → Option Nat} {S M : MS} {H : Heap} {locs : List Loc} {ls : Array Slot} (hj : j + 6 ≤ L) (hinv : Inv n S M) (hcg : bok n ad bf) (hxD : ad 0 = xD) (hw : wd D (fun q : Nat => s.heap.size ≤ q) s.heap (mW cI xM am M ++ cW cI cB cS n ad bf S) H locs) (hl : lv_has ls 4 [(0, .ref b), (1, .ref xD), (2, .ref xM), (3, .int (nI j))])
    (hback : ∀ (n2 : Nat) (ad2 : Nat → Nat) (bf2 : Nat → Option Nat) (S2 M2 : MS) (H : Heap) (locs : List Loc) (ls : Array Slot), Inv n2 S2 M2 → bok n2 ad2 bf2 → ad2 0 = xD → wd D (fun q : Nat => s.heap.size ≤ q) s.heap (mW cI xM am M2 ++ cW cI cB cS n2 ad2 bf2 S2) H locs → lv_has ls 4 [(0, .ref b), (1, .ref xD), (2, .ref xM), (3, .int (nI (j + 6)))] → W p l e room_1 s m #[Value.ref b] below meth c H locs (200 + 2 * (j + 6)) (2000 + 8 * (j + 6)) (lw_Z below #[Value.ref b] s) (F0 m 18 ls [])) : W p l e room_1 s m #[Value.ref b] below meth c H locs (200 + 2 * j) (2000 + 8 * j) (lw_Z below #[Value.ref b] s) (F0 m 1171 ls []) := by
  have C := law_cx C0 hgK
  obtain ⟨hx, hb, hr, hml, hown, hts, hX, hbl, hlocks, hgv⟩ := C0
  have hA : ∀ q : Nat, s.heap.size ≤ q → (fun q : Nat => s.heap.size ≤ q) q := fun _ h => h
  have hbA : ¬ (fun q : Nat => s.heap.size ≤ q) b := Nat.not_le.mpr hbl
  subst hxD
  obtain ⟨q, qm, e1, e2, e3, e4⟩ := hI.2.2.2.2.2.2.2.2.2.2.2.2.2.2.2.2.2.2.2.2.2.2.2.2.2.2.2.2.2.1 n S M hinv
  refine lv_aload_n hx hb dL_law_1171 rfl (lv_at hl 1 rfl) ?_
  refine ctA_V (As := []) (q0 := 19) (ci := 8) (rest := []) C hw hA ((KC_fault l D cI cB cS n ad bf hcg e1).toA.frame _) cfX8_fault tg_625 tg_626 tg_627 ⟨(Nat.le_of_ble_eq_true rfl), (Nat.le_of_ble_eq_true rfl)⟩ ⟨by show 200 + 2 * j + 0 ≤ 600000; omega, by show 2000 + 8 * j + 0 ≤ 7302250; omega⟩ rfl rfl rfl rfl hl.1 rfl (Nat.le_of_ble_eq_true rfl) dL_law_1172 (fun v ws1 H locs hp hw => ?_)
  obtain ⟨w1, rfl, rfl, rfl⟩ := hp
  have hw := hw.swap
  refine lv_aload_n hx hb dL_law_1175 rfl (lv_at hl 2 rfl) ?_
  refine ctA_V (As := []) (q0 := 22 + (n + n)) (ci := 9) (rest := [.int q.1]) C hw hA ((KM_fault l D cI cB cS xM am e2).toA.frame _) cfX9_fault tg_981 tg_982 tg_983 ⟨(Nat.le_of_ble_eq_true rfl), (Nat.le_of_ble_eq_true rfl)⟩ ⟨by show 200 + 2 * j + 0 + 0 ≤ 600000; omega, by show 2000 + 8 * j + 0 + 0 ≤ 7302250; omega⟩ rfl rfl rfl law_at hl.1 rfl (Nat.le_of_ble_eq_true rfl) dL_law_1176 (fun v ws1 H locs hp hw => ?_)
  obtain ⟨w1, rfl, rfl, rfl⟩ := hp
  have hw := hw.swap
  refine lv_icmp_eq (tgt := 1207) hx hb dL_law_1179 (by decide) (fun _ => ?_) (fun hz => absurd e3 hz)
  refine lv_iinc (v := (nI j + 6)) (lv' := [(3, .int (nI j + 6)), (0, .ref b), (1, .ref (ad 0)), (2, .ref xM)]) hx hb dL_law_1207 hl (k := 3) rfl (iv_6 _) (by decide) rfl (fun ls hl => ?_)
  refine lv_goto (tgt := 18) hx hb dL_law_1210 (by decide) ?_
  refine W.widen (k := 200 + 2 * (j + 6)) (n := 2000 + 8 * (j + 6)) (by omega) (by omega) ?_
  have hl := lv_sub (l' := [(0, .ref b), (1, .ref (ad 0)), (2, .ref xM), (3, .int (nI j + 6))]) hl [1, 2, 3, 0] rfl
  rw [show (6 : Int32) = nI 6 from rfl, nI_add] at hl
  exact hback _ _ _ _ _ _ _ _ e4 hcg rfl hw hl
set_option maxHeartbeats 4000000 in
theorem law_many {p : Program} {l : Launch} {e : Env} {s : State} {m : MethodId} {below : List Frame} {meth : Method} {c : Code} {D : va_G} {cI cB cS : ClassId} {b L : Nat} {xs : Nat → Int32} {xD xM : Nat} {am : Nat → Nat} {Inv : Nat → MS → MS → Prop} (hL : L ≤ 3072) (C0 : lw_At p s m meth c b L xs) (hgK : gK D cI cB cS s) (hI : opsOk Inv) {n j : Nat} {ad : Nat → Nat} {bf : Nat → Option Nat} {S M : MS} {H : Heap} {locs : List Loc} {ls : Array Slot} (hj : j + 6 ≤ L) (hinv : Inv n S M) (hcg : bok n ad bf) (hxD : ad 0 = xD) (hw : wd D (fun q : Nat => s.heap.size ≤ q) s.heap (mW cI xM am M ++ cW cI cB cS n ad bf S) H locs) (hl : lv_has ls 4 [(0, .ref b), (1, .ref xD), (2, .ref xM), (3, .int (nI j))])
    (hback : ∀ (n2 : Nat) (ad2 : Nat → Nat) (bf2 : Nat → Option Nat) (S2 M2 : MS) (H : Heap) (locs : List Loc) (ls : Array Slot), Inv n2 S2 M2 → bok n2 ad2 bf2 → ad2 0 = xD → wd D (fun q : Nat => s.heap.size ≤ q) s.heap (mW cI xM am M2 ++ cW cI cB cS n2 ad2 bf2 S2) H locs → lv_has ls 4 [(0, .ref b), (1, .ref xD), (2, .ref xM), (3, .int (nI (j + 6)))] → W p l e room_1 s m #[Value.ref b] below meth c H locs (200 + 2 * (j + 6)) (2000 + 8 * (j + 6)) (lw_Z below #[Value.ref b] s) (F0 m 18 ls [])) : W p l e room_1 s m #[Value.ref b] below meth c H locs (200 + 2 * j) (2000 + 8 * j) (lw_Z below #[Value.ref b] s) (F0 m 1184 ls []) := by
  have C := law_cx C0 hgK
  obtain ⟨hx, hb, hr, hml, hown, hts, hX, hbl, hlocks, hgv⟩ := C0
  have hA : ∀ q : Nat, s.heap.size ≤ q → (fun q : Nat => s.heap.size ≤ q) q := fun _ h => h
  have hbA : ¬ (fun q : Nat => s.heap.size ≤ q) b := Nat.not_le.mpr hbl
  subst hxD
  obtain ⟨q, qm, e1, e2, e3, e4⟩ := hI.2.2.2.2.2.2.2.2.2.2.2.2.2.2.2.2.2.2.2.2.2.2.2.2.2.2.2.2.2.2 n S M (xs (nI j + 1).toNatClampNeg) hinv
  refine lv_aload_n hx hb dL_law_1184 rfl (lv_at hl 1 rfl) ?_
  refine lv_aload_n hx hb dL_law_1185 rfl (lv_at hl 0 rfl) ?_
  refine lv_iload_n hx hb dL_law_1186 rfl (lv_at hl 3 rfl) ?_
  refine lv_iconst (v := 1) hx hb dL_law_1187 ic_1 ?_
  refine lv_iadd hx hb dL_law_1188 ?_
  refine va_sld hx hb hX hbl hbA hw.2.2 (sc_in (k := 1) rfl hL (by omega)) dL_law_1189 ?_
  refine ctA_V (As := [.int (xs (nI j + 1).toNatClampNeg)]) (q0 := 19) (ci := 8) (rest := []) C hw hA ((KC_many l D cI cB cS n ad bf hcg e1).toA.frame _) cfX8_many tg_629 tg_630 tg_631 ⟨(Nat.le_of_ble_eq_true rfl), (Nat.le_of_ble_eq_true rfl)⟩ ⟨by show 200 + 2 * j + 0 ≤ 600000; omega, by show 2000 + 8 * j + 0 ≤ 7302250; omega⟩ rfl rfl rfl rfl hl.1 rfl (Nat.le_of_ble_eq_true rfl) dL_law_1190 (fun v ws1 H locs hp hw => ?_)
  obtain ⟨w1, rfl, rfl, rfl⟩ := hp
  have hw := hw.swap
  refine lv_aload_n hx hb dL_law_1193 rfl (lv_at hl 2 rfl) ?_
  refine lv_aload_n hx hb dL_law_1194 rfl (lv_at hl 0 rfl) ?_
  refine lv_iload_n hx hb dL_law_1195 rfl (lv_at hl 3 rfl) ?_
  refine lv_iconst (v := 1) hx hb dL_law_1196 ic_1 ?_
  refine lv_iadd hx hb dL_law_1197 ?_
  refine va_sld hx hb hX hbl hbA hw.2.2 (sc_in (k := 1) rfl hL (by omega)) dL_law_1198 ?_
  refine ctA_V (As := [.int (xs (nI j + 1).toNatClampNeg)]) (q0 := 22 + (n + n)) (ci := 9) (rest := [.int q.1]) C hw hA ((KM_many l D cI cB cS xM am e2).toA.frame _) cfX9_many tg_985 tg_986 tg_987 ⟨(Nat.le_of_ble_eq_true rfl), (Nat.le_of_ble_eq_true rfl)⟩ ⟨by show 200 + 2 * j + 0 + 0 ≤ 600000; omega, by show 2000 + 8 * j + 0 + 0 ≤ 7302250; omega⟩ rfl rfl rfl law_at hl.1 rfl (Nat.le_of_ble_eq_true rfl) dL_law_1199 (fun v ws1 H locs hp hw => ?_)
  obtain ⟨w1, rfl, rfl, rfl⟩ := hp
  have hw := hw.swap
  refine lv_icmp_eq (tgt := 1207) hx hb dL_law_1202 (by decide) (fun _ => ?_) (fun hz => absurd e3 hz)
  refine lv_iinc (v := (nI j + 6)) (lv' := [(3, .int (nI j + 6)), (0, .ref b), (1, .ref (ad 0)), (2, .ref xM)]) hx hb dL_law_1207 hl (k := 3) rfl (iv_6 _) (by decide) rfl (fun ls hl => ?_)
  refine lv_goto (tgt := 18) hx hb dL_law_1210 (by decide) ?_
  refine W.widen (k := 200 + 2 * (j + 6)) (n := 2000 + 8 * (j + 6)) (by omega) (by omega) ?_
  have hl := lv_sub (l' := [(0, .ref b), (1, .ref (ad 0)), (2, .ref xM), (3, .int (nI j + 6))]) hl [1, 2, 3, 0] rfl
  rw [show (6 : Int32) = nI 6 from rfl, nI_add] at hl
  exact hback _ _ _ _ _ _ _ _ e4 hcg rfl hw hl
set_option maxHeartbeats 4000000 in
theorem law_loop {p : Program} {l : Launch} {e : Env} {s : State} {m : MethodId} {below : List Frame} {meth : Method} {c : Code} {D : va_G} {cI cB cS : ClassId} {b L : Nat} {xs : Nat → Int32} {xD xM : Nat} {am : Nat → Nat} {Inv : Nat → MS → MS → Prop} (hL : L ≤ 3072) (C0 : lw_At p s m meth c b L xs) (hgK : gK D cI cB cS s) (hI : opsOk Inv) : ∀ (fu j : Nat) (n : Nat) (ad : Nat → Nat) (bf : Nat → Option Nat) (S M : MS) (H : Heap) (locs : List Loc) (ls : Array Slot), j ≤ L + 6 → L + 7 ≤ j + fu → Inv n S M → bok n ad bf → ad 0 = xD → wd D (fun q : Nat => s.heap.size ≤ q) s.heap (mW cI xM am M ++ cW cI cB cS n ad bf S) H locs → lv_has ls 4 [(0, .ref b), (1, .ref xD), (2, .ref xM), (3, .int (nI j))] → W p l e room_1 s m #[Value.ref b] below meth c H locs (200 + 2 * j) (2000 + 8 * j) (lw_Z below #[Value.ref b] s) (F0 m 18 ls []) := by
  have hA : ∀ q : Nat, s.heap.size ≤ q → (fun q : Nat => s.heap.size ≤ q) q := fun _ h => h
  have D0 := C0
  obtain ⟨hx, hb, hr, hml, hown, hts, hX, hbl, hlocks, hgv⟩ := C0
  have hbA : ¬ (fun q : Nat => s.heap.size ≤ q) b := Nat.not_le.mpr hbl
  intro fu
  induction fu with
  | zero => intro j n ad bf S M H locs ls h1 h2; omega
  | succ fu ih =>
    intro j n ad bf S M H locs ls h1 h2 hinv hcg hxD hw hl
    refine lv_iload_n hx hb dL_law_18 rfl (lv_at hl 3 rfl) ?_
    refine lv_aload_n hx hb dL_law_19 rfl (lv_at hl 0 rfl) ?_
    refine va_slen hx hb hX hbl hbA hw.2.2 dL_law_20 ?_
    refine lv_bipush (v := 6) hx hb dL_law_21 ib_6 ?_
    refine lv_isub hx hb dL_law_23 ?_
    refine lv_icmp_gt (tgt := 1213) hx hb dL_law_24 (by decide) (fun g0 => ?_) (fun g0 => ?_)
    · refine lv_iconst (v := 1) hx hb dL_law_1213 ic_1 ?_
      refine va_forget (fun q hq => hw.2.2.2.2 q hq) ?_
      refine W.widen (k := 600000) (n := 7302250) (by omega) (by omega) ?_
      exact lw_ret hx hb hr hlocks dL_law_1214
    have hj : j + 6 ≤ L := sc_le hL (by omega) g0
    have hback := fun (n2 : Nat) (ad2 : Nat → Nat) (bf2 : Nat → Option Nat) (S2 M2 : MS) (H : Heap) (locs : List Loc) (ls : Array Slot) a1 a2 a3 a4 a5 => ih (j + 6) n2 ad2 bf2 S2 M2 H locs ls (by omega) (by omega) a1 a2 a3 a4 a5
    refine lv_aload_n hx hb dL_law_27 rfl (lv_at hl 0 rfl) ?_
    refine lv_iload_n hx hb dL_law_28 rfl (lv_at hl 3 rfl) ?_
    refine va_sld hx hb hX hbl hbA hw.2.2 (vp_in_nI (by omega) (by omega)) dL_law_29 ?_
    refine lv_bipush (v := 31) hx hb dL_law_30 ib_31 ?_
    refine lv_iand hx hb dL_law_32 ?_
    refine lv_topi (fun z ez => ?_)
    by_cases hz : ∃ k, k < 31 ∧ z = nI k
    · obtain ⟨k, hk, rfl⟩ := hz
      match k, hk with
      | 0, _ => exact lv_tableIn (off := 139) (tgt := 172) hx hb dL_law_33 (by decide) (by decide) rfl (by decide) (law_hall hL D0 hgK hI hj hinv hcg hxD hw hl hback)
      | 1, _ => exact lv_tableIn (off := 192) (tgt := 225) hx hb dL_law_33 (by decide) (by decide) rfl (by decide) (law_ofBuyer hL D0 hgK hI hj hinv hcg hxD hw hl hback)
      | 2, _ => exact lv_tableIn (off := 225) (tgt := 258) hx hb dL_law_33 (by decide) (by decide) rfl (by decide) (law_worth hL D0 hgK hI hj hinv hcg hxD hw hl hback)
      | 3, _ => exact lv_tableIn (off := 268) (tgt := 301) hx hb dL_law_33 (by decide) (by decide) rfl (by decide) (law_limit hL D0 hgK hI hj hinv hcg hxD hw hl hback)
      | 4, _ => exact lv_tableIn (off := 301) (tgt := 334) hx hb dL_law_33 (by decide) (by decide) rfl (by decide) (law_sit hL D0 hgK hI hj hinv hcg hxD hw hl hback)
      | 5, _ => exact lv_tableIn (off := 334) (tgt := 367) hx hb dL_law_33 (by decide) (by decide) rfl (by decide) (law_law hL D0 hgK hI hj hinv hcg hxD hw hl hback)
      | 6, _ => exact lv_tableIn (off := 357) (tgt := 390) hx hb dL_law_33 (by decide) (by decide) rfl (by decide) (law_sale hL D0 hgK hI hj hinv hcg hxD hw hl hback)
      | 7, _ => exact lv_tableIn (off := 390) (tgt := 423) hx hb dL_law_33 (by decide) (by decide) rfl (by decide) (law_bid hL D0 hgK hI hj hinv hcg hxD hw hl hback)
      | 8, _ => exact lv_tableIn (off := 423) (tgt := 456) hx hb dL_law_33 (by decide) (by decide) rfl (by decide) (law_ends hL D0 hgK hI hj hinv hcg hxD hw hl hback)
      | 9, _ => exact lv_tableIn (off := 456) (tgt := 489) hx hb dL_law_33 (by decide) (by decide) rfl (by decide) (law_row hL D0 hgK hI hj hinv hcg hxD hw hl hback)
      | 10, _ => exact lv_tableIn (off := 519) (tgt := 552) hx hb dL_law_33 (by decide) (by decide) rfl (by decide) (law_gain hL D0 hgK hI hj hinv hcg hxD hw hl hback)
      | 11, _ => exact lv_tableIn (off := 552) (tgt := 585) hx hb dL_law_33 (by decide) (by decide) rfl (by decide) (law_best hL D0 hgK hI hj hinv hcg hxD hw hl hback)
      | 12, _ => exact lv_tableIn (off := 595) (tgt := 628) hx hb dL_law_33 (by decide) (by decide) rfl (by decide) (law_order hL D0 hgK hI hj hinv hcg hxD hw hl hback)
      | 13, _ => exact lv_tableIn (off := 618) (tgt := 651) hx hb dL_law_33 (by decide) (by decide) rfl (by decide) (law_ring hL D0 hgK hI hj hinv hcg hxD hw hl hback)
      | 14, _ => exact lv_tableIn (off := 651) (tgt := 684) hx hb dL_law_33 (by decide) (by decide) rfl (by decide) (law_mean hL D0 hgK hI hj hinv hcg hxD hw hl hback)
      | 15, _ => exact lv_tableIn (off := 685) (tgt := 718) hx hb dL_law_33 (by decide) (by decide) rfl (by decide) (law_hangs hL D0 hgK hI hj hinv hcg hxD hw hl hback)
      | 16, _ => exact lv_tableIn (off := 708) (tgt := 741) hx hb dL_law_33 (by decide) (by decide) rfl (by decide) (law_reading hL D0 hgK hI hj hinv hcg hxD hw hl hback)
      | 17, _ => exact lv_tableIn (off := 741) (tgt := 774) hx hb dL_law_33 (by decide) (by decide) rfl (by decide) (law_back hL D0 hgK hI hj hinv hcg hxD hw hl hback)
      | 18, _ => exact lv_tableIn (off := 764) (tgt := 797) hx hb dL_law_33 (by decide) (by decide) rfl (by decide) (law_values hL D0 hgK hI hj hinv hcg hxD hw hl hback)
      | 19, _ => exact lv_tableIn (off := 807) (tgt := 840) hx hb dL_law_33 (by decide) (by decide) rfl (by decide) (law_places hL D0 hgK hI hj hinv hcg hxD hw hl hback)
      | 20, _ => exact lv_tableIn (off := 830) (tgt := 863) hx hb dL_law_33 (by decide) (by decide) rfl (by decide) (law_sheet hL D0 hgK hI hj hinv hcg hxD hw hl hback)
      | 21, _ => exact lv_tableIn (off := 873) (tgt := 906) hx hb dL_law_33 (by decide) (by decide) rfl (by decide) (law_lose hL D0 hgK hI hj hinv hcg hxD hw hl hback)
      | 22, _ => exact lv_tableIn (off := 896) (tgt := 929) hx hb dL_law_33 (by decide) (by decide) rfl (by decide) (law_put hL D0 hgK hI hj hinv hcg hxD hw hl hback)
      | 23, _ => exact lv_tableIn (off := 939) (tgt := 972) hx hb dL_law_33 (by decide) (by decide) rfl (by decide) (law_cell hL D0 hgK hI hj hinv hcg hxD hw hl hback)
      | 24, _ => exact lv_tableIn (off := 983) (tgt := 1016) hx hb dL_law_33 (by decide) (by decide) rfl (by decide) (law_copy hL D0 hgK hI hj hinv hcg hxD hw hl hback)
      | 25, _ => exact lv_tableIn (off := 1046) (tgt := 1079) hx hb dL_law_33 (by decide) (by decide) rfl (by decide) (law_tell hL D0 hgK hI hj hinv hcg hxD hw hl hback)
      | 26, _ => exact lv_tableIn (off := 1069) (tgt := 1102) hx hb dL_law_33 (by decide) (by decide) rfl (by decide) (law_nod hL D0 hgK hI hj hinv hcg hxD hw hl hback)
      | 27, _ => exact lv_tableIn (off := 1092) (tgt := 1125) hx hb dL_law_33 (by decide) (by decide) rfl (by decide) (law_as hL D0 hgK hI hj hinv hcg hxD hw hl hback)
      | 28, _ => exact lv_tableIn (off := 1125) (tgt := 1158) hx hb dL_law_33 (by decide) (by decide) rfl (by decide) (law_trace hL D0 hgK hI hj hinv hcg hxD hw hl hback)
      | 29, _ => exact lv_tableIn (off := 1138) (tgt := 1171) hx hb dL_law_33 (by decide) (by decide) rfl (by decide) (law_fault hL D0 hgK hI hj hinv hcg hxD hw hl hback)
      | 30, _ => exact lv_tableIn (off := 1151) (tgt := 1184) hx hb dL_law_33 (by decide) (by decide) rfl (by decide) (law_many hL D0 hgK hI hj hinv hcg hxD hw hl hback)
      | k + 31, hk => exact absurd hk (by omega)
    · refine lv_tableOut (tgt := 1207) hx hb dL_law_33 (sw_out30 (fun k hk e => hz ⟨k, hk, e⟩)) (by decide) ?_
      refine lv_iinc (v := (nI j + 6)) (lv' := [(3, .int (nI j + 6)), (0, .ref b), (1, .ref xD), (2, .ref xM)]) hx hb dL_law_1207 hl (k := 3) rfl (iv_6 _) (by decide) rfl (fun ls hl => ?_)
      refine lv_goto (tgt := 18) hx hb dL_law_1210 (by decide) ?_
      refine W.widen (k := 200 + 2 * (j + 6)) (n := 2000 + 8 * (j + 6)) (by omega) (by omega) ?_
      have hl := lv_sub (l' := [(0, .ref b), (1, .ref xD), (2, .ref xM), (3, .int (nI j + 6))]) hl [1, 2, 3, 0] rfl
      rw [show (6 : Int32) = nI 6 from rfl, nI_add] at hl
      exact hback _ _ _ _ _ _ _ _ hinv hcg hxD hw hl
