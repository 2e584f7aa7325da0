theorem tg_native : Cond.native ⟨"java/lang/System", "arraycopy", "(Ljava/lang/Object;ILjava/lang/Object;II)V"⟩ ∈ lw_g := List.mem_filter.mpr ⟨List.mem_append_right _ (List.mem_of_getElem? (i := 570) (by decide +kernel)), by decide +kernel⟩
/-! rows of the class that stand apart: rows of references, null, other classes of buyers -/
theorem bok0 {n : Nat} {ad : Nat → Nat} {bf : Nat → Option Nat} (_h : bok n ad bf) : bok 0 ad bf := ⟨Nat.zero_le _, fun _ h => absurd h (Nat.not_lt_zero _)⟩
theorem em_o (o : Option Nat) : o = none ∨ ∃ j, o = some j := by
  cases o with
  | none => exact Or.inl rfl
  | some j => exact Or.inr ⟨j, rfl⟩
/-- an answer that may be null -/
def om {α : Type} (o : Option Nat) (a : α) (f : Nat → α) : α := match o with
  | none => a
  | some j => f j
theorem om_n {α : Type} {o : Option Nat} {a q : α} {f : Nat → α} (h : o = none) (hf : om o a f = q) : a = q := by subst h; exact hf
theorem om_s {α : Type} {o : Option Nat} {a q : α} {f : Nat → α} {j : Nat} (h : o = some j) (hf : om o a f = q) : f j = q := by subst h; exact hf
/-- an index into the buyers' row at which a buyer stands -/
def gb {α : Type} (i : Int32) (n : Nat) (a : Option α) : Option α := if 0 ≤ i.toInt ∧ i.toInt < 6 ∧ i.toNatClampNeg < n then a else none
theorem gb_inv {α : Type} {i : Int32} {n : Nat} {a : Option α} {q : α} (h : gb i n a = some q) : vp_in i 6 ∧ i.toNatClampNeg < n ∧ a = some q := by
  unfold gb at h
  by_cases hc : 0 ≤ i.toInt ∧ i.toInt < 6 ∧ i.toNatClampNeg < n
  · exact ⟨vp_in_iff.mpr ⟨hc.1, hc.2.1⟩, hc.2.2, it_t hc h⟩
  · have := it_f hc h; cases this
theorem vp_lt {i : Int32} {n : Nat} (h : vp_in i n) : i.toNatClampNeg < n := Nat.not_le.mp fun q => h (Or.inr q)
/-- what a copy of cells asks for -/
def gc {α : Type} (sp dp n : Int32) (a : Option α) : Option α := if 0 ≤ sp.toInt ∧ 0 ≤ dp.toInt ∧ 0 ≤ n.toInt ∧ sp.toInt + n.toInt ≤ 60 ∧ dp.toInt + n.toInt ≤ 60 then a else none
theorem nn_of {z : Int32} (h : 0 ≤ z.toInt) : ¬ z < 0 ∧ z.toInt = (z.toNatClampNeg : Int) := by
  have h1 : ¬ z < 0 := fun q => by
    have := Int32.lt_iff_toInt_lt.mp q
    have h0 : (0 : Int32).toInt = 0 := by decide
    omega
  exact ⟨h1, (Int.toNat_of_nonneg h).symm⟩
theorem gc_inv {α : Type} {sp dp n : Int32} {a : Option α} {q : α} (h : gc sp dp n a = some q) : (¬ sp < 0 ∧ ¬ dp < 0 ∧ ¬ n < 0 ∧ sp.toNatClampNeg + n.toNatClampNeg ≤ 60 ∧ dp.toNatClampNeg + n.toNatClampNeg ≤ 60) ∧ a = some q := by
  unfold gc at h
  by_cases hc : 0 ≤ sp.toInt ∧ 0 ≤ dp.toInt ∧ 0 ≤ n.toInt ∧ sp.toInt + n.toInt ≤ 60 ∧ dp.toInt + n.toInt ≤ 60
  · refine ⟨?_, it_t hc h⟩
    obtain ⟨h1, h2, h3, h4, h5⟩ := hc
    have a1 := nn_of h1
    have a2 := nn_of h2
    have a3 := nn_of h3
    exact ⟨a1.1, a2.1, a3.1, by omega, by omega⟩
  · have := it_f hc h; cases this
/-- a whole row anew -/
def u1 (M : MS) (k : Nat) (f : Nat → Int32) : MS := fun j => bif Nat.beq j k then f else M j
theorem wd.pre {D : va_G} {A : Nat → Prop} {H0 : Heap} {a b : va_W} {H : Heap} {locs : List Loc} (h : wd D A H0 (a ++ b) H locs) : wd D A H0 a H locs := by
  have up : ∀ (k : Nat) (q : Nat × va_E), a[k]? = some q → (a ++ b)[k]? = some q := fun k q hq => by
    rw [List.getElem?_append_left (List.getElem?_eq_some_iff.mp hq).1]
    exact hq
  exact ⟨fun k q hq => h.1 k q (up k q hq), ⟨fun i j p q hp hq e => h.2.1.1 i j p q (up i p hp) (up j q hq) e, fun k q hq => h.2.1.2 k q (up k q hq)⟩, h.2.2⟩
section CSPEC
variable {p : Program} {l : Launch} {e : Env} {R : Room} {s : State} {m : MethodId} {args : Array Value} {below : List Frame} {meth : Method} {c : Code} {H : Heap} {locs : List Loc} {cells slots : Nat} {Q : State → Prop}
  {cc : ByteArray} {pc nL : Nat} {ls : Array Slot} {rest : List Value} {D : va_G} {A : Nat → Prop} {H0 : Heap} {cI cB cS : ClassId} {own : String} {n : Nat} {ad : Nat → Nat} {bf : Nat → Option Nat} {S : MS}
theorem cp_count0 (C : cx p c cc nL s args m RX5 D cI cB cS) (hw : wd D A H0 (cW cI cB cS n ad bf S) H locs) (hdg : decode cc pc = .ok (.putfield 17, 3)) (kk : ∀ (H1 : Heap) (locs1 : List Loc), wd D A H0 (cW cI cB cS 0 ad bf S) H1 locs1 → W p l e R s m args below meth c H1 locs1 cells slots Q (F0 m (pc + 3) ls rest)) : W p l e R s m args below meth c H locs cells slots Q (F0 m pc ls (.int 0 :: .ref (ad 11) :: rest)) :=
  va_put (D := D) (ci := 5) (v := .int 0) (ty := .int) (C := RX5) (T := TX5) (N := 7) C.1 C.2.1 C.2.2.2.2.1 inX5 tyX5 tyX5_ok nmX5 C.2.2.2.1 C.2.2.2.2.2.1 hw.1 hw.2.1 hw.2.2 11 rfl rfl 1 (by decide) (C.2.2.2.2.1 _ tg_61) (fun _ h9 => h9) rfl (by decide +kernel) rfl rfl (Nat.le_of_ble_eq_true rfl) hdg (fun H1 locs1 h1 h2 h3 => kk H1 locs1 (by
    have h0 : wd D A H0 (cF cI cB cS 0 ad bf S ++ (bO n ad S ++ bA cI n ad S)) H1 locs1 := ⟨h1, h2, h3⟩
    exact h0.pre.to (by simp [cW, bO, bA])))
theorem cl_shs {i : Int32} (C : cx p c cc nL s args m own D cI cB cS) (hw : wd D A H0 (cW cI cB cS n ad bf S) H locs) (hin : vp_in i 4) (hdg : decode cc pc = .ok (.aaload, 1)) (kk : W p l e R s m args below meth c H locs cells slots Q (F0 m (pc + 1) ls (.ref (ad (2 + i.toNatClampNeg)) :: rest))) : W p l e R s m args below meth c H locs cells slots Q (F0 m pc ls (.int i :: .ref (ad 1) :: rest)) :=
  va_aldq (C := "DeafAuction$Sheet") C.1 C.2.1 C.2.2.2.2.2.1 hw.1 1 2 rfl rfl hin hdg (by rw [Nat.mod_eq_of_lt (vp_lt hin)]; exact kk)
theorem cl_bzs {i : Int32} (hcg : bok n ad bf) (C : cx p c cc nL s args m own D cI cB cS) (hw : wd D A H0 (cW cI cB cS n ad bf S) H locs) (hin : vp_in i 6) (hn : i.toNatClampNeg < n) (hdg : decode cc pc = .ok (.aaload, 1)) (kk : W p l e R s m args below meth c H locs cells slots Q (F0 m (pc + 1) ls (.ref (ad (30 + i.toNatClampNeg)) :: rest))) : W p l e R s m args below meth c H locs cells slots Q (F0 m pc ls (.int i :: .ref (ad 12) :: rest)) :=
  va_aldq (C := "DeafAuction$Buyer") C.1 C.2.1 C.2.2.2.2.2.1 hw.1 12 1 rfl rfl hin hdg (by rw [hcg.2 _ hn]; exact kk)
theorem cb_acmp {i j tgt : Nat} {off : Int} (hi : i < n) (hj : j < n) (C : cx p c cc nL s args m own D cI cB cS) (hw : wd D A H0 (cW cI cB cS n ad bf S) H locs) (hdg : decode cc pc = .ok (.if_acmp .eq off, 3)) (ht : (pc : Int) + off = (tgt : Int)) (kt : i = j → W p l e R s m args below meth c H locs cells slots Q (F0 m tgt ls rest)) (kf : ¬ i = j → W p l e R s m args below meth c H locs cells slots Q (F0 m (pc + 3) ls rest)) : W p l e R s m args below meth c H locs cells slots Q (F0 m pc ls (.ref (ad (30 + j)) :: .ref (ad (30 + i)) :: rest)) :=
  lv_acmp_eq (rx := some (ad (30 + i))) (ry := some (ad (30 + j))) C.1 C.2.1 hdg ht (fun h => kt (by
    have := hw.2.1.1 _ _ _ _ (cW_b hi) (cW_b hj) (Option.some.inj h)
    omega)) (fun h => kf (fun h2 => h (by rw [h2])))
def vinsHatted (k : Int32) : Int32 := if k = 0 then 0 else 1
def vinsNervous (k : Int32) : Int32 := if k = 0 then 0 else if k = 1 then 0 else 1
theorem cb_instHatted {b : Nat} (hb : b < n) (C : cx p c cc nL s args m RX8 D cI cB cS) (hw : wd D A H0 (cW cI cB cS n ad bf S) H locs) (hdg : decode cc pc = .ok (.instanceof 231, 3)) (kk : W p l e R s m args below meth c H locs cells slots Q (F0 m (pc + 3) ls (.int (vinsHatted (S 20 b)) :: rest))) : W p l e R s m args below meth c H locs cells slots Q (F0 m pc ls (.ref (ad (30 + b)) :: rest)) := by
  rcases kcls_c (S 20 b) with ⟨h0, hc⟩ | ⟨h0, hc⟩ | ⟨h0, h1, hc⟩
  · rw [vinsHatted, if_pos h0] at kk
    exact va_instNo (C := "DeafAuction$Buyer") C.1 C.2.1 C.2.2.2.1 (C.2.2.2.2.1 _ tg_265) C.2.2.2.2.2.2.2.1.1 (va_recv C.2.2.2.2.2.1 hw.1 (ci := 1) (q := (RX1, TX1, 4)) rfl (by rw [cW_b hb, hc])) hdg kk
  · rw [vinsHatted, if_neg (by rw [h0]; decide)] at kk
    obtain ⟨cC, hcC⟩ : ∃ cC, ClassAt s "DeafAuction$Hatted" cC := ⟨_, (C.2.2.2.2.2.1.1 3 _ rfl).2⟩
    exact va_instS C.1 C.2.1 C.2.2.2.1 (C.2.2.2.2.1 _ tg_265) hcC (va_recv C.2.2.2.2.2.1 hw.1 (ci := 3) (q := (RX3, TX3, 4)) rfl (by rw [cW_b hb, hc])) hdg kk
  · rw [vinsHatted, if_neg h0] at kk
    exact va_instY (C := "DeafAuction$Nervous") C.1 C.2.1 C.2.2.2.1 (C.2.2.2.2.1 _ tg_265) C.2.2.2.2.2.2.2.2.1 (va_recv C.2.2.2.2.2.1 hw.1 (ci := 4) (q := (RX4, TX4, 4)) rfl (by rw [cW_b hb, hc])) hdg kk
theorem cb_instNervous {b : Nat} (hb : b < n) (C : cx p c cc nL s args m RX8 D cI cB cS) (hw : wd D A H0 (cW cI cB cS n ad bf S) H locs) (hdg : decode cc pc = .ok (.instanceof 233, 3)) (kk : W p l e R s m args below meth c H locs cells slots Q (F0 m (pc + 3) ls (.int (vinsNervous (S 20 b)) :: rest))) : W p l e R s m args below meth c H locs cells slots Q (F0 m pc ls (.ref (ad (30 + b)) :: rest)) := by
  rcases kcls_c (S 20 b) with ⟨h0, hc⟩ | ⟨h0, hc⟩ | ⟨h0, h1, hc⟩
  · rw [vinsNervous, if_pos h0] at kk
    exact va_instNo (C := "DeafAuction$Buyer") C.1 C.2.1 C.2.2.2.1 (C.2.2.2.2.1 _ tg_232) C.2.2.2.2.2.2.2.1.2.1 (va_recv C.2.2.2.2.2.1 hw.1 (ci := 1) (q := (RX1, TX1, 4)) rfl (by rw [cW_b hb, hc])) hdg kk
  · rw [vinsNervous, if_neg (by rw [h0]; decide), if_pos h0] at kk
    exact va_instNo (C := "DeafAuction$Hatted") C.1 C.2.1 C.2.2.2.1 (C.2.2.2.2.1 _ tg_232) C.2.2.2.2.2.2.2.1.2.2 (va_recv C.2.2.2.2.2.1 hw.1 (ci := 3) (q := (RX3, TX3, 4)) rfl (by rw [cW_b hb, hc])) hdg kk
  · rw [vinsNervous, if_neg h0, if_neg h1] at kk
    obtain ⟨cC, hcC⟩ : ∃ cC, ClassAt s "DeafAuction$Nervous" cC := ⟨_, (C.2.2.2.2.2.1.1 4 _ rfl).2⟩
    exact va_instS C.1 C.2.1 C.2.2.2.1 (C.2.2.2.2.1 _ tg_232) hcC (va_recv C.2.2.2.2.2.1 hw.1 (ci := 4) (q := (RX4, TX4, 4)) rfl (by rw [cW_b hb, hc])) hdg kk
theorem cW_set_copy {k : Nat} (hk : k < 4) (f : Nat → Int32) : (cW cI cB cS n ad bf S).set (6 + k) (ad (6 + k), .inl (cI, 60, .inl f)) = cW cI cB cS n ad bf (u1 S (5 + k) f) := by
  match k, hk with
  | 0, _ => rfl
  | 1, _ => rfl
  | 2, _ => rfl
  | 3, _ => rfl
theorem cb_copy {j k : Nat} (hj : j < 4) (hk : k < 4) {sp dp z : Int32} (C : cx p c cc nL s args m RX8 D cI cB cS) (hw : wd D A H0 (cW cI cB cS n ad bf S) H locs) (g : ¬ sp < 0 ∧ ¬ dp < 0 ∧ ¬ z < 0 ∧ sp.toNatClampNeg + z.toNatClampNeg ≤ 60 ∧ dp.toNatClampNeg + z.toNatClampNeg ≤ 60) (hframes : 1 ≤ R.frames) (hlocals : (([] : List Value).map fun v => v.category).sum + (nativeFrameWords "java/lang/System" "arraycopy" 5 + 11) ≤ R.locals) (hsz : ls.size = nL)
    (hdg : decode cc pc = .ok (.invokestatic 218, 3)) (kk : ∀ (H1 : Heap) (locs1 : List Loc), wd D A H0 (cW cI cB cS n ad bf (u1 S (5 + k) (va_cpy (S (5 + j)) (S (5 + k)) sp.toNatClampNeg dp.toNatClampNeg z.toNatClampNeg))) H1 locs1 → W p l e R s m args below meth c H1 locs1 cells slots Q (F0 m (pc + 3) ls [])) : W p l e R s m args below meth c H locs cells slots Q (F0 m pc ls [.int z, .int dp, .ref (ad (6 + k)), .int sp, .ref (ad (6 + j))]) :=
  va_copyi (rest := []) C.1 C.2.1 (C.2.2.1.trans hsz.symm) C.2.2.2.1 (C.2.2.2.2.1 _ tg_568) (C.2.2.2.2.1 _ tg_native) (C.2.2.2.2.1 _ tg_569) (C.2.2.2.2.1 _ tg_12) C.2.2.2.2.2.1 hw.1 hw.2.1 hw.2.2 (6 + j) (6 + k) 0 0 (cW_ce hj) (cW_ce hk) rfl rfl rfl g.1 g.2.1 g.2.2.1 g.2.2.2.1 g.2.2.2.2 (fun _ _ => rfl) hframes hlocals hdg (fun H1 locs1 h1 h2 h3 => kk H1 locs1 (wd.to ⟨h1, h2, h3⟩ (cW_set_copy hk _)))
/-- a call of a method that the receiver's class inherits -/
theorem ct_U {x y : MethodName} {b : ByteArray} {nn k idx : Nat} {ret : Option FieldType} {fr lo : Nat} {As : List Value} {a : Nat} {ws ws' : va_W} {v : Value} {st0 : List Value} {q0 ci : Nat} {q : vw_C} {fs : List Value} {owner : String}
    (C : cx p c cc nL s args m own D cI cB cS) (hw : wd D A H0 ws H locs) (hA : ∀ q, H0.size ≤ q → A q) (hM : Ct l D cI cB cS y b nn ret fr lo (.ref a :: As) ws (some v) ws') (F : cf y b nn ret k) (hl : Cond.methodLink own idx x ∈ lw_g) (hsm : Cond.sameMethod x.cls owner x.name x.desc ∈ lw_g) (hs : Cond.selects q.1 x y ∈ lw_g) (hi : Cond.instanceMethod y ∈ lw_g) (hyx : y = ⟨owner, x.name, x.desc⟩) (hd : owner ≠ "java/lang/invoke/MethodHandle" ∧ owner ≠ "java/lang/invoke/VarHandle" ∧ (parseMethodDescriptor x.desc).map (fun d => d.parameters.length) = some k)
    (hR : fr + 1 ≤ R.frames ∧ 8 + (nn + 11) + lo ≤ R.locals) (hf : cells ≤ R.cells ∧ slots ≤ R.slots) (hk : As.length = k) (hc : vwCl[ci]? = some q) (he : ws[q0]? = some (a, .inr (ci, fs))) (hsz : ls.size = nL) (hst : st0 = As.reverse ++ .ref a :: rest) (hW : (rest.map fun v => v.category).sum ≤ 8) (hdg : decode cc pc = .ok (.invokevirtual idx, 3))
    (kk : ∀ (H1 : Heap) (locs1 : List Loc), wd D A H0 ws' H1 locs1 → W p l e R s m args below meth c H1 locs1 cells slots Q (F0 m (pc + 3) ls (v :: rest))) : W p l e R s m args below meth c H locs cells slots Q (F0 m pc ls st0) := by
  obtain ⟨hx, hb, hml, hown, hts, hK⟩ := C
  have hG : GoodIn lw_g (va_wsU own idx q.1 owner x y (.code y b nn ret :: lw_g)) := app_good (by simp only [List.mem_cons, List.not_mem_nil, or_false]; rintro w (rfl | rfl | rfl | rfl | rfl) <;> first | exact hl | exact hsm | exact hs | exact hi | exact F.2.2) (wl_good F.1)
  have hrc := va_recv hK.1 hw.1 hc he
  subst hst
  exact ct_run (va_runU (As := As) (rest := rest) ⟨hx, hb, hml, hown, hts⟩ (hM H.size) (va_cwU k hts hG rfl rfl rfl hyx hd hR) ⟨fb_Pc, hrc, fun U hU hWm => ⟨rfl, by rw [hU], by rw [hU]; exact hw.1, gK.moved hWm hK, hw.2.1.weaken (fun _ _ _ _ => trivial)⟩⟩ rfl hk hsz rfl (lv_room hW) hdg hf) hw hA kk
/-- a call of a method that the receiver's class has anew -/
theorem ct_O {x y : MethodName} {b : ByteArray} {nn k idx : Nat} {ret : Option FieldType} {fr lo : Nat} {As : List Value} {a : Nat} {ws ws' : va_W} {v : Value} {st0 : List Value} {q0 ci : Nat} {q : vw_C} {fs : List Value} {owner : String} {b0 : ByteArray} {m0 : Nat} {r0 : Option FieldType}
    (C : cx p c cc nL s args m own D cI cB cS) (hw : wd D A H0 ws H locs) (hA : ∀ q, H0.size ≤ q → A q) (hM : Ct l D cI cB cS y b nn ret fr lo (.ref a :: As) ws (some v) ws') (F : cf y b nn ret k) (hl : Cond.methodLink own idx x ∈ lw_g) (hsm : Cond.sameMethod x.cls owner x.name x.desc ∈ lw_g) (hio : Cond.instanceMethod ⟨owner, x.name, x.desc⟩ ∈ lw_g) (hs : Cond.selects q.1 x y ∈ lw_g) (hi : Cond.instanceMethod y ∈ lw_g) (h0 : Cond.code ⟨owner, x.name, x.desc⟩ b0 m0 r0 ∈ lw_g) (hd : owner ≠ "java/lang/invoke/MethodHandle" ∧ owner ≠ "java/lang/invoke/VarHandle" ∧ (parseMethodDescriptor x.desc).map (fun d => d.parameters.length) = some k)
    (hR : fr + 1 ≤ R.frames ∧ 8 + (nn + 11) + lo ≤ R.locals) (hf : cells ≤ R.cells ∧ slots ≤ R.slots) (hk : As.length = k) (hc : vwCl[ci]? = some q) (he : ws[q0]? = some (a, .inr (ci, fs))) (hsz : ls.size = nL) (hst : st0 = As.reverse ++ .ref a :: rest) (hW : (rest.map fun v => v.category).sum ≤ 8) (hdg : decode cc pc = .ok (.invokevirtual idx, 3))
    (kk : ∀ (H1 : Heap) (locs1 : List Loc), wd D A H0 ws' H1 locs1 → W p l e R s m args below meth c H1 locs1 cells slots Q (F0 m (pc + 3) ls (v :: rest))) : W p l e R s m args below meth c H locs cells slots Q (F0 m pc ls st0) := by
  obtain ⟨hx, hb, hml, hown, hts, hK⟩ := C
  have hG : GoodIn lw_g (va_wsO own idx q.1 owner x y (.code y b nn ret :: lw_g)) := app_good (by simp only [List.mem_cons, List.not_mem_nil, or_false]; rintro w (rfl | rfl | rfl | rfl | rfl | rfl) <;> first | exact hl | exact hsm | exact hio | exact hs | exact hi | exact F.2.2) (wl_good F.1)
  have hrc := va_recv hK.1 hw.1 hc he
  subst hst
  exact ct_run (va_runU (As := As) (rest := rest) ⟨hx, hb, hml, hown, hts⟩ (hM H.size) (va_cwO k hts hG rfl rfl rfl h0 hd hR) ⟨fb_Pc, hrc, fun U hU hWm => ⟨rfl, by rw [hU], by rw [hU]; exact hw.1, gK.moved hWm hK, hw.2.1.weaken (fun _ _ _ _ => trivial)⟩⟩ rfl hk hsz rfl (lv_room hW) hdg hf) hw hA kk
/-- super.y(..) -/
theorem ct_SU {y : MethodName} {b : ByteArray} {nn k idx : Nat} {ret : Option FieldType} {fr lo : Nat} {As : List Value} {a : Nat} {ws ws' : va_W} {v : Value} {st0 : List Value} {q0 ci : Nat} {q : vw_C} {fs : List Value}
    (C : cx p c cc nL s args m own D cI cB cS) (hw : wd D A H0 ws H locs) (hA : ∀ q, H0.size ≤ q → A q) (hM : Ct l D cI cB cS y b nn ret fr lo (.ref a :: As) ws (some v) ws') (F : cf y b nn ret k) (hl : Cond.methodLink own idx y ∈ lw_g) (hsm : Cond.sameMethod y.cls y.cls y.name y.desc ∈ lw_g) (hsu : Cond.superclass own y.cls ∈ lw_g) (hi : Cond.instanceMethod y ∈ lw_g) (hd : y.name ≠ "<init>" ∧ (parseMethodDescriptor y.desc).map (fun d => d.parameters.length) = some k)
    (hR : fr + 1 ≤ R.frames ∧ 8 + (nn + 11) + lo ≤ R.locals) (hf : cells ≤ R.cells ∧ slots ≤ R.slots) (hk : As.length = k) (hc : vwCl[ci]? = some q) (he : ws[q0]? = some (a, .inr (ci, fs))) (hsz : ls.size = nL) (hst : st0 = As.reverse ++ .ref a :: rest) (hW : (rest.map fun v => v.category).sum ≤ 8) (hdg : decode cc pc = .ok (.invokespecial idx, 3))
    (kk : ∀ (H1 : Heap) (locs1 : List Loc), wd D A H0 ws' H1 locs1 → W p l e R s m args below meth c H1 locs1 cells slots Q (F0 m (pc + 3) ls (v :: rest))) : W p l e R s m args below meth c H locs cells slots Q (F0 m pc ls st0) := by
  obtain ⟨hx, hb, hml, hown, hts, hK⟩ := C
  have hG : GoodIn lw_g (va_wsSU own idx y (.code y b nn ret :: lw_g)) := app_good (by simp only [List.mem_cons, List.not_mem_nil, or_false]; rintro w (rfl | rfl | rfl | rfl | rfl) <;> first | exact hl | exact hsm | exact hsu | exact hi | exact F.2.2) (wl_good F.1)
  have hrc := va_recv hK.1 hw.1 hc he
  subst hst
  exact ct_run (va_runSU (C := q.1) ((hK.1.1 ci q hc).2) (As := As) (rest := rest) ⟨hx, hb, hml, hown, hts⟩ (hM H.size) (va_cwSU k hts hG rfl rfl rfl hd hR) ⟨fb_Pc, hrc, fun U hU hWm => ⟨rfl, by rw [hU], by rw [hU]; exact hw.1, gK.moved hWm hK, hw.2.1.weaken (fun _ _ _ _ => trivial)⟩⟩ rfl hk hsz rfl (lv_room hW) hdg hf) hw hA kk
end CSPEC
