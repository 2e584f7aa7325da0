/-! the static facts that every method rests on, beside the good words of the tables -/
def nestB : Cond → Bool
  | .fieldLinkNest .. => true
  | .methodLinkNest .. => true
  | _ => false
def nestL : List Cond := tables_1.filter nestB
def castL : List (String × String) := [("DeafAuction$Nervous", "DeafAuction$Hatted")]
abbrev tyl (cI cB cS : ClassId) : List (ClassId × FieldType) := [(cI, .int), (cB, .object "DeafAuction$Buyer"), (cS, .object "DeafAuction$Sheet")]
def gK (D : va_G) (cI cB cS : ClassId) (U : State) : Prop := va_K D vwCl (tyl cI cB cS) U ∧ (∀ w ∈ nestL, va_Nw w U) ∧ (va_Nc "DeafAuction$Buyer" "DeafAuction$Hatted" U ∧ va_Nc "DeafAuction$Buyer" "DeafAuction$Nervous" U ∧ va_Nc "DeafAuction$Hatted" "DeafAuction$Nervous" U) ∧ va_Nw (.castable "DeafAuction$Nervous" "DeafAuction$Hatted") U ∧ va_AO "DeafAuction$Sheet" U ∧ va_AO "DeafAuction$Buyer" U ∧ va_Nw (.castable "DeafAuction$Nervous" "DeafAuction$Buyer") U ∧ va_Nw (.castable "DeafAuction$Hatted" "DeafAuction$Buyer") U
theorem gK.moved {D : va_G} {cI cB cS : ClassId} {s U : State} (hW : s.WarmedH U.vm) (h : gK D cI cB cS s) : gK D cI cB cS U := by
  obtain ⟨h1, h2, ⟨h3, h4, h5⟩, h6, h7, h8, h9, h10⟩ := h
  refine ⟨va_K.moved hW.alike h1, fun w hw => ?_, ⟨h3.moved hW.alike, h4.moved hW.alike, h5.moved hW.alike⟩, ?_, h7.moved hW.alike, h8.moved hW.alike, va_Nw.warmC hW h9, va_Nw.warmC hW h10⟩
  · have hn : nestB w = true := (List.mem_filter.mp hw).2
    have h0 := h2 w hw
    cases w <;> first | exact va_Nw.warmF hW h0 | exact va_Nw.warmM hW h0 | (simp [nestB] at hn; done)
  · exact va_Nw.warmC hW h6
theorem gK.same {D : va_G} {cI cB cS : ClassId} {s U : State} (hW : s.vm = U.vm) (h : gK D cI cB cS s) : gK D cI cB cS U := by
  obtain ⟨h1, h2, ⟨h3, h4, h5⟩, h6, h7, h8, h9, h10⟩ := h
  have al : s.vm.Alike U.vm := by rw [hW]; exact Vm.Alike.refl U.vm
  refine ⟨va_K.moved al h1, fun w hw => ?_, ⟨h3.moved al, h4.moved al, h5.moved al⟩, va_Nw.same rfl hW h6, h7.moved al, h8.moved al, va_Nw.same rfl hW h9, va_Nw.same rfl hW h10⟩
  have hn : nestB w = true := (List.mem_filter.mp hw).2
  have h0 := h2 w hw
  cases w <;> first | (simp [nestB] at hn; done) | exact va_Nw.same rfl hW h0
/-- the machine's and the code's facts that a row needs -/
def cx (p : Program) (c : Code) (cc : ByteArray) (nL : Nat) (s : State) (args : Array Value) (m : MethodId) (own : String) (D : va_G) (cI cB cS : ClassId) : Prop :=
  p.tables.exec = Jvm.exec ∧ c.code = cc ∧ c.maxLocals = nL ∧ s.vm.findClass own = some m.cls ∧ (∀ w ∈ lw_g, w.before args s = true) ∧ gK D cI cB cS s
/-- a world: the cells ws stand in H, apart, and nothing outside A has changed since H0 -/
def wd (D : va_G) (A : Nat → Prop) (H0 : Heap) (ws : va_W) (H : Heap) (locs : List Loc) : Prop := va_P D vwCl ws H ∧ va_D A ws ∧ va_S A H0 H locs
theorem wd.to {D : va_G} {A : Nat → Prop} {H0 : Heap} {ws ws' : va_W} {H : Heap} {locs : List Loc} (h : wd D A H0 ws H locs) (e : ws = ws') : wd D A H0 ws' H locs := e ▸ h
/-- a contract of a method that makes nothing: with arguments As and the world ws it answers v and leaves ws' -/
def Ct (l : Launch) (D : va_G) (cI cB cS : ClassId) (y : MethodName) (b : ByteArray) (n : Nat) (ret : Option FieldType) (fr lo : Nat) (As : List Value) (ws : va_W) (v : Option Value) (ws' : va_W) : Prop :=
  ∀ sz : Nat, Met l y (.code y b n ret :: lw_g) { frames := fr, cells := 0, slots := 0, locals := lo } (va_Pc As (fun U => U.heap.size = sz ∧ va_P D vwCl ws U.heap ∧ gK D cI cB cS U ∧ va_D (fun _ => True) ws))
    (fun _ st oc t => (oc = .returned v ∧ va_P D vwCl ws' t.heap ∧ va_D (va_A ws sz) ws') ∧ va_F (va_A ws sz) st t) 0 0 (va_A ws sz)
/-- what a walk of such a method ends in -/
abbrev Qt (D : va_G) (below : List Frame) (args : Array Value) (s : State) (ws : va_W) (v : Option Value) (ws' : va_W) : State → Prop :=
  MQ below (fun _ st oc t => (oc = .returned v ∧ va_P D vwCl ws' t.heap ∧ va_D (va_A ws s.heap.size) ws') ∧ va_F (va_A ws s.heap.size) st t) args s 0 0 (va_A ws s.heap.size)
section BASE
variable {p : Program} {l : Launch} {e : Env} {R : Room} {s : State} {m : MethodId} {args : Array Value} {below : List Frame} {meth : Method} {c : Code} {H : Heap} {locs : List Loc} {cells slots : Nat} {Q : State → Prop}
  {cc : ByteArray} {pc nL : Nat} {ls : Array Slot} {rest : List Value} {D : va_G} {A : Nat → Prop} {H0 : Heap} {cI cB cS : ClassId} {own : String}
/-- from the entry of a method to its contract -/
theorem Ct.ofW {y : MethodName} {b : ByteArray} {n : Nat} {ret : Option FieldType} {fr lo : Nat} {As : List Value} {ws ws' : va_W} {v : Option Value} (hy : plainName y.cls = true) (hn : (lg_sl As).length ≤ n)
    (body : ∀ p e s m args below meth c (ls : Array Slot), cx p c b n s args m y.cls D cI cB cS → meth.sig.returnType = ret → meth.locks = false → meth.name = y.name → wd D (va_A ws s.heap.size) s.heap ws s.heap [] → lv_has ls n (lv_args 0 As) →
      W p l e { frames := fr, cells := 0, slots := 0, locals := lo } s m args below meth c s.heap [] 0 0 (Qt D below args s ws v ws') (F0 m 0 ls [])) : Ct l D cI cB cS y b n ret fr lo As ws v ws' := by
  intro sz
  refine Met.ofW (cc := b) (maxL := n) (ret := ret) hy rfl ?_
  intro p e s m args below meth c s₁ B hml hv
  obtain ⟨rfl, hsz, hP, hK, hD0⟩ := hv
  have hts := atoms_spec (ws := .code y b n ret :: lw_g) B.pre
  have hown : s.vm.findClass y.cls = some m.cls := findClass_of_methodNamed B.named
  subst hsz
  have hD := hD0.self (sz := s.heap.size)
  have hl := lv_entry As (n := n) hn
  rw [lg_entry_eq]
  exact body p e s m As.toArray below meth c _ ⟨B.exec, B.bytes, hml, hown, fun w h => hts w (List.mem_cons_of_mem _ h), hK⟩ B.returns B.notSynchronized (name_of_methodNamed B.named B.method).1 ⟨hP, hD, va_S.rf⟩ hl
theorem qt_i {ws ws' : va_W} {r : Int32} (C : cx p c cc nL s args m own D cI cB cS) (hr : meth.sig.returnType = some .int) (hlocks : meth.locks = false) (hw : wd D (va_A ws s.heap.size) s.heap ws' H locs) (hdg : decode cc pc = .ok (.ireturn, 1)) :
    W p l e R s m args below meth c H locs 0 0 (Qt D below args s ws (some (.int r)) ws') (F0 m pc ls [.int r]) :=
  W.iret (v := r) C.1 C.2.1 hr (fun t ht _ => ⟨⟨rfl, by rw [ht]; exact hw.1, hw.2.1⟩, hw.2.2.F ht⟩) hw.2.2.2.2 hdg hlocks
theorem qt_z {ws ws' : va_W} {r : Int32} (C : cx p c cc nL s args m own D cI cB cS) (hr : meth.sig.returnType = some .boolean) (hlocks : meth.locks = false) (hn : r = 0 ∨ r = 1) (hw : wd D (va_A ws s.heap.size) s.heap ws' H locs) (hdg : decode cc pc = .ok (.ireturn, 1)) :
    W p l e R s m args below meth c H locs 0 0 (Qt D below args s ws (some (.int r)) ws') (F0 m pc ls [.int r]) :=
  W.zret (v := r) C.1 C.2.1 hr (by rcases hn with rfl | rfl <;> decide) (fun t ht _ => ⟨⟨rfl, by rw [ht]; exact hw.1, hw.2.1⟩, hw.2.2.F ht⟩) hw.2.2.2.2 hdg hlocks
theorem qt_l {ws ws' : va_W} {r : Int64} (C : cx p c cc nL s args m own D cI cB cS) (hr : meth.sig.returnType = some .long) (hlocks : meth.locks = false) (hw : wd D (va_A ws s.heap.size) s.heap ws' H locs) (hdg : decode cc pc = .ok (.lreturn, 1)) :
    W p l e R s m args below meth c H locs 0 0 (Qt D below args s ws (some (.long r)) ws') (F0 m pc ls [.long r]) :=
  W.lret (v := r) C.1 C.2.1 hr (fun t ht _ => ⟨⟨rfl, by rw [ht]; exact hw.1, hw.2.1⟩, hw.2.2.F ht⟩) hw.2.2.2.2 hdg hlocks
theorem qt_v {ws ws' : va_W} (C : cx p c cc nL s args m own D cI cB cS) (hr : meth.sig.returnType = none) (hlocks : meth.locks = false) (hw : wd D (va_A ws s.heap.size) s.heap ws' H locs) (hdg : decode cc pc = .ok (.return_, 1)) :
    W p l e R s m args below meth c H locs 0 0 (Qt D below args s ws none ws') (F0 m pc ls []) :=
  W.vret C.1 C.2.1 hr (fun t ht _ => ⟨⟨rfl, by rw [ht]; exact hw.1, hw.2.1⟩, hw.2.2.F ht⟩) hw.2.2.2.2 hdg hlocks
theorem qt_a {ws ws' : va_W} {r : Option Nat} {n : String} (C : cx p c cc nL s args m own D cI cB cS) (hr : meth.sig.returnType = some (.object n)) (hlocks : meth.locks = false) (hw : wd D (va_A ws s.heap.size) s.heap ws' H locs) (hdg : decode cc pc = .ok (.areturn, 1)) :
    W p l e R s m args below meth c H locs 0 0 (Qt D below args s ws (some (va_rf r)) ws') (F0 m pc ls [va_rf r]) :=
  W.aret (v := va_rf r) C.1 C.2.1 hr (Or.inl ⟨n, rfl⟩) (by cases r <;> simp [va_rf]) (fun t ht _ => ⟨⟨rfl, by rw [ht]; exact hw.1, hw.2.1⟩, hw.2.2.F ht⟩) hw.2.2.2.2 hdg hlocks
/-- behind a call whose callee has the whole world -/
theorem ct_run {ws ws' : va_W} {v : Option Value} {st0 : List Value} (hr : va_Run p l e R s m args below meth c H locs cells slots 0 0 (F0 m pc ls st0) rest (fun st oc t => (oc = .returned v ∧ va_P D vwCl ws' t.heap ∧ va_D (va_A ws H.size) ws') ∧ va_F (va_A ws H.size) st t) (va_A ws H.size)) (hw : wd D A H0 ws H locs) (hA : ∀ q, H0.size ≤ q → A q)
    (kk : ∀ (H1 : Heap) (locs1 : List Loc), wd D A H0 ws' H1 locs1 → W p l e R s m args below meth c H1 locs1 cells slots Q (F0 m (pc + 3) ls (v.toList ++ rest))) : W p l e R s m args below meth c H locs cells slots Q (F0 m pc ls st0) := by
  have hF : ∀ q, va_A ws H.size q → A q := by
    intro q h
    rcases h with ⟨k, e, h⟩ | h
    · exact hw.2.1.2 k _ h
    · exact hA q (Nat.le_trans hw.2.2.1 h)
  intro T hT X
  obtain ⟨v', st₀, t, T', L, h0, X', hL, e1, e2, ⟨⟨hv, hp, hd⟩, hz, hk⟩, st⟩ := hr T hT X
  cases hv
  rw [h0] at hz hk
  obtain ⟨t2, a1, b1⟩ := kk T'.heap (locs ++ L) ⟨by rw [e1]; exact hp, hd.weaken (fun k q _ h => hF q.1 h), Nat.le_trans hw.2.2.1 (by rw [e1]; exact hz), fun q h1 h2 => by rw [e1, hk q (Nat.lt_of_lt_of_le h1 hw.2.2.1) (fun z => h2 (hF q z))]; exact hw.2.2.2.1 q h1 h2, fun q hq => by
      rcases List.mem_append.mp hq with h | h
      · exact hw.2.2.2.2 q h
      · exact hF _ (hL q h)⟩ T' rfl X'
  exact ⟨t2, st t2 a1, b1⟩
theorem fb_Pc {As : List Value} {ws : va_W} {sz : Nat} : FrameBlind (va_Pc As (fun U => U.heap.size = sz ∧ va_P D vwCl ws U.heap ∧ gK D cI cB cS U ∧ va_D (fun _ => True) ws)) := fun a U g mk q => by
  obtain ⟨q0, q1, qP, qK, qD⟩ := q
  exact ⟨q0, q1, qP, gK.same (s := U) (U := U.calling g mk a) rfl qK, qD⟩
theorem wl_good {y : MethodName} {b : ByteArray} {n : Nat} {ret : Option FieldType} (h : Cond.code y b n ret ∈ lw_g) : GoodIn lw_g (.code y b n ret :: lw_g) := fun w hw => by
  have hm : w ∈ lw_g := (List.mem_cons.mp hw).elim (fun e => e ▸ h) id
  exact ⟨hm, good_of_word (List.mem_filter.mp hm).2⟩
theorem app_good {ws ws' : List Cond} (h1 : ∀ w ∈ ws, w ∈ lw_g) (h2 : GoodIn lw_g ws') : GoodIn lw_g (ws ++ ws') := fun w hw => by
  rcases List.mem_append.mp hw with h | h
  · exact ⟨h1 w h, good_of_word (List.mem_filter.mp (h1 w h)).2⟩
  · exact h2 w h
/-- the facts of a callee that don't hang on the caller -/
def cf (y : MethodName) (b : ByteArray) (n : Nat) (ret : Option FieldType) (k : Nat) : Prop := Cond.code y b n ret ∈ lw_g ∧ (y.cls ≠ "java/lang/invoke/MethodHandle" ∧ y.cls ≠ "java/lang/invoke/VarHandle" ∧ (parseMethodDescriptor y.desc).map (fun d => d.parameters.length) = some k) ∧ Cond.initialized y.cls ∈ lw_g
/-- a call of an instance method of the receiver's own class -/
theorem ct_V {y : MethodName} {b : ByteArray} {n k idx : Nat} {ret : Option FieldType} {fr lo : Nat} {As : List Value} {a : Nat} {ws ws' : va_W} {v : Option Value} {st0 : List Value} {q0 ci : Nat} {q : vw_C} {fs : List Value}
    (C : cx p c cc nL s args m own D cI cB cS) (hw : wd D A H0 ws H locs) (hA : ∀ q, H0.size ≤ q → A q) (hM : Ct l D cI cB cS y b n ret fr lo (.ref a :: As) ws v ws') (F : cf y b n ret k) (hl : Cond.methodLink own idx y ∈ lw_g) (hi : Cond.instanceMethod y ∈ lw_g) (hs : Cond.selects y.cls y y ∈ lw_g)
    (hR : fr + 1 ≤ R.frames ∧ 8 + (n + 11) + lo ≤ R.locals) (hf : cells ≤ R.cells ∧ slots ≤ R.slots) (hk : As.length = k) (hc : vwCl[ci]? = some q) (hq : q.1 = y.cls) (he : ws[q0]? = some (a, .inr (ci, fs))) (hsz : ls.size = nL) (hst : st0 = As.reverse ++ .ref a :: rest) (hW : (rest.map fun v => v.category).sum ≤ 8) (hdg : decode cc pc = .ok (.invokevirtual idx, 3))
    (kk : ∀ (H1 : Heap) (locs1 : List Loc), wd D A H0 ws' H1 locs1 → W p l e R s m args below meth c H1 locs1 cells slots Q (F0 m (pc + 3) ls (v.toList ++ rest))) : W p l e R s m args below meth c H locs cells slots Q (F0 m pc ls st0) := by
  obtain ⟨hx, hb, hml, hown, hts, hK⟩ := C
  have hG : GoodIn lw_g (wsV own idx y.cls y (.code y b n ret :: lw_g)) := app_good (by simp only [List.mem_cons, List.not_mem_nil, or_false]; rintro w (rfl | rfl | rfl | rfl) <;> first | exact hl | exact hi | exact hs | exact F.2.2) (wl_good F.1)
  have hrc := va_recv hK.1 hw.1 hc he
  rw [hq] at hrc
  subst hst
  exact ct_run (va_runV (As := As) (rest := rest) ⟨hx, hb, hml, hown, hts⟩ (hM H.size) (cwV k hts hG rfl rfl rfl ⟨rfl, F.2.1⟩ hR) ⟨fb_Pc, hrc, fun U hU hWm => ⟨rfl, by rw [hU], by rw [hU]; exact hw.1, gK.moved hWm hK, hw.2.1.weaken (fun _ _ _ _ => trivial)⟩⟩ rfl hk hsz rfl (lv_room hW) hdg hf) hw hA kk
/-- a call of a static method -/
theorem ct_S {y : MethodName} {b : ByteArray} {n k idx : Nat} {ret : Option FieldType} {fr lo : Nat} {As : List Value} {ws ws' : va_W} {v : Option Value} {st0 : List Value}
    (C : cx p c cc nL s args m own D cI cB cS) (hw : wd D A H0 ws H locs) (hA : ∀ q, H0.size ≤ q → A q) (hM : Ct l D cI cB cS y b n ret fr lo As ws v ws') (F : cf y b n ret k) (hl : Cond.methodLink own idx y ∈ lw_g) (hs : Cond.static y ∈ lw_g)
    (hR : fr + 1 ≤ R.frames ∧ 8 + (n + 11) + lo ≤ R.locals) (hf : cells ≤ R.cells ∧ slots ≤ R.slots) (hk : As.length = k) (hsz : ls.size = nL) (hst : st0 = As.reverse ++ rest) (hW : (rest.map fun v => v.category).sum ≤ 8) (hdg : decode cc pc = .ok (.invokestatic idx, 3))
    (kk : ∀ (H1 : Heap) (locs1 : List Loc), wd D A H0 ws' H1 locs1 → W p l e R s m args below meth c H1 locs1 cells slots Q (F0 m (pc + 3) ls (v.toList ++ rest))) : W p l e R s m args below meth c H locs cells slots Q (F0 m pc ls st0) := by
  obtain ⟨hx, hb, hml, hown, hts, hK⟩ := C
  have hG : GoodIn lw_g (va_wsS own idx y (.code y b n ret :: lw_g)) := app_good (by simp only [List.mem_cons, List.not_mem_nil, or_false]; rintro w (rfl | rfl | rfl) <;> first | exact hl | exact hs | exact F.2.2) (wl_good F.1)
  subst hst
  exact ct_run (va_runS (As := As) (rest := rest) ⟨hx, hb, hml, hown, hts⟩ (hM H.size) (va_cwS k hts hG rfl rfl rfl F.2.1 hR) ⟨fb_Pc, fun U hU hWm => ⟨rfl, by rw [hU], by rw [hU]; exact hw.1, gK.moved hWm hK, hw.2.1.weaken (fun _ _ _ _ => trivial)⟩⟩ rfl hk hsz rfl (lv_room hW) hdg hf) hw hA kk
/-- a call of a private static method of a nest mate -/
theorem ct_SN {y : MethodName} {b : ByteArray} {n k idx : Nat} {ret : Option FieldType} {host : String} {fr lo : Nat} {As : List Value} {ws ws' : va_W} {v : Option Value} {st0 : List Value}
    (C : cx p c cc nL s args m own D cI cB cS) (hw : wd D A H0 ws H locs) (hA : ∀ q, H0.size ≤ q → A q) (hM : Ct l D cI cB cS y b n ret fr lo As ws v ws') (F : cf y b n ret k) (hl : Cond.methodLinkNest own idx y host ∈ nestL) (hs : Cond.static y ∈ lw_g)
    (hR : fr + 1 ≤ R.frames ∧ 8 + (n + 11) + lo ≤ R.locals) (hf : cells ≤ R.cells ∧ slots ≤ R.slots) (hk : As.length = k) (hsz : ls.size = nL) (hst : st0 = As.reverse ++ rest) (hW : (rest.map fun v => v.category).sum ≤ 8) (hdg : decode cc pc = .ok (.invokestatic idx, 3))
    (kk : ∀ (H1 : Heap) (locs1 : List Loc), wd D A H0 ws' H1 locs1 → W p l e R s m args below meth c H1 locs1 cells slots Q (F0 m (pc + 3) ls (v.toList ++ rest))) : W p l e R s m args below meth c H locs cells slots Q (F0 m pc ls st0) := by
  obtain ⟨hx, hb, hml, hown, hts, hK⟩ := C
  subst hst
  exact ct_run (va_runSN (As := As) (rest := rest) ⟨hx, hb, hml, hown, hts⟩ (hM H.size) ⟨va_cnB k hts (wl_good F.1) rfl rfl rfl (hK.2.1 _ hl) (hts _ F.2.2) F.2.1 hR, hts _ hs, trivial⟩ ⟨fb_Pc, fun U hU hWm => ⟨rfl, by rw [hU], by rw [hU]; exact hw.1, gK.moved hWm hK, hw.2.1.weaken (fun _ _ _ _ => trivial)⟩⟩ rfl hk hsz rfl (lv_room hW) hdg hf) hw hA kk
end BASE
