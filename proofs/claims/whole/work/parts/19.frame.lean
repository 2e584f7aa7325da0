/-! worlds as sets; the frame of a contract; contracts of methods that make cells -/
theorem va_P_mem {D : va_G} {cl : List vw_C} {ws : va_W} {H : Heap} : va_P D cl ws H ↔ ∀ q ∈ ws, va_at D cl q H := by
  constructor
  · intro h q hq
    obtain ⟨k, hk⟩ := List.getElem?_of_mem hq
    exact h k q hk
  · intro h k q hk
    exact h q (List.mem_of_getElem? hk)
theorem va_D_nd {A : Nat → Prop} {ws : va_W} : va_D A ws ↔ (ws.map Prod.fst).Nodup ∧ ∀ q ∈ ws, A q.1 := by
  constructor
  · intro h
    refine ⟨List.pairwise_iff_getElem.mpr fun i j hi hj hij => ?_, fun q hq => ?_⟩
    · rw [List.length_map] at hi hj
      rw [List.getElem_map, List.getElem_map]
      intro e
      have := h.1 i j ws[i] ws[j] (List.getElem?_eq_getElem hi) (List.getElem?_eq_getElem hj) e
      omega
    · obtain ⟨k, hk⟩ := List.getElem?_of_mem hq
      exact h.2 k q hk
  · intro ⟨h1, h2⟩
    refine ⟨fun i j p q hp hq e => ?_, fun k q hk => h2 q (List.mem_of_getElem? hk)⟩
    have hh := List.pairwise_iff_getElem.mp h1
    obtain ⟨hi, ei⟩ := List.getElem?_eq_some_iff.mp hp
    obtain ⟨hj, ej⟩ := List.getElem?_eq_some_iff.mp hq
    rcases Nat.lt_trichotomy i j with hlt | heq | hgt
    · have := hh i j (by rw [List.length_map]; exact hi) (by rw [List.length_map]; exact hj) hlt
      rw [List.getElem_map, List.getElem_map, ei, ej] at this
      exact absurd e this
    · exact heq
    · have := hh j i (by rw [List.length_map]; exact hj) (by rw [List.length_map]; exact hi) hgt
      rw [List.getElem_map, List.getElem_map, ei, ej] at this
      exact absurd e.symm this
theorem wd.perm {D : va_G} {A : Nat → Prop} {H0 : Heap} {ws ws' : va_W} {H : Heap} {locs : List Loc} (h : wd D A H0 ws H locs) (hp : ws.Perm ws') : wd D A H0 ws' H locs := by
  refine ⟨va_P_mem.mpr fun q hq => va_P_mem.mp h.1 q (hp.mem_iff.mpr hq), va_D_nd.mpr ⟨?_, fun q hq => (va_D_nd.mp h.2.1).2 q (hp.mem_iff.mpr hq)⟩, h.2.2⟩
  exact (hp.map Prod.fst).nodup_iff.mp (va_D_nd.mp h.2.1).1
theorem wd.swap {D : va_G} {A : Nat → Prop} {H0 : Heap} {a b : va_W} {H : Heap} {locs : List Loc} (h : wd D A H0 (a ++ b) H locs) : wd D A H0 (b ++ a) H locs := h.perm List.perm_append_comm
/-- a contract of a method that makes at most mc cells of ms slots: what it answers and leaves meets post -/
def CtA (l : Launch) (D : va_G) (cI cB cS : ClassId) (y : MethodName) (b : ByteArray) (n : Nat) (ret : Option FieldType) (fr lo mc ms : Nat) (As : List Value) (ws : va_W) (post : Option Value → va_W → Prop) : Prop :=
  ∀ sz : Nat, Met l y (.code y b n ret :: lw_g) { frames := fr, cells := mc, slots := ms, locals := lo } (va_Pc As (fun U => U.heap.size = sz ∧ va_P D vwCl ws U.heap ∧ gK D cI cB cS U ∧ va_D (fun _ => True) ws))
    (fun _ st oc t => (∃ v ws', oc = .returned v ∧ post v ws' ∧ va_P D vwCl ws' t.heap ∧ va_D (va_A ws sz) ws') ∧ va_F (va_A ws sz) st t) mc ms (va_A ws sz)
abbrev QtA (D : va_G) (below : List Frame) (args : Array Value) (s : State) (mc ms : Nat) (ws : va_W) (post : Option Value → va_W → Prop) : State → Prop :=
  MQ below (fun _ st oc t => (∃ v ws', oc = .returned v ∧ post v ws' ∧ va_P D vwCl ws' t.heap ∧ va_D (va_A ws s.heap.size) ws') ∧ va_F (va_A ws s.heap.size) st t) args s mc ms (va_A ws s.heap.size)
section FRAME
variable {l : Launch} {D : va_G} {cI cB cS : ClassId} {y : MethodName} {b : ByteArray} {n : Nat} {ret : Option FieldType} {fr lo mc ms : Nat} {As : List Value} {ws ws' : va_W} {v : Option Value} {post : Option Value → va_W → Prop}
theorem Ct.toA (h : Ct l D cI cB cS y b n ret fr lo As ws v ws') : CtA l D cI cB cS y b n ret fr lo 0 0 As ws (fun v' w => v' = v ∧ w = ws') := by
  intro sz
  refine MetFree.mono (h sz) (fun _ _ h => h) (fun _ _ _ _ _ h => h) ?_
  intro a s o t _ ⟨⟨⟨e1, e2, e3⟩, e4⟩, hL⟩
  exact ⟨⟨⟨v, ws', e1, ⟨rfl, rfl⟩, e2, e3⟩, e4⟩, hL⟩
theorem CtA.weaken {post' : Option Value → va_W → Prop} (h : CtA l D cI cB cS y b n ret fr lo mc ms As ws post) (hp : ∀ v w, post v w → post' v w) : CtA l D cI cB cS y b n ret fr lo mc ms As ws post' := by
  intro sz
  refine MetFree.mono (h sz) (fun _ _ h => h) (fun _ _ _ _ _ h => h) ?_
  intro a s o t _ ⟨⟨⟨v, ws', e1, e2, e3, e4⟩, e5⟩, hL⟩
  exact ⟨⟨⟨v, ws', e1, hp _ _ e2, e3, e4⟩, e5⟩, hL⟩
/-- THE FRAME: cells beside a method's world stay -/
theorem CtA.frame (h : CtA l D cI cB cS y b n ret fr lo mc ms As ws post) (wr : va_W) : CtA l D cI cB cS y b n ret fr lo mc ms As (wr ++ ws) (fun v w => ∃ w1, w = wr ++ w1 ∧ post v w1) := by
  intro sz
  refine MetFree.mono (h sz) ?_ (fun _ _ _ _ _ h => h) ?_
  · intro a s ⟨h1, h2, h3, h4, h5⟩
    refine ⟨h1, h2, va_P_mem.mpr (fun q hq => va_P_mem.mp h3 q (List.mem_append_right _ hq)), h4, va_D_nd.mpr ⟨?_, fun _ _ => trivial⟩⟩
    have := (va_D_nd.mp h5).1
    rw [List.map_append, List.nodup_append] at this
    exact this.2.1
  · intro a s o t ⟨h1, h2, h3, h4, h5⟩ ⟨⟨⟨v, ws', e1, e2, e3, e4⟩, e5⟩, L, f1, f2⟩
    have hn := (va_D_nd.mp h5).1
    rw [List.map_append, List.nodup_append] at hn
    have hin : ∀ q, va_A ws sz q → va_A (wr ++ ws) sz q := by
      intro q hq
      rcases hq with ⟨k, e, hq⟩ | hq
      · obtain ⟨k2, hk2⟩ := List.getElem?_of_mem (List.mem_append_right wr (List.mem_of_getElem? hq))
        exact Or.inl ⟨k2, e, hk2⟩
      · exact Or.inr hq
    have hap : ∀ q ∈ wr, q.1 < s.heap.size ∧ ¬ va_A ws sz q.1 := by
      intro q hq
      have hlt := (va_P_mem.mp h3 q (List.mem_append_left _ hq)).lt
      refine ⟨hlt, fun hz => ?_⟩
      rcases hz with ⟨k, e, hz⟩ | hz
      · exact hn.2.2 q.1 (List.mem_map_of_mem hq) q.1 (List.mem_map.mpr ⟨(q.1, e), List.mem_of_getElem? hz, rfl⟩) rfl
      · omega
    refine ⟨⟨⟨v, wr ++ ws', e1, ⟨ws', rfl, e2⟩, ?_, ?_⟩, e5.1, fun q hq hz => e5.2 q hq (fun h => hz (hin q h))⟩, L, f1, fun q hq => hin _ (f2 q hq)⟩
    · refine va_P_mem.mpr fun q hq => ?_
      rcases List.mem_append.mp hq with hq | hq
      · exact (va_P_mem.mp h3 q (List.mem_append_left _ hq)).kept (e5.2 q.1 (hap q hq).1 (hap q hq).2)
      · exact va_P_mem.mp e3 q hq
    · have hd := va_D_nd.mp e4
      refine va_D_nd.mpr ⟨?_, fun q hq => ?_⟩
      · rw [List.map_append, List.nodup_append]
        refine ⟨hn.1, hd.1, fun x hx z hz => ?_⟩
        obtain ⟨q, hq, rfl⟩ := List.mem_map.mp hx
        obtain ⟨q2, hq2, rfl⟩ := List.mem_map.mp hz
        intro e
        exact (hap q hq).2 (by rw [e]; exact hd.2 q2 hq2)
      · rcases List.mem_append.mp hq with hq | hq
        · obtain ⟨k2, hk2⟩ := List.getElem?_of_mem (List.mem_append_left ws hq)
          exact Or.inl ⟨k2, q.2, hk2⟩
        · exact hin _ (hd.2 q hq)
end FRAME
section CTA
variable {p : Program} {l : Launch} {e : Env} {R : Room} {s : State} {m : MethodId} {args : Array Value} {below : List Frame} {meth : Method} {c : Code} {H : Heap} {locs : List Loc} {cells slots : Nat} {Q : State → Prop}
  {cc : ByteArray} {pc nL : Nat} {ls : Array Slot} {rest : List Value} {D : va_G} {A : Nat → Prop} {H0 : Heap} {cI cB cS : ClassId} {own : String}
theorem CtA.ofW {y : MethodName} {b : ByteArray} {n : Nat} {ret : Option FieldType} {fr lo mc ms : Nat} {As : List Value} {ws : va_W} {post : Option Value → va_W → Prop} (hy : plainName y.cls = true) (hn : (lg_sl As).length ≤ n)
    (body : ∀ p e s m args below meth c (ls : Array Slot), cx p c b n s args m y.cls D cI cB cS → meth.sig.returnType = ret → meth.locks = false → meth.name = y.name → wd D (va_A ws s.heap.size) s.heap ws s.heap [] → lv_has ls n (lv_args 0 As) →
      W p l e { frames := fr, cells := mc, slots := ms, locals := lo } s m args below meth c s.heap [] 0 0 (QtA D below args s mc ms ws post) (F0 m 0 ls [])) : CtA l D cI cB cS y b n ret fr lo mc ms As ws post := by
  intro sz
  refine Met.ofW (cc := b) (maxL := n) (ret := ret) hy rfl ?_
  intro p e s m args below meth c s₁ B hml hv
  obtain ⟨rfl, hsz, hP, hK, hD0⟩ := hv
  have hts := atoms_spec (ws := .code y b n ret :: lw_g) B.pre
  have hown : s.vm.findClass y.cls = some m.cls := findClass_of_methodNamed B.named
  subst hsz
  have hD := hD0.self (sz := s.heap.size)
  have hl := lv_entry As (n := n) hn
  rw [lg_entry_eq]
  exact body p e s m As.toArray below meth c _ ⟨B.exec, B.bytes, hml, hown, fun w h => hts w (List.mem_cons_of_mem _ h), hK⟩ B.returns B.notSynchronized (name_of_methodNamed B.named B.method).1 ⟨hP, hD, va_S.rf⟩ hl
theorem qtA_v {ws ws' : va_W} {mc ms : Nat} {post : Option Value → va_W → Prop} (C : cx p c cc nL s args m own D cI cB cS) (hr : meth.sig.returnType = none) (hlocks : meth.locks = false) (hw : wd D (va_A ws s.heap.size) s.heap ws' H locs) (hp : post none ws') (hdg : decode cc pc = .ok (.return_, 1)) :
    W p l e R s m args below meth c H locs mc ms (QtA D below args s mc ms ws post) (F0 m pc ls []) :=
  W.vret C.1 C.2.1 hr (fun t ht _ => ⟨⟨none, ws', rfl, hp, by rw [ht]; exact hw.1, hw.2.1⟩, hw.2.2.F ht⟩) hw.2.2.2.2 hdg hlocks
theorem qtA_i {ws ws' : va_W} {mc ms : Nat} {r : Int32} {post : Option Value → va_W → Prop} (C : cx p c cc nL s args m own D cI cB cS) (hr : meth.sig.returnType = some .int) (hlocks : meth.locks = false) (hw : wd D (va_A ws s.heap.size) s.heap ws' H locs) (hp : post (some (.int r)) ws') (hdg : decode cc pc = .ok (.ireturn, 1)) :
    W p l e R s m args below meth c H locs mc ms (QtA D below args s mc ms ws post) (F0 m pc ls [.int r]) :=
  W.iret (v := r) C.1 C.2.1 hr (fun t ht _ => ⟨⟨some (.int r), ws', rfl, hp, by rw [ht]; exact hw.1, hw.2.1⟩, hw.2.2.F ht⟩) hw.2.2.2.2 hdg hlocks
theorem qtA_a {ws ws' : va_W} {mc ms : Nat} {r : Nat} {nm : String} {post : Option Value → va_W → Prop} (C : cx p c cc nL s args m own D cI cB cS) (hr : meth.sig.returnType = some (.object nm)) (hlocks : meth.locks = false) (hw : wd D (va_A ws s.heap.size) s.heap ws' H locs) (hp : post (some (.ref r)) ws') (hdg : decode cc pc = .ok (.areturn, 1)) :
    W p l e R s m args below meth c H locs mc ms (QtA D below args s mc ms ws post) (F0 m pc ls [.ref r]) :=
  W.aret (v := .ref r) C.1 C.2.1 hr (Or.inl ⟨nm, rfl⟩) (Or.inr ⟨r, rfl⟩) (fun t ht _ => ⟨⟨some (.ref r), ws', rfl, hp, by rw [ht]; exact hw.1, hw.2.1⟩, hw.2.2.F ht⟩) hw.2.2.2.2 hdg hlocks
theorem ctA_run {ws : va_W} {mc ms : Nat} {post : Option Value → va_W → Prop} {st0 : List Value} (hr : va_Run p l e R s m args below meth c H locs cells slots mc ms (F0 m pc ls st0) rest (fun st oc t => (∃ v ws', oc = .returned v ∧ post v ws' ∧ va_P D vwCl ws' t.heap ∧ va_D (va_A ws H.size) ws') ∧ va_F (va_A ws H.size) st t) (va_A ws H.size)) (hw : wd D A H0 ws H locs) (hA : ∀ q, H0.size ≤ q → A q)
    (kk : ∀ (v : Option Value) (ws' : va_W) (H1 : Heap) (locs1 : List Loc), post v ws' → wd D A H0 ws' H1 locs1 → W p l e R s m args below meth c H1 locs1 (cells + mc) (slots + ms) Q (F0 m (pc + 3) ls (v.toList ++ rest))) : W p l e R s m args below meth c H locs cells slots Q (F0 m pc ls st0) := by
  have hF : ∀ q, va_A ws H.size q → A q := by
    intro q h
    rcases h with ⟨k, e, h⟩ | h
    · exact hw.2.1.2 k _ h
    · exact hA q (Nat.le_trans hw.2.2.1 h)
  intro T hT X
  obtain ⟨v', st₀, t, T', L, h0, X', hL, e1, e2, ⟨⟨v, ws', hv, hpo, hp, hd⟩, hz, hk⟩, st⟩ := hr T hT X
  cases hv
  rw [h0] at hz hk
  obtain ⟨t2, a1, b1⟩ := kk _ ws' T'.heap (locs ++ L) hpo ⟨by rw [e1]; exact hp, hd.weaken (fun k q _ h => hF q.1 h), Nat.le_trans hw.2.2.1 (by rw [e1]; exact hz), fun q h1 h2 => by rw [e1, hk q (Nat.lt_of_lt_of_le h1 hw.2.2.1) (fun z => h2 (hF q z))]; exact hw.2.2.2.1 q h1 h2, fun q hq => by
      rcases List.mem_append.mp hq with h | h
      · exact hw.2.2.2.2 q h
      · exact hF _ (hL q h)⟩ T' rfl X'
  exact ⟨t2, st t2 a1, b1⟩
theorem ctA_V {y : MethodName} {b : ByteArray} {n k idx mc ms : Nat} {ret : Option FieldType} {fr lo : Nat} {As : List Value} {a : Nat} {ws : va_W} {post : Option Value → va_W → Prop} {st0 : List Value} {q0 ci : Nat} {q : vw_C} {fs : List Value}
    (C : cx p c cc nL s args m own D cI cB cS) (hw : wd D A H0 ws H locs) (hA : ∀ q, H0.size ≤ q → A q) (hM : CtA l D cI cB cS y b n ret fr lo mc ms (.ref a :: As) ws post) (F : cf y b n ret k) (hl : Cond.methodLink own idx y ∈ lw_g) (hi : Cond.instanceMethod y ∈ lw_g) (hs : Cond.selects y.cls y y ∈ lw_g)
    (hR : fr + 1 ≤ R.frames ∧ 8 + (n + 11) + lo ≤ R.locals) (hf : cells + mc ≤ R.cells ∧ slots + ms ≤ R.slots) (hk : As.length = k) (hc : vwCl[ci]? = some q) (hq : q.1 = y.cls) (he : ws[q0]? = some (a, .inr (ci, fs))) (hsz : ls.size = nL) (hst : st0 = As.reverse ++ .ref a :: rest) (hW : (rest.map fun v => v.category).sum ≤ 8) (hdg : decode cc pc = .ok (.invokevirtual idx, 3))
    (kk : ∀ (v : Option Value) (ws' : va_W) (H1 : Heap) (locs1 : List Loc), post v ws' → wd D A H0 ws' H1 locs1 → W p l e R s m args below meth c H1 locs1 (cells + mc) (slots + ms) Q (F0 m (pc + 3) ls (v.toList ++ rest))) : W p l e R s m args below meth c H locs cells slots Q (F0 m pc ls st0) := by
  obtain ⟨hx, hb, hml, hown, hts, hK⟩ := C
  have hG : GoodIn lw_g (wsV own idx y.cls y (.code y b n ret :: lw_g)) := app_good (by simp only [List.mem_cons, List.not_mem_nil, or_false]; rintro w (rfl | rfl | rfl | rfl) <;> first | exact hl | exact hi | exact hs | exact F.2.2) (wl_good F.1)
  have hrc := va_recv hK.1 hw.1 hc he
  rw [hq] at hrc
  subst hst
  exact ctA_run (va_runV (As := As) (rest := rest) ⟨hx, hb, hml, hown, hts⟩ (hM H.size) (cwV k hts hG rfl rfl rfl ⟨rfl, F.2.1⟩ hR) ⟨fb_Pc, hrc, fun U hU hWm => ⟨rfl, by rw [hU], by rw [hU]; exact hw.1, gK.moved hWm hK, hw.2.1.weaken (fun _ _ _ _ => trivial)⟩⟩ rfl hk hsz rfl (lv_room hW) hdg hf) hw hA kk
theorem ctA_S {y : MethodName} {b : ByteArray} {n k idx mc ms : Nat} {ret : Option FieldType} {fr lo : Nat} {As : List Value} {ws : va_W} {post : Option Value → va_W → Prop} {st0 : List Value}
    (C : cx p c cc nL s args m own D cI cB cS) (hw : wd D A H0 ws H locs) (hA : ∀ q, H0.size ≤ q → A q) (hM : CtA l D cI cB cS y b n ret fr lo mc ms As ws post) (F : cf y b n ret k) (hl : Cond.methodLink own idx y ∈ lw_g) (hs : Cond.static y ∈ lw_g)
    (hR : fr + 1 ≤ R.frames ∧ 8 + (n + 11) + lo ≤ R.locals) (hf : cells + mc ≤ R.cells ∧ slots + ms ≤ R.slots) (hk : As.length = k) (hsz : ls.size = nL) (hst : st0 = As.reverse ++ rest) (hW : (rest.map fun v => v.category).sum ≤ 8) (hdg : decode cc pc = .ok (.invokestatic idx, 3))
    (kk : ∀ (v : Option Value) (ws' : va_W) (H1 : Heap) (locs1 : List Loc), post v ws' → wd D A H0 ws' H1 locs1 → W p l e R s m args below meth c H1 locs1 (cells + mc) (slots + ms) Q (F0 m (pc + 3) ls (v.toList ++ rest))) : W p l e R s m args below meth c H locs cells slots Q (F0 m pc ls st0) := by
  obtain ⟨hx, hb, hml, hown, hts, hK⟩ := C
  have hG : GoodIn lw_g (va_wsS own idx y (.code y b n ret :: lw_g)) := app_good (by simp only [List.mem_cons, List.not_mem_nil, or_false]; rintro w (rfl | rfl | rfl) <;> first | exact hl | exact hs | exact F.2.2) (wl_good F.1)
  subst hst
  exact ctA_run (va_runS (As := As) (rest := rest) ⟨hx, hb, hml, hown, hts⟩ (hM H.size) (va_cwS k hts hG rfl rfl rfl F.2.1 hR) ⟨fb_Pc, fun U hU hWm => ⟨rfl, by rw [hU], by rw [hU]; exact hw.1, gK.moved hWm hK, hw.2.1.weaken (fun _ _ _ _ => trivial)⟩⟩ rfl hk hsz rfl (lv_room hW) hdg hf) hw hA kk
theorem ctA_I {y : MethodName} {b : ByteArray} {n k idx mc ms : Nat} {fr lo : Nat} {As : List Value} {a : Nat} {ws : va_W} {post : Option Value → va_W → Prop} {st0 : List Value}
    (C : cx p c cc nL s args m own D cI cB cS) (hw : wd D A H0 ws H locs) (hA : ∀ q, H0.size ≤ q → A q) (hM : CtA l D cI cB cS y b n none fr lo mc ms (.ref a :: As) ws post) (F : cf y b n none k) (hl : Cond.methodLink own idx y ∈ lw_g) (hi : Cond.instanceMethod y ∈ lw_g) (hy : y.name = "<init>")
    (hR : fr + 1 ≤ R.frames ∧ 8 + (n + 11) + lo ≤ R.locals) (hf : cells + mc ≤ R.cells ∧ slots + ms ≤ R.slots) (hk : As.length = k) (hsz : ls.size = nL) (hst : st0 = As.reverse ++ .ref a :: rest) (hW : (rest.map fun v => v.category).sum ≤ 8) (hdg : decode cc pc = .ok (.invokespecial idx, 3))
    (kk : ∀ (v : Option Value) (ws' : va_W) (H1 : Heap) (locs1 : List Loc), post v ws' → wd D A H0 ws' H1 locs1 → W p l e R s m args below meth c H1 locs1 (cells + mc) (slots + ms) Q (F0 m (pc + 3) ls (v.toList ++ rest))) : W p l e R s m args below meth c H locs cells slots Q (F0 m pc ls st0) := by
  obtain ⟨hx, hb, hml, hown, hts, hK⟩ := C
  subst hst
  exact ctA_run (va_runI (As := As) (rest := rest) ⟨hx, hb, hml, hown, hts⟩ (hM H.size) (cwI k hts (wl_good F.1) rfl rfl rfl (hts _ F.2.2) (hts _ hl) (hts _ hi) hy F.2.1 hR) ⟨fb_Pc, fun U hU hWm => ⟨rfl, by rw [hU], by rw [hU]; exact hw.1, gK.moved hWm hK, hw.2.1.weaken (fun _ _ _ _ => trivial)⟩⟩ rfl hk hsz rfl (lv_room hW) hdg hf) hw hA kk
theorem ctA_IN {y : MethodName} {b : ByteArray} {n k idx mc ms : Nat} {host : String} {fr lo : Nat} {As : List Value} {a : Nat} {ws : va_W} {post : Option Value → va_W → Prop} {st0 : List Value}
    (C : cx p c cc nL s args m own D cI cB cS) (hw : wd D A H0 ws H locs) (hA : ∀ q, H0.size ≤ q → A q) (hM : CtA l D cI cB cS y b n none fr lo mc ms (.ref a :: As) ws post) (F : cf y b n none k) (hl : Cond.methodLinkNest own idx y host ∈ nestL) (hi : Cond.instanceMethod y ∈ lw_g) (hy : y.name = "<init>")
    (hR : fr + 1 ≤ R.frames ∧ 8 + (n + 11) + lo ≤ R.locals) (hf : cells + mc ≤ R.cells ∧ slots + ms ≤ R.slots) (hk : As.length = k) (hsz : ls.size = nL) (hst : st0 = As.reverse ++ .ref a :: rest) (hW : (rest.map fun v => v.category).sum ≤ 8) (hdg : decode cc pc = .ok (.invokespecial idx, 3))
    (kk : ∀ (v : Option Value) (ws' : va_W) (H1 : Heap) (locs1 : List Loc), post v ws' → wd D A H0 ws' H1 locs1 → W p l e R s m args below meth c H1 locs1 (cells + mc) (slots + ms) Q (F0 m (pc + 3) ls (v.toList ++ rest))) : W p l e R s m args below meth c H locs cells slots Q (F0 m pc ls st0) := by
  obtain ⟨hx, hb, hml, hown, hts, hK⟩ := C
  subst hst
  exact ctA_run (va_runIN (As := As) (rest := rest) ⟨hx, hb, hml, hown, hts⟩ (hM H.size) ⟨va_cnB k hts (wl_good F.1) rfl rfl rfl (hK.2.1 _ hl) (hts _ F.2.2) F.2.1 hR, hy, hts _ hi⟩ ⟨fb_Pc, fun U hU hWm => ⟨rfl, by rw [hU], by rw [hU]; exact hw.1, gK.moved hWm hK, hw.2.1.weaken (fun _ _ _ _ => trivial)⟩⟩ rfl hk hsz rfl (lv_room hW) hdg hf) hw hA kk
/-- a new row of ints -/
theorem c_newI {ws : va_W} {N : Nat} {z : Int32} (C : cx p c cc nL s args m own D cI cB cS) (hw : wd D A H0 ws H locs) (hA : ∀ q, H0.size ≤ q → A q) (hz : ¬ z < 0) (hN : z.toNatClampNeg = N) (hsm : N ≤ 1000) (hcells : cells + 1 ≤ R.cells) (hslots : slots + N ≤ R.slots) (hdg : decode cc pc = .ok (.newarray .int, 2))
    (kk : ∀ (q : Nat) (H1 : Heap), wd D A H0 (ws ++ [(q, .inl (cI, N, .inl (fun _ => 0)))]) H1 locs → W p l e R s m args below meth c H1 locs (cells + 1) (slots + N) Q (F0 m (pc + 2) ls (.ref q :: rest))) : W p l e R s m args below meth c H locs cells slots Q (F0 m pc ls (.int z :: rest)) := by
  refine va_newa (atype := .int) (a0 := (N, .inl (fun _ => 0))) (ty := .int) C.1 C.2.1 (C.2.2.2.2.1 _ tg_40) rfl C.2.2.2.2.2.1 hw.1 hw.2.1 hw.2.2 hA (fun cA => rfl) hz hN (by show N * 4 ≤ _; omega) hcells hslots hdg (fun q cA H1 k1 k2 k3 k4 => ?_)
  have e1 : s.vm.findClass ("[" ++ FieldType.int.toString) = some cA := (k1.2 3 (cA, .int) rfl).2
  have e2 : s.vm.findClass ("[" ++ FieldType.int.toString) = some cI := (C.2.2.2.2.2.1.2 0 (cI, .int) rfl).2
  have e3 : cA = cI := Option.some.inj (e1.symm.trans e2)
  subst e3
  exact kk q H1 ⟨k2, k3, k4⟩
end CTA
