section SUP
variable {p : Program} {l : Launch} {e : Env} {R : Room} {s : State} {m : MethodId} {args : Array Value} {below : List Frame} {meth : Method} {c : Code} {H : Heap} {locs : List Loc} {cells slots : Nat} {Q : State → Prop}
  {cc : ByteArray} {pc nL : Nat} {ls : Array Slot} {rest : List Value} {D : va_G} {A : Nat → Prop} {H0 : Heap} {cI cB cS : ClassId} {own : String} {n : Nat} {ad : Nat → Nat} {bf : Nat → Option Nat} {S : MS}
theorem cb_super {b : Nat} (hk : ¬ S 20 b = 0 ∧ ¬ S 20 b = 1) (hb : b < n) (C : cx p c cc nL s args m RX4 D cI cB cS) (hw : wd D A H0 (cW cI cB cS n ad bf S) H locs) (hA : ∀ q, H0.size ≤ q → A q) (hcg : bok n ad bf) (hR : 3 ≤ R.frames ∧ 63 ≤ R.locals) (hf : cells ≤ R.cells ∧ slots ≤ R.slots) (hsz : ls.size = nL) (hW : (rest.map fun v => v.category).sum ≤ 8) (hdg : decode cc pc = .ok (.invokespecial 22, 3))
    (kk : ∀ (H1 : Heap) (locs1 : List Loc), wd D A H0 (cW cI cB cS n ad bf (fX3_telling n b S).2) H1 locs1 → W p l e R s m args below meth c H1 locs1 cells slots Q (F0 m (pc + 3) ls (.int (fX3_telling n b S).1 :: rest))) : W p l e R s m args below meth c H locs cells slots Q (F0 m pc ls (.ref (ad 10) :: .ref (ad (30 + b)) :: rest)) := by
  rcases kcls_c (S 20 b) with ⟨h0, hc⟩ | ⟨h0, hc⟩ | ⟨h0, h1, hc⟩
  · exact absurd h0 hk.1
  · exact absurd h0 hk.2
  · exact ct_SU (As := [.ref (ad 10)]) (y := yX3_telling) (q0 := 22 + b) (ci := 4) (q := (RX4, TX4, 4)) C hw hA (kX3_telling l D cI cB cS n ad bf hcg hb S hk.1) cfX3_telling tg_598 tg_989 tg_264 tg_580 ⟨by decide, by decide +kernel⟩ ⟨by omega, by omega⟩ hf rfl rfl (by rw [cW_b hb, hc]) hsz rfl hW hdg kk
end SUP
