def vtell (n b : Nat) (S : MS) : Int32 × MS := if S 20 b = 0 then fX1_telling n b S else if S 20 b = 1 then fX3_telling n b S else fX4_telling n b S
section VT
variable {p : Program} {l : Launch} {e : Env} {R : Room} {s : State} {m : MethodId} {args : Array Value} {below : List Frame} {meth : Method} {c : Code} {H : Heap} {locs : List Loc} {cells slots : Nat} {Q : State → Prop}
  {cc : ByteArray} {pc nL : Nat} {ls : Array Slot} {rest : List Value} {D : va_G} {A : Nat → Prop} {H0 : Heap} {cI cB cS : ClassId} {own : String} {n : Nat} {ad : Nat → Nat} {bf : Nat → Option Nat} {S : MS}
theorem cb_vtell {b idx : Nat} (hb : b < n) (C : cx p c cc nL s args m own D cI cB cS) (hw : wd D A H0 (cW cI cB cS n ad bf S) H locs) (hA : ∀ q, H0.size ≤ q → A q) (hcg : bok n ad bf) (hl : Cond.methodLink own idx yX1_telling ∈ lw_g) (hR : 4 ≤ R.frames ∧ 85 ≤ R.locals) (hf : cells ≤ R.cells ∧ slots ≤ R.slots) (hsz : ls.size = nL) (hW : (rest.map fun v => v.category).sum ≤ 8) (hdg : decode cc pc = .ok (.invokevirtual idx, 3))
    (kk : ∀ (H1 : Heap) (locs1 : List Loc), wd D A H0 (cW cI cB cS n ad bf (vtell n b S).2) H1 locs1 → W p l e R s m args below meth c H1 locs1 cells slots Q (F0 m (pc + 3) ls (.int (vtell n b S).1 :: rest))) : W p l e R s m args below meth c H locs cells slots Q (F0 m pc ls (.ref (ad 10) :: .ref (ad (30 + b)) :: rest)) := by
  rcases kcls_c (S 20 b) with ⟨h0, hc⟩ | ⟨h0, hc⟩ | ⟨h0, h1, hc⟩
  · rw [vtell, if_pos h0] at kk
    exact ct_V1 (As := [.ref (ad 10)]) (q0 := 22 + b) (ci := 1) C hw hA (kX1_telling l D cI cB cS n ad bf hcg hb S h0) cfX1_telling hl tg_576 tg_577 ⟨by omega, by omega⟩ hf rfl rfl rfl (by rw [cW_b hb, hc]) hsz rfl hW hdg kk
  · rw [vtell, if_neg (show ¬ S 20 b = 0 by rw [h0]; decide), if_pos h0] at kk
    exact ct_O (As := [.ref (ad 10)]) (owner := "DeafAuction$Buyer") (x := yX1_telling) (y := yX3_telling) (q0 := 22 + b) (ci := 3) (q := (RX3, TX3, 4)) C hw hA (kX3_telling l D cI cB cS n ad bf hcg hb S (show ¬ S 20 b = 0 by rw [h0]; decide)) cfX3_telling hl tg_578 tg_576 tg_579 tg_580 tg_602 ⟨by decide, by decide, by decide +kernel⟩ ⟨by omega, by omega⟩ hf rfl rfl (by rw [cW_b hb, hc]) hsz rfl hW hdg kk
  · rw [vtell, if_neg h0, if_neg h1] at kk
    exact ct_O (As := [.ref (ad 10)]) (owner := "DeafAuction$Buyer") (x := yX1_telling) (y := yX4_telling) (q0 := 22 + b) (ci := 4) (q := (RX4, TX4, 4)) C hw hA (kX4_telling l D cI cB cS n ad bf hcg hb S ⟨h0, h1⟩) cfX4_telling hl tg_578 tg_576 tg_594 tg_595 tg_602 ⟨by decide, by decide, by decide +kernel⟩ ⟨by omega, by omega⟩ hf rfl rfl (by rw [cW_b hb, hc]) hsz rfl hW hdg kk
end VT
