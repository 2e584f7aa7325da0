/-! the buyers' own methods, by kind -/
def fX8_sheetOf (p1 : Int32) : Option Nat := if fX8_isBelow p1 4 = 0 then none else some p1.toNatClampNeg
def fX5_buyerOf (n : Nat) (p1 : Int32) : Option Nat := if fX8_isBelow p1 (nI n) = 0 then none else if 6 ≤ p1 then none else some p1.toNatClampNeg
theorem isBelow_ne {a b : Int32} (h : ¬ fX8_isBelow a b = 0) : ¬ a < 0 ∧ a < b := by
  unfold fX8_isBelow at h
  by_cases h1 : a < 0
  · rw [if_pos h1] at h; exact absurd rfl h
  · rw [if_neg h1] at h
    by_cases h2 : b ≤ a
    · rw [if_pos h2] at h; exact absurd rfl h
    · exact ⟨h1, Int32.not_le.mp h2⟩
theorem below_nat {a : Int32} {n : Nat} (hn : n < 2 ^ 31) (h : ¬ a < 0 ∧ a < nI n) : ∃ j, j < n ∧ a = nI j := by
  obtain ⟨j, hj, rfl⟩ := nI_of h.1
  exact ⟨j, (nI_ltI hj hn).mp h.2, rfl⟩
theorem sheetOf_lt {a : Int32} {j : Nat} (h : fX8_sheetOf a = some j) : j < 4 := by
  unfold fX8_sheetOf at h
  by_cases h0 : fX8_isBelow a 4 = 0
  · rw [if_pos h0] at h; cases h
  · rw [if_neg h0] at h
    obtain ⟨i, hi, rfl⟩ := below_nat (n := 4) (by decide) (isBelow_ne h0)
    rw [nI_clamp (by omega)] at h
    cases h; exact hi
theorem buyerOf_lt {n : Nat} (hn : n ≤ 6) {a : Int32} {j : Nat} (h : fX5_buyerOf n a = some j) : j < n := by
  unfold fX5_buyerOf at h
  by_cases h0 : fX8_isBelow a (nI n) = 0
  · rw [if_pos h0] at h; cases h
  · rw [if_neg h0] at h
    obtain ⟨i, hi, rfl⟩ := below_nat (n := n) (by omega) (isBelow_ne h0)
    by_cases h6 : (6 : Int32) ≤ nI i
    · rw [if_pos h6] at h; cases h
    · rw [if_neg h6, nI_clamp (by omega)] at h
      cases h; exact hi
theorem gd_nI {α : Type} {j n : Nat} (h : j < n) (hn : n < 2 ^ 31) (a : Option α) : gd (nI j) n a = a := by
  unfold gd
  rw [nI_toInt (by omega), if_pos (by omega)]
theorem sheetOf_raw (n : Nat) (a : Int32) (M : MS) : fX8_sheetOf_raw n a M = some (fX8_sheetOf a) := by
  unfold fX8_sheetOf_raw fX8_sheetOf
  by_cases h0 : fX8_isBelow a 4 = 0
  · rw [if_pos h0, if_pos h0]
  · rw [if_neg h0, if_neg h0]
    obtain ⟨i, hi, rfl⟩ := below_nat (n := 4) (by decide) (isBelow_ne h0)
    rw [gd_nI hi (by decide)]
theorem buyerOf_raw {n : Nat} (hn : n ≤ 6) (a : Int32) (M : MS) : fX5_buyerOf_raw n a M = some (fX5_buyerOf n a) := by
  unfold fX5_buyerOf_raw fX5_buyerOf
  by_cases h0 : fX8_isBelow a (nI n) = 0
  · rw [if_pos h0, if_pos h0]
  · rw [if_neg h0, if_neg h0]
    obtain ⟨i, hi, rfl⟩ := below_nat (n := n) (by omega) (isBelow_ne h0)
    by_cases h6 : (6 : Int32) ≤ nI i
    · rw [if_pos h6, if_pos h6]
    · rw [if_neg h6, if_neg h6]
      unfold gb
      rw [nI_toInt (by omega), nI_clamp (by omega), if_pos (by omega)]
theorem kX8_sheetOf (l : Launch) (D : va_G) (cI cB cS : ClassId) (n : Nat) (ad : Nat → Nat) (bf : Nat → Option Nat) (hcg : bok n ad bf) (p1 : Int32) (M : MS) : Ct l D cI cB cS yX8_sheetOf cX8_sheetOf 2 (some (.object "DeafAuction$Sheet")) 1 21 [.ref (ad 0), .int p1] (cW cI cB cS n ad bf M) (some (va_rf ((fX8_sheetOf p1).map fun j => ad (2 + j)))) (cW cI cB cS n ad bf M) := kX8_sheetOf_raw l D cI cB cS n ad bf hcg (sheetOf_raw _ _ _)
theorem kX5_buyerOf (l : Launch) (D : va_G) (cI cB cS : ClassId) (n : Nat) (ad : Nat → Nat) (bf : Nat → Option Nat) (hcg : bok n ad bf) (p1 : Int32) (M : MS) : Ct l D cI cB cS yX5_buyerOf cX5_buyerOf 2 (some (.object "DeafAuction$Buyer")) 1 21 [.ref (ad 11), .int p1] (cW cI cB cS n ad bf M) (some (va_rf ((fX5_buyerOf n p1).map fun j => ad (30 + j)))) (cW cI cB cS n ad bf M) := kX5_buyerOf_raw l D cI cB cS n ad bf hcg (buyerOf_raw hcg.1 _ _)
def vkind (k : Int32) : Int32 := if k = 0 then fX1_kind else if k = 1 then fX3_kind else fX4_kind
def vhat (k : Int32) : Int32 := if k = 0 then fX1_wearsHat else if k = 1 then fX3_wearsHat else fX3_wearsHat
def vlim (k v u : Int32) : Int32 := if k = 0 then fX1_limitBy v u else if k = 1 then fX1_limitBy v u else fX4_limitBy v u
def vnod (n b : Nat) (S : MS) : Int32 × MS := if S 20 b = 0 then fX1_nodding n b S else if S 20 b = 1 then fX1_nodding n b S else fX4_nodding n b S
section VIRT
variable {p : Program} {l : Launch} {e : Env} {R : Room} {s : State} {m : MethodId} {args : Array Value} {below : List Frame} {meth : Method} {c : Code} {H : Heap} {locs : List Loc} {cells slots : Nat} {Q : State → Prop}
  {cc : ByteArray} {pc nL : Nat} {ls : Array Slot} {rest : List Value} {D : va_G} {A : Nat → Prop} {H0 : Heap} {cI cB cS : ClassId} {own : String} {n : Nat} {ad : Nat → Nat} {bf : Nat → Option Nat} {S : MS}
theorem cb_vkind {b idx : Nat} (hb : b < n) (C : cx p c cc nL s args m own D cI cB cS) (hw : wd D A H0 (cW cI cB cS n ad bf S) H locs) (hA : ∀ q, H0.size ≤ q → A q) (hl : Cond.methodLink own idx yX1_kind ∈ lw_g) (hR : 1 ≤ R.frames ∧ 20 ≤ R.locals) (hf : cells ≤ R.cells ∧ slots ≤ R.slots) (hsz : ls.size = nL) (hW : (rest.map fun v => v.category).sum ≤ 8) (hdg : decode cc pc = .ok (.invokevirtual idx, 3))
    (kk : ∀ (H1 : Heap) (locs1 : List Loc), wd D A H0 (cW cI cB cS n ad bf S) H1 locs1 → W p l e R s m args below meth c H1 locs1 cells slots Q (F0 m (pc + 3) ls (.int (vkind (S 20 b)) :: rest))) : W p l e R s m args below meth c H locs cells slots Q (F0 m pc ls (.ref (ad (30 + b)) :: rest)) := by
  rcases kcls_c (S 20 b) with ⟨h0, hc⟩ | ⟨h0, hc⟩ | ⟨h0, h1, hc⟩
  · rw [vkind, if_pos h0] at kk
    exact ct_V1 (As := []) (q0 := 22 + b) (ci := 1) C hw hA (kX1_kind l D cI cB cS _ _) cfX1_kind hl tg_299 tg_300 ⟨by omega, by omega⟩ hf rfl rfl rfl (by rw [cW_b hb, hc]) hsz rfl hW hdg kk
  · rw [vkind, if_neg (show ¬ S 20 b = 0 by rw [h0]; decide), if_pos h0] at kk
    exact ct_O (As := []) (owner := "DeafAuction$Buyer") (x := yX1_kind) (y := yX3_kind) (q0 := 22 + b) (ci := 3) (q := (RX3, TX3, 4)) C hw hA (kX3_kind l D cI cB cS _ _) cfX3_kind hl tg_301 tg_299 tg_302 tg_303 tg_308 ⟨by decide, by decide, by decide +kernel⟩ ⟨by omega, by omega⟩ hf rfl rfl (by rw [cW_b hb, hc]) hsz rfl hW hdg kk
  · rw [vkind, if_neg h0, if_neg h1] at kk
    exact ct_O (As := []) (owner := "DeafAuction$Buyer") (x := yX1_kind) (y := yX4_kind) (q0 := 22 + b) (ci := 4) (q := (RX4, TX4, 4)) C hw hA (kX4_kind l D cI cB cS _ _) cfX4_kind hl tg_301 tg_299 tg_305 tg_306 tg_308 ⟨by decide, by decide, by decide +kernel⟩ ⟨by omega, by omega⟩ hf rfl rfl (by rw [cW_b hb, hc]) hsz rfl hW hdg kk
theorem cb_vhat {b idx : Nat} (hb : b < n) (C : cx p c cc nL s args m own D cI cB cS) (hw : wd D A H0 (cW cI cB cS n ad bf S) H locs) (hA : ∀ q, H0.size ≤ q → A q) (hl : Cond.methodLink own idx yX1_wearsHat ∈ lw_g) (hR : 1 ≤ R.frames ∧ 20 ≤ R.locals) (hf : cells ≤ R.cells ∧ slots ≤ R.slots) (hsz : ls.size = nL) (hW : (rest.map fun v => v.category).sum ≤ 8) (hdg : decode cc pc = .ok (.invokevirtual idx, 3))
    (kk : ∀ (H1 : Heap) (locs1 : List Loc), wd D A H0 (cW cI cB cS n ad bf S) H1 locs1 → W p l e R s m args below meth c H1 locs1 cells slots Q (F0 m (pc + 3) ls (.int (vhat (S 20 b)) :: rest))) : W p l e R s m args below meth c H locs cells slots Q (F0 m pc ls (.ref (ad (30 + b)) :: rest)) := by
  rcases kcls_c (S 20 b) with ⟨h0, hc⟩ | ⟨h0, hc⟩ | ⟨h0, h1, hc⟩
  · rw [vhat, if_pos h0] at kk
    exact ct_V1 (As := []) (q0 := 22 + b) (ci := 1) C hw hA (kX1_wearsHat l D cI cB cS _ _) cfX1_wearsHat hl tg_314 tg_315 ⟨by omega, by omega⟩ hf rfl rfl rfl (by rw [cW_b hb, hc]) hsz rfl hW hdg kk
  · rw [vhat, if_neg (show ¬ S 20 b = 0 by rw [h0]; decide), if_pos h0] at kk
    exact ct_O (As := []) (owner := "DeafAuction$Buyer") (x := yX1_wearsHat) (y := yX3_wearsHat) (q0 := 22 + b) (ci := 3) (q := (RX3, TX3, 4)) C hw hA (kX3_wearsHat l D cI cB cS _ _) cfX3_wearsHat hl tg_316 tg_314 tg_317 tg_318 tg_321 ⟨by decide, by decide, by decide +kernel⟩ ⟨by omega, by omega⟩ hf rfl rfl (by rw [cW_b hb, hc]) hsz rfl hW hdg kk
  · rw [vhat, if_neg h0, if_neg h1] at kk
    exact ct_O (As := []) (owner := "DeafAuction$Buyer") (x := yX1_wearsHat) (y := yX3_wearsHat) (q0 := 22 + b) (ci := 4) (q := (RX4, TX4, 4)) C hw hA (kX3_wearsHat l D cI cB cS _ _) cfX3_wearsHat hl tg_316 tg_314 tg_320 tg_318 tg_321 ⟨by decide, by decide, by decide +kernel⟩ ⟨by omega, by omega⟩ hf rfl rfl (by rw [cW_b hb, hc]) hsz rfl hW hdg kk
theorem cb_vlim {b idx : Nat} {v u : Int32} (hb : b < n) (C : cx p c cc nL s args m own D cI cB cS) (hw : wd D A H0 (cW cI cB cS n ad bf S) H locs) (hA : ∀ q, H0.size ≤ q → A q) (hl : Cond.methodLink own idx yX1_limitBy ∈ lw_g) (hR : 2 ≤ R.frames ∧ 43 ≤ R.locals) (hf : cells ≤ R.cells ∧ slots ≤ R.slots) (hsz : ls.size = nL) (hW : (rest.map fun v => v.category).sum ≤ 8) (hdg : decode cc pc = .ok (.invokevirtual idx, 3))
    (kk : ∀ (H1 : Heap) (locs1 : List Loc), wd D A H0 (cW cI cB cS n ad bf S) H1 locs1 → W p l e R s m args below meth c H1 locs1 cells slots Q (F0 m (pc + 3) ls (.int (vlim (S 20 b) v u) :: rest))) : W p l e R s m args below meth c H locs cells slots Q (F0 m pc ls (.int u :: .int v :: .ref (ad (30 + b)) :: rest)) := by
  rcases kcls_c (S 20 b) with ⟨h0, hc⟩ | ⟨h0, hc⟩ | ⟨h0, h1, hc⟩
  · rw [vlim, if_pos h0] at kk
    exact ct_V1 (As := [.int v, .int u]) (q0 := 22 + b) (ci := 1) C hw hA (kX1_limitBy l D cI cB cS _ _ _ _) cfX1_limitBy hl tg_339 tg_340 ⟨by omega, by omega⟩ hf rfl rfl rfl (by rw [cW_b hb, hc]) hsz rfl hW hdg kk
  · rw [vlim, if_neg (show ¬ S 20 b = 0 by rw [h0]; decide), if_pos h0] at kk
    exact ct_U (As := [.int v, .int u]) (owner := "DeafAuction$Buyer") (x := yX1_limitBy) (y := yX1_limitBy) (q0 := 22 + b) (ci := 3) (q := (RX3, TX3, 4)) C hw hA (kX1_limitBy l D cI cB cS _ _ _ _) cfX1_limitBy hl tg_341 tg_342 tg_339 rfl ⟨by decide, by decide, by decide +kernel⟩ ⟨by omega, by omega⟩ hf rfl rfl (by rw [cW_b hb, hc]) hsz rfl hW hdg kk
  · rw [vlim, if_neg h0, if_neg h1] at kk
    exact ct_O (As := [.int v, .int u]) (owner := "DeafAuction$Buyer") (x := yX1_limitBy) (y := yX4_limitBy) (q0 := 22 + b) (ci := 4) (q := (RX4, TX4, 4)) C hw hA (kX4_limitBy l D cI cB cS _ _ _ _) cfX4_limitBy hl tg_341 tg_339 tg_343 tg_344 tg_352 ⟨by decide, by decide, by decide +kernel⟩ ⟨by omega, by omega⟩ hf rfl rfl (by rw [cW_b hb, hc]) hsz rfl hW hdg kk
theorem cb_vnod {b idx : Nat} (hb : b < n) (C : cx p c cc nL s args m own D cI cB cS) (hw : wd D A H0 (cW cI cB cS n ad bf S) H locs) (hA : ∀ q, H0.size ≤ q → A q) (hcg : bok n ad bf) (hl : Cond.methodLink own idx yX1_nodding ∈ lw_g) (hR : 2 ≤ R.frames ∧ 42 ≤ R.locals) (hf : cells ≤ R.cells ∧ slots ≤ R.slots) (hsz : ls.size = nL) (hW : (rest.map fun v => v.category).sum ≤ 8) (hdg : decode cc pc = .ok (.invokevirtual idx, 3))
    (kk : ∀ (H1 : Heap) (locs1 : List Loc), wd D A H0 (cW cI cB cS n ad bf (vnod n b S).2) H1 locs1 → W p l e R s m args below meth c H1 locs1 cells slots Q (F0 m (pc + 3) ls (.int (vnod n b S).1 :: rest))) : W p l e R s m args below meth c H locs cells slots Q (F0 m pc ls (.ref (ad 10) :: .ref (ad (30 + b)) :: rest)) := by
  rcases kcls_c (S 20 b) with ⟨h0, hc⟩ | ⟨h0, hc⟩ | ⟨h0, h1, hc⟩
  · rw [vnod, if_pos h0] at kk
    exact ct_V1 (As := [.ref (ad 10)]) (q0 := 22 + b) (ci := 1) C hw hA (kX1_nodding l D cI cB cS n ad bf hcg hb S) cfX1_nodding hl tg_609 tg_610 ⟨by omega, by omega⟩ hf rfl rfl rfl (by rw [cW_b hb, hc]) hsz rfl hW hdg kk
  · rw [vnod, if_neg (show ¬ S 20 b = 0 by rw [h0]; decide), if_pos h0] at kk
    exact ct_U (As := [.ref (ad 10)]) (owner := "DeafAuction$Buyer") (x := yX1_nodding) (y := yX1_nodding) (q0 := 22 + b) (ci := 3) (q := (RX3, TX3, 4)) C hw hA (kX1_nodding l D cI cB cS n ad bf hcg hb S) cfX1_nodding hl tg_611 tg_612 tg_609 rfl ⟨by decide, by decide, by decide +kernel⟩ ⟨by omega, by omega⟩ hf rfl rfl (by rw [cW_b hb, hc]) hsz rfl hW hdg kk
  · rw [vnod, if_neg h0, if_neg h1] at kk
    exact ct_O (As := [.ref (ad 10)]) (owner := "DeafAuction$Buyer") (x := yX1_nodding) (y := yX4_nodding) (q0 := 22 + b) (ci := 4) (q := (RX4, TX4, 4)) C hw hA (kX4_nodding l D cI cB cS n ad bf hcg hb S) cfX4_nodding hl tg_611 tg_609 tg_613 tg_614 tg_616 ⟨by decide, by decide, by decide +kernel⟩ ⟨by omega, by omega⟩ hf rfl rfl (by rw [cW_b hb, hc]) hsz rfl hW hdg kk
theorem cb_plain_1 {b : Nat} (hk : S 20 b = 0) (hb : b < n) (C : cx p c cc nL s args m RX1 D cI cB cS) (hw : wd D A H0 (cW cI cB cS n ad bf S) H locs) (hA : ∀ q, H0.size ≤ q → A q) (hcg : bok n ad bf) (hR : 2 ≤ R.frames ∧ 42 ≤ R.locals) (hf : cells ≤ R.cells ∧ slots ≤ R.slots) (hsz : ls.size = nL) (hW : (rest.map fun v => v.category).sum ≤ 8) (hdg : decode cc pc = .ok (.invokevirtual 31, 3))
    (kk : ∀ (H1 : Heap) (locs1 : List Loc), wd D A H0 (cW cI cB cS n ad bf (fX1_plainTelling n b S).2) H1 locs1 → W p l e R s m args below meth c H1 locs1 cells slots Q (F0 m (pc + 3) ls (.int (fX1_plainTelling n b S).1 :: rest))) : W p l e R s m args below meth c H locs cells slots Q (F0 m pc ls (.ref (ad 10) :: .ref (ad (30 + b)) :: rest)) := by
  rcases kcls_c (S 20 b) with ⟨h0, hc⟩ | ⟨h0, hc⟩ | ⟨h0, h1, hc⟩
  · exact ct_V1 (As := [.ref (ad 10)]) (q0 := 22 + b) (ci := 1) C hw hA (kX1_plainTelling l D cI cB cS n ad bf hcg hb S) cfX1_plainTelling tg_603 tg_591 tg_991 ⟨by omega, by omega⟩ hf rfl rfl rfl (by rw [cW_b hb, hc]) hsz rfl hW hdg kk
  · exact absurd (h0.symm.trans hk) (by decide)
  · exact absurd hk h0
theorem cb_plain_3 {b : Nat} (hk : ¬ S 20 b = 0) (hb : b < n) (C : cx p c cc nL s args m RX3 D cI cB cS) (hw : wd D A H0 (cW cI cB cS n ad bf S) H locs) (hA : ∀ q, H0.size ≤ q → A q) (hcg : bok n ad bf) (hR : 2 ≤ R.frames ∧ 42 ≤ R.locals) (hf : cells ≤ R.cells ∧ slots ≤ R.slots) (hsz : ls.size = nL) (hW : (rest.map fun v => v.category).sum ≤ 8) (hdg : decode cc pc = .ok (.invokevirtual 13, 3))
    (kk : ∀ (H1 : Heap) (locs1 : List Loc), wd D A H0 (cW cI cB cS n ad bf (fX1_plainTelling n b S).2) H1 locs1 → W p l e R s m args below meth c H1 locs1 cells slots Q (F0 m (pc + 3) ls (.int (fX1_plainTelling n b S).1 :: rest))) : W p l e R s m args below meth c H locs cells slots Q (F0 m pc ls (.ref (ad 10) :: .ref (ad (30 + b)) :: rest)) := by
  rcases kcls_c (S 20 b) with ⟨h0, hc⟩ | ⟨h0, hc⟩ | ⟨h0, h1, hc⟩
  · exact absurd h0 hk
  · exact ct_U (As := [.ref (ad 10)]) (owner := "DeafAuction$Buyer") (x := ⟨"DeafAuction$Hatted", "plainTelling", "(LDeafAuction$Trail;)I"⟩) (y := yX1_plainTelling) (q0 := 22 + b) (ci := 3) (q := (RX3, TX3, 4)) C hw hA (kX1_plainTelling l D cI cB cS n ad bf hcg hb S) cfX1_plainTelling tg_586 tg_587 tg_589 tg_591 rfl ⟨by decide, by decide, by decide +kernel⟩ ⟨by omega, by omega⟩ hf rfl rfl (by rw [cW_b hb, hc]) hsz rfl hW hdg kk
  · exact ct_U (As := [.ref (ad 10)]) (owner := "DeafAuction$Buyer") (x := ⟨"DeafAuction$Hatted", "plainTelling", "(LDeafAuction$Trail;)I"⟩) (y := yX1_plainTelling) (q0 := 22 + b) (ci := 4) (q := (RX4, TX4, 4)) C hw hA (kX1_plainTelling l D cI cB cS n ad bf hcg hb S) cfX1_plainTelling tg_586 tg_587 tg_590 tg_591 rfl ⟨by decide, by decide, by decide +kernel⟩ ⟨by omega, by omega⟩ hf rfl rfl (by rw [cW_b hb, hc]) hsz rfl hW hdg kk
theorem cb_plain_4 {b : Nat} (hk : ¬ S 20 b = 0 ∧ ¬ S 20 b = 1) (hb : b < n) (C : cx p c cc nL s args m RX4 D cI cB cS) (hw : wd D A H0 (cW cI cB cS n ad bf S) H locs) (hA : ∀ q, H0.size ≤ q → A q) (hcg : bok n ad bf) (hR : 2 ≤ R.frames ∧ 42 ≤ R.locals) (hf : cells ≤ R.cells ∧ slots ≤ R.slots) (hsz : ls.size = nL) (hW : (rest.map fun v => v.category).sum ≤ 8) (hdg : decode cc pc = .ok (.invokevirtual 26, 3))
    (kk : ∀ (H1 : Heap) (locs1 : List Loc), wd D A H0 (cW cI cB cS n ad bf (fX1_plainTelling n b S).2) H1 locs1 → W p l e R s m args below meth c H1 locs1 cells slots Q (F0 m (pc + 3) ls (.int (fX1_plainTelling n b S).1 :: rest))) : W p l e R s m args below meth c H locs cells slots Q (F0 m pc ls (.ref (ad 10) :: .ref (ad (30 + b)) :: rest)) := by
  rcases kcls_c (S 20 b) with ⟨h0, hc⟩ | ⟨h0, hc⟩ | ⟨h0, h1, hc⟩
  · exact absurd h0 hk.1
  · exact absurd h0 hk.2
  · exact ct_U (As := [.ref (ad 10)]) (owner := "DeafAuction$Buyer") (x := ⟨"DeafAuction$Nervous", "plainTelling", "(LDeafAuction$Trail;)I"⟩) (y := yX1_plainTelling) (q0 := 22 + b) (ci := 4) (q := (RX4, TX4, 4)) C hw hA (kX1_plainTelling l D cI cB cS n ad bf hcg hb S) cfX1_plainTelling tg_599 tg_600 tg_601 tg_591 rfl ⟨by decide, by decide, by decide +kernel⟩ ⟨by omega, by omega⟩ hf rfl rfl (by rw [cW_b hb, hc]) hsz rfl hW hdg kk
end VIRT
