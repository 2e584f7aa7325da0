/-! the call order -/
def lt4 (x q : Nat) : Nat := x / 2 ^ (2 * (3 - q)) % 4
theorem lt4_lt (x q : Nat) : lt4 x q < 4 := Nat.mod_lt _ (by decide)
theorem lo_o {x q : Nat} (hx : x < 256) (hq : q < 4) : fX8_lotOfOrder (nI x) (nI q) = nI (lt4 x q) := by
  unfold fX8_lotOfOrder lt4
  rcases (show q = 0 ∨ q = 1 ∨ q = 2 ∨ q = 3 by omega) with rfl | rfl | rfl | rfl
  · rw [pk_shrN (by omega) _ 6 (by decide +kernel), pk_andN (Nat.lt_of_le_of_lt (Nat.div_le_self _ _) (by omega)) 2 (by decide +kernel)]
  · rw [pk_shrN (by omega) _ 4 (by decide +kernel), pk_andN (Nat.lt_of_le_of_lt (Nat.div_le_self _ _) (by omega)) 2 (by decide +kernel)]
  · rw [pk_shrN (by omega) _ 2 (by decide +kernel), pk_andN (Nat.lt_of_le_of_lt (Nat.div_le_self _ _) (by omega)) 2 (by decide +kernel)]
  · rw [pk_shrN (by omega) _ 0 (by decide +kernel), pk_andN (Nat.lt_of_le_of_lt (Nat.div_le_self _ _) (by omega)) 2 (by decide +kernel)]
theorem sh_o : ∀ q, q < 4 → ((6 : Int32) - (2 * nI q)) = 2 * (3 - nI q) := by decide +kernel
theorem lo_m {x q : Nat} (hx : x < 256) (hq : q < 4) : ((nI x >>> ((6 - (2 * nI q)) &&& 31)) &&& 3) = nI (lt4 x q) := by
  rw [sh_o q hq]
  exact lo_o hx hq
def mkF (x : Nat) : Nat → Nat → Int32 → Int32
  | 0, _, v => v
  | d + 1, q, v => mkF x d (q + 1) (v ||| ((1 : Int32) <<< (nI (lt4 x q) &&& 31)))
theorem mk27 : mkF 27 4 0 0 = 15 := by decide +kernel
theorem once_l {x : Nat} {k : Int32 → Option Int32} (hx : x < 256) : ∀ d q fu v, q + d = 4 → d < fu → fX8_isEachLotOnce_4 fu k (nI x) v (nI q) = k (mkF x d q v) := by
  intro d
  induction d with
  | zero =>
    intro q fu v hq hf
    obtain ⟨f, rfl⟩ : ∃ f, fu = f + 1 := ⟨fu - 1, by omega⟩
    rw [fX8_isEachLotOnce_4, if_pos (show (4 : Int32) ≤ nI q from nI_le (a := 4) (by omega) (by omega))]
    rfl
  | succ d ih =>
    intro q fu v hq hf
    obtain ⟨f, rfl⟩ : ∃ f, fu = f + 1 := ⟨fu - 1, by omega⟩
    rw [fX8_isEachLotOnce_4, if_neg (show ¬ (4 : Int32) ≤ nI q from nI_ge (b := 4) (by omega) (by decide)), lo_o hx (by omega), nI_1]
    exact ih (q + 1) f _ (by omega) (by omega)
theorem once_s {x : Nat} (hx : x < 256) : fX8_isEachLotOnce (nI x) = if mkF x 4 0 0 = 15 then some 1 else some 0 :=
  once_l (k := fun x2 => (if x2 = 15 then (some 1) else (some 0))) hx 4 0 300 0 (by omega) (by omega)
theorem o44_l {x : Nat} {k : Int32 → MS → Option (Int32 × MS)} (hx : x < 256) : ∀ d q fu v (M : MS), q + d = 4 → d < fu →
    ∃ M', fX9_order_44 fu k (nI x) v (nI q) M = k (mkF x d q v) M' ∧ (∀ j, j ≠ 20 → M' j = M j) ∧ (∀ y, y < q → M' 20 y = M 20 y) ∧ ∀ y, q ≤ y → y < 4 → M' 20 y = nI (lt4 x y) := by
  intro d
  induction d with
  | zero =>
    intro q fu v M hq hf
    obtain ⟨f, rfl⟩ : ∃ f, fu = f + 1 := ⟨fu - 1, by omega⟩
    refine ⟨M, ?_, fun _ _ => rfl, fun _ _ => rfl, fun y h1 h2 => by omega⟩
    rw [fX9_order_44, if_pos (show (4 : Int32) ≤ nI q from nI_le (a := 4) (by omega) (by omega))]
    rfl
  | succ d ih =>
    intro q fu v M hq hf
    obtain ⟨f, rfl⟩ : ∃ f, fu = f + 1 := ⟨fu - 1, by omega⟩
    have hq4 : q < 4 := by omega
    rw [fX9_order_44, if_neg (show ¬ (4 : Int32) ≤ nI q from nI_ge (b := 4) hq4 (by decide)), gd_nI hq4 (by decide), gd_nI hq4 (by decide), nI_clamp (show q < 2 ^ 31 by omega), lo_m hx hq4, u2_at, upd_at, nI_1]
    obtain ⟨M', w1, w2, w3, w4⟩ := ih (q + 1) f (v ||| ((1 : Int32) <<< (nI (lt4 x q) &&& 31))) (u2 M 20 q (nI (lt4 x q))) (by omega) (by omega)
    refine ⟨M', w1, fun j hj => (w2 j hj).trans (u2_ne _ _ _ hj), fun y hy => ?_, fun y h1 h2 => ?_⟩
    · rw [w3 y (by omega), u2_at, upd_ne _ _ (by omega)]
    · by_cases e : y = q
      · rw [w3 y (by omega), u2_at, e, upd_at]
      · exact w4 y (by omega) h2
theorem u2_self (M : MS) (k i : Nat) : u2 M k i (M k i) = M := by
  funext j
  by_cases e : j = k
  · subst e
    rw [u2_at]
    funext y
    by_cases e2 : y = i
    · rw [e2, upd_at]
    · rw [upd_ne _ _ e2]
  · rw [u2_ne _ _ _ e]
theorem o105_a {v2 v5 : Int32} {k : MS → Option (Int32 × MS)} {M : MS} (hle : v5 ≤ v2) : ∀ d q fu, q + d = 4 → d < fu → fX9_order_105 fu k v2 v5 (nI q) M = k M := by
  intro d
  induction d with
  | zero =>
    intro q fu hq hf
    obtain ⟨f, rfl⟩ : ∃ f, fu = f + 1 := ⟨fu - 1, by omega⟩
    rw [fX9_order_105, if_pos (show (4 : Int32) ≤ nI q from nI_le (a := 4) (by omega) (by omega))]
  | succ d ih =>
    intro q fu hq hf
    obtain ⟨f, rfl⟩ : ∃ f, fu = f + 1 := ⟨fu - 1, by omega⟩
    have hq4 : q < 4 := by omega
    rw [fX9_order_105, if_neg (show ¬ (4 : Int32) ≤ nI q from nI_ge (b := 4) hq4 (by decide)), if_pos hle, gd_nI hq4 (by decide), gd_nI hq4 (by decide), u2_self, nI_1]
    exact ih (q + 1) f (by omega) (by omega)
theorem o105_b {v2 v5 : Int32} {k : MS → Option (Int32 × MS)} (hle : ¬ v5 ≤ v2) : ∀ d q fu (M : MS), q + d = 4 → d < fu →
    ∃ M', fX9_order_105 fu k v2 v5 (nI q) M = k M' ∧ (∀ j, j ≠ 23 → M' j = M j) ∧ (∀ y, y < q → M' 23 y = M 23 y) ∧ ∀ y, q ≤ y → y < 4 → M' 23 y = M 20 y := by
  intro d
  induction d with
  | zero =>
    intro q fu M hq hf
    obtain ⟨f, rfl⟩ : ∃ f, fu = f + 1 := ⟨fu - 1, by omega⟩
    refine ⟨M, ?_, fun _ _ => rfl, fun _ _ => rfl, fun y h1 h2 => by omega⟩
    rw [fX9_order_105, if_pos (show (4 : Int32) ≤ nI q from nI_le (a := 4) (by omega) (by omega))]
  | succ d ih =>
    intro q fu M hq hf
    obtain ⟨f, rfl⟩ : ∃ f, fu = f + 1 := ⟨fu - 1, by omega⟩
    have hq4 : q < 4 := by omega
    rw [fX9_order_105, if_neg (show ¬ (4 : Int32) ≤ nI q from nI_ge (b := 4) hq4 (by decide)), if_neg hle, gd_nI hq4 (by decide), gd_nI hq4 (by decide), nI_clamp (show q < 2 ^ 31 by omega), nI_1]
    obtain ⟨M', w1, w2, w3, w4⟩ := ih (q + 1) f (u2 M 23 q (M 20 q)) (by omega) (by omega)
    refine ⟨M', w1, fun j hj => (w2 j hj).trans (u2_ne _ _ _ hj), fun y hy => ?_, fun y h1 h2 => ?_⟩
    · rw [w3 y (by omega), u2_at, upd_ne _ _ (by omega)]
    · by_cases e : y = q
      · rw [w3 y (by omega), u2_at, e, upd_at]
      · exact w4 y (by omega) h2
theorem n9 {s : Nat} (h : s < 2 ^ 31) : ¬ nI s ≤ -9 := fun q => by
  have := Int32.le_iff_toInt_le.mp q
  rw [nI_toInt h, show (-9 : Int32).toInt = -9 by decide] at this
  omega
theorem order_l {n : Nat} {h : Nat → Nat → Nat} {kC : Int32 → Int32 → MS → Option (Int32 × MS)} {kM : Int32 → MS → Option (Int32 × MS)} (k1 : hOK n h) (h2n : 2 ≤ n) :
    ∀ d x fu fu' (S M : MS) (v2 v3 : Int32), x + d = 256 → d < fu → d < fu' → Inv n S M → rM n h M → rC n h S → ((v2 = -9 ∧ x ≤ 27) ∨ ∀ q, q < 4 → M 23 q = fX8_lotOfOrder v3 (nI q)) →
      ∃ S' M' w2 w3, fX8_order_36 n fu kC v2 v3 (nI x) S = kC w2 w3 S' ∧ fX9_order_31 fu' kM v2 (nI x) M = kM w2 M' ∧ Inv n S' M' ∧ ∀ q, q < 4 → M' 23 q = fX8_lotOfOrder w3 (nI q) := by
  intro d
  induction d with
  | zero =>
    intro x fu fu' S M v2 v3 hx hf hf' hI k2 k3 hv
    obtain ⟨f, rfl⟩ : ∃ f, fu = f + 1 := ⟨fu - 1, by omega⟩
    obtain ⟨f', rfl⟩ : ∃ f, fu' = f + 1 := ⟨fu' - 1, by omega⟩
    refine ⟨S, M, v2, v3, ?_, ?_, hI, ?_⟩
    · rw [fX8_order_36, if_pos (show (256 : Int32) ≤ nI x from nI_le (a := 256) (by omega) (by omega))]
    · rw [fX9_order_31, if_pos (show (256 : Int32) ≤ nI x from nI_le (a := 256) (by omega) (by omega))]
    · rcases hv with ⟨_, q⟩ | q
      · omega
      · exact q
  | succ d ih =>
    intro x fu fu' S M v2 v3 hx hf hf' hI k2 k3 hv
    obtain ⟨f, rfl⟩ : ∃ f, fu = f + 1 := ⟨fu - 1, by omega⟩
    obtain ⟨f', rfl⟩ : ∃ f, fu' = f + 1 := ⟨fu' - 1, by omega⟩
    have hx2 : x < 256 := by omega
    rw [fX8_order_36, fX9_order_31, if_neg (show ¬ (256 : Int32) ≤ nI x from nI_ge (b := 256) hx2 (by decide)), if_neg (show ¬ (256 : Int32) ≤ nI x from nI_ge (b := 256) hx2 (by decide)), once_s hx2, nI_1]
    obtain ⟨M1, w1, w2, w3, w4⟩ := o44_l (k := fun x7 M8 => (if x7 = 15 then ((fX9_brings (4 : Int32) M8).bind fun r10 => (fX9_order_105 300 (fun M18 => (if r10.1 ≤ v2 then (fX9_order_31 f' kM v2 (nI (x + 1)) M18) else (fX9_order_31 f' kM r10.1 (nI (x + 1)) M18))) v2 r10.1 (0 : Int32) r10.2)) else (fX9_order_31 f' kM v2 (nI (x + 1)) M8))) hx2 4 0 300 0 M (by omega) (by omega)
    have w1' : fX9_order_44 300 (fun x7 M8 => (if x7 = 15 then ((fX9_brings (4 : Int32) M8).bind fun r10 => (fX9_order_105 300 (fun M18 => (if r10.1 ≤ v2 then (fX9_order_31 f' kM v2 (nI (x + 1)) M18) else (fX9_order_31 f' kM r10.1 (nI (x + 1)) M18))) v2 r10.1 (0 : Int32) r10.2)) else (fX9_order_31 f' kM v2 (nI (x + 1)) M8))) (nI x) (0 : Int32) (0 : Int32) M = _ := w1
    rw [w1']
    have eM : eqM M M1 := ⟨fun k hk => w2 k (by omega), fun k _ _ _ => w2 k (by omega)⟩
    by_cases hk : mkF x 4 0 0 = 15
    · obtain ⟨S2, y1, y2⟩ := sellOrder_s (L := lt4 x) (v1 := nI x) k1 h2n k3 (fun y _ => lt4_lt x y) (fun y hy => lo_o hx2 hy)
      obtain ⟨M2, z1, z2, z3⟩ := brings_s (L := lt4 x) (m := 4) k1 h2n (k2.cg eM) (by omega) (fun y _ => lt4_lt x y) (fun y hy => w4 y (by omega) hy)
      have z1' : fX9_brings (4 : Int32) M1 = _ := z1
      have hsum := (rnH_le (L := lt4 x) h2n 4 0 h k1).1
      have eM2 : eqM M M2 := eM.tr ⟨fun k hk => z3 k (by omega) (by omega) (by omega), fun k _ _ _ => z3 k (by omega) (by omega) (by omega)⟩
      rw [if_pos hk, if_pos hk, Option.bind_some, if_neg z10, y1, Option.bind_some, z1', Option.bind_some]
      dsimp only
      by_cases hle : nI (rnH n (lt4 x) 4 0 h).1 ≤ v2
      · have hv' : ∀ q, q < 4 → M 23 q = fX8_lotOfOrder v3 (nI q) := by
          rcases hv with ⟨q1, _⟩ | q
          · rw [q1] at hle
            exact absurd hle (n9 (by omega))
          · exact q
        have o1 := o105_a (v2 := v2) (v5 := nI (rnH n (lt4 x) 4 0 h).1) (M := M2) (k := fun M18 => (if nI (rnH n (lt4 x) 4 0 h).1 ≤ v2 then (fX9_order_31 f' kM v2 (nI (x + 1)) M18) else (fX9_order_31 f' kM (nI (rnH n (lt4 x) 4 0 h).1) (nI (x + 1)) M18))) hle 4 0 300 (by omega) (by omega)
        have o1' : fX9_order_105 300 (fun M18 => (if nI (rnH n (lt4 x) 4 0 h).1 ≤ v2 then (fX9_order_31 f' kM v2 (nI (x + 1)) M18) else (fX9_order_31 f' kM (nI (rnH n (lt4 x) 4 0 h).1) (nI (x + 1)) M18))) v2 (nI (rnH n (lt4 x) 4 0 h).1) (0 : Int32) M2 = _ := o1
        rw [o1', if_pos hle, if_pos hle]
        exact ih (x + 1) f f' S2 M2 v2 v3 (by omega) (by omega) (by omega) (hI.keep (eqC_of y2) eM2) (k2.cg eM2) (k3.cg (eqC_of y2)) (Or.inr (fun q hq => by rw [z3 23 (by decide) (by decide) (by decide), w2 23 (by decide)]; exact hv' q hq))
      · obtain ⟨M3, o1, o2, o3, o4⟩ := o105_b (v2 := v2) (v5 := nI (rnH n (lt4 x) 4 0 h).1) (k := fun M18 => (if nI (rnH n (lt4 x) 4 0 h).1 ≤ v2 then (fX9_order_31 f' kM v2 (nI (x + 1)) M18) else (fX9_order_31 f' kM (nI (rnH n (lt4 x) 4 0 h).1) (nI (x + 1)) M18))) hle 4 0 300 M2 (by omega) (by omega)
        have o1' : fX9_order_105 300 (fun M18 => (if nI (rnH n (lt4 x) 4 0 h).1 ≤ v2 then (fX9_order_31 f' kM v2 (nI (x + 1)) M18) else (fX9_order_31 f' kM (nI (rnH n (lt4 x) 4 0 h).1) (nI (x + 1)) M18))) v2 (nI (rnH n (lt4 x) 4 0 h).1) (0 : Int32) M2 = _ := o1
        have eM3 : eqM M M3 := eM2.tr ⟨fun k hk => o2 k (by omega), fun k _ _ _ => o2 k (by omega)⟩
        rw [o1', if_neg hle, if_neg hle]
        exact ih (x + 1) f f' S2 M3 _ (nI x) (by omega) (by omega) (by omega) (hI.keep (eqC_of y2) eM3) (k2.cg eM3) (k3.cg (eqC_of y2)) (Or.inr (fun q hq => by rw [o4 q (by omega) hq, z3 20 (by decide) (by decide) (by decide), w4 q (by omega) hq, lo_o hx2 hq]))
    · rw [if_neg hk, if_neg hk, Option.bind_some, if_pos rfl]
      refine ih (x + 1) f f' S M1 v2 v3 (by omega) (by omega) (by omega) (hI.keep (eqC.rf S) eM) (k2.cg eM) k3 ?_
      rcases hv with ⟨q1, q2⟩ | q
      · refine Or.inl ⟨q1, ?_⟩
        rcases Nat.lt_or_ge x 27 with r | r
        · omega
        · have : x = 27 := by omega
          rw [this] at hk
          exact absurd mk27 hk
      · exact Or.inr (fun y hy => by rw [w2 23 (by decide)]; exact q y hy)
theorem op_order (n : Nat) (S M : MS) (a1 : Int32) (h : Inv n S M) : ∃ q qm, gC_order n a1 S = some q ∧ gM_order a1 M = some qm ∧ q.1 = qm.1 ∧ Inv n q.2 qm.2 := by
  have hI := h
  obtain ⟨h1, h2, h3, g, k1, k2, k3⟩ := h
  unfold gC_order gM_order fX8_order fX9_order
  have zm : (-1 : Int64).toInt = -1 := by decide
  have z3 : (3 : Int64).toInt = 3 := by decide
  by_cases hp : a1 = -1
  · have hp0 : ¬ (0 : Int32) ≤ a1 := by rw [hp]; decide
    have hin : fX9_in a1.toInt64 (-1 : Int64) (3 : Int64) = 1 := by
      rw [in_spec, t64, zm, z3, hp, show (-1 : Int32).toInt = -1 by decide, if_pos (by omega)]
    rw [if_pos hp, hin, if_neg z10]
    rcases there_c (S := S) k1 k2 with ⟨_, t1, t2⟩ | ⟨t0, t1, t2⟩
    · rw [t2, if_pos rfl, if_pos t1]
      exact ⟨_, _, rfl, rfl, rfl, hI⟩
    · rw [t2, if_neg z10, if_neg t1]
      obtain ⟨S', M', w2, w3, e1, e2, e3, e4⟩ := order_l (kC := fun x10 x11 M12 => (if a1 = (-1) then (some (x10, M12)) else (some ((fX8_lotOfOrder x11 a1), M12)))) (kM := fun x20 M21 => (if 0 ≤ a1 then (gd a1 4 (some ((M21 23 a1.toNatClampNeg), M21))) else (some (x20, M21)))) k1 t0 256 0 300 300 S M (-9) 0 (by omega) (by omega) (by omega) hI k2 k3 (Or.inl ⟨rfl, by omega⟩)
      have e1' : fX8_order_36 n 300 (fun x10 x11 M12 => (if a1 = (-1) then (some (x10, M12)) else (some ((fX8_lotOfOrder x11 a1), M12)))) (-9 : Int32) (0 : Int32) (0 : Int32) S = _ := e1
      have e2' : fX9_order_31 300 (fun x20 M21 => (if 0 ≤ a1 then (gd a1 4 (some ((M21 23 a1.toNatClampNeg), M21))) else (some (x20, M21)))) (-9 : Int32) (0 : Int32) M = _ := e2
      rw [e1', e2', if_pos hp, if_neg hp0]
      exact ⟨_, _, rfl, rfl, rfl, e3⟩
  · rw [if_neg hp]
    rcases rng_c a1 (N := 4) (by decide) with ⟨q, hq, hab⟩ | hno
    · have hp0 : (0 : Int32) ≤ a1 := by rw [hab]; exact nI_pos' (by omega)
      have hin : fX9_in a1.toInt64 (-1 : Int64) (3 : Int64) = 1 := by
        rw [in_spec, t64, zm, z3, hab, nI_toInt (by omega), if_pos (by omega)]
      have hbl : fX8_isBelow a1 (4 : Int32) = 1 := by rw [hab]; exact below_nI (N := 4) (by decide) hq
      rw [hin, hbl, if_neg z10, if_neg z10]
      rcases there_c (S := S) k1 k2 with ⟨_, t1, t2⟩ | ⟨t0, t1, t2⟩
      · rw [t2, if_pos rfl, if_pos t1]
        exact ⟨_, _, rfl, rfl, rfl, hI⟩
      · rw [t2, if_neg z10, if_neg t1]
        obtain ⟨S', M', w2, w3, e1, e2, e3, e4⟩ := order_l (kC := fun x10 x11 M12 => (if a1 = (-1) then (some (x10, M12)) else (some ((fX8_lotOfOrder x11 a1), M12)))) (kM := fun x20 M21 => (if 0 ≤ a1 then (gd a1 4 (some ((M21 23 a1.toNatClampNeg), M21))) else (some (x20, M21)))) k1 t0 256 0 300 300 S M (-9) 0 (by omega) (by omega) (by omega) hI k2 k3 (Or.inl ⟨rfl, by omega⟩)
        have e1' : fX8_order_36 n 300 (fun x10 x11 M12 => (if a1 = (-1) then (some (x10, M12)) else (some ((fX8_lotOfOrder x11 a1), M12)))) (-9 : Int32) (0 : Int32) (0 : Int32) S = _ := e1
        have e2' : fX9_order_31 300 (fun x20 M21 => (if 0 ≤ a1 then (gd a1 4 (some ((M21 23 a1.toNatClampNeg), M21))) else (some (x20, M21)))) (-9 : Int32) (0 : Int32) M = _ := e2
        rw [e1', e2', if_neg hp, if_pos hp0, gd2 hab hq (by decide)]
        refine ⟨_, _, rfl, rfl, ?_, e3⟩
        show fX8_lotOfOrder w3 a1 = M' 23 a1.toNatClampNeg
        rw [hab, nI_clamp (by omega), e4 q hq]
    · have hin : fX9_in a1.toInt64 (-1 : Int64) (3 : Int64) = 0 := by
        rw [in_spec, t64, zm, z3, if_neg]
        intro w
        have : a1.toInt = -1 := by omega
        exact hp (Int32.toInt_inj.mp (by rw [this]; decide))
      have hbl : fX8_isBelow a1 (4 : Int32) = 0 := below_no (N := 4) (by decide) hno
      rw [hin, hbl, if_pos rfl, if_pos rfl]
      exact ⟨_, _, rfl, rfl, rfl, hI⟩
