/-! the call row -/
def pc (w : Nat) : Nat := w % 2 + w / 2 % 2 + w / 4 % 2 + w / 8 % 2
theorem pc_le (w : Nat) : pc w ≤ 4 := by unfold pc; omega
theorem pc_in : ∀ w, w < 16 → ∀ l, l < 4 → bitS (nI w) l = false → pc w < 4 ∧ w + 2 ^ l < 16 ∧ nI w ||| ((1 : Int32) <<< (nI l &&& 31)) = nI (w + 2 ^ l) ∧ pc (w + 2 ^ l) = pc w + 1 := by decide +kernel
theorem lots_l {n m len ii kk : Nat} {S : MS} {kC : Unit → Option Int32} {kM : MS → Option (Int32 × MS)} (hlen : len ≤ 60) (him : ii + m ≤ len) (hkk : kk < 4) (hl : S (1 + kk) 1 = nI len) :
    ∀ d x fu fu' w (M : MS), x + d = m → d < fu → d < fu' → w < 16 → pc w = x → (∀ y, y < len → S (5 + kk) y = M 29 (60 * kk + y)) → (∀ y, y < x → ∃ l, l < 4 ∧ S (5 + kk) (ii + y) = nI l ∧ M 20 y = nI l) →
      (∃ M', fX8_areLotsOnce_5 n fu kC kk (nI ii) (nI m) (nI w) (nI x) S = some 0 ∧ fX9_row_86 fu' kM (nI kk) (nI ii) (nI m) (nI w) (nI x) M = some (-1, u2 M' 0 0 0) ∧ ∀ j, j ≠ 20 → M' j = M j) ∨
      (∃ M', fX8_areLotsOnce_5 n fu kC kk (nI ii) (nI m) (nI w) (nI x) S = kC () ∧ fX9_row_86 fu' kM (nI kk) (nI ii) (nI m) (nI w) (nI x) M = kM M' ∧ m ≤ 4 ∧ (∀ j, j ≠ 20 → M' j = M j) ∧ ∀ y, y < m → ∃ l, l < 4 ∧ S (5 + kk) (ii + y) = nI l ∧ M' 20 y = nI l) := by
  intro d
  induction d with
  | zero =>
    intro x fu fu' w M hx hf hf' hw hpc hS hL
    obtain ⟨f, rfl⟩ : ∃ f, fu = f + 1 := ⟨fu - 1, by omega⟩
    obtain ⟨f', rfl⟩ : ∃ f, fu' = f + 1 := ⟨fu' - 1, by omega⟩
    have := pc_le w
    refine Or.inr ⟨M, ?_, ?_, by omega, fun _ _ => rfl, fun y hy => hL y (by omega)⟩
    · rw [fX8_areLotsOnce_5, if_pos (nI_le (by omega) (by omega))]
    · rw [fX9_row_86, if_pos (nI_le (by omega) (by omega))]
  | succ d ih =>
    intro x fu fu' w M hx hf hf' hw hpc hS hL
    obtain ⟨f, rfl⟩ : ∃ f, fu = f + 1 := ⟨fu - 1, by omega⟩
    obtain ⟨f', rfl⟩ : ∃ f, fu' = f + 1 := ⟨fu' - 1, by omega⟩
    have hxm : x < m := by omega
    have hcell : M 29 (60 * kk + ii + x) = S (5 + kk) (ii + x) := by rw [hS (ii + x) (by omega), Nat.add_assoc]
    rw [fX8_areLotsOnce_5, fX9_row_86, if_neg (nI_ge hxm (by omega)), if_neg (nI_ge hxm (by omega)), nI_add, at_spec hl hlen (by omega), Option.bind_some, idx60, nI_add, gd_nI (show 60 * kk + ii + x < 240 by omega) (by decide), nI_clamp (show 60 * kk + ii + x < 2 ^ 31 by omega), hcell]
    rcases lot_c (S (5 + kk) (ii + x)) with ⟨l, hl4, hc, e3, e4⟩ | ⟨e3, e4⟩
    · rw [e3, e4, if_neg z10, if_pos rfl, hc, q_in (show l < 32 by omega), q_in9 (show l < 32 by omega)]
      cases hb : bitS (nI w) l with
      | true =>
        rw [if_pos rfl, if_neg z10, if_neg z10]
        exact Or.inl ⟨M, rfl, rfl, fun _ _ => rfl⟩
      | false =>
        obtain ⟨y1, y2, y3, y4⟩ := pc_in w hw l hl4 hb
        rw [if_neg (show ¬ (false = true) by decide), if_pos rfl, if_pos rfl, gd_nI (show x < 4 by omega) (by decide), nI_clamp (show x < 2 ^ 31 by omega), y3, nI_1]
        rcases ih (x + 1) f f' (w + 2 ^ l) (u2 M 20 x (nI l)) (by omega) (by omega) (by omega) y2 (by omega) hS (fun y hy => by
          by_cases e : y = x
          · exact ⟨l, hl4, by rw [e]; exact hc, by rw [e, u2_at, upd_at]⟩
          · obtain ⟨l', q1, q2, q3⟩ := hL y (by omega)
            exact ⟨l', q1, q2, by rw [u2_at, upd_ne _ _ e]; exact q3⟩) with ⟨M', w1, w2, w3⟩ | ⟨M', w1, w2, w0, w3, w4⟩
        · exact Or.inl ⟨M', w1, w2, fun j hj => (w3 j hj).trans (u2_ne _ _ _ hj)⟩
        · exact Or.inr ⟨M', w1, w2, w0, fun j hj => (w3 j hj).trans (u2_ne _ _ _ hj), w4⟩
    · rw [e3, e4, if_pos rfl, if_neg z10]
      exact Or.inl ⟨M, rfl, rfl, fun _ _ => rfl⟩
theorem eqM.flt {M M' : MS} (h : eqM M M') (x : Int32) : eqM (u2 M 0 0 x) (u2 M' 0 0 x) := by
  have key : ∀ k, M' k = M k → u2 M' 0 0 x k = u2 M 0 0 x k := fun k e => by
    by_cases q : k = 0
    · subst q; rw [u2_at, u2_at, e]
    · rw [u2_ne _ _ _ q, u2_ne _ _ _ q, e]
  exact ⟨fun k hk => key k (h.1 k hk), fun k a b c => key k (h.2 k a b c)⟩
theorem row_core {n : Nat} {S M : MS} {g : Nat → Nat → Nat} (hI : Inv n S M) (k1 : hOK n g) (k2 : rM n g M) (k3 : rC n g S) (t0 : 2 ≤ n) {kk ii mm len : Nat} (hlen : len ≤ 60) (him : ii + mm ≤ len) (hkk : kk < 4) (hl : u2 S 0 0 0 (1 + kk) 1 = nI len) (hS : ∀ y, y < len → u2 S 0 0 0 (5 + kk) y = M 29 (60 * kk + y))
    {FC FM : Int32 × MS → Option (Int32 × MS)} (hF : ∀ (sum : Nat) (pu : Nat → Nat) (S' M' : MS), (∀ b, b < n → S' 13 b = nI (pu b)) → (∀ b, b < n → M' 22 b = nI (pu b)) → Inv n S' (u2 M' 0 0 0) → ∃ q qm, FC (nI sum, S') = some q ∧ FM (nI sum, M') = some qm ∧ q.1 = qm.1 ∧ Inv n q.2 qm.2) :
    ∃ q qm, ((fX8_areLotsOnce n kk (nI ii) (nI mm) (u2 S 0 0 0)).bind fun r10 => (if r10 = 0 then (some ((-1), (u2 S 0 0 0))) else ((fX8_sellRow n kk (nI ii) (nI mm) (u2 S 0 0 0)).bind FC))) = some q ∧ fX9_row_86 300 (fun M13 => ((fX9_brings (nI mm) M13).bind FM)) (nI kk) (nI ii) (nI mm) (0 : Int32) (0 : Int32) M = some qm ∧ q.1 = qm.1 ∧ Inv n q.2 qm.2 := by
  have k3' : rC n g (u2 S 0 0 0) := k3
  rcases lots_l (n := n) (m := mm) (ii := ii) (S := u2 S 0 0 0) (kC := fun (_ : Unit) => (some 1)) (kM := fun M13 => ((fX9_brings (nI mm) M13).bind FM)) hlen him hkk hl mm 0 300 300 0 M (by omega) (by omega) (by omega) (by omega) rfl hS (fun y hy => absurd hy (Nat.not_lt_zero y)) with ⟨M', a1, a2, a3⟩ | ⟨M', a1, a2, a0, a3, a4⟩
  · have a1' : fX8_areLotsOnce n kk (nI ii) (nI mm) (u2 S 0 0 0) = some 0 := a1
    have a2' : fX9_row_86 300 (fun M13 => ((fX9_brings (nI mm) M13).bind FM)) (nI kk) (nI ii) (nI mm) (0 : Int32) (0 : Int32) M = some (-1, u2 M' 0 0 0) := a2
    rw [a1', a2', Option.bind_some, if_pos rfl]
    exact ⟨_, _, rfl, rfl, rfl, (hI.fault 0).keep (eqC.rf _) (eqM.flt ⟨fun k hk => a3 k (by omega), fun k _ _ _ => a3 k (by omega)⟩ 0)⟩
  · have a1' : fX8_areLotsOnce n kk (nI ii) (nI mm) (u2 S 0 0 0) = some 1 := a1
    have a2' : fX9_row_86 300 (fun M13 => ((fX9_brings (nI mm) M13).bind FM)) (nI kk) (nI ii) (nI mm) (0 : Int32) (0 : Int32) M = ((fX9_brings (nI mm) M').bind FM) := a2
    rw [a1', a2', Option.bind_some, if_neg z10]
    have eM : eqM M M' := ⟨fun k hk => a3 k (by omega), fun k _ _ _ => a3 k (by omega)⟩
    have hL : ∀ y, y < mm → (u2 S 0 0 0 (5 + kk) (ii + y)).toNatClampNeg < 4 ∧ u2 S 0 0 0 (5 + kk) (ii + y) = nI (u2 S 0 0 0 (5 + kk) (ii + y)).toNatClampNeg ∧ M' 20 y = nI (u2 S 0 0 0 (5 + kk) (ii + y)).toNatClampNeg := fun y hy => by
      obtain ⟨l, q1, q2, q3⟩ := a4 y hy
      rw [q2, nI_clamp (by omega)]
      exact ⟨q1, rfl, q3⟩
    obtain ⟨S2, w1, w2, w3⟩ := sellRow_s (L := fun y => (u2 S 0 0 0 (5 + kk) (ii + y)).toNatClampNeg) k1 t0 k3' hlen him hkk (fun y hy => (hL y hy).1) hl (fun y hy => (hL y hy).2.1)
    obtain ⟨M2, v1, v2, v3⟩ := brings_s (L := fun y => (u2 S 0 0 0 (5 + kk) (ii + y)).toNatClampNeg) k1 t0 (k2.cg eM) a0 (fun y hy => (hL y hy).1) (fun y hy => (hL y hy).2.2)
    rw [w1, v1, Option.bind_some, Option.bind_some]
    refine hF _ _ S2 M2 w2 v2 ((hI.fault 0).keep (eqC_of w3) (eqM.flt (eM.tr ⟨fun k hk => v3 k (by omega) (by omega) (by omega), fun k _ _ _ => v3 k (by omega) (by omega) (by omega)⟩) 0))
theorem op_row (n : Nat) (S M : MS) (a1 a2 a3 a4 a5 : Int32) (h : Inv n S M) : ∃ q qm, gC_row n a1 a2 a3 a4 a5 S = some q ∧ gM_row a1 a2 a3 a4 a5 M = some qm ∧ q.1 = qm.1 ∧ Inv n q.2 qm.2 := by
  have hI := h
  obtain ⟨h1, h2, h3, g, k1, k2, k3⟩ := h
  have hn := k1.le6
  have s3 : shI (u2 S 0 0 0) M := h3.keep (fun j _ hj => u2_ne _ _ _ (by omega)) rfl rfl rfl
  unfold gC_row gM_row fX8_row fX9_row
  rcases sheet_c a2 with ⟨k, hk, rfl, e1, e2⟩ | ⟨e1, e2⟩
  · rw [e1, e2, om_some]
    by_cases hp : a1 = -1
    · have hp0 : ¬ (0 : Int32) ≤ a1 := by rw [hp]; decide
      rw [if_pos hp, if_pos hp, if_pos rfl]
      unfold fX8_isLane
      rcases lane_c a3 with ⟨t, ht, rfl, e3, e4⟩ | ⟨e3, e4⟩
      · rw [e3, e4, if_neg z10, if_neg z10]
        rcases there_c (S := u2 S 0 0 0) k1 k2 with ⟨_, t1, t2⟩ | ⟨t0, t1, t2⟩
        · rw [t2, if_pos rfl, if_pos t1]
          exact ⟨_, _, rfl, rfl, rfl, hI.fault 0⟩
        · rw [t2, if_neg z10, if_neg t1]
          rcases taking_c (n := n) s3 hk t ht a4 a5 with ⟨len, ii, mm, q1, rfl, rfl, q2, q3, q4, q5, q6⟩ | ⟨F, q1, q2, q3, q4⟩
          · rw [q5, q6, if_pos rfl, Option.bind_some, if_pos (show (0 : Int32) ≤ 0 by decide)]
            refine row_core hI k1 k2 k3 t0 q1 q2 hk q3 q4 (fun sum pu S' M' f1 f2 f3 => ?_)
            dsimp only
            rw [if_pos hp, if_neg hp0]
            exact ⟨_, _, rfl, rfl, rfl, f3⟩
          · rw [q3, q4, if_neg q1, Option.bind_some, if_neg q2]
            exact ⟨_, _, rfl, rfl, rfl, hI.fault2 0 F⟩
      · rw [e3, e4, if_pos rfl, if_pos rfl]
        exact ⟨_, _, rfl, rfl, rfl, hI.fault 0⟩
    · rw [if_neg hp, if_neg hp]
      rcases buy_c hn a1 k2.1.2.2.1 with ⟨b, hb, hab, e5, e6⟩ | ⟨e5, e6⟩
      · have hp0 : (0 : Int32) ≤ a1 := by rw [hab]; exact nI_pos' (by omega)
        have hcl : a1.toNatClampNeg = b := by rw [hab]; exact nI_clamp (by omega)
        rw [e5, e6, om_some, if_pos rfl]
        unfold fX8_isLane
        rcases lane_c a3 with ⟨t, ht, rfl, e3, e4⟩ | ⟨e3, e4⟩
        · rw [e3, e4, if_neg z10, if_neg z10]
          rcases there_c (S := u2 S 0 0 0) k1 k2 with ⟨_, t1, t2⟩ | ⟨t0, t1, t2⟩
          · rw [t2, if_pos rfl, if_pos t1]
            exact ⟨_, _, rfl, rfl, rfl, hI.fault 0⟩
          · rw [t2, if_neg z10, if_neg t1]
            rcases taking_c (n := n) s3 hk t ht a4 a5 with ⟨len, ii, mm, q1, rfl, rfl, q2, q3, q4, q5, q6⟩ | ⟨F, q1, q2, q3, q4⟩
            · rw [q5, q6, if_pos rfl, Option.bind_some, if_pos (show (0 : Int32) ≤ 0 by decide)]
              refine row_core hI k1 k2 k3 t0 q1 q2 hk q3 q4 (fun sum pu S' M' f1 f2 f3 => ?_)
              dsimp only
              rw [if_neg hp, if_pos hp0, gd2 hab (show b < 6 by omega) (by decide), gd2 hab (show b < 6 by omega) (by decide), hcl]
              exact ⟨_, _, rfl, rfl, (f1 b hb).trans (f2 b hb).symm, f3⟩
            · rw [q3, q4, if_neg q1, Option.bind_some, if_neg q2]
              exact ⟨_, _, rfl, rfl, rfl, hI.fault2 0 F⟩
        · rw [e3, e4, if_pos rfl, if_pos rfl]
          exact ⟨_, _, rfl, rfl, rfl, hI.fault 0⟩
      · rw [e5, e6, om_none, if_neg z10]
        exact ⟨_, _, rfl, rfl, rfl, hI.fault 0⟩
  · rw [e1, e2, om_none]
    by_cases hp : a1 = -1
    · rw [if_pos hp, if_pos hp, if_neg z10]
      exact ⟨_, _, rfl, rfl, rfl, hI.fault 0⟩
    · rw [if_neg hp, if_neg hp]
      rcases buy_c hn a1 k2.1.2.2.1 with ⟨b, hb, hab, e5, e6⟩ | ⟨e5, e6⟩
      · rw [e5, e6, om_some, if_pos rfl, if_neg z10]
        exact ⟨_, _, rfl, rfl, rfl, hI.fault 0⟩
      · rw [e5, e6, om_none, if_neg z10]
        exact ⟨_, _, rfl, rfl, rfl, hI.fault 0⟩
