/-! the call hall -/
def hN (R W : Nat) (kd pu : Nat → Nat) : Nat → Nat → Nat := fun k i => bif Nat.beq k 0 then (bif Nat.beq i 0 then R else bif Nat.beq i 1 then W else 0) else bif Nat.beq k 1 then kd i else bif Nat.beq k 2 then pu i else bif Nat.beq k 3 then i else 0
theorem hall_core {n : Nat} {S M : MS} (hI : Inv n S M) {kk ii mm len : Nat} (hlen : len ≤ 60) (him : ii + mm ≤ len) (hkk : kk < 4) (hl : u2 S 0 0 0 (1 + kk) 1 = nI len) (hS : ∀ y, y < len → u2 S 0 0 0 (5 + kk) y = M 29 (60 * kk + y)) :
    ∃ q qm, ((fX8_firstFault n kk (nI ii) (nI mm) (u2 S 0 0 0)).bind fun r5 => (if r5 = (-1) then ((fX8_fillRoom n kk (nI ii) (nI mm) (u2 S 0 0 0)).bind fun r8 => (some ((nI r8.1), r8.1, (fX2_keepOnly r8.1 (0 : Int32) r8.2)))) else (some (((-100) - r5), n, (u2 S 0 0 0))))) = some q ∧
      ((fX9_readsHall (nI (60 * kk + ii)) (nI mm) M).bind fun r6 => (if r6.1 = 0 then (some ((fX9_refused ((-100) - (r6.2 9 0)) r6.2).1, (fX9_refused ((-100) - (r6.2 9 0)) r6.2).2)) else (fX9_hall_106 300 (fun M15 => (fX9_hall_161 300 (fun M18 => (some ((fX9_refused ((u2 (u2 M18 8 0 0) 24 0 0) 3 0) (u2 (u2 M18 8 0 0) 24 0 0)).1, (fX9_refused ((u2 (u2 M18 8 0 0) 24 0 0) 3 0) (u2 (u2 M18 8 0 0) 24 0 0)).2))) (0 : Int32) M15)) (0 : Int32) (u2 (u2 (u2 r6.2 1 0 (r6.2 10 0)) 2 0 ((u2 r6.2 1 0 (r6.2 10 0)) 11 0)) 3 0 ((u2 (u2 r6.2 1 0 (r6.2 10 0)) 2 0 ((u2 r6.2 1 0 (r6.2 10 0)) 11 0)) 12 0))))) = some qm ∧ q.1 = qm.1 ∧ Inv q.2.1 q.2.2 qm.2 := by
  have hcell : ∀ p, p < mm → u2 S 0 0 0 (5 + kk) (ii + p) = M 29 (60 * kk + ii + p) := fun p hp => by rw [hS (ii + p) (by omega), Nat.add_assoc]
  have hat : ∀ p, p < mm → fX6_at n kk (nI (ii + p)) (u2 S 0 0 0) = some (M 29 (60 * kk + ii + p)) := fun p hp => by rw [at_spec hl hlen (by omega), hcell p hp]
  rcases rh_s (n := n) (S := u2 S 0 0 0) (M := M) hkk (show ii + mm ≤ 60 by omega) hat with ⟨M', q, e, e9, eff, hq, hfr⟩ | ⟨R, W, ⟨r1, r2, r3, r4⟩, ⟨cR, cW⟩, M', j, e, eff, ⟨j1, j2, j3, j4⟩, ⟨m10, m11, m12⟩, hby, hfr⟩
  · rw [e, eff, Option.bind_some, Option.bind_some, if_neg (nI_nm1 (by omega))]
    dsimp only
    rw [if_pos rfl, e9]
    exact ⟨_, _, rfl, rfl, rfl, (hI.fault 0).keep (eqC.rf _) (eqM.flt ⟨fun k hk => hfr k (by omega), fun k _ _ _ => hfr k (by omega)⟩ 0)⟩
  · obtain ⟨h1, h2, h3, _⟩ := hI
    have hRW : R * W ≤ 24 := Nat.le_trans (Nat.mul_le_mul r2 r4) (by decide)
    rw [e, eff, Option.bind_some, Option.bind_some, if_pos rfl]
    dsimp only
    rw [if_neg z10]
    -- the classes
    have d1 : fX8_digitAt n kk (nI ii + 1) (u2 S 0 0 0) = some (nI R) := by
      rw [nI_1]
      exact dig_s hl hlen (by omega) (by rw [hcell 1 (by omega), cR])
    have d2 : fX8_digitAt n kk (nI ii + 2) (u2 S 0 0 0) = some (nI W) := by
      rw [show nI ii + 2 = nI (ii + 2) from nI_add ii 2]
      exact dig_s hl hlen (by omega) (by rw [hcell 2 (by omega), cW])
    obtain ⟨S2, l1, l2, l3, l4, l5, l6⟩ := lay_s (n := n) (S := u2 S 0 0 0) r3 r4 r2 hRW
    obtain ⟨S3, f1, f2, _, f4⟩ := fR_l (kk := kk) (ii := ii) (m := mm) (j := j) (len := len) (M := M) (M' := M') hkk hlen him j3 j1 hby j 0 300 S2 (by omega) (by omega) (by rw [l6 (1 + kk) (by omega)]; exact hl) (fun p hp => by rw [l6 (5 + kk) (by omega)]; exact hcell p hp)
    have hfill : fX8_fillRoom n kk (nI ii) (nI mm) (u2 S 0 0 0) = some (j, S3) := by
      unfold fX8_fillRoom
      rw [d1, Option.bind_some, d2, Option.bind_some, l1, Option.bind_some]
      exact f1
    rw [hfill, Option.bind_some]
    dsimp only
    -- the reference
    obtain ⟨M4, a1, a2, _, a4⟩ := h106_l (j := j) (k := fun M15 => (fX9_hall_161 300 (fun M18 => (some ((fX9_refused ((u2 (u2 M18 8 0 0) 24 0 0) 3 0) (u2 (u2 M18 8 0 0) 24 0 0)).1, (fX9_refused ((u2 (u2 M18 8 0 0) 24 0 0) 3 0) (u2 (u2 M18 8 0 0) 24 0 0)).2))) (0 : Int32) M15)) j3 j 0 300 (u2 (u2 (u2 M' 1 0 (M' 10 0)) 2 0 ((u2 M' 1 0 (M' 10 0)) 11 0)) 3 0 ((u2 (u2 M' 1 0 (M' 10 0)) 2 0 ((u2 M' 1 0 (M' 10 0)) 11 0)) 12 0)) ((u2_rd _ _ _ _).trans m12) (by omega) (by omega)
    obtain ⟨M5, b1, b2, _, b4⟩ := h161_l (k := fun M18 => (some ((fX9_refused ((u2 (u2 M18 8 0 0) 24 0 0) 3 0) (u2 (u2 M18 8 0 0) 24 0 0)).1, (fX9_refused ((u2 (u2 M18 8 0 0) 24 0 0) 3 0) (u2 (u2 M18 8 0 0) 24 0 0)).2))) 24 0 300 M4 (by omega) (by omega)
    have a1' : fX9_hall_106 300 (fun M15 => (fX9_hall_161 300 (fun M18 => (some ((fX9_refused ((u2 (u2 M18 8 0 0) 24 0 0) 3 0) (u2 (u2 M18 8 0 0) 24 0 0)).1, (fX9_refused ((u2 (u2 M18 8 0 0) 24 0 0) 3 0) (u2 (u2 M18 8 0 0) 24 0 0)).2))) (0 : Int32) M15)) (0 : Int32) (u2 (u2 (u2 M' 1 0 (M' 10 0)) 2 0 ((u2 M' 1 0 (M' 10 0)) 11 0)) 3 0 ((u2 (u2 M' 1 0 (M' 10 0)) 2 0 ((u2 M' 1 0 (M' 10 0)) 11 0)) 12 0)) = some (M5 3 0, u2 (u2 (u2 M5 8 0 0) 24 0 0) 0 0 0) := Eq.trans a1 (Eq.trans b1 rfl)
    rw [a1']
    have frM : ∀ i, i ≠ 7 → i ≠ 4 → i ≠ 5 → i ≠ 6 → i ≠ 1 → i ≠ 2 → i ≠ 3 → M5 i = M' i := fun i q7 q4 q5 q6 q1 q2 q3 => by
      rw [b2 i q7, a2 i q4 q5 q6, u2_ne _ _ _ q3, u2_ne _ _ _ q2, u2_ne _ _ _ q1]
    have m1 : M5 1 0 = nI R := by
      rw [b2 1 (by decide), a2 1 (by decide) (by decide) (by decide)]
      exact (u2_rd M' 1 0 (M' 10 0)).trans m10
    have m2 : M5 2 0 = nI W := by
      rw [b2 2 (by decide), a2 2 (by decide) (by decide) (by decide)]
      exact (u2_rd (u2 M' 1 0 (M' 10 0)) 2 0 _).trans m11
    have m3 : M5 3 0 = nI j := by
      rw [b2 3 (by decide), a2 3 (by decide) (by decide) (by decide)]
      exact (u2_rd _ 3 0 _).trans m12
    have m4 : ∀ b, b < j → M5 4 b = M' 13 b ∧ M5 5 b = M' 14 b ∧ M5 6 b = nI b := fun b hb => by
      rw [b2 4 (by decide), b2 5 (by decide), b2 6 (by decide)]
      exact a4 b (by omega) hb
    have hkd : ∀ b, b < j → (M' 13 b).toNatClampNeg < 3 ∧ M' 13 b = nI (M' 13 b).toNatClampNeg ∧ (M' 14 b).toNatClampNeg ≤ 99 ∧ M' 14 b = nI (M' 14 b).toNatClampNeg := fun b hb => by
      obtain ⟨kd, t, o, ⟨k1, k2, k3⟩, _, e13, e14⟩ := hby b hb
      rw [e13, e14, nI_clamp (by omega), nI_clamp (by omega)]
      exact ⟨k1, rfl, by omega, rfl⟩
    have frS : ∀ i, i ≠ 10 → i < 20 → S3 i = u2 S 0 0 0 i := fun i q1 q2 => by rw [f2 i (Or.inl q2), l6 i q1]
    refine ⟨_, _, rfl, rfl, m3.symm, ?_, ?_, ?_, hN R W (fun b => (M' 13 b).toNatClampNeg) (fun b => (M' 14 b).toNatClampNeg), ?_, ?_, ?_⟩
    · show S3 0 0 = 0
      rw [frS 0 (by decide) (by decide)]; rfl
    · show S3 9 0 = M5 31 0
      rw [frS 9 (by decide) (by decide), frM 31 (by decide) (by decide) (by decide) (by decide) (by decide) (by decide) (by decide), hfr 31 (by decide)]
      exact h2
    · refine h3.keep (fun k q1 q2 => ?_) ?_ ?_ ?_
      · show u2 S3 17 0 0 k = S k
        rw [u2_ne _ _ _ (by omega), frS k (by omega) (by omega), u2_ne _ _ _ (by omega)]
      · show M5 27 = M 27
        rw [frM 27 (by decide) (by decide) (by decide) (by decide) (by decide) (by decide) (by decide), hfr 27 (by decide)]
      · show M5 28 = M 28
        rw [frM 28 (by decide) (by decide) (by decide) (by decide) (by decide) (by decide) (by decide), hfr 28 (by decide)]
      · show M5 29 = M 29
        rw [frM 29 (by decide) (by decide) (by decide) (by decide) (by decide) (by decide) (by decide), hfr 29 (by decide)]
    · exact Or.inr ⟨⟨j2, j3, j4⟩, ⟨r1, r2, r3, r4, (by decide : 0 < 3), Nat.zero_le _⟩, fun b hb => ⟨(hkd b hb).1, (hkd b hb).2.2.1, Nat.lt_of_lt_of_le hb j4⟩, fun b c _ _ e => e, fun _ _ _ _ => Nat.zero_le _, fun r hr => absurd hr (Nat.not_lt_zero r)⟩
    · refine ⟨⟨m1, m2, m3, rfl, rfl⟩, fun b hb => ⟨?_, ?_, ?_⟩, fun b lot hb hlo => ?_, fun r hr => absurd hr (Nat.not_lt_zero r)⟩
      · exact (m4 b hb).1.trans (hkd b hb).2.1
      · exact (m4 b hb).2.1.trans (hkd b hb).2.2.2
      · exact (m4 b hb).2.2
      · have hb' : b < j := hb
        exact b4 (4 * b + lot) (by omega) (by omega)
    · refine ⟨⟨?_, ?_, ?_, rfl⟩, fun b hb => ⟨?_, ?_, ?_⟩, fun b lot hb hlo => ?_, fun r hr => absurd hr (Nat.not_lt_zero r), fun _ s hs => ?_⟩
      · show S3 10 1 = nI (R * W)
        rw [f2 10 (by decide)]; exact l2
      · show S3 10 2 = nI W
        rw [f2 10 (by decide)]; exact l3
      · show S3 10 3 = nI 0
        rw [f2 10 (by decide)]; exact l4
      · exact (f4 b (by omega) hb).1.trans (hkd b hb).2.1
      · exact (f4 b (by omega) hb).2.1.trans (hkd b hb).2.2.2
      · exact (f4 b (by omega) hb).2.2.1
      · exact (f4 b (by omega) hb).2.2.2 lot
      · show bitS (S3 10 4) s = decide (s % W < W / 2) ∧ bitS (S3 10 5) s = decide (s % W = W - 1)
        rw [f2 10 (by decide)]
        exact l5 s hs
theorem op_hall (n : Nat) (S M : MS) (a1 a2 a3 a4 : Int32) (h : Inv n S M) : ∃ q qm, fX8_hall n a1 a2 a3 a4 S = some q ∧ gM_hall a1 a2 a3 a4 M = some qm ∧ q.1 = qm.1 ∧ Inv q.2.1 q.2.2 qm.2 := by
  have hI := h
  obtain ⟨h1, h2, h3, g, k1, k2, k3⟩ := h
  have s3 : shI (u2 S 0 0 0) M := h3.keep (fun j _ hj => u2_ne _ _ _ (by omega)) rfl rfl rfl
  unfold gM_hall fX8_hall fX9_hall
  rcases sheet_c a1 with ⟨k, hk, rfl, e1, e2⟩ | ⟨e1, e2⟩
  · rw [e1, e2, om_some, if_pos rfl]
    unfold fX8_isLane
    rcases lane_c a2 with ⟨t, ht, rfl, e3, e4⟩ | ⟨e3, e4⟩
    · rw [e3, e4, if_neg z10, if_neg z10]
      rcases taking_c (n := n) s3 hk t ht a3 a4 with ⟨len, ii, mm, q1, rfl, rfl, q2, q3, q4, q5, q6⟩ | ⟨F, q1, q2, q3, q4⟩
      · rw [q5, q6, if_pos rfl, Option.bind_some, if_pos (show (0 : Int32) ≤ 0 by decide), idx60]
        exact hall_core hI q1 q2 hk q3 q4
      · rw [q3, q4, if_neg q1, Option.bind_some, if_neg q2]
        exact ⟨_, _, rfl, rfl, rfl, hI.fault2 0 F⟩
    · rw [e3, e4, if_pos rfl, if_pos rfl]
      exact ⟨_, _, rfl, rfl, rfl, hI.fault 0⟩
  · rw [e1, e2, om_none, if_neg z10]
    exact ⟨_, _, rfl, rfl, rfl, hI.fault 0⟩
theorem ops_ok : opsOk Inv := ⟨op_hall, op_ofBuyer, op_worth, op_limit, op_sit, op_law, op_sale, op_bid, op_ends, op_row, op_gain, op_best, op_order, op_ring, op_mean, op_hangs, op_reading, op_back, op_values, op_places, op_sheet, op_lose, op_put, op_cell, op_copy, op_tell, op_nod, op_as, op_trace, op_fault, op_many⟩
