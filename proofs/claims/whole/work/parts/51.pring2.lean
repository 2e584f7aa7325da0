/-! the call ring -/
theorem off_s {n : Nat} {h : Nat → Nat → Nat} {S : MS} {lo : Nat} (k1 : hOK n h) (k3 : rC n h S) (h2n : 2 ≤ n) (hlo : lo < 4) :
    ∃ S1 S2, fX0_gather n 63 S = some S1 ∧ fX0_offer n (nI lo) S1 = some S2 ∧ (∀ i, i ≠ 14 → i ≠ 12 → i ≠ 11 → i ≠ 13 → S2 i = S i) ∧ (∀ b, b < 6 → S2 12 b = if b < n ∧ (fun (_ : Nat) => true) b = true then nI (h 3 b) else -1) ∧ (∀ b, b < n → bitS (S2 11 1) b = decide (h 1 b ≠ 0)) ∧ ∀ b, b < n → S2 14 b = nI (lmH h lo (fun _ => true) b) := by
  have hR := k1.seats
  obtain ⟨⟨a1, a2, a3⟩, ⟨b1, b2, b3, b4, b5, b6⟩, c1, c2, c3, c4⟩ := k1.big h2n
  obtain ⟨⟨r1, r2, r3, r4⟩, s1, s2, s3, s4⟩ := k3
  obtain ⟨S1, g1, g2, g3, g4, g5⟩ := gather_s (mask := 63) a2 S
  obtain ⟨S2, o1, o2, o3⟩ := offer_s (n := n) a2 hlo S1
  have i12 : ∀ b, b < 6 → S2 12 b = if b < n ∧ (fun (_ : Nat) => true) b = true then nI (h 3 b) else -1 := fun b hb => by
    rw [o2 12 (by decide), g3 b hb]
    by_cases e1 : b < n
    · rw [if_pos ⟨e1, q_63 b hb⟩, if_pos ⟨e1, rfl⟩, (s1 b e1).2.2]
    · rw [if_neg (fun w => e1 w.1), if_neg (fun w => e1 w.1)]
  refine ⟨S1, S2, g1, o1, fun i h1 h2 h3 h4 => by rw [o2 i h1, g2 i h3 h2 h4], i12, fun b hb => ?_, fun b hb => ?_⟩
  · rw [o2 11 (by decide), g5 b (by omega), (s1 b hb).1]
    congr 1
    exact propext ⟨fun w e => w.2.2 ((vhat_s (c1 b hb).1).mpr e), fun w => ⟨hb, q_63 b (by omega), fun e => w ((vhat_s (c1 b hb).1).mp e)⟩⟩
  · have hS1 : S1 12 b = nI (h 3 b) := by
      rw [← o2 12 (by decide), i12 b (by omega), if_pos ⟨hb, rfl⟩]
    have hs3 := (c1 b hb).2.2
    rw [o3 b (by omega), hS1, if_pos ⟨hb, nI_nm1 (by omega)⟩, g2 20 (by decide) (by decide) (by decide), g2 23 (by decide) (by decide) (by decide), g4 b (by omega), if_pos ⟨hb, q_63 b (by omega)⟩, (s1 b hb).1, (s1 b hb).2.1, s2 b lo hb hlo, vlim_spec (c1 b hb).1 (c3 b lo hb hlo) (by have := (c1 b hb).2.1; omega)]
    rfl
theorem m_in : ∀ n, n < 7 → ∀ v, v < 2 ^ n → nI v &&& (nI (2 ^ n - 1) ^^^ (-1)) = 0 := by decide +kernel
theorem m_hi : ∀ n, n < 7 → ∀ v, v < 2 ^ n → ∀ b, b < 6 → n ≤ b → bitS (nI v) b = false := by decide +kernel
theorem m_tn : ∀ n, n < 7 → (nI (2 ^ n - 1)).toBitVec.toNat = 2 ^ n - 1 := by decide +kernel
theorem m_of {n : Nat} {p : Int32} (hn : n < 7) (h : p &&& (nI (2 ^ n - 1) ^^^ (-1)) = 0) : ∃ v, v < 2 ^ n ∧ p = nI v := by
  have e : p = p &&& nI (2 ^ n - 1) := by
    apply Int32.toBitVec_inj.mp
    apply BitVec.eq_of_getLsbD_eq
    intro i hi
    show bitS p i = bitS (p &&& nI (2 ^ n - 1)) i
    have hq : bitS (p &&& (nI (2 ^ n - 1) ^^^ (-1))) i = false := by rw [h]; exact q_0 i
    rw [q_and, q_xor, q_m1 i hi] at hq
    rw [q_and]
    revert hq
    cases bitS p i <;> cases bitS (nI (2 ^ n - 1)) i <;> simp
  have e2 : p = nI p.toBitVec.toNat := by
    apply Int32.toBitVec_inj.mp
    show p.toBitVec = BitVec.ofNat 32 p.toBitVec.toNat
    simp
  refine ⟨p.toBitVec.toNat, ?_, e2⟩
  have h1 : p.toBitVec.toNat = (p &&& nI (2 ^ n - 1)).toBitVec.toNat := congrArg (fun x => x.toBitVec.toNat) e
  rw [Int32.toBitVec_and, BitVec.toNat_and, m_tn n hn] at h1
  have h2 : p.toBitVec.toNat &&& (2 ^ n - 1) ≤ 2 ^ n - 1 := Nat.and_le_right
  have h3 := Nat.two_pow_pos n
  omega
theorem op_ring (n : Nat) (S M : MS) (a1 a2 : Int32) (h : Inv n S M) : ∃ q qm, gC_ring n a1 a2 S = some q ∧ gM_ring a1 a2 M = some qm ∧ q.1 = qm.1 ∧ Inv n q.2 qm.2 := by
  have hI := h
  obtain ⟨h1, h2, h3, g, k1, k2, k3⟩ := h
  have hn := k1.le6
  have hA := all_n n (by omega)
  have hNN : 2 ^ n ≤ 64 ∧ 0 < 2 ^ n := (by decide : ∀ n, n < 7 → 2 ^ n ≤ 64 ∧ 0 < 2 ^ n) n (by omega)
  have hset : fX5_setOfAll n S = nI (2 ^ n - 1) := hA
  have hallM : ∀ M' : MS, M' 3 0 = nI n → fX9_all M' = nI (2 ^ n - 1) := fun M' e => by
    unfold fX9_all; rw [e]; exact hA
  have hhi : ((nI (2 ^ n - 1)).toInt64).toInt = ((2 ^ n : Nat) : Int) - 1 := by
    rw [t64, nI_toInt (by omega)]
    omega
  unfold gC_ring gM_ring fX8_ring fX9_ring
  rcases lot_c a2 with ⟨lo, hlo, rfl, e3, e4⟩ | ⟨e3, e4⟩
  · rw [hset, hallM M k2.1.2.2.1]
    rcases rng_c a1 (N := 2 ^ n) (by omega) with ⟨v, hv, rfl⟩ | hno
    · have e5 := m_in n (by omega) v hv
      have e6 := in_nI (N := 2 ^ n) hhi (by omega) hv
      rcases there_c (S := S) k1 k2 with ⟨_, t1, t2⟩ | ⟨t0, t1, t2⟩
      · simp only [e3, e4, e5, e6, t1, t2, z10, ↓reduceIte]
        exact ⟨_, _, rfl, rfl, rfl, hI⟩
      · have hR := k1.seats
        obtain ⟨⟨a1, a2, a3⟩, ⟨b1, b2, b3, b4, b5, b6⟩, c1, c2, c3, c4⟩ := k1.big t0
        have hle := fun b => lmH_le (lo := lo) (pr := fun _ => true) k1 t0 (b := b)
        obtain ⟨S1, S2, o1, o2, o3, o4, o5, o6⟩ := off_s (lo := lo) k1 k3 t0 hlo
        have hhd : hd (fun b => bitS (nI v) b) (lmH g lo (fun _ => true)) 6 = hd (fun b => bitS (nI v) b) (lmH g lo (fun _ => true)) n := by
          have := hd_ext (rg := fun b => bitS (nI v) b) (lm := lmH g lo (fun _ => true)) (n := n) (6 - n) (fun b q1 q2 => m_hi n (by omega) v hv b (by omega) q1)
          rw [show n + (6 - n) = 6 by omega] at this
          exact this
        have r5 := ring5_l (n := n) (p := nI v) (S := S2) (rg := fun b => bitS (nI v) b) (lm := lmH g lo (fun _ => true)) (k := fun x7 M8 => (fX0_silenceAllButFirst_50 n 300 (fun M13 => (some M13)) (nI v) x7 (0 : Int32) M8)) (fun b hb => rfl) (fun b hb hb2 => by
          have hbn : b < n := by
            rcases Nat.lt_or_ge b n with q | q
            · exact q
            · have := m_hi n (by omega) v hv b hb q
              have hb3 : bitS (nI v) b = true := hb2
              rw [this] at hb3; cases hb3
          exact ⟨o6 b hbn, hle b hbn⟩) 6 0 300 (by omega) (by omega)
        rw [hhd] at r5
        obtain ⟨o, ho⟩ : ∃ o, hd (fun b => bitS (nI v) b) (lmH g lo (fun _ => true)) n = o := ⟨_, rfl⟩
        have hon : ∀ c, o = some c → c < n ∧ bitS (nI v) c = true := fun c e => hd_lt (ho.trans e)
        rw [ho] at r5
        obtain ⟨S3, y1, y2, y3⟩ := ring50_l (n := n) (p := nI v) (rg := fun b => bitS (nI v) b) (o := o) (k := fun M13 => some M13) (fun b hb => rfl) (fun c e => by have := (hon c e).1; omega) 6 0 300 S2 (by omega) (by omega)
        have sil : fX0_silenceAllButFirst n (nI v) S2 = some S3 := Eq.trans r5 y1
        have f3 : ∀ i, i ≠ 14 → i ≠ 12 → i ≠ 11 → i ≠ 13 → S3 i = S i := fun i q1 q2 q3 q4 => (y2 i q1).trans (o3 i q1 q2 q3 q4)
        have hlim : ∀ b, b < n → (if bitS (nI v) b = true ∧ o ≠ some b then 0 else lmH g lo (fun _ => true) b) ≤ 99 := fun b hb => by
          have := hle b hb
          split
          · omega
          · exact this
        obtain ⟨S', w1, w2, w3, w4⟩ := hold_s (n := n) (W := g 0 1) (R := g 0 0) (law := g 0 2) (kd := g 1) (lim := fun b => if bitS (nI v) b = true ∧ o ≠ some b then 0 else lmH g lo (fun _ => true) b) (se := g 3) (pr := fun _ => true) (S := S3) hn b3 b4 b5 hR
          (by rw [f3 10 (by decide) (by decide) (by decide) (by decide)]; exact k3.1.2.1)
          (by rw [f3 10 (by decide) (by decide) (by decide) (by decide)]; exact k3.1.2.2.1)
          (by rw [f3 10 (by decide) (by decide) (by decide) (by decide)]; exact fun s hs => (k3.2.2.2.2 t0 s hs).1)
          (by rw [f3 10 (by decide) (by decide) (by decide) (by decide)]; exact fun s hs => (k3.2.2.2.2 t0 s hs).2)
          (fun b hb => (c1 b hb).2.2) c2 (by rw [y2 12 (by decide)]; exact o4) (fun b hb _ => by rw [y2 11 (by decide)]; exact o5 b hb)
          (fun b hb => ⟨hlim b hb, fun _ => by
            rw [y3 b, o6 b hb]
            by_cases e : bitS (nI v) b = true ∧ o ≠ some b
            · rw [if_pos ⟨Nat.zero_le _, by omega, e⟩, if_pos e]; rfl
            · rw [if_neg (fun w => e w.2.2), if_neg e]⟩)
        -- the reference
        have hlo9 : ∀ b, b < n → fX9_limitOf (nI b) (nI lo) M = some (nI (lmH g lo (fun _ => true) b)) ∧ lmH g lo (fun _ => true) b ≤ 99 := fun b hb => ⟨limitOf_spec (by omega) hlo (c1 b hb).1 (c3 b lo hb hlo) (by have := (c1 b hb).2.1; omega) (k2.2.1 b hb).1 (k2.2.1 b hb).2.1 (k2.2.2.1 b lo hb hlo), hle b hb⟩
        obtain ⟨M1, s1, s2, s3⟩ := sitDown_s (may := fX9_all M) (M := M) hn k2.1.2.2.1
        have hM13 : M1 3 0 = nI n := by rw [s2 3 (by decide)]; exact k2.1.2.2.1
        have sell : ∀ may : Int32, (∀ b, b < n → bitS may b = !(decide (bitS (nI v) b = true ∧ o ≠ some b))) → ∃ M', fX9_sell (nI lo) may M1 = some M' ∧ cpM n M' (sal n (g 0 1) (g 0 2) (g 1) (fun b => if bitS (nI v) b = true ∧ o ≠ some b then 0 else lmH g lo (fun _ => true) b) 99 (sg0 (fun _ => true) (g 3))) ∧ ∀ j, (j < 15 ∨ 19 < j) → M' j = M j := by
          intro may hmay
          obtain ⟨M', x1, x2, x3, x4⟩ := sell_s (n := n) (W := g 0 1) (R := g 0 0) (law := g 0 2) (lo := lo) (may := may) (kd := g 1) (lim := fun b => if bitS (nI v) b = true ∧ o ≠ some b then 0 else lmH g lo (fun _ => true) b) (se := g 3) (pr := fun _ => true) (M := M1) hR
            ⟨hn, b3, b4, b5, by rw [s2 2 (by decide)]; exact k2.1.2.1, hM13, by rw [s2 8 (by decide)]; exact k2.1.2.2.2.1, fun b hb => ⟨by rw [s2 4 (by decide)]; exact (k2.2.1 b hb).1, (c1 b hb).1⟩, fun b hb => ⟨hlim b hb, by
              rw [q_in9 (show b < 32 by omega), hmay b hb, limitOf_cg (M := M) _ _ (s2 4 (by decide)) (s2 5 (by decide)) (s2 7 (by decide))]
              by_cases e : bitS (nI v) b = true ∧ o ≠ some b
              · rw [decide_eq_true e]; exact Or.inr ⟨rfl, if_pos e⟩
              · rw [decide_eq_false e]
                refine Or.inl ⟨rfl, ?_⟩
                show _ = some (nI (if bitS (nI v) b = true ∧ o ≠ some b then 0 else lmH g lo (fun _ => true) b))
                rw [if_neg e]; exact (hlo9 b hb).1⟩⟩
            (fun b hb => (c1 b hb).2.2) c2 (fun b hb => by
              rw [s3 b hb, all_s hn hb k2.1.2.2.1, if_neg z10, (k2.2.1 b hb).2.2, if_pos rfl, encP_lt (by have := (c1 b hb).2.2; omega)])
          exact ⟨M', x1, x2, fun j hj => (x4 j hj).trans (s2 j (by omega))⟩
        have r42 := ring42_l (n := n) (lo := lo) (p := nI v) (M := M) (rg := fun b => bitS (nI v) b) (lm := lmH g lo (fun _ => true)) (k := fun x12 M13 => ((fX9_sitDown (fX9_all M13) M13).bind fun r14 => (if 0 ≤ x12 then ((fX9_sell (nI lo) (((fX9_all r14) &&& (nI v ^^^ (-1))) ||| ((1 : Int32) <<< (x12 &&& 31))) r14).bind fun r17 => (some ((r17 16 0), r17))) else ((fX9_sell (nI lo) (fX9_all r14) r14).bind fun r19 => (some ((r19 16 0), r19)))))) hn k2.1.2.2.1 (fun b hb => rfl) hlo9 n 0 300 (by omega) (by omega)
        rw [ho] at r42
        have r42' : fX9_ring_42 300 (fun x12 M13 => ((fX9_sitDown (fX9_all M13) M13).bind fun r14 => (if 0 ≤ x12 then ((fX9_sell (nI lo) (((fX9_all r14) &&& (nI v ^^^ (-1))) ||| ((1 : Int32) <<< (x12 &&& 31))) r14).bind fun r17 => (some ((r17 16 0), r17))) else ((fX9_sell (nI lo) (fX9_all r14) r14).bind fun r19 => (some ((r19 16 0), r19)))))) (nI v) (nI lo) (-9 : Int32) (0 : Int32) M = _ := r42
        simp only [e3, e4, e5, e6, t1, t2, z10, o1, o2, sil, w1, Option.bind_some, ↓reduceIte]
        rw [r42']
        simp only [s1, Option.bind_some]
        have fin : ∀ M' : MS, cpM n M' (sal n (g 0 1) (g 0 2) (g 1) (fun b => if bitS (nI v) b = true ∧ o ≠ some b then 0 else lmH g lo (fun _ => true) b) 99 (sg0 (fun _ => true) (g 3))) → (∀ j, (j < 15 ∨ 19 < j) → M' j = M j) → S' 11 4 = M' 16 0 ∧ Inv n S' M' := fun M' x1 x2 => ⟨w3.2.2.1.trans x1.2.1.symm, hI.keep (eqC_of (fun j hj => (w4 j (by omega)).trans (f3 j (by omega) (by omega) (by omega) (by omega)))) (eqM_of x2)⟩
        cases hq : o with
        | none =>
          obtain ⟨M', x1, x2, x3⟩ := sell (fX9_all M1) (fun b hb => by
            have hf := hd_none (ho.trans hq) b hb
            have hf' : bitS (nI v) b = false := hf
            rw [all_b hn hM13 hb, hf']
            simp)
          obtain ⟨u1, u2'⟩ := fin M' x2 x3
          rw [show encN none = -9 from rfl, if_neg (by decide), x1, Option.bind_some]
          exact ⟨_, _, rfl, rfl, u1, u2'⟩
        | some c =>
          have hc := hon c hq
          obtain ⟨M', x1, x2, x3⟩ := sell (((fX9_all M1) &&& (nI v ^^^ (-1))) ||| ((1 : Int32) <<< (nI c &&& 31))) (fun b hb => by
            rw [q_set (show c < 32 by omega) _ (show b < 32 by omega), q_and, q_xor, q_m1 b (by omega), all_b hn hM13 hb, hq]
            by_cases ec : b = c
            · subst ec; simp
            · have ec2 : ¬ c = b := fun w => ec w.symm
              cases bitS (nI v) b <;> simp [ec, ec2])
          obtain ⟨u1, u2'⟩ := fin M' x2 x3
          rw [show encN (some c) = nI c from rfl, if_pos (nI_pos' (by omega)), x1, Option.bind_some]
          exact ⟨_, _, rfl, rfl, u1, u2'⟩
    · have e5 : ¬ a1 &&& (nI (2 ^ n - 1) ^^^ (-1)) = 0 := fun w => by
        obtain ⟨v, hv, e⟩ := m_of (show n < 7 by omega) w
        rw [e, nI_toInt (by omega)] at hno
        omega
      have e6 := in_no (N := 2 ^ n) hhi hno
      simp only [e3, e4, e5, e6, z10, ↓reduceIte]
      exact ⟨_, _, rfl, rfl, rfl, hI⟩
  · simp only [e3, e4, z10, ↓reduceIte]
    exact ⟨_, _, rfl, rfl, rfl, hI⟩
