/-! the mean price -/
theorem lN_dv {a d : Nat} (ha : a < 2 ^ 31) (h0 : 0 < d) (hd : d < 2 ^ 31) : lN a / lN d = lN (a / d) := by
  apply Int64.toInt_inj.mp
  rw [lg_ldiv_nonneg (by rw [lN_toInt ha]; omega) (by rw [lN_toInt hd]; omega), lN_toInt ha, lN_toInt hd, lN_toInt (Nat.lt_of_le_of_lt (Nat.div_le_self a d) ha)]
  first | rfl | exact (Int.natCast_ediv _ _).symm
theorem lN_rm {a d : Nat} (ha : a < 2 ^ 31) (h0 : 0 < d) (hd : d < 2 ^ 31) : lN a - lN a / lN d * lN d = lN (a % d) := by
  rw [lN_dv ha h0 hd, lN_mul, lN_sub (Nat.div_mul_le_self a d)]
  exact congrArg lN (by have := Nat.div_add_mod' a d; omega)
theorem lN_hf {a : Nat} (ha : a < 2 ^ 31) : lN a >>> ((1 : Int32).toInt64 &&& 63) = lN (a / 2) := by
  apply Int64.toInt_inj.mp
  rw [lN_toInt (show a / 2 < 2 ^ 31 by omega)]
  show ((lN a).toBitVec.sshiftRight ((((1 : Int32).toInt64 &&& 63).toBitVec.smod 64).toNat)).toInt = _
  rw [show (((1 : Int32).toInt64 &&& 63).toBitVec.smod 64).toNat = 1 by decide, BitVec.toInt_sshiftRight]
  show (lN a).toInt >>> 1 = _
  rw [lN_toInt ha, Int.shiftRight_eq_div_pow]
  omega
theorem lN_bit {a : Nat} (ha : a < 2 ^ 31) : lN a &&& 1 = lN (a % 2) := by
  apply Int64.toBitVec_inj.mp
  rw [Int64.toBitVec_and]
  apply BitVec.eq_of_toNat_eq
  show (BitVec.ofNat 64 a &&& 1#64).toNat = (BitVec.ofNat 64 (a % 2)).toNat
  rw [BitVec.toNat_and, BitVec.toNat_ofNat, BitVec.toNat_ofNat, BitVec.toNat_ofNat, Nat.mod_eq_of_lt (show a < 2 ^ 64 by omega), Nat.mod_eq_of_lt (show a % 2 < 2 ^ 64 by omega), Nat.mod_eq_of_lt (show 1 < 2 ^ 64 by omega), Nat.and_one_is_mod]
theorem told_l {k : Int64 → Option Int64} : ∀ fu a b, b < fu → a < 2 ^ 31 → b < 2 ^ 31 → fX9_told_6 fu k (lN a) (lN b) = k (lN (Nat.gcd b a)) := by
  intro fu
  induction fu with
  | zero => intro a b h; omega
  | succ f ih =>
    intro a b hb ha hb2
    rw [fX9_told_6]
    by_cases e : b = 0
    · subst e
      rw [if_pos (show lg_cmp (lN 0) 0 = 0 by decide), Nat.gcd_zero_left]
    · have hne : ¬ lN b = 0 := fun w => e ((lN_eq (b := 0) hb2 (by decide)).mp w)
      have hm := Nat.mod_lt a (show b > 0 by omega)
      rw [if_neg (fun w => hne ((lg_cmp_eq _ _).mp w)), nzl, if_neg hne, lN_rm ha (by omega) hb2, ih b (a % b) (by omega) hb2 (by omega), Nat.gcd_rec b a]
theorem half_l {n : Nat} {S : MS} {k : Int64 → Int64 → MS → Option (Int64 × MS)} : ∀ d t fu, d < fu → d < 20 → t < 2 ^ 31 → fX8_mean_81 n fu k (lN t) (lN (2 ^ d)) S = k (lN (t / Nat.gcd (2 ^ d) t)) (lN (2 ^ d / Nat.gcd (2 ^ d) t)) S := by
  intro d
  induction d with
  | zero =>
    intro t fu hf _ ht
    obtain ⟨f, rfl⟩ : ∃ f, fu = f + 1 := ⟨fu - 1, by omega⟩
    rw [fX8_mean_81, if_pos (show lg_cmp (lN (2 ^ 0)) 1 ≤ 0 by decide), Nat.pow_zero, Nat.gcd_one_left, Nat.div_one, Nat.div_one]
  | succ d ih =>
    intro t fu hf hd ht
    obtain ⟨f, rfl⟩ : ∃ f, fu = f + 1 := ⟨fu - 1, by omega⟩
    have hp : 0 < 2 ^ d := Nat.two_pow_pos d
    have hp2 : 2 ^ d < 2 ^ 20 := Nat.pow_lt_pow_right (by decide) (by omega)
    have hps : 2 ^ (d + 1) = 2 * 2 ^ d := by rw [Nat.pow_succ, Nat.mul_comm]
    have h1 : ¬ lg_cmp (lN (2 ^ (d + 1))) 1 ≤ 0 := fun w => by
      have w2 := (lN_le (b := 1) (show 2 ^ (d + 1) < 2 ^ 31 by omega) (by decide)).mp ((lg_cmp_le _ _).mp w)
      omega
    rw [fX8_mean_81, if_neg h1, lN_bit ht]
    by_cases e : t % 2 = 0
    · rw [e, if_pos (show lg_cmp (lN 0) 0 = 0 by decide), lN_hf ht, lN_hf (show 2 ^ (d + 1) < 2 ^ 31 by omega), hps, Nat.mul_div_cancel_left _ (by decide : 0 < 2), ih (t / 2) f (by omega) (by omega) (by omega)]
      have hg : Nat.gcd (2 * 2 ^ d) t = 2 * Nat.gcd (2 ^ d) (t / 2) := by
        rw [← Nat.gcd_mul_left]
        congr 1
        omega
      rw [hg, Nat.mul_div_mul_left _ _ (by decide : 0 < 2), ← Nat.div_div_eq_div_mul]
    · have e1 : t % 2 = 1 := by omega
      have hne : ¬ lg_cmp (lN (t % 2)) 0 = 0 := fun w => by
        have := (lN_eq (b := 0) (show t % 2 < 2 ^ 31 by omega) (by decide)).mp ((lg_cmp_eq _ _).mp w)
        omega
      have hg : Nat.gcd (2 ^ (d + 1)) t = 1 := by
        apply Nat.Coprime.pow_left
        show Nat.gcd 2 t = 1
        rw [Nat.gcd_rec, e1, Nat.gcd_one_left]
      rw [if_neg hne, hg, Nat.div_one, Nat.div_one]
theorem all_n : ∀ n, n < 7 → ((1 : Int32) <<< (nI n &&& 31)) - 1 = nI (2 ^ n - 1) := by decide
theorem mean_l {n N : Nat} {h : Nat → Nat → Nat} {lo : Nat} {kC : Int64 → MS → Option (Int64 × MS)} {kM : Int32 → MS → Option (Int64 × MS)} (k1 : hOK n h) (h2n : 2 ≤ n) (hlo : lo < 4) (hN : N ≤ 64) (hN0 : 0 < N) (hA : ((1 : Int32) <<< (nI n &&& 31)) - 1 = nI (N - 1)) :
    ∀ d v fu (S M : MS) (t : Nat), v + d = N → d < fu → t ≤ 99 * v → Inv n S M → rC n h S → rM n h M →
      ∃ t' S' M', fX8_mean_43 n fu kC (nI lo) (nI (N - 1)) (lN t) (nI v) S = kC (lN t') S' ∧ fX9_mean_33 fu kM (nI lo) (nI t) (nI v) M = kM (nI t') M' ∧ t' ≤ 6336 ∧ Inv n S' M' ∧ rM n h M' := by
  have hn := k1.le6
  intro d
  induction d with
  | zero =>
    intro v fu S M t hv hf ht hI k3 k2
    obtain ⟨f, rfl⟩ : ∃ f, fu = f + 1 := ⟨fu - 1, by omega⟩
    refine ⟨t, S, M, ?_, ?_, by omega, hI, k2⟩
    · rw [fX8_mean_43, if_pos (nI_lt (by omega) (by omega))]
    · rw [fX9_mean_33, fX9_all, k2.1.2.2.1, hA, if_pos (nI_lt (by omega) (by omega))]
  | succ d ih =>
    intro v fu S M t hv hf ht hI k3 k2
    obtain ⟨f, rfl⟩ : ∃ f, fu = f + 1 := ⟨fu - 1, by omega⟩
    obtain ⟨S', M', w1, w2, w3, w4, w5, w6, w7, w8⟩ := sale_b (lo := lo) (mc := nI v) (mm := nI v) (pr := fun x => bitS (nI v) x) hI k1 k2 k3 h2n hlo (fun x hx => rfl) (fun x hx => rfl)
    have hpr := w5.pr (fun b hb => lmH_le k1 h2n lo _ hb)
    obtain ⟨t', S2, M2, z1, z2, z3, z4, z5⟩ := ih (v + 1) f S' M' (t + (slH n h lo (fun x => bitS (nI v) x)).2.1) (by omega) (by omega) (by omega) w6 w8 w7
    refine ⟨t', S2, M2, ?_, ?_, z3, z4, z5⟩
    · rw [fX8_mean_43, if_neg (nI_nlt (by omega) (by omega)), w1, Option.bind_some, w3.2.2.1, nI_l (by omega), lN_add, nI_1]
      exact z1
    · rw [fX9_mean_33, fX9_all, k2.1.2.2.1, hA, if_neg (nI_nlt (by omega) (by omega)), w2, Option.bind_some, w4.2.1, nI_add, nI_1]
      exact z2
theorem op_mean (n : Nat) (S M : MS) (a1 a2 : Int32) (h : Inv n S M) : ∃ q qm, gC_mean n a1 a2 S = some q ∧ gM_mean a1 a2 M = some qm ∧ q.1 = qm.1 ∧ Inv n q.2 qm.2 := by
  have hI := h
  obtain ⟨h1, h2, h3, g, k1, k2, k3⟩ := h
  have hn := k1.le6
  unfold gC_mean gM_mean fX8_mean fX9_mean fX9_lost
  rcases lot_c a1 with ⟨lo, hlo, rfl, e3, e4⟩ | ⟨e3, e4⟩
  · rcases two_c a2 with ⟨k, hk, rfl, e5, e6⟩ | ⟨e5, e6⟩
    · rcases there_c (S := S) k1 k2 with ⟨_, t1, t2⟩ | ⟨t0, t1, t2⟩
      · simp only [e3, e4, e5, e6, t1, t2, z10, ↓reduceIte]
        exact ⟨_, _, rfl, rfl, rfl, hI⟩
      · have hNN : 2 ^ n ≤ 64 ∧ 0 < 2 ^ n := (by decide : ∀ n, n < 7 → 2 ^ n ≤ 64 ∧ 0 < 2 ^ n) n (by omega)
        have hA := all_n n (by omega)
        have hs1 : (nI (2 ^ n - 1)).toInt64 + 1 = lN (2 ^ n) := by
          rw [nI_l (by omega), lN_1]
          exact congrArg lN (by omega)
        obtain ⟨t', S', M', z1, z2, z3, z4, z5⟩ := mean_l (N := 2 ^ n) (lo := lo) (kC := fun x7 M8 => (fX8_mean_81 n 300 (fun x11 x12 M13 => (if nI k = 0 then (some (x11, M13)) else (some (x12, M13)))) x7 (((fX5_setOfAll n S).toInt64) + 1) M8)) (kM := fun x7 M8 => ((fX9_told (x7.toInt64) (((fX9_all M8).toInt64) + 1) (nI k)).bind fun r9 => (some (r9, M8)))) k1 t0 hlo hNN.1 hNN.2 hA (2 ^ n) 0 300 S M 0 (by omega) (by omega) (by omega) hI k3 k2
        have z1' : fX8_mean_43 n 300 (fun x7 M8 => (fX8_mean_81 n 300 (fun x11 x12 M13 => (if nI k = 0 then (some (x11, M13)) else (some (x12, M13)))) x7 (((fX5_setOfAll n S).toInt64) + 1) M8)) (nI lo) (fX5_setOfAll n S) 0 (0 : Int32) S = fX8_mean_81 n 300 (fun x11 x12 M13 => (if nI k = 0 then (some (x11, M13)) else (some (x12, M13)))) (lN t') (lN (2 ^ n)) S' := by
          have e : fX5_setOfAll n S = nI (2 ^ n - 1) := hA
          rw [← hs1, ← e]
          refine Eq.trans ?_ z1
          rw [← e]; rfl
        have z2' : fX9_mean_33 300 (fun x7 M8 => ((fX9_told (x7.toInt64) (((fX9_all M8).toInt64) + 1) (nI k)).bind fun r9 => (some (r9, M8)))) (nI lo) (0 : Int32) (0 : Int32) M = (fX9_told (lN t') (lN (2 ^ n)) (nI k)).bind fun r9 => (some (r9, M')) := by
          refine Eq.trans z2 ?_
          show ((fX9_told ((nI t').toInt64) (((fX9_all M').toInt64) + 1) (nI k)).bind fun r9 => (some (r9, M'))) = _
          rw [fX9_all, z5.1.2.2.1, hA, hs1, nI_l (by omega)]
        have hgp : 0 < Nat.gcd (2 ^ n) t' := Nat.gcd_pos_of_pos_left _ hNN.2
        have hgl : Nat.gcd (2 ^ n) t' ≤ 64 := Nat.le_trans (Nat.gcd_le_left _ hNN.2) hNN.1
        have hgn : ¬ lN (Nat.gcd (2 ^ n) t') = 0 := fun w => by
          have := (lN_eq (b := 0) (show Nat.gcd (2 ^ n) t' < 2 ^ 31 by omega) (by decide)).mp w
          omega
        simp only [e3, e4, e5, e6, t1, t2, z10, ↓reduceIte]
        rw [z1', z2', half_l n t' 300 (by omega) (by omega) (by omega)]
        unfold fX9_told
        rw [told_l 300 t' (2 ^ n) (by omega) (by omega) (by omega)]
        by_cases c0 : nI k = 0
        · rw [if_pos c0, if_pos c0, nzl, if_neg hgn, lN_dv (by omega) hgp (by omega), Option.bind_some]
          exact ⟨_, _, rfl, rfl, rfl, z4⟩
        · rw [if_neg c0, if_neg c0, nzl, if_neg hgn, lN_dv (by omega) hgp (by omega), Option.bind_some]
          exact ⟨_, _, rfl, rfl, rfl, z4⟩
    · simp only [e3, e4, e5, e6, z10, ↓reduceIte]
      exact ⟨_, _, rfl, rfl, rfl, hI⟩
  · simp only [e3, e4, z10, ↓reduceIte]
    exact ⟨_, _, rfl, rfl, rfl, hI⟩
