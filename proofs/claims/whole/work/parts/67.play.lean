/-! the seats of a hall -/
def stL (M : MS) (a b : Int32) : MS := u2 (u2 (u2 M 10 4 (M 10 4 ||| a)) 10 5 (M 10 5 ||| b)) 10 1 (M 10 1 + 1)
theorem lay_u (n fu : Nat) (k : MS → Option MS) (v2 v4 : Int32) (M : MS) : fX5_lay_40 n (fu + 1) k v2 v4 M = if v2 ≤ v4 then k M else fX5_lay_40 n fu k v2 (v4 + 1) (stL M (if v2 / 2 ≤ v4 then 0 else ((1 : Int32) <<< ((M 10 1) &&& 31))) (if v4 = v2 - 1 then ((1 : Int32) <<< ((M 10 1) &&& 31)) else 0)) := by
  rw [fX5_lay_40]
  by_cases h0 : v2 ≤ v4
  · rw [if_pos h0, if_pos h0]
  · rw [if_neg h0, if_neg h0]
    by_cases h1 : v2 / 2 ≤ v4
    · rw [if_pos h1, if_pos h1]
      by_cases h2 : v4 = v2 - 1
      · rw [if_pos h2, if_pos h2]; rfl
      · rw [if_neg h2, if_neg h2]; rfl
    · rw [if_neg h1, if_neg h1]
      by_cases h2 : v4 = v2 - 1
      · rw [if_pos h2, if_pos h2]; rfl
      · rw [if_neg h2, if_neg h2]; rfl
def ltB (W s : Nat) : Bool := decide (s % W < W / 2)
def rtB (W s : Nat) : Bool := decide (s % W = W - 1)
theorem lay40_l {n W base : Nat} {k : MS → Option MS} (hW : 2 ≤ W) (hW6 : W ≤ 6) (hb24 : base + W ≤ 24) (hb0 : base % W = 0) :
    ∀ d c fu (M : MS), c + d = W → d < fu → M 10 1 = nI (base + c) → (∀ s, s < 32 → bitS (M 10 4) s = (decide (s < base + c) && ltB W s)) → (∀ s, s < 32 → bitS (M 10 5) s = (decide (s < base + c) && rtB W s)) →
      ∃ M', fX5_lay_40 n fu k (nI W) (nI c) M = k M' ∧ M' 10 1 = nI (base + W) ∧ (∀ s, s < 32 → bitS (M' 10 4) s = (decide (s < base + W) && ltB W s)) ∧ (∀ s, s < 32 → bitS (M' 10 5) s = (decide (s < base + W) && rtB W s)) ∧ (∀ i, i ≠ 10 → M' i = M i) ∧ M' 10 2 = M 10 2 ∧ M' 10 3 = M 10 3 := by
  intro d
  induction d with
  | zero =>
    intro c fu M hc hf h1 h4 h5
    obtain ⟨f, rfl⟩ : ∃ f, fu = f + 1 := ⟨fu - 1, by omega⟩
    have e : c = W := by omega
    subst e
    refine ⟨M, ?_, h1, h4, h5, fun _ _ => rfl, rfl, rfl⟩
    rw [lay_u, if_pos (nI_le (Nat.le_refl _) (by omega))]
  | succ d ih =>
    intro c fu M hc hf h1 h4 h5
    obtain ⟨f, rfl⟩ : ∃ f, fu = f + 1 := ⟨fu - 1, by omega⟩
    have hcW : c < W := by omega
    have hmod : (base + c) % W = c := by rw [Nat.add_mod, hb0, Nat.zero_add, Nat.mod_mod, Nat.mod_eq_of_lt hcW]
    rw [lay_u, if_neg (nI_ge hcW (by omega)), h1, nI_1]
    have b4 : ∀ s, s < 32 → bitS (M 10 4 ||| (if nI W / 2 ≤ nI c then 0 else ((1 : Int32) <<< (nI (base + c) &&& 31)))) s = (decide (s < base + (c + 1)) && ltB W s) := fun s hs => by
      rw [q_or, h4 s hs, show (2 : Int32) = nI 2 from rfl, pk_div (by omega) (by decide) (by decide)]
      by_cases e : W / 2 ≤ c
      · rw [if_pos (nI_le e (by omega)), q_0, Bool.or_false]
        by_cases es : s = base + c
        · have : ltB W s = false := by
            unfold ltB
            rw [es, hmod]
            exact decide_eq_false (by omega)
          rw [this, Bool.and_false, Bool.and_false]
        · rw [show decide (s < base + c) = decide (s < base + (c + 1)) from decide_eq_decide.mpr (by omega)]
      · rw [if_neg (nI_ge (by omega) (by omega)), q_one (base + c) (by omega) s hs]
        by_cases es : s = base + c
        · have : ltB W s = true := by
            unfold ltB
            rw [es, hmod]
            exact decide_eq_true (by omega)
          rw [this, decide_eq_true es, Bool.or_true, decide_eq_true (show s < base + (c + 1) by omega)]; rfl
        · rw [decide_eq_false es, Bool.or_false, show decide (s < base + c) = decide (s < base + (c + 1)) from decide_eq_decide.mpr (by omega)]
    have b5 : ∀ s, s < 32 → bitS (M 10 5 ||| (if nI c = nI W - 1 then ((1 : Int32) <<< (nI (base + c) &&& 31)) else 0)) s = (decide (s < base + (c + 1)) && rtB W s) := fun s hs => by
      rw [q_or, h5 s hs, show (1 : Int32) = nI 1 from rfl, pk_sub (by omega)]
      by_cases e : c = W - 1
      · rw [if_pos (by rw [e]), show nI 1 = (1 : Int32) from rfl, q_one (base + c) (by omega) s hs]
        by_cases es : s = base + c
        · have : rtB W s = true := by
            unfold rtB
            rw [es, hmod]
            exact decide_eq_true e
          rw [this, decide_eq_true es, Bool.or_true, decide_eq_true (show s < base + (c + 1) by omega)]; rfl
        · rw [decide_eq_false es, Bool.or_false, show decide (s < base + c) = decide (s < base + (c + 1)) from decide_eq_decide.mpr (by omega)]
      · rw [if_neg (ne_k (by omega) (by omega) e), q_0, Bool.or_false]
        by_cases es : s = base + c
        · have : rtB W s = false := by
            unfold rtB
            rw [es, hmod]
            exact decide_eq_false e
          rw [this, Bool.and_false, Bool.and_false]
        · rw [show decide (s < base + c) = decide (s < base + (c + 1)) from decide_eq_decide.mpr (by omega)]
    obtain ⟨M', w1, w2, w3, w4, w5, w6, w7⟩ := ih (c + 1) f (stL M (if nI W / 2 ≤ nI c then 0 else ((1 : Int32) <<< (nI (base + c) &&& 31))) (if nI c = nI W - 1 then ((1 : Int32) <<< (nI (base + c) &&& 31)) else 0)) (by omega) (by omega) (by
        show M 10 1 + 1 = nI (base + (c + 1))
        rw [h1, nI_1]; rfl) b4 b5
    refine ⟨M', w1, w2, w3, w4, fun i hi => ?_, w6, w7⟩
    rw [w5 i hi]
    unfold stL
    rw [u2_ne _ _ _ hi, u2_ne _ _ _ hi, u2_ne _ _ _ hi]
theorem lay32_l {n W R : Nat} {k : MS → Option MS} (hW : 2 ≤ W) (hW6 : W ≤ 6) (hR4 : R ≤ 4) (hRW : R * W ≤ 24) :
    ∀ d r fu (M : MS), r + d = R → d < fu → M 10 1 = nI (r * W) → (∀ s, s < 32 → bitS (M 10 4) s = (decide (s < r * W) && ltB W s)) → (∀ s, s < 32 → bitS (M 10 5) s = (decide (s < r * W) && rtB W s)) →
      ∃ M', fX5_lay_32 n fu k (nI R) (nI W) (nI r) M = k M' ∧ M' 10 1 = nI (R * W) ∧ (∀ s, s < 32 → bitS (M' 10 4) s = (decide (s < R * W) && ltB W s)) ∧ (∀ s, s < 32 → bitS (M' 10 5) s = (decide (s < R * W) && rtB W s)) ∧ (∀ i, i ≠ 10 → M' i = M i) ∧ M' 10 2 = M 10 2 ∧ M' 10 3 = M 10 3 := by
  intro d
  induction d with
  | zero =>
    intro r fu M hr hf h1 h4 h5
    obtain ⟨f, rfl⟩ : ∃ f, fu = f + 1 := ⟨fu - 1, by omega⟩
    have e : r = R := by omega
    subst e
    refine ⟨M, ?_, h1, h4, h5, fun _ _ => rfl, rfl, rfl⟩
    rw [fX5_lay_32, if_pos (nI_le (Nat.le_refl _) (by omega))]
  | succ d ih =>
    intro r fu M hr hf h1 h4 h5
    obtain ⟨f, rfl⟩ : ∃ f, fu = f + 1 := ⟨fu - 1, by omega⟩
    have hrR : r < R := by omega
    have hs : (r + 1) * W = r * W + W := Nat.succ_mul r W
    have hle : (r + 1) * W ≤ R * W := Nat.mul_le_mul_right W hrR
    obtain ⟨M1, w1, w2, w3, w4, w5, w6, w7⟩ := lay40_l (n := n) (W := W) (base := r * W) (k := fun M6 => (fX5_lay_32 n f k (nI R) (nI W) (nI (r + 1)) M6)) hW hW6 (by omega) (Nat.mul_mod_left r W) W 0 300 M (by omega) (by omega) h1 h4 h5
    rw [← hs] at w2 w3 w4
    obtain ⟨M', y1, y2, y3, y4, y5, y6, y7⟩ := ih (r + 1) f M1 (by omega) (by omega) w2 w3 w4
    refine ⟨M', ?_, y2, y3, y4, fun i hi => (y5 i hi).trans (w5 i hi), y6.trans w6, y7.trans w7⟩
    rw [fX5_lay_32, if_neg (nI_ge hrR (by omega)), nI_1]
    exact Eq.trans w1 y1
theorem lay_s {n W R : Nat} {S : MS} (hW : 2 ≤ W) (hW6 : W ≤ 6) (hR4 : R ≤ 4) (hRW : R * W ≤ 24) :
    ∃ S', fX5_lay n (nI R) (nI W) S = some S' ∧ S' 10 1 = nI (R * W) ∧ S' 10 2 = nI W ∧ S' 10 3 = 0 ∧ (∀ s, s < R * W → bitS (S' 10 4) s = decide (s % W < W / 2) ∧ bitS (S' 10 5) s = decide (s % W = W - 1)) ∧ ∀ i, i ≠ 10 → S' i = S i := by
  obtain ⟨M', w1, w2, w3, w4, w5, w6, w7⟩ := lay32_l (n := 0) (k := fun M7 => (some M7)) hW hW6 hR4 hRW R 0 300 (u2 (u2 (u2 (u2 (u2 S 10 3 0) 10 2 (nI W)) 10 1 0) 10 4 0) 10 5 0) (by omega) (by omega) (by rw [Nat.zero_mul]; rfl) (fun s _ => by
      rw [Nat.zero_mul, decide_eq_false (Nat.not_lt_zero s), Bool.false_and]
      exact q_0 s) (fun s _ => by
      rw [Nat.zero_mul, decide_eq_false (Nat.not_lt_zero s), Bool.false_and]
      exact q_0 s)
  refine ⟨M', w1, w2, w6, w7, fun s hs => ⟨?_, ?_⟩, fun i hi => ?_⟩
  · rw [w3 s (by omega), decide_eq_true hs, Bool.true_and]; rfl
  · rw [w4 s (by omega), decide_eq_true hs, Bool.true_and]; rfl
  · rw [w5 i hi, u2_ne _ _ _ hi, u2_ne _ _ _ hi, u2_ne _ _ _ hi, u2_ne _ _ _ hi, u2_ne _ _ _ hi]
/-! the buyers of a hall -/
theorem bkd_s {kd : Nat} (h : kd < 3) : bkd (cdN kd) = nI kd := by
  rcases (show kd = 0 ∨ kd = 1 ∨ kd = 2 by omega) with rfl | rfl | rfl <;> decide
theorem wel_fr (n : Nat) (kd pu : Int32) (S : MS) (i : Nat) (h : i < 20 ∨ 23 < i) : wel n kd pu S i = S i := by
  have nb : ∀ k, i ≠ k → Nat.beq i k = false := fun k hk => by
    cases hb : Nat.beq i k with
    | false => rfl
    | true => exact absurd (Nat.eq_of_beq_eq_true hb) hk
  unfold wel
  rw [nb 20 (by omega), nb 21 (by omega), nb 22 (by omega), nb 23 (by omega)]
  rfl
theorem dig_s {n kk len p v : Nat} {S : MS} (hl : S (1 + kk) 1 = nI len) (hlen : len ≤ 60) (hp : p < len) (hc : S (5 + kk) p = nI (48 + v)) : fX8_digitAt n kk (nI p) S = some (nI v) := by
  unfold fX8_digitAt
  rw [at_spec hl hlen hp, Option.bind_some, hc, show (48 : Int32) = nI 48 from rfl, pk_sub (by omega), show 48 + v - 48 = v by omega]
theorem fR_l {kk ii m j len : Nat} {M M' : MS} (hkk : kk < 4) (hlen : len ≤ 60) (him : ii + m ≤ len) (hj : j ≤ 6) (hm : m = 3 + 4 * j) (hb : ∀ b, b < j → byO kk ii M M' b) :
    ∀ d b fu (S : MS), b + d = j → d < fu → S (1 + kk) 1 = nI len → (∀ p, p < m → S (5 + kk) (ii + p) = M 29 (60 * kk + ii + p)) →
      ∃ S', fRoomL fu kk (nI ii) (nI m) (nI (3 + 4 * b)) b S = some (j, S') ∧ (∀ i, (i < 20 ∨ 23 < i) → S' i = S i) ∧ (∀ x, x < b → S' 20 x = S 20 x ∧ S' 21 x = S 21 x ∧ S' 22 x = S 22 x ∧ ∀ lot, S' 23 (6 * lot + x) = S 23 (6 * lot + x)) ∧ ∀ x, b ≤ x → x < j → S' 20 x = M' 13 x ∧ S' 21 x = M' 14 x ∧ S' 22 x = nI x ∧ ∀ lot, S' 23 (6 * lot + x) = 0 := by
  intro d
  induction d with
  | zero =>
    intro b fu S hbj hf hl hc
    obtain ⟨f, rfl⟩ : ∃ f, fu = f + 1 := ⟨fu - 1, by omega⟩
    have e : b = j := by omega
    subst e
    refine ⟨S, ?_, fun _ _ => rfl, fun x _ => ⟨rfl, rfl, rfl, fun _ => rfl⟩, fun x h1 h2 => by omega⟩
    rw [fRoomL, if_pos (nI_le (by omega) (by omega))]
  | succ d ih =>
    intro b fu S hbj hf hl hc
    obtain ⟨f, rfl⟩ : ∃ f, fu = f + 1 := ⟨fu - 1, by omega⟩
    have hbj2 : b < j := by omega
    obtain ⟨kd, t, o, ⟨k1, k2, k3⟩, ⟨t1, t2, t3⟩, e13, e14⟩ := hb b hbj2
    have d1 : fX8_digitAt b kk (nI (ii + (3 + 4 * b + 2))) S = some (nI t) := dig_s hl hlen (by omega) (by rw [hc _ (by omega), t2])
    have d2 : fX8_digitAt b kk (nI (ii + (3 + 4 * b + 3))) S = some (nI o) := dig_s hl hlen (by omega) (by rw [hc _ (by omega), t3])
    have d3 : fX6_at b kk (nI (ii + (3 + 4 * b + 1))) S = some (cdN kd) := by rw [at_spec hl hlen (by omega), hc _ (by omega), t1]
    obtain ⟨S', w1, w2, w3, w4⟩ := ih (b + 1) f (wel b (nI kd) (nI (10 * t + o)) S) (by omega) (by omega) (by rw [wel_fr _ _ _ _ _ (by omega)]; exact hl) (fun p hp => by rw [wel_fr _ _ _ _ _ (by omega)]; exact hc p hp)
    refine ⟨S', ?_, fun i hi => by rw [w2 i hi, wel_fr _ _ _ _ _ hi], fun x hx => ?_, fun x h1 h2 => ?_⟩
    · rw [fRoomL, if_neg (nI_ge (show 3 + 4 * b < m by omega) (by omega)), nI_add, show nI (ii + (3 + 4 * b)) + 2 = nI (ii + (3 + 4 * b + 2)) from nI_add (ii + (3 + 4 * b)) 2, show nI (ii + (3 + 4 * b)) + 3 = nI (ii + (3 + 4 * b + 3)) from nI_add (ii + (3 + 4 * b)) 3, show nI (ii + (3 + 4 * b)) + 1 = nI (ii + (3 + 4 * b + 1)) from nI_add (ii + (3 + 4 * b)) 1, d1, Option.bind_some, d2, Option.bind_some, d3, Option.bind_some, if_pos (by omega), bkd_s k1, show (10 : Int32) = nI 10 from rfl, pk_mul, nI_add, show nI (3 + 4 * b) + 4 = nI (3 + 4 * (b + 1)) from nI_add (3 + 4 * b) 4]
      exact w1
    · obtain ⟨x1, x2, x3, x4⟩ := w3 x (by omega)
      refine ⟨?_, ?_, ?_, fun lot => ?_⟩
      · rw [x1]; exact upd_ne (S 20) _ (by omega)
      · rw [x2]; exact upd_ne (S 21) _ (by omega)
      · rw [x3]; exact upd_ne (S 22) _ (by omega)
      · rw [x4 lot]
        show (if (6 * lot + x) % 6 = b then 0 else S 23 (6 * lot + x)) = _
        rw [if_neg (by omega)]
    · by_cases e : x = b
      · subst e
        obtain ⟨x1, x2, x3, x4⟩ := w3 x (by omega)
        refine ⟨?_, ?_, ?_, fun lot => ?_⟩
        · rw [x1, e13]; exact upd_at (S 20) x _
        · rw [x2, e14]; exact upd_at (S 21) x _
        · rw [x3]; exact upd_at (S 22) x _
        · rw [x4 lot]
          show (if (6 * lot + x) % 6 = x then 0 else S 23 (6 * lot + x)) = _
          rw [if_pos (by omega)]
      · exact w4 x (by omega) h2
/-! the reference's hall -/
theorem h106_l {j : Nat} {k : MS → Option (Int32 × MS)} (hj : j ≤ 6) :
    ∀ d b fu (M : MS), M 3 0 = nI j → b + d = j → d < fu → ∃ M', fX9_hall_106 fu k (nI b) M = k M' ∧ (∀ i, i ≠ 4 → i ≠ 5 → i ≠ 6 → M' i = M i) ∧ (∀ x, x < b → M' 4 x = M 4 x ∧ M' 5 x = M 5 x ∧ M' 6 x = M 6 x) ∧ ∀ x, b ≤ x → x < j → M' 4 x = M 13 x ∧ M' 5 x = M 14 x ∧ M' 6 x = nI x := by
  intro d
  induction d with
  | zero =>
    intro b fu M h3 hb hf
    obtain ⟨f, rfl⟩ : ∃ f, fu = f + 1 := ⟨fu - 1, by omega⟩
    refine ⟨M, ?_, fun _ _ _ _ => rfl, fun _ _ => ⟨rfl, rfl, rfl⟩, fun x h1 h2 => by omega⟩
    rw [fX9_hall_106, h3, if_pos (nI_le (by omega) (by omega))]
  | succ d ih =>
    intro b fu M h3 hb hf
    obtain ⟨f, rfl⟩ : ∃ f, fu = f + 1 := ⟨fu - 1, by omega⟩
    have hbj : b < j := by omega
    rw [fX9_hall_106, h3, if_neg (nI_ge hbj (by omega)), gd_nI (show b < 6 by omega) (by decide), gd_nI (show b < 6 by omega) (by decide), gd_nI (show b < 6 by omega) (by decide), gd_nI (show b < 6 by omega) (by decide), gd_nI (show b < 6 by omega) (by decide), nI_1, nI_clamp (show b < 2 ^ 31 by omega)]
    obtain ⟨M', w1, w2, w3, w4⟩ := ih (b + 1) f (u2 (u2 (u2 M 4 b (M 13 b)) 5 b ((u2 M 4 b (M 13 b)) 14 b)) 6 b (nI b)) h3 (by omega) (by omega)
    refine ⟨M', w1, fun i h1 h2 h3 => ?_, fun x hx => ?_, fun x h1 h2 => ?_⟩
    · rw [w2 i h1 h2 h3, u2_ne _ _ _ h3, u2_ne _ _ _ h2, u2_ne _ _ _ h1]
    · obtain ⟨x1, x2, x3⟩ := w3 x (by omega)
      refine ⟨?_, ?_, ?_⟩
      · rw [x1]; exact upd_ne (M 4) _ (by omega)
      · rw [x2]; exact upd_ne (M 5) _ (by omega)
      · rw [x3]; exact upd_ne (M 6) _ (by omega)
    · by_cases e : x = b
      · subst e
        obtain ⟨x1, x2, x3⟩ := w3 x (by omega)
        refine ⟨?_, ?_, ?_⟩
        · rw [x1]; exact upd_at (M 4) x _
        · rw [x2]; exact upd_at (M 5) x _
        · rw [x3]; exact upd_at (M 6) x _
      · exact w4 x (by omega) h2
theorem h161_l {k : MS → Option (Int32 × MS)} :
    ∀ d x fu (M : MS), x + d = 24 → d < fu → ∃ M', fX9_hall_161 fu k (nI x) M = k M' ∧ (∀ i, i ≠ 7 → M' i = M i) ∧ (∀ y, y < x → M' 7 y = M 7 y) ∧ ∀ y, x ≤ y → y < 24 → M' 7 y = 0 := by
  intro d
  induction d with
  | zero =>
    intro x fu M hx hf
    obtain ⟨f, rfl⟩ : ∃ f, fu = f + 1 := ⟨fu - 1, by omega⟩
    refine ⟨M, ?_, fun _ _ => rfl, fun _ _ => rfl, fun y h1 h2 => by omega⟩
    rw [fX9_hall_161, if_pos (show (24 : Int32) ≤ nI x from nI_le (a := 24) (by omega) (by omega))]
  | succ d ih =>
    intro x fu M hx hf
    obtain ⟨f, rfl⟩ : ∃ f, fu = f + 1 := ⟨fu - 1, by omega⟩
    have hx24 : x < 24 := by omega
    rw [fX9_hall_161, if_neg (show ¬ (24 : Int32) ≤ nI x from nI_ge (b := 24) hx24 (by decide)), gd_nI hx24 (by decide), nI_1, nI_clamp (show x < 2 ^ 31 by omega)]
    obtain ⟨M', w1, w2, w3, w4⟩ := ih (x + 1) f (u2 M 7 x 0) (by omega) (by omega)
    refine ⟨M', w1, fun i hi => (w2 i hi).trans (u2_ne _ _ _ hi), fun y hy => ?_, fun y h1 h2 => ?_⟩
    · rw [w3 y (by omega), u2_at, upd_ne _ _ (by omega)]
    · by_cases e : y = x
      · rw [w3 y (by omega), u2_at, e, upd_at]
      · exact w4 y (by omega) h2
