/-! the reference: sitting down, and a whole sale -/
theorem isIn_c (x y : Int32) : fX9_isIn x y = 0 ∨ fX9_isIn x y = 1 := by
  unfold fX9_isIn
  split
  · exact Or.inr rfl
  · exact Or.inl rfl
theorem sitDown_l {n : Nat} {may : Int32} {k : MS → Option MS} (hn : n ≤ 6) :
    ∀ d i fu (M : MS), M 3 0 = nI n → i + d = n → d < fu → ∃ M', fX9_sitDown_2 fu k may (nI i) M = k M' ∧ (∀ j, j ≠ 15 → M' j = M j) ∧ ∀ b, M' 15 b = if i ≤ b ∧ b < n then (if fX9_isIn may (nI b) = 0 then -9 else M 6 b) else M 15 b := by
  intro d
  induction d with
  | zero =>
    intro i fu M h3 hi hf
    obtain ⟨f, rfl⟩ : ∃ f, fu = f + 1 := ⟨fu - 1, by omega⟩
    refine ⟨M, ?_, fun _ _ => rfl, fun b => ?_⟩
    · rw [fX9_sitDown_2, h3, if_pos (nI_le (by omega) (by omega))]
    · rw [if_neg (by omega)]
  | succ d ih =>
    intro i fu M h3 hi hf
    obtain ⟨f, rfl⟩ : ∃ f, fu = f + 1 := ⟨fu - 1, by omega⟩
    have hin : i < n := by omega
    rw [fX9_sitDown_2, h3, if_neg (nI_ge hin (by omega)), nI_1, gd_nI (show i < 6 by omega) (by decide), gd_nI (show i < 6 by omega) (by decide), gd_nI (show i < 6 by omega) (by decide), nI_clamp (show i < 2 ^ 31 by omega)]
    have fin : ∀ x : Int32, x = (if fX9_isIn may (nI i) = 0 then -9 else M 6 i) → ∃ M', fX9_sitDown_2 f k may (nI (i + 1)) (u2 M 15 i x) = k M' ∧ (∀ j, j ≠ 15 → M' j = M j) ∧ ∀ b, M' 15 b = if i ≤ b ∧ b < n then (if fX9_isIn may (nI b) = 0 then -9 else M 6 b) else M 15 b := by
      intro x hx
      obtain ⟨M', w1, w2, w3⟩ := ih (i + 1) f (u2 M 15 i x) h3 (by omega) (by omega)
      refine ⟨M', w1, fun j hj => (w2 j hj).trans (u2_ne _ _ _ hj), fun b => ?_⟩
      rw [w3 b]
      by_cases e : b = i
      · rw [if_neg (by omega), if_pos ⟨by omega, by omega⟩]
        show upd (M 15) i x b = _
        rw [e, upd_at, hx]
      · by_cases e2 : i + 1 ≤ b ∧ b < n
        · rw [if_pos e2, if_pos (show i ≤ b ∧ b < n from ⟨by omega, e2.2⟩)]; rfl
        · rw [if_neg e2, if_neg (by omega)]
          show upd (M 15) i x b = _
          rw [upd_ne _ _ e]
    rcases isIn_c may (nI i) with q | q
    · rw [if_pos q]
      exact fin (-9) (by rw [if_pos q])
    · rw [if_neg (by rw [q]; exact z10)]
      exact fin (M 6 i) (by rw [if_neg (by rw [q]; exact z10)])
theorem sitDown_s {n : Nat} {may : Int32} {M : MS} (hn : n ≤ 6) (h3 : M 3 0 = nI n) : ∃ M', fX9_sitDown may M = some M' ∧ (∀ j, j ≠ 15 → M' j = M j) ∧ ∀ b, b < n → M' 15 b = if fX9_isIn may (nI b) = 0 then -9 else M 6 b := by
  obtain ⟨M', w1, w2, w3⟩ := sitDown_l (may := may) (k := fun M6 => some M6) hn n 0 300 M h3 (by omega) (by omega)
  refine ⟨M', w1, w2, fun b hb => ?_⟩
  rw [w3 b, if_pos ⟨by omega, hb⟩]
/-- a sale's start -/
def sg0 (pr : Nat → Bool) (se : Nat → Nat) : SS := (fun b => if pr b = true then se b else 1000, 0, 1000, 0, fun _ => 0)
theorem sg0_ok {n W RW : Nat} {lim se : Nat → Nat} {pr : Nat → Bool} (h1 : ∀ b, b < n → se b < RW) (h2 : ∀ b c, b < n → c < n → se b = se c → b = c) : okS n W RW lim (sg0 pr se) := by
  refine ⟨fun b hb => ?_, fun b c hb hc => ?_, Or.inl ⟨rfl, rfl⟩, Nat.le_refl _⟩
  · show (if pr b = true then se b else 1000) = 1000 ∨ (if pr b = true then se b else 1000) < RW
    by_cases e : pr b = true
    · rw [if_pos e]; exact Or.inr (h1 b hb)
    · rw [if_neg e]; exact Or.inl rfl
  · show (if pr b = true then se b else 1000) < 1000 → (if pr b = true then se b else 1000) = (if pr c = true then se c else 1000) → b = c
    by_cases e : pr b = true
    · rw [if_pos e]
      by_cases e' : pr c = true
      · rw [if_pos e']; exact fun _ q => h2 b c hb hc q
      · rw [if_neg e']; intro q w; omega
    · rw [if_neg e]; intro q; omega
/-- who sits is given; then the sale -/
theorem sell_s {n W R law lo : Nat} {may : Int32} {kd lim se : Nat → Nat} {pr : Nat → Bool} {M : MS} (hR : R * W ≤ 24) (hg : gmM n W law lo may kd lim M) (hse : ∀ b, b < n → se b < R * W) (hdi : ∀ b c, b < n → c < n → se b = se c → b = c)
    (h15 : ∀ b, b < n → M 15 b = encP (if pr b = true then se b else 1000)) : ∃ M', fX9_sell (nI lo) may M = some M' ∧ cpM n M' (sal n W law kd lim 99 (sg0 pr se)) ∧ okS n W (R * W) lim (sal n W law kd lim 99 (sg0 pr se)) ∧ ∀ j, (j < 15 ∨ 19 < j) → M' j = M j := by
  have hok : okS n W (R * W) lim (sg0 pr se) := sg0_ok hse hdi
  have hcp : cpM n (u2 (u2 (u2 M 16 0 0) 17 0 (-9)) 18 0 0) (sg0 pr se) := ⟨h15, rfl, rfl, rfl, fun k hk => absurd hk (Nat.not_lt_zero k)⟩
  have hgm := hg.cg (M' := u2 (u2 (u2 M 16 0 0) 17 0 (-9)) 18 0 0) (fun j hj => by rw [u2_ne _ _ _ (by omega), u2_ne _ _ _ (by omega), u2_ne _ _ _ (by omega)])
  obtain ⟨M', w1, w2, w3, w4⟩ := sell_l (k := fun M25 => some M25) hR 99 300 _ (sg0 pr se) (Nat.le_add_left 99 _) (by omega) hgm hcp hok
  refine ⟨M', ?_, w2, w3, fun j hj => ?_⟩
  · unfold fX9_sell
    rw [nb_s hgm hcp hok hR, Option.bind_some]
    exact w1
  · rw [w4 j hj, u2_ne _ _ _ (by omega), u2_ne _ _ _ (by omega), u2_ne _ _ _ (by omega)]
theorem sellTo_s {n W R law lo : Nat} {may : Int32} {kd lim se : Nat → Nat} {pr : Nat → Bool} {M : MS} (hR : R * W ≤ 24) (hg : gmM n W law lo may kd lim M) (h6 : ∀ b, b < n → M 6 b = nI (se b)) (hse : ∀ b, b < n → se b < R * W) (hdi : ∀ b c, b < n → c < n → se b = se c → b = c)
    (hpr : ∀ b, b < n → fX9_isIn may (nI b) = if pr b = true then 1 else 0) : ∃ M', fX9_sellTo (nI lo) may M = some M' ∧ cpM n M' (sal n W law kd lim 99 (sg0 pr se)) ∧ okS n W (R * W) lim (sal n W law kd lim 99 (sg0 pr se)) ∧ ∀ j, (j < 15 ∨ 19 < j) → M' j = M j := by
  obtain ⟨M1, s1, s2, s3⟩ := sitDown_s (may := may) (M := M) hg.1 hg.2.2.2.2.2.1
  obtain ⟨M', w1, w2, w3, w4⟩ := sell_s (M := M1) (pr := pr) hR (hg.cg (fun j hj => s2 j (by omega))) hse hdi (fun b hb => by
    rw [s3 b hb, hpr b hb]
    by_cases e : pr b = true
    · rw [if_pos e, if_pos e, if_neg z10, h6 b hb, encP_lt (by have := hse b hb; omega)]
    · rw [if_neg e, if_neg e, if_pos rfl, encP_k])
  refine ⟨M', ?_, w2, w3, fun j hj => (w4 j hj).trans (s2 j (by omega))⟩
  unfold fX9_sellTo
  rw [s1, Option.bind_some, w1, Option.bind_some]
theorem all_s {n b : Nat} {M : MS} (hn : n ≤ 6) (hb : b < n) (h3 : M 3 0 = nI n) : fX9_isIn (fX9_all M) (nI b) = 1 := by
  unfold fX9_all
  rw [h3]
  have : ∀ n : Fin 7, ∀ b : Fin 6, b.val < n.val → fX9_isIn ((1 : Int32) <<< (nI n.val &&& 31) - 1) (nI b.val) = 1 := by decide
  exact this ⟨n, by omega⟩ ⟨b, by omega⟩ hb
