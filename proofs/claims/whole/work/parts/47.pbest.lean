/-! the best seat; on whom a sale hangs -/
theorem two_c (p : Int32) : (∃ k, k < 2 ∧ p = nI k ∧ fX9_in p.toInt64 0 1 = 1 ∧ fX8_isBelow p 2 = 1) ∨ (fX9_in p.toInt64 0 1 = 0 ∧ fX8_isBelow p 2 = 0) := by
  rcases rng_c p (N := 2) (by decide) with ⟨k, hk, rfl⟩ | h
  · exact Or.inl ⟨k, hk, rfl, in_nI (N := 2) (by decide) (by decide) hk, below_nI (N := 2) (by decide) hk⟩
  · exact Or.inr ⟨in_no (N := 2) (by decide) h, below_no (N := 2) (by decide) h⟩
theorem hOK.mv {n : Nat} {g : Nat → Nat → Nat} {b s : Nat} (k : hOK n g) (h2n : 2 ≤ n) (hs : s < g 0 0 * g 0 1) (hfree : ∀ x, x < n → x ≠ b → g 3 x ≠ s) : hOK n (hu g 3 b s) := by
  have c := k.big h2n
  refine Or.inr ⟨c.1, c.2.1, fun x hx => ⟨(c.2.2.1 x hx).1, (c.2.2.1 x hx).2.1, ?_⟩, fun x y hx hy exy => ?_, c.2.2.2.2⟩
  · show hu g 3 b s 3 x < g 0 0 * g 0 1
    by_cases e : x = b
    · subst e; rw [hu_at]; exact hs
    · rw [hu_ne _ e]; exact (c.2.2.1 x hx).2.2
  · by_cases ex : x = b
    · by_cases ey : y = b
      · omega
      · subst ex; rw [hu_at, hu_ne _ ey] at exy; exact absurd exy.symm (hfree y hy ey)
    · by_cases ey : y = b
      · subst ey; rw [hu_at, hu_ne _ ex] at exy; exact absurd exy (hfree x hx ex)
      · rw [hu_ne _ ex, hu_ne _ ey] at exy; exact c.2.2.2.1 x y hx hy exy
theorem rM.mv {n : Nat} {g : Nat → Nat → Nat} {M : MS} (k2 : rM n g M) (b s : Nat) : rM n (hu g 3 b s) (u2 M 6 b (nI s)) := by
  refine ⟨k2.1, fun x hx => ⟨(k2.2.1 x hx).1, (k2.2.1 x hx).2.1, ?_⟩, k2.2.2⟩
  show upd (M 6) b (nI s) x = _
  by_cases e : x = b
  · subst e; rw [upd_at, hu_at]
  · rw [upd_ne _ _ e, hu_ne _ e]; exact (k2.2.1 x hx).2.2
theorem neg9 {g : Nat} (h : g ≤ 99) : ¬ nI g ≤ -9 ∧ ¬ nI g ≤ -99 := by
  rw [Int32.le_iff_toInt_le, Int32.le_iff_toInt_le, nI_toInt (by omega), show (-9 : Int32).toInt = -9 by decide, show (-99 : Int32).toInt = -99 by decide]
  omega
theorem gnH_le {n : Nat} {h : Nat → Nat → Nat} {lo j : Nat} (k1 : hOK n h) (h2n : 2 ≤ n) (hlo : lo < 4) (hj : j < n) : gnH n h lo j ≤ 99 := by
  have := (k1.big h2n).2.2.2.2.1 j lo hj hlo
  unfold gnH
  split
  · omega
  · omega
theorem eqC.tr {S S' S'' : MS} (a : eqC S S') (b : eqC S' S'') : eqC S S'' := ⟨fun k hk => (b.1 k hk).trans (a.1 k hk), fun k h1 h2 => (b.2 k h1 h2).trans (a.2 k h1 h2)⟩
theorem eqM.tr {S S' S'' : MS} (a : eqM S S') (b : eqM S' S'') : eqM S S'' := ⟨fun k hk => (b.1 k hk).trans (a.1 k hk), fun k h1 h2 h3 => (b.2 k h1 h2 h3).trans (a.2 k h1 h2 h3)⟩
theorem eqC.rf (S : MS) : eqC S S := ⟨fun _ _ => rfl, fun _ _ _ => rfl⟩
theorem eqM.rf (S : MS) : eqM S S := ⟨fun _ _ => rfl, fun _ _ _ _ => rfl⟩
theorem best_l {n : Nat} {h : Nat → Nat → Nat} {lo j : Nat} {kC kM : Int32 → Int32 → MS → Option (Int32 × MS)} (k1 : hOK n h) (h2n : 2 ≤ n) (hlo : lo < 4) (hj : j < n) :
    ∀ d s fu (S M : MS) (v5 v6 w5 w6 : Int32), s + d = h 0 0 * h 0 1 → d < fu → rC n h S → rM n h M → ((v5 = w5 ∧ v6 = w6) ∨ (s ≤ h 3 j ∧ v6 = -9 ∧ w6 = -99)) →
      ∃ x y S' M', fX8_best_49 n fu kC (nI lo) j v5 v6 (nI s) S = kC x y S' ∧ fX9_best_49 fu kM (nI j) (nI lo) (nI (h 3 j)) w5 w6 (nI s) M = kM x y M' ∧ eqC S S' ∧ eqM M M' := by
  have hn := k1.le6
  have hR := k1.seats
  have c := k1.big h2n
  have hse : ∀ x, x < n → h 3 x < 100 := fun x hx => by have := (c.2.2.1 x hx).2.2; omega
  intro d
  induction d with
  | zero =>
    intro s fu S M v5 v6 w5 w6 hs hf k3 k2 hv
    obtain ⟨f, rfl⟩ : ∃ f, fu = f + 1 := ⟨fu - 1, by omega⟩
    rcases hv with ⟨rfl, rfl⟩ | ⟨q, _, _⟩
    · refine ⟨v5, v6, S, M, ?_, ?_, eqC.rf S, eqM.rf M⟩
      · rw [fX8_best_49, k3.1.1, if_pos (nI_le (by omega) (by omega))]
      · rw [fX9_best_49, k2.1.1, k2.1.2.1, pk_mul, if_pos (nI_le (by omega) (by omega))]
    · have := (c.2.2.1 j hj).2.2; omega
  | succ d ih =>
    intro s fu S M v5 v6 w5 w6 hs hf k3 k2 hv
    obtain ⟨f, rfl⟩ : ∃ f, fu = f + 1 := ⟨fu - 1, by omega⟩
    have hsR : s < h 0 0 * h 0 1 := by omega
    rw [fX8_best_49, k3.1.1, if_neg (nI_ge hsR (by omega)), fX9_best_49, k2.1.1, k2.1.2.1, pk_mul, if_neg (nI_ge hsR (by omega)), nI_1]
    rcases isFree_c (j := j) (s := s) hn (fun x hx => ⟨(k3.2.1 x hx).2.2, hse x hx⟩) (by omega) with ⟨f1, f2⟩ | ⟨⟨x, hx, hxb, hxs⟩, f1⟩
    · have k1' := k1.mv h2n hsR f2
      obtain ⟨S1, g1, g2⟩ := gainC_s (lo := lo) k1' k3 h2n hlo hj
      obtain ⟨M1, m1, m2⟩ := gainM_s (lo := lo) k1' (k2.mv j s) h2n hlo hj
      have hg99 := gnH_le (lo := lo) k1' h2n hlo hj
      have eC : eqC S S1 := eqC_of g2
      have eM : eqM M (u2 M1 6 j (nI (h 3 j))) := by
        have e6 : u2 M1 6 j (nI (h 3 j)) 6 = M 6 := by
          rw [u2_at, m2 6 (by decide), u2_at]
          funext y
          by_cases e : y = j
          · rw [e, upd_at]; exact (k2.2.1 j hj).2.2.symm
          · rw [upd_ne _ _ e, upd_ne _ _ e]
        refine ⟨fun k hk => ?_, fun k h1 h2 h3 => ?_⟩
        · by_cases e : k = 6
          · rw [e]; exact e6
          · rw [u2_ne _ _ _ e, m2 k (by omega), u2_ne _ _ _ e]
        · rw [u2_ne _ _ _ (by omega), m2 k (by omega), u2_ne _ _ _ (by omega)]
      have go : ∀ v5' v6' w5' w6' : Int32, ((v5' = w5' ∧ v6' = w6') ∨ (s + 1 ≤ h 3 j ∧ v6' = -9 ∧ w6' = -99)) → ∃ x y S' M', fX8_best_49 n f kC (nI lo) j v5' v6' (nI (s + 1)) S1 = kC x y S' ∧ fX9_best_49 f kM (nI j) (nI lo) (nI (h 3 j)) w5' w6' (nI (s + 1)) (u2 M1 6 j (nI (h 3 j))) = kM x y M' ∧ eqC S S' ∧ eqM M M' := by
        intro v5' v6' w5' w6' hv'
        obtain ⟨x, y, S', M', z1, z2, z3, z4⟩ := ih (s + 1) f S1 (u2 M1 6 j (nI (h 3 j))) v5' v6' w5' w6' (by omega) (by omega) (k3.cg eC) (k2.cg eM) hv'
        exact ⟨x, y, S', M', z1, z2, eC.tr z3, eM.tr z4⟩
      have hM : ∃ r, fX9_sitterIn (nI s) M = some r ∧ (r < 0 ∨ (¬ r < 0 ∧ r = nI j)) := by
        rcases sitterIn_c (s := s) hn k2.1.2.2.1 (fun x hx => ⟨(k2.2.1 x hx).2.2, hse x hx⟩) (by omega) with ⟨t1, t2⟩ | ⟨y, hy, hys, t1⟩
        · exact ⟨_, t1, Or.inl (by decide)⟩
        · have eyb : y = j := Classical.byContradiction fun q => f2 y hy q hys
          rw [eyb] at t1
          exact ⟨_, t1, Or.inr ⟨nI_pos (by omega), rfl⟩⟩
      obtain ⟨r, r1, r2⟩ := hM
      have c1 : (nI j).toNatClampNeg = j := nI_clamp (by omega)
      by_cases hle : nI (gnH n (hu h 3 j s) lo j) ≤ w6
      · have hle' : nI (gnH n (hu h 3 j s) lo j) ≤ v6 ∧ (v5 = w5 ∧ v6 = w6) := by
          rcases hv with ⟨q1, q2⟩ | ⟨_, _, q⟩
          · exact ⟨by rw [q2]; exact hle, q1, q2⟩
          · rw [q] at hle; exact absurd hle (neg9 hg99).2
        rcases r2 with r2 | ⟨r2, r3⟩
        · simp only [f1, g1, r1, r2, m1, Option.bind_some, z10, ↓reduceIte, gd_nI (show j < 6 by omega) (show 6 < 2 ^ 31 by decide), c1, hle, hle'.1]
          exact go v5 v6 w5 w6 (Or.inl hle'.2)
        · simp only [f1, g1, r1, r2, r3, m1, Option.bind_some, z10, ↓reduceIte, gd_nI (show j < 6 by omega) (show 6 < 2 ^ 31 by decide), c1, hle, hle'.1, nI_pos (show j < 2 ^ 31 by omega)]
          exact go v5 v6 w5 w6 (Or.inl hle'.2)
      · have hle' : ¬ nI (gnH n (hu h 3 j s) lo j) ≤ v6 := by
          rcases hv with ⟨q1, q2⟩ | ⟨_, q, _⟩
          · rw [q2]; exact hle
          · rw [q]; exact (neg9 hg99).1
        rcases r2 with r2 | ⟨r2, r3⟩
        · simp only [f1, g1, r1, r2, m1, Option.bind_some, z10, ↓reduceIte, gd_nI (show j < 6 by omega) (show 6 < 2 ^ 31 by decide), c1, hle, hle']
          exact go _ _ _ _ (Or.inl ⟨rfl, rfl⟩)
        · simp only [f1, g1, r1, r2, r3, m1, Option.bind_some, z10, ↓reduceIte, gd_nI (show j < 6 by omega) (show 6 < 2 ^ 31 by decide), c1, hle, hle', nI_pos (show j < 2 ^ 31 by omega)]
          exact go _ _ _ _ (Or.inl ⟨rfl, rfl⟩)
    · have hns : s ≠ h 3 j := fun q => hxb (c.2.2.2.1 x j hx hj (by rw [hxs, q]))
      obtain ⟨x', y', S', M', z1, z2, z3, z4⟩ := ih (s + 1) f S M v5 v6 w5 w6 (by omega) (by omega) k3 k2 (by
        rcases hv with q | ⟨q1, q2⟩
        · exact Or.inl q
        · exact Or.inr ⟨by omega, q2⟩)
      rcases sitterIn_c (s := s) hn k2.1.2.2.1 (fun x hx => ⟨(k2.2.1 x hx).2.2, hse x hx⟩) (by omega) with ⟨g1, g2⟩ | ⟨y, hy, hys, g1⟩
      · exact absurd hxs (g2 x hx)
      · have eyx : y = x := c.2.2.2.1 y x hy hx (by rw [hys, hxs])
        subst eyx
        have hne : ¬ nI y = nI j := fun q => hxb (nI_inj (by omega) (by omega) q)
        simp only [f1, g1, Option.bind_some, ↓reduceIte, nI_pos (show y < 2 ^ 31 by omega), hne]
        exact ⟨x', y', S', M', z1, z2, z3, z4⟩
theorem op_best (n : Nat) (S M : MS) (a1 a2 a3 : Int32) (h : Inv n S M) : ∃ q qm, gC_best n a1 a2 a3 S = some q ∧ gM_best a1 a2 a3 M = some qm ∧ q.1 = qm.1 ∧ Inv n q.2 qm.2 := by
  have hI := h
  obtain ⟨h1, h2, h3, g, k1, k2, k3⟩ := h
  have hn := k1.le6
  unfold gC_best gM_best fX8_best fX9_best
  rcases buy_c hn a1 k2.1.2.2.1 with ⟨b, hb, rfl, e1, e2⟩ | ⟨e1, e2⟩
  · rcases lot_c a2 with ⟨lo, hlo, rfl, e3, e4⟩ | ⟨e3, e4⟩
    · rcases two_c a3 with ⟨k, hk, rfl, e5, e6⟩ | ⟨e5, e6⟩
      · rcases there_c (S := S) k1 k2 with ⟨t0, _, _⟩ | ⟨t0, t1, t2⟩
        · omega
        · have hR := k1.seats
          have c1 : (nI b).toNatClampNeg = b := nI_clamp (by omega)
          obtain ⟨x, y, S', M', z1, z2, z3, z4⟩ := best_l (lo := lo) (kC := fun x12 x13 M14 => (if nI k = 0 then (some (x12, M14)) else (some ((100 + x13), M14)))) (kM := fun x24 x25 M26 => (if nI k = 0 then (some (x24, M26)) else (some ((x25 + 100), M26)))) k1 t0 hlo hb (g 0 0 * g 0 1) 0 300 S M (nI (g 3 b)) (-9) (-9) (-99) (by omega) (by omega) k3 k2 (Or.inr ⟨Nat.zero_le _, rfl, rfl⟩)
          have z1' : fX8_best_49 n 300 (fun x12 x13 M14 => (if nI k = 0 then (some (x12, M14)) else (some ((100 + x13), M14)))) (nI lo) b (nI (g 3 b)) (-9) (0 : Int32) S = _ := z1
          have z2' : fX9_best_49 300 (fun x24 x25 M26 => (if nI k = 0 then (some (x24, M26)) else (some ((x25 + 100), M26)))) (nI b) (nI lo) (nI (g 3 b)) (-9) (-99) (0 : Int32) M = _ := z2
          have hI' := hI.keep z3 z4
          simp only [e1, e2, e3, e4, e5, e6, z10, om_some, (k3.2.1 b hb).2.2, (k2.2.1 b hb).2.2, ↓reduceIte, gd_nI (show b < 6 by omega) (show 6 < 2 ^ 31 by decide), c1]
          rw [z1', z2']
          by_cases c0 : nI k = 0
          · simp only [c0, ↓reduceIte]
            exact ⟨_, _, rfl, rfl, rfl, hI'⟩
          · simp only [c0, ↓reduceIte]
            exact ⟨_, _, rfl, rfl, Int32.add_comm _ _, hI'⟩
      · simp only [e1, e2, e3, e4, e5, e6, z10, om_some, ↓reduceIte]
        exact ⟨_, _, rfl, rfl, rfl, hI⟩
    · simp only [e1, e2, e3, e4, z10, om_some, ↓reduceIte]
      exact ⟨_, _, rfl, rfl, rfl, hI⟩
  · simp only [e1, e2, z10, om_none, ↓reduceIte]
    exact ⟨_, _, rfl, rfl, rfl, hI⟩
theorem hangs_l {n : Nat} {h : Nat → Nat → Nat} {lo : Nat} {v2 : Int32} {kC kM : Int32 → MS → Option (Int32 × MS)} (k1 : hOK n h) (h2n : 2 ≤ n) (hlo : lo < 4) :
    ∀ d b fu (S M : MS) (v3 : Int32), b + d = n → d < fu → Inv n S M → rC n h S → rM n h M →
      ∃ x S' M', fX8_hangs_42 n fu kC (nI lo) v2 v3 (nI b) S = kC x S' ∧ fX9_hangs_38 fu kM (nI lo) v2 v3 (nI b) M = kM x M' ∧ Inv n S' M' := by
  have hn := k1.le6
  intro d
  induction d with
  | zero =>
    intro b fu S M v3 hb hf hI k3 k2
    obtain ⟨f, rfl⟩ : ∃ f, fu = f + 1 := ⟨fu - 1, by omega⟩
    refine ⟨v3, S, M, ?_, ?_, hI⟩
    · rw [fX8_hangs_42, if_pos (nI_le (by omega) (by omega))]
    · rw [fX9_hangs_38, k2.1.2.2.1, if_pos (nI_le (by omega) (by omega))]
  | succ d ih =>
    intro b fu S M v3 hb hf hI k3 k2
    obtain ⟨f, rfl⟩ : ∃ f, fu = f + 1 := ⟨fu - 1, by omega⟩
    have hbn : b < n := by omega
    obtain ⟨S', M', w1, w2, w3, w4, w5, w6, w7, w8⟩ := sale_b (lo := lo) (mc := 63 &&& (((1 : Int32) <<< (nI b &&& 31)) ^^^ (-1))) (mm := fX9_all M &&& (((1 : Int32) <<< (nI b &&& 31)) ^^^ (-1))) (pr := fun x => !decide (x = b)) hI k1 k2 k3 h2n hlo (fun x hx => by
        rw [q_clr (show b < 32 by omega) _ (show x < 32 by omega), q_63 x (by omega), Bool.true_and]) (fun x hx => by
        rw [q_clr (show b < 32 by omega) _ (show x < 32 by omega), all_b hn k2.1.2.2.1 hx, Bool.true_and])
    rw [fX8_hangs_42, if_neg (nI_ge hbn (by omega)), fX9_hangs_38, k2.1.2.2.1, if_neg (nI_ge hbn (by omega)), w1, w2, Option.bind_some, Option.bind_some, w3.2.2.2.1, w4.2.2.1, nI_1, Int32.or_zero]
    by_cases e : encP (slH n h lo (fun x => !decide (x = b))).2.2.1 = v2
    · rw [if_pos e, if_pos e]
      exact ih (b + 1) f S' M' v3 (by omega) (by omega) w6 w8 w7
    · rw [if_neg e, if_neg e]
      exact ih (b + 1) f S' M' _ (by omega) (by omega) w6 w8 w7
theorem op_hangs (n : Nat) (S M : MS) (a1 : Int32) (h : Inv n S M) : ∃ q qm, gC_hangs n a1 S = some q ∧ gM_hangs a1 M = some qm ∧ q.1 = qm.1 ∧ Inv n q.2 qm.2 := by
  have hI := h
  obtain ⟨h1, h2, h3, g, k1, k2, k3⟩ := h
  have hn := k1.le6
  unfold gC_hangs gM_hangs fX8_hangs fX9_hangs
  rcases lot_c a1 with ⟨lo, hlo, rfl, e3, e4⟩ | ⟨e3, e4⟩
  · rcases there_c (S := S) k1 k2 with ⟨_, t1, t2⟩ | ⟨t0, t1, t2⟩
    · simp only [e3, e4, t1, t2, z10, ↓reduceIte]
      exact ⟨_, _, rfl, rfl, rfl, hI⟩
    · obtain ⟨S', M', w1, w2, w3, w4, w5, w6, w7, w8⟩ := sale_a hI k1 k2 k3 t0 hlo
      obtain ⟨x, S2, M2, z1, z2, z3⟩ := hangs_l (lo := lo) (v2 := encP (slH n g lo (fun _ => true)).2.2.1) (kC := fun x9 M10 => (some (x9, M10))) (kM := fun x9 M10 => (some (x9, M10))) k1 t0 hlo n 0 300 S' M' 0 (by omega) (by omega) w6 w8 w7
      have z1' : fX8_hangs_42 n 300 (fun x9 M10 => (some (x9, M10))) (nI lo) (encP (slH n g lo (fun _ => true)).2.2.1) 0 (0 : Int32) S' = _ := z1
      have z2' : fX9_hangs_38 300 (fun x9 M10 => (some (x9, M10))) (nI lo) (encP (slH n g lo (fun _ => true)).2.2.1) 0 (0 : Int32) M' = _ := z2
      simp only [e3, e4, t1, t2, z10, w1, w2, Option.bind_some, ↓reduceIte]
      rw [w3.2.2.2.1, w4.2.2.1, z1', z2']
      exact ⟨_, _, rfl, rfl, rfl, z3⟩
  · simp only [e3, e4, z10, ↓reduceIte]
    exact ⟨_, _, rfl, rfl, rfl, hI⟩
