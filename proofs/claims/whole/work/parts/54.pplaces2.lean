/-! the call places -/
theorem readC_s {n : Nat} {h : Nat → Nat → Nat} {j s ex : Nat} {v3 : Int32} {S : MS} (k0 : hOK n h) (k1 : hOK n (hu h 3 j s)) (h2n : 2 ≤ n) (hj : j < n) (hex : ∀ i, i < 4 → (nI i = v3 ↔ i = ex)) (k3 : rC n h S) : ∃ S', fX8_areReadingsSo n (nI j) (nI s) v3 S = some ((if soB n (hu h 3 j s) ex = true then 1 else 0), S') ∧ ∀ i, (i ≤ 10 ∨ 16 < i) → S' i = S i :=
  readC_l k0 k1 h2n hj hex 4 0 300 S (by omega) (by omega) k3 (fun r hr q => absurd q (Nat.not_lt_zero _))
theorem ex_m9 : ∀ i, i < 4 → (nI i = (-9 : Int32) ↔ i = 4) := by decide
theorem places_l {n : Nat} {h : Nat → Nat → Nat} {j : Nat} {kC kM : Int32 → MS → Option (Int32 × MS)} (k1 : hOK n h) (h2n : 2 ≤ n) (hj : j < n) :
    ∀ d s fu (S M : MS) (v3 : Int32), s + d = h 0 0 * h 0 1 → d < fu → rC n h S → rM n h M →
      ∃ x S' M', fX8_places_20 n fu kC (nI j) j v3 (nI s) S = kC x S' ∧ fX9_places_22 fu kM (nI j) (nI (h 3 j)) v3 (nI s) M = kM x M' ∧ eqC S S' ∧ eqM M M' := by
  have hn := k1.le6
  have hR := k1.seats
  have c := k1.big h2n
  have hse : ∀ x, x < n → h 3 x < 100 := fun x hx => by have := (c.2.2.1 x hx).2.2; omega
  intro d
  induction d with
  | zero =>
    intro s fu S M v3 hs hf k3 k2
    obtain ⟨f, rfl⟩ : ∃ f, fu = f + 1 := ⟨fu - 1, by omega⟩
    refine ⟨v3, S, M, ?_, ?_, eqC.rf S, eqM.rf M⟩
    · rw [fX8_places_20, k3.1.1, if_pos (nI_le (by omega) (by omega))]
    · rw [fX9_places_22, k2.1.1, k2.1.2.1, pk_mul, if_pos (nI_le (by omega) (by omega))]
  | succ d ih =>
    intro s fu S M v3 hs hf k3 k2
    obtain ⟨f, rfl⟩ : ∃ f, fu = f + 1 := ⟨fu - 1, by omega⟩
    have hsR : s < h 0 0 * h 0 1 := by omega
    rw [fX8_places_20, k3.1.1, if_neg (nI_ge hsR (by omega)), fX9_places_22, k2.1.1, k2.1.2.1, pk_mul, if_neg (nI_ge hsR (by omega)), nI_1, Int32.or_zero]
    rcases isFree_c (j := j) (s := s) hn (fun x hx => ⟨(k3.2.1 x hx).2.2, hse x hx⟩) (by omega) with ⟨f1, f2⟩ | ⟨⟨x, hx, hxb, hxs⟩, f1⟩
    · have k1' := k1.mv h2n hsR f2
      obtain ⟨S1, g1, g2⟩ := readC_s (ex := 4) (v3 := -9) k1 k1' h2n hj ex_m9 k3
      obtain ⟨M1, m1, m2⟩ := areSo_s k1' h2n (k2.mv j s)
      have eC : eqC S S1 := eqC_of g2
      have eM : eqM M (u2 M1 6 j (nI (h 3 j))) := by
        have e6 : u2 M1 6 j (nI (h 3 j)) 6 = M 6 := by
          rw [u2_at, m2 6 (by decide), u2_at]
          funext y
          by_cases e : y = j
          · rw [e, upd_at]; exact (k2.2.1 j hj).2.2.symm
          · rw [upd_ne _ _ e, upd_ne _ _ e]
        refine ⟨fun k hk => ?_, fun k h1 h2 h3 => ?_⟩
        · by_cases e : k = 6
          · rw [e]; exact e6
          · rw [u2_ne _ _ _ e, m2 k (by omega), u2_ne _ _ _ e]
        · rw [u2_ne _ _ _ (by omega), m2 k (by omega), u2_ne _ _ _ (by omega)]
      have go : ∀ w : Int32, ∃ x S' M', fX8_places_20 n f kC (nI j) j w (nI (s + 1)) S1 = kC x S' ∧ fX9_places_22 f kM (nI j) (nI (h 3 j)) w (nI (s + 1)) (u2 M1 6 j (nI (h 3 j))) = kM x M' ∧ eqC S S' ∧ eqM M M' := by
        intro w
        obtain ⟨x, S', M', z1, z2, z3, z4⟩ := ih (s + 1) f S1 (u2 M1 6 j (nI (h 3 j))) w (by omega) (by omega) (k3.cg eC) (k2.cg eM)
        exact ⟨x, S', M', z1, z2, eC.tr z3, eM.tr z4⟩
      have hM : ∃ r, fX9_sitterIn (nI s) M = some r ∧ (r < 0 ∨ (¬ r < 0 ∧ r = nI j)) := by
        rcases sitterIn_c (s := s) hn k2.1.2.2.1 (fun x hx => ⟨(k2.2.1 x hx).2.2, hse x hx⟩) (by omega) with ⟨t1, t2⟩ | ⟨y, hy, hys, t1⟩
        · exact ⟨_, t1, Or.inl (by decide)⟩
        · have eyb : y = j := Classical.byContradiction fun q => f2 y hy q hys
          rw [eyb] at t1
          exact ⟨_, t1, Or.inr ⟨nI_pos (by omega), rfl⟩⟩
      obtain ⟨r, r1, r2⟩ := hM
      have c1 : (nI j).toNatClampNeg = j := nI_clamp (by omega)
      by_cases es : soB n (hu h 3 j s) 4 = true
      · rcases r2 with r2 | ⟨r2, r3⟩
        · simp only [f1, g1, r1, r2, m1, es, Option.bind_some, z10, ↓reduceIte, gd_nI (show j < 6 by omega) (show 6 < 2 ^ 31 by decide), c1]
          exact go _
        · simp only [f1, g1, r1, r2, r3, m1, es, Option.bind_some, z10, ↓reduceIte, gd_nI (show j < 6 by omega) (show 6 < 2 ^ 31 by decide), c1, nI_pos (show j < 2 ^ 31 by omega)]
          exact go _
      · rcases r2 with r2 | ⟨r2, r3⟩
        · simp only [f1, g1, r1, r2, m1, es, Option.bind_some, z10, ↓reduceIte, gd_nI (show j < 6 by omega) (show 6 < 2 ^ 31 by decide), c1]
          exact go _
        · simp only [f1, g1, r1, r2, r3, m1, es, Option.bind_some, z10, ↓reduceIte, gd_nI (show j < 6 by omega) (show 6 < 2 ^ 31 by decide), c1, nI_pos (show j < 2 ^ 31 by omega)]
          exact go _
    · obtain ⟨x', S', M', z1, z2, z3, z4⟩ := ih (s + 1) f S M v3 (by omega) (by omega) k3 k2
      rcases sitterIn_c (s := s) hn k2.1.2.2.1 (fun x hx => ⟨(k2.2.1 x hx).2.2, hse x hx⟩) (by omega) with ⟨g1, g2⟩ | ⟨y, hy, hys, g1⟩
      · exact absurd hxs (g2 x hx)
      · have eyx : y = x := c.2.2.2.1 y x hy hx (by rw [hys, hxs])
        subst eyx
        have hne : ¬ nI y = nI j := fun q => hxb (nI_inj (by omega) (by omega) q)
        simp only [f1, g1, Option.bind_some, ↓reduceIte, nI_pos (show y < 2 ^ 31 by omega), hne]
        exact ⟨x', S', M', z1, z2, z3, z4⟩
theorem op_places (n : Nat) (S M : MS) (a1 : Int32) (h : Inv n S M) : ∃ q qm, gC_places n a1 S = some q ∧ gM_places a1 M = some qm ∧ q.1 = qm.1 ∧ Inv n q.2 qm.2 := by
  have hI := h
  obtain ⟨h1, h2, h3, g, k1, k2, k3⟩ := h
  have hn := k1.le6
  unfold gC_places gM_places fX8_places fX9_places
  rcases buy_c hn a1 k2.1.2.2.1 with ⟨b, hb, rfl, e1, e2⟩ | ⟨e1, e2⟩
  · rcases there_c (S := S) k1 k2 with ⟨t0, _, _⟩ | ⟨t0, t1, t2⟩
    · omega
    · have hR := k1.seats
      have c1 : (nI b).toNatClampNeg = b := nI_clamp (by omega)
      obtain ⟨x, S', M', z1, z2, z3, z4⟩ := places_l (kC := fun x10 M11 => (some (x10, M11))) (kM := fun x20 M21 => (some (x20, M21))) k1 t0 hb (g 0 0 * g 0 1) 0 300 S M 0 (by omega) (by omega) k3 k2
      have z1' : fX8_places_20 n 300 (fun x10 M11 => (some (x10, M11))) (nI b) b 0 (0 : Int32) S = _ := z1
      have z2' : fX9_places_22 300 (fun x20 M21 => (some (x20, M21))) (nI b) (nI (g 3 b)) 0 (0 : Int32) M = _ := z2
      simp only [e1, e2, om_some, (k2.2.1 b hb).2.2, ↓reduceIte, gd_nI (show b < 6 by omega) (show 6 < 2 ^ 31 by decide), c1]
      rw [z1', z2']
      exact ⟨_, _, rfl, rfl, rfl, hI.keep z3 z4⟩
  · simp only [e1, e2, z10, om_none, ↓reduceIte]
    exact ⟨_, _, rfl, rfl, rfl, hI⟩
