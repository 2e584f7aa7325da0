/-! the call values -/
theorem rsF_f {ow : Nat → Bool} {p : Int32} (hf : ∀ v, ow v = false) : ∀ d v c x, rsF ow p d v c x = (x, c) := by
  intro d
  induction d with
  | zero => intro v c x; rfl
  | succ d ih =>
    intro v c x
    rw [rsF, hf v, if_neg (by decide)]
    exact ih (v + 1) c x
theorem val_0 {n : Nat} {k : Int32 → MS → Option (Int32 × MS)} {v1 v2 v3 v5 v6 v7 v9 : Int32} {v4 : Nat} {S : MS} (fu : Nat) (hf : 0 < fu) : fX8_values_55 n fu k v1 v2 v3 v4 v5 v6 v7 0 v9 S = k v5 S := by
  obtain ⟨f, rfl⟩ : ∃ f, fu = f + 1 := ⟨fu - 1, by omega⟩
  rw [fX8_values_55, if_pos rfl]
theorem op_values (n : Nat) (S M : MS) (a1 a2 a3 : Int32) (h : Inv n S M) : ∃ q qm, gC_values n a1 a2 a3 S = some q ∧ gM_values a1 a2 a3 M = some qm ∧ q.1 = qm.1 ∧ Inv n q.2 qm.2 := by
  have hI := h
  obtain ⟨h1, h2, h3, g, k1, k2, k3⟩ := h
  have hn := k1.le6
  unfold gC_values gM_values fX8_values fX9_values
  rcases buy_c hn a1 k2.1.2.2.1 with ⟨b, hb, rfl, e1, e2⟩ | ⟨e1, e2⟩
  · rcases lot_c a2 with ⟨lo, hlo, rfl, e3, e4⟩ | ⟨e3, e4⟩
    · by_cases e5 : -1 ≤ a3
      · rcases there_c (S := S) k1 k2 with ⟨t0, _, _⟩ | ⟨t0, t1, t2⟩
        · omega
        · obtain ⟨S1, w1, w2⟩ := readC_s (s := g 3 b) (ex := lo) (v3 := nI lo) k1 (by rw [hu_id]; exact k1) t0 hb (fun i hi => nI_eq (by omega) (by omega)) k3
          rw [hu_id] at w1
          obtain ⟨M1, m1, m2, m3⟩ := valM_l (p := a3) (k := fun x11 x12 M13 => (gd (nI (4 * b + lo)) 24 (if 0 ≤ a3 then (some (x12, (u2 M13 7 (nI (4 * b + lo)).toNatClampNeg (M 7 (nI (4 * b + lo)).toNatClampNeg)))) else (some (x11, (u2 M13 7 (nI (4 * b + lo)).toNatClampNeg (M 7 (nI (4 * b + lo)).toNatClampNeg))))))) k1 t0 hlo hb 100 0 300 M M 0 (-9) (by omega) (by omega) k2 (fun _ _ _ => rfl) (fun _ _ => rfl)
          obtain ⟨R, hR⟩ : ∃ R, R = rsF (fun v => soB n g lo && ownB n g b lo v) a3 100 0 0 (-9) := ⟨_, rfl⟩
          rw [← hR] at m1
          have m1' : fX9_values_44 300 (fun x11 x12 M13 => (gd (nI (4 * b + lo)) 24 (if 0 ≤ a3 then (some (x12, (u2 M13 7 (nI (4 * b + lo)).toNatClampNeg (M 7 (nI (4 * b + lo)).toNatClampNeg)))) else (some (x11, (u2 M13 7 (nI (4 * b + lo)).toNatClampNeg (M 7 (nI (4 * b + lo)).toNatClampNeg))))))) (nI b) (nI lo) a3 (0 : Int32) (-9) (0 : Int32) M = (fun x11 x12 M13 => (gd (nI (4 * b + lo)) 24 (if 0 ≤ a3 then (some (x12, (u2 M13 7 (nI (4 * b + lo)).toNatClampNeg (M 7 (nI (4 * b + lo)).toNatClampNeg)))) else (some (x11, (u2 M13 7 (nI (4 * b + lo)).toNatClampNeg (M 7 (nI (4 * b + lo)).toNatClampNeg))))))) (nI R.2) R.1 M1 := m1
          have c24 := fun (a : Option (Int32 × MS)) => gd_nI (show 4 * b + lo < 24 by omega) (show 24 < 2 ^ 31 by decide) a
          have cl : (nI (4 * b + lo)).toNatClampNeg = 4 * b + lo := nI_clamp (by omega)
          have eM : eqM M (u2 M1 7 (4 * b + lo) (M 7 (4 * b + lo))) := by
            refine ⟨fun i hi => ?_, fun i q1 q2 q3 => ?_⟩
            · by_cases e : i = 7
              · rw [e, u2_at]
                funext y
                by_cases ey : y = 4 * b + lo
                · rw [ey, upd_at]
                · rw [upd_ne _ _ ey]; exact m3 y ey
              · rw [u2_ne _ _ _ e]; exact m2 i (by omega) e
            · rw [u2_ne _ _ _ (by omega)]; exact m2 i (by omega) (by omega)
          have e9 : ¬ 0 ≤ a3 → a3 = -1 := fun w => by
            apply Int32.toInt_inj.mp
            rw [le0_iff] at w
            rw [Int32.le_iff_toInt_le, show (-1 : Int32).toInt = -1 by decide] at e5
            rw [show (-1 : Int32).toInt = -1 by decide]
            omega
          have e8 : 0 ≤ a3 → ¬ a3 = -1 := fun w q => by
            rw [q] at w; exact absurd w (by decide)
          rw [e2, om_some, e4, if_neg z10, if_pos e5, (k3.2.1 b hb).2.2, w1, Option.bind_some, e1, if_pos rfl, e3, if_pos rfl, if_pos e5, idx4, c24, m1']
          dsimp only
          rw [c24, cl]
          cases hs : soB n g lo with
          | false =>
            have hz : R = (-9, 0) := by
              rw [hR]
              exact rsF_f (fun v => by rw [hs]; rfl) 100 0 0 (-9)
            have hz1 : R.1 = -9 := by rw [hz]
            have hz2 : nI R.2 = 0 := by rw [hz]; rfl
            rw [if_neg (show ¬ (false = true) by decide), val_0 300 (by omega), hz1, hz2]
            have hI' := hI.keep (eqC_of w2) eM
            by_cases e0 : 0 ≤ a3
            · simp only [e0, e8 e0, ↓reduceIte]
              exact ⟨_, _, rfl, rfl, rfl, hI'⟩
            · simp only [e9 e0, ↓reduceIte, show ¬ (0 : Int32) ≤ -1 by decide]
              exact ⟨_, _, rfl, rfl, rfl, hI'⟩
          | true =>
            obtain ⟨S2, z1, z2⟩ := valC_l (p := a3) (k := fun x20 M21 => (if a3 = (-1) then (some (x20, M21)) else (some ((-9), M21)))) k1 t0 hlo hb 100 0 300 S1 0 (-9) 0 (by omega) (by omega) (by omega) (k3.cg (eqC_of w2)) (Or.inl rfl)
            have hI' := hI.keep (eqC_of (fun i hi => (z1 i hi).trans (w2 i hi))) eM
            have hR' : rsF (fun v => ownB n g b lo v) a3 100 0 0 (-9) = R := by
              rw [hR]
              congr 1
              funext v
              rw [hs, Bool.true_and]
            rw [hR'] at z2
            rw [if_pos rfl]
            rcases z2 with ⟨y1, y2⟩ | ⟨y1, y2⟩
            · have y1' : fX8_values_55 n 300 (fun x20 M21 => (if a3 = (-1) then (some (x20, M21)) else (some ((-9), M21)))) (nI b) (nI lo) a3 b (0 : Int32) (-9) 0 1 (0 : Int32) S1 = some (R.1, S2) := y1
              rw [y1', if_pos y2]
              exact ⟨_, _, rfl, rfl, rfl, hI'⟩
            · have y1' : fX8_values_55 n 300 (fun x20 M21 => (if a3 = (-1) then (some (x20, M21)) else (some ((-9), M21)))) (nI b) (nI lo) a3 b (0 : Int32) (-9) 0 1 (0 : Int32) S1 = (fun x20 M21 => (if a3 = (-1) then (some (x20, M21)) else (some ((-9), M21)))) (nI R.2) S2 := y1
              rw [y1']
              by_cases e0 : 0 ≤ a3
              · simp only [e0, e8 e0, ↓reduceIte]
                exact ⟨_, _, rfl, rfl, y2.symm, hI'⟩
              · rw [if_neg e0]
                simp only [e9 e0, ↓reduceIte]
                exact ⟨_, _, rfl, rfl, rfl, by first | exact hI' | (rw [← e9 e0]; exact hI')⟩
      · simp only [e1, e2, e3, e4, e5, z10, om_some, ↓reduceIte]
        exact ⟨_, _, rfl, rfl, rfl, hI⟩
    · simp only [e1, e2, e3, e4, z10, om_some, ↓reduceIte]
      exact ⟨_, _, rfl, rfl, rfl, hI⟩
  · simp only [e1, e2, z10, om_none, ↓reduceIte]
    exact ⟨_, _, rfl, rfl, rfl, hI⟩
