/-! what is told of a buyer -/
theorem shows_s {n : Nat} {h : Nat → Nat → Nat} {S : MS} {j : Nat} (k1 : hOK n h) (k3 : rC n h S) (h2n : 2 ≤ n) (hj : j < n) : fX5_shows n j S = some (if snB n (h 0 1) (h 1) (h 3) j = true then 1 else 0) := by
  have hn := k1.le6
  have hR := k1.seats
  have c := k1.big h2n
  have cj := c.2.2.1 j hj
  have hW := c.2.1.2.2.1
  have hW6 := c.2.1.2.2.2.1
  have hse : ∀ x, x < n → h 3 x < 100 := fun x hx => by have := (c.2.2.1 x hx).2.2; omega
  unfold fX5_shows snB
  rw [(k3.2.1 j hj).1, (k3.2.1 j hj).2.2, k3.1.2.1]
  by_cases e0 : h 1 j = 0
  · rw [if_pos ((vhat_s cj.1).mpr e0), e0]; rfl
  · rw [if_neg (fun w => e0 ((vhat_s cj.1).mp w)), show (h 1 j == 0) = false by simpa using e0]
    by_cases e1 : h 3 j < h 0 1
    · rw [if_pos (neg_s hW6 e1), show decide (h 3 j < h 0 1) = true by simpa using e1]; rfl
    · rw [pk_sub (by omega), if_neg (nI_pos (by omega)), show decide (h 3 j < h 0 1) = false by simpa using e1]
      rcases isFree_c (j := j) (s := h 3 j - h 0 1) hn (fun x hx => ⟨(k3.2.1 x hx).2.2, hse x hx⟩) (by omega) with ⟨f1, f2⟩ | ⟨⟨x, hx, hxb, hxs⟩, f1⟩
      · rw [f1, Option.bind_some, if_neg z10]
        have ht : tkB n (h 3) (h 3 j - h 0 1) = false := by
          cases ht : tkB n (h 3) (h 3 j - h 0 1) with
          | false => rfl
          | true =>
            obtain ⟨b, hb, e⟩ := tkB_iff.mp ht
            by_cases eb : b = j
            · rw [eb] at e; omega
            · exact absurd e (f2 b hb eb)
        rw [ht]; rfl
      · rw [f1, Option.bind_some, if_pos rfl, (tkB_iff (n := n) (pl := h 3) (s := h 3 j - h 0 1)).mpr ⟨x, hx, hxs⟩]; rfl
theorem op_ofBuyer (n : Nat) (S M : MS) (a1 a2 : Int32) (h : Inv n S M) : ∃ q qm, gC_ofBuyer n a1 a2 S = some q ∧ gM_ofBuyer a1 a2 M = some qm ∧ q.1 = qm.1 ∧ Inv n q.2 qm.2 := by
  have hI := h
  obtain ⟨h1, h2, h3, g, k1, k2, k3⟩ := h
  have hn := k1.le6
  unfold gC_ofBuyer gM_ofBuyer fX8_ofBuyer fX9_ofBuyer
  rcases buy_c hn a1 k2.1.2.2.1 with ⟨b, hb, rfl, e1, e2⟩ | ⟨e1, e2⟩
  · have c1 : (nI b).toNatClampNeg = b := nI_clamp (by omega)
    have hg6 := fun (a : Option (Int32 × MS)) => gd_nI (show b < 6 by omega) (show 6 < 2 ^ 31 by decide) a
    by_cases c0 : a2 = 0
    · simp only [e1, e2, c0, z10, om_some, ↓reduceIte, hg6, c1]
      refine ⟨_, _, rfl, rfl, ?_, hI⟩
      show vkind (S 20 b) = M 4 b
      rcases kd_c k1 k2 k3 hb with ⟨q1, q2⟩ | ⟨q1, q2⟩ | ⟨q1, q2⟩ <;> rw [q1, q2] <;> decide
    · by_cases d1 : a2 = 1
      · simp only [e1, e2, d1, z10, om_some, ↓reduceIte, hg6, c1]
        exact ⟨_, _, rfl, rfl, (k3.2.1 b hb).2.2.trans (k2.2.1 b hb).2.2.symm, hI⟩
      · by_cases d2 : a2 = 2
        · simp only [e1, e2, d2, z10, om_some, ↓reduceIte, hg6, c1, show ¬ (2 : Int32) = 0 by decide, show ¬ (2 : Int32) = 1 by decide]
          exact ⟨_, _, rfl, rfl, (k3.2.1 b hb).2.1.trans (k2.2.1 b hb).2.1.symm, hI⟩
        · by_cases d3 : a2 = 3
          · rcases there_c (S := S) k1 k2 with ⟨t0, _, _⟩ | ⟨t0, t1, t2⟩
            · omega
            · have c := k1.big t0
              have hR := k1.seats
              obtain ⟨M', s1, s2, s3⟩ := sitDown_s (may := ((1 : Int32) <<< ((M 3 0) &&& 31)) - 1) (M := M) hn k2.1.2.2.1
              have hpl : ∀ x, x < n → M' 15 x = encP (g 3 x) ∧ g 3 x ≤ 1000 := fun x hx => by
                have q := (c.2.2.1 x hx).2.2
                have hin : fX9_isIn (((1 : Int32) <<< ((M 3 0) &&& 31)) - 1) (nI x) = 1 := all_s (M := M) hn hx k2.1.2.2.1
                rw [s3 x hx, hin, if_neg z10, (k2.2.1 x hx).2.2, encP_lt (by omega)]
                exact ⟨rfl, by omega⟩
              have hseen := isSeen_s (M := M') (b := b) (kd := g 1) hn c.2.1.2.2.2.1 (by rw [s2 2 (by decide)]; exact k2.1.2.1) (by rw [s2 3 (by decide)]; exact k2.1.2.2.1) hpl hb (by have := (c.2.2.1 b hb).2.2; omega) (by rw [s2 4 (by decide)]; exact (k2.2.1 b hb).1) (c.2.2.1 b hb).1
              have hI' : Inv n S M' := hI.keep (eqC.rf S) ⟨fun k hk => s2 k (by omega), fun k hk _ _ => s2 k (by omega)⟩
              simp only [e1, e2, d3, z10, om_some, ↓reduceIte, s1, hseen, shows_s k1 k3 t0 hb, Option.bind_some, show ¬ (3 : Int32) = 0 by decide, show ¬ (3 : Int32) = 1 by decide, show ¬ (3 : Int32) = 2 by decide]
              by_cases es : snB n (g 0 1) (g 1) (g 3) b = true
              · simp only [es, z10, ↓reduceIte]
                exact ⟨_, _, rfl, rfl, rfl, hI'⟩
              · simp only [es, ↓reduceIte]
                exact ⟨_, _, rfl, rfl, rfl, hI'⟩
          · simp only [e1, e2, c0, d1, d2, d3, om_some, ↓reduceIte]
            exact ⟨_, _, rfl, rfl, rfl, hI⟩
  · simp only [e1, e2, z10, om_none, ↓reduceIte]
    exact ⟨_, _, rfl, rfl, rfl, hI⟩
