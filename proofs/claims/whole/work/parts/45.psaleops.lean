/-! the calls that hold one sale -/
theorem eqC_of {S S' : MS} (e : ∀ j, (j ≤ 10 ∨ 16 < j) → S' j = S j) : eqC S S' := ⟨fun k hk => e k (by omega), fun k hk _ => e k (by omega)⟩
theorem eqM_of {M M' : MS} (e : ∀ j, (j < 15 ∨ 19 < j) → M' j = M j) : eqM M M' := ⟨fun k hk => e k (by omega), fun k hk _ _ => e k (by omega)⟩
theorem rM.cg {n : Nat} {h : Nat → Nat → Nat} {M M' : MS} (k2 : rM n h M) (hM : eqM M M') : rM n h M' := by
  obtain ⟨b1, b2⟩ := hM
  unfold rM at k2 ⊢
  rw [b1 1 (by decide), b1 2 (by decide), b1 3 (by decide), b1 8 (by decide), b1 4 (by decide), b1 5 (by decide), b1 6 (by decide), b1 7 (by decide), b2 24 (by decide) (by decide) (by decide), b2 25 (by decide) (by decide) (by decide), b2 26 (by decide) (by decide) (by decide)]
  exact k2
theorem rC.cg {n : Nat} {h : Nat → Nat → Nat} {S S' : MS} (k3 : rC n h S) (hS : eqC S S') : rC n h S' := by
  obtain ⟨a1, a2⟩ := hS
  unfold rC at k3 ⊢
  rw [a1 10 (by decide), a2 17 (by decide) (by decide), a2 18 (by decide) (by decide), a2 19 (by decide) (by decide), a2 20 (by decide) (by decide), a2 21 (by decide) (by decide), a2 22 (by decide) (by decide), a2 23 (by decide) (by decide)]
  exact k3
theorem q_63 : ∀ b, b < 6 → bitS 63 b = true := by decide +kernel
theorem q_all : ∀ n, n < 7 → ∀ b, b < n → bitS (((1 : Int32) <<< (nI n &&& 31)) - 1) b = true := by decide +kernel
theorem all_b {n b : Nat} {M : MS} (hn : n ≤ 6) (h3 : M 3 0 = nI n) (hb : b < n) : bitS (fX9_all M) b = true := by
  unfold fX9_all
  rw [h3]
  exact q_all n (by omega) b hb
theorem sale_b {n : Nat} {S M : MS} {h : Nat → Nat → Nat} {lo : Nat} {mc mm : Int32} {pr : Nat → Bool} (hI : Inv n S M) (k1 : hOK n h) (k2 : rM n h M) (k3 : rC n h S) (h2n : 2 ≤ n) (hlo : lo < 4) (hc : ∀ b, b < n → bitS mc b = pr b) (hm : ∀ b, b < n → bitS mm b = pr b) :
    ∃ S' M', fX8_sellTo n mc (nI lo) S = some S' ∧ fX9_sellTo (nI lo) mm M = some M' ∧ cpC n (h 0 0 * h 0 1) pr S' (slH n h lo pr) ∧ cpM n M' (slH n h lo pr) ∧ okS n (h 0 1) (h 0 0 * h 0 1) (lmH h lo pr) (slH n h lo pr) ∧ Inv n S' M' ∧ rM n h M' ∧ rC n h S' := by
  obtain ⟨S', w1, w2, w3⟩ := toC_s k1 k3 h2n hlo hc
  obtain ⟨M', v1, v2, v3, v4⟩ := toM_s k1 k2 h2n hlo hm
  exact ⟨S', M', w1, v1, w2, v2, v3, hI.keep (eqC_of w3) (eqM_of v4), k2.cg (eqM_of v4), k3.cg (eqC_of w3)⟩
theorem sale_a {n : Nat} {S M : MS} {h : Nat → Nat → Nat} {lo : Nat} (hI : Inv n S M) (k1 : hOK n h) (k2 : rM n h M) (k3 : rC n h S) (h2n : 2 ≤ n) (hlo : lo < 4) :
    ∃ S' M', fX8_sellTo n 63 (nI lo) S = some S' ∧ fX9_sellTo (nI lo) (fX9_all M) M = some M' ∧ cpC n (h 0 0 * h 0 1) (fun _ => true) S' (slH n h lo (fun _ => true)) ∧ cpM n M' (slH n h lo (fun _ => true)) ∧ okS n (h 0 1) (h 0 0 * h 0 1) (lmH h lo (fun _ => true)) (slH n h lo (fun _ => true)) ∧ Inv n S' M' ∧ rM n h M' ∧ rC n h S' := by
  have hn := k1.le6
  exact sale_b hI k1 k2 k3 h2n hlo (fun b hb => q_63 b (by omega)) (fun b hb => all_b hn k2.1.2.2.1 hb)
theorem op_sale (n : Nat) (S M : MS) (a1 a2 : Int32) (h : Inv n S M) : ∃ q qm, gC_sale n a1 a2 S = some q ∧ gM_sale a1 a2 M = some qm ∧ q.1 = qm.1 ∧ Inv n q.2 qm.2 := by
  have hI := h
  obtain ⟨h1, h2, h3, g, k1, k2, k3⟩ := h
  unfold gC_sale gM_sale fX8_sale fX9_sale
  rcases lot_c a1 with ⟨lo, hlo, rfl, e3, e4⟩ | ⟨e3, e4⟩
  · rcases lane_c a2 with ⟨k, hk, rfl, e5, e6⟩ | ⟨e5, e6⟩
    · rcases there_c (S := S) k1 k2 with ⟨_, t1, t2⟩ | ⟨t0, t1, t2⟩
      · simp only [e3, e4, e5, e6, t1, t2, z10, ↓reduceIte]
        exact ⟨_, _, rfl, rfl, rfl, hI⟩
      · obtain ⟨S', M', w1, w2, w3, w4, w5, w6, _, _⟩ := sale_a hI k1 k2 k3 t0 hlo
        simp only [e3, e4, e5, e6, t1, t2, z10, w1, w2, Option.bind_some, ↓reduceIte]
        by_cases c0 : nI k = 0
        · simp only [c0, ↓reduceIte]
          exact ⟨_, _, rfl, rfl, w3.2.2.1.trans w4.2.1.symm, w6⟩
        · by_cases c1 : nI k = 1
          · simp only [c1, z10, ↓reduceIte]
            exact ⟨_, _, rfl, rfl, w3.2.2.2.1.trans w4.2.2.1.symm, w6⟩
          · simp only [c0, c1, ↓reduceIte]
            exact ⟨_, _, rfl, rfl, w3.2.2.2.2.1.trans w4.2.2.2.1.symm, w6⟩
    · simp only [e3, e4, e5, e6, z10, ↓reduceIte]
      exact ⟨_, _, rfl, rfl, rfl, hI⟩
  · simp only [e3, e4, z10, ↓reduceIte]
    exact ⟨_, _, rfl, rfl, rfl, hI⟩
theorem op_bid (n : Nat) (S M : MS) (a1 a2 : Int32) (h : Inv n S M) : ∃ q qm, gC_bid n a1 a2 S = some q ∧ gM_bid a1 a2 M = some qm ∧ q.1 = qm.1 ∧ Inv n q.2 qm.2 := by
  have hI := h
  obtain ⟨h1, h2, h3, g, k1, k2, k3⟩ := h
  unfold gC_bid gM_bid fX8_bid fX9_bid
  rcases lot_c a1 with ⟨lo, hlo, rfl, e3, e4⟩ | ⟨e3, e4⟩
  · by_cases e5 : 0 ≤ a2
    · rcases there_c (S := S) k1 k2 with ⟨_, t1, t2⟩ | ⟨t0, t1, t2⟩
      · simp only [e3, e4, e5, t1, t2, z10, ↓reduceIte]
        exact ⟨_, _, rfl, rfl, rfl, hI⟩
      · obtain ⟨S', M', w1, w2, w3, w4, w5, w6, _, _⟩ := sale_a hI k1 k2 k3 t0 hlo
        simp only [e3, e4, e5, t1, t2, z10, w1, w2, Option.bind_some, ↓reduceIte]
        unfold fX0_bidOf
        have hb := w5.2.2.2
        have hpr := w5.pr (fun b hb => lmH_le k1 t0 lo _ hb)
        have nlt : ¬ a2 < 0 := by
          rw [lt0_iff]; rw [le0_iff] at e5; omega
        rw [if_neg nlt, w3.2.2.2.2.1, w4.2.2.2.1]
        rcases rng_c a2 (N := 99) (by decide) with ⟨k, hk, rfl⟩ | e6
        · rcases Nat.lt_or_ge k (slH n g lo (fun _ => true)).2.2.2.1 with r | r
          · rw [if_neg (nI_ge r (by omega)), if_neg (nI_ge r (by omega)), if_neg (show ¬ (99 : Int32) ≤ nI k from nI_ge (b := 99) hk (by decide)), gd_nI hk (by decide), gd_nI (show k < 100 by omega) (by decide), nI_clamp (show k < 2 ^ 31 by omega), w3.2.2.2.2.2.1 k r, w4.2.2.2.2 k r]
            exact ⟨_, _, rfl, rfl, rfl, w6⟩
          · rw [if_pos (nI_le r (by omega)), if_pos (nI_le r (by omega))]
            exact ⟨_, _, rfl, rfl, rfl, w6⟩
        · have e7 : nI (slH n g lo (fun _ => true)).2.2.2.1 ≤ a2 := by
            rw [Int32.le_iff_toInt_le, nI_toInt (by omega)]
            rw [le0_iff] at e5
            omega
          rw [if_pos e7, if_pos e7]
          exact ⟨_, _, rfl, rfl, rfl, w6⟩
    · simp only [e3, e4, e5, z10, ↓reduceIte]
      exact ⟨_, _, rfl, rfl, rfl, hI⟩
  · simp only [e3, e4, z10, ↓reduceIte]
    exact ⟨_, _, rfl, rfl, rfl, hI⟩
theorem op_ends (n : Nat) (S M : MS) (a1 a2 : Int32) (h : Inv n S M) : ∃ q qm, gC_ends n a1 a2 S = some q ∧ gM_ends a1 a2 M = some qm ∧ q.1 = qm.1 ∧ Inv n q.2 qm.2 := by
  have hI := h
  obtain ⟨h1, h2, h3, g, k1, k2, k3⟩ := h
  have hn := k1.le6
  unfold gC_ends gM_ends fX8_ends fX9_ends
  rcases buy_c hn a1 k2.1.2.2.1 with ⟨b, hb, rfl, e1, e2⟩ | ⟨e1, e2⟩
  · rcases lot_c a2 with ⟨lo, hlo, rfl, e3, e4⟩ | ⟨e3, e4⟩
    · rcases there_c (S := S) k1 k2 with ⟨t0, _, _⟩ | ⟨t0, t1, t2⟩
      · omega
      · obtain ⟨S', M', w1, w2, w3, w4, w5, w6, _, _⟩ := sale_a hI k1 k2 k3 t0 hlo
        have c1 : (nI b).toNatClampNeg = b := nI_clamp (by omega)
        simp only [e1, e2, e3, e4, z10, w1, w2, om_some, Option.bind_some, ↓reduceIte, gd_nI (show b < 6 by omega) (show 6 < 2 ^ 31 by decide), c1]
        refine ⟨_, _, rfl, rfl, ?_, w6⟩
        show S' 12 b = M' 15 b
        rw [w3.2.1 b hb rfl, w4.1 b hb, encP_lt ((w3.1 b hb).mpr rfl)]
    · simp only [e1, e2, e3, e4, z10, om_some, ↓reduceIte]
      exact ⟨_, _, rfl, rfl, rfl, hI⟩
  · simp only [e1, e2, z10, om_none, ↓reduceIte]
    exact ⟨_, _, rfl, rfl, rfl, hI⟩
