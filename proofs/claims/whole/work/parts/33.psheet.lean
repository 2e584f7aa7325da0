/-! tell, as, sheets -/
theorem u2_u2 (M : MS) (k i : Nat) (y x : Int32) : u2 (u2 M k i y) k i x = u2 M k i x := by
  funext j
  by_cases h : j = k
  · subst h
    rw [u2_at, u2_at, u2_at]
    funext z
    by_cases hz : z = i
    · subst hz; rw [upd_at, upd_at]
    · rw [upd_ne _ _ hz, upd_ne _ _ hz, upd_ne _ _ hz]
  · rw [u2_ne _ _ _ h, u2_ne _ _ _ h, u2_ne _ _ _ h]
theorem Inv.fault {n : Nat} {S M : MS} (h : Inv n S M) (x : Int32) : Inv n (u2 S 0 0 x) (u2 M 0 0 x) := by
  obtain ⟨h1, h2, h3, g, k1, k2, k3⟩ := h
  exact ⟨rfl, h2, h3.keep (fun j _ hj => u2_ne _ _ _ (by omega)) rfl rfl rfl, g, k1, k2, k3⟩
theorem Inv.fault2 {n : Nat} {S M : MS} (h : Inv n S M) (y x : Int32) : Inv n (u2 (u2 S 0 0 y) 0 0 x) (u2 M 0 0 x) := by
  rw [u2_u2]; exact h.fault x
theorem Inv.leave {n : Nat} {S M : MS} (h : Inv n S M) (k : Int32) : Inv n (fX7_leave n k S) (fX9_traced k M) := by
  unfold fX7_leave fX9_traced
  rw [h.2.1]
  exact h.trace _
theorem op_tell (n : Nat) (S M : MS) (a : Int32) (h : Inv n S M) : ∃ q qm, gC_tell n a S = some q ∧ gM_tell a M = some qm ∧ q.1 = qm.1 ∧ Inv n q.2 qm.2 := by
  have hI := h
  obtain ⟨h1, h2, h3, g, k1, k2, k3⟩ := h
  have hn := k1.le6
  unfold gC_tell gM_tell fX8_tell fX9_tell
  rcases buy_c hn a k2.1.2.2.1 with ⟨b, hb, rfl, e1, e2⟩ | ⟨e1, e2⟩
  · have c1 : (nI b).toNatClampNeg = b := nI_clamp (by omega)
    have mt : ∀ (x : Int32) (M' : MS), (fX9_traced x M') 5 b = M' 5 b := fun x M' => rfl
    have st : ∀ (x : Int32) (S' : MS), (fX7_leave n x S') 21 b = S' 21 b := fun x S' => rfl
    have sp := (k3.2.1 b hb).2.1
    have mp := (k2.2.1 b hb).2.1
    simp only [e1, e2, om_some, ↓reduceIte, gd_nI (show b < 6 by omega) (show 6 < 2 ^ 31 by decide), c1, vtell, fX1_telling, fX3_telling, fX4_telling, fX1_plainTelling, mt, st, sp, mp]
    rcases kd_c k1 k2 k3 hb with ⟨s1, m1⟩ | ⟨s1, m1⟩ | ⟨s1, m1⟩
    · simp only [s1, m1, ↓reduceIte, show ¬ (0 : Int32) = 2 from by decide, show (0 : Int32) ≤ 0 from by decide]
      exact ⟨_, _, rfl, rfl, rfl, hI.leave _⟩
    · simp only [s1, m1, ↓reduceIte, show ¬ (1 : Int32) = 2 from by decide, show ¬ (1 : Int32) ≤ 0 from by decide, z10]
      exact ⟨_, _, rfl, rfl, rfl, (hI.leave _).leave _⟩
    · simp only [s1, m1, ↓reduceIte, show ¬ (2 : Int32) = 0 from by decide, show ¬ (2 : Int32) = 1 from by decide, show ¬ (2 : Int32) ≤ 0 from by decide]
      refine ⟨_, _, rfl, rfl, ?_, (((hI.leave _).leave _).leave _).leave _⟩
      show nI (g 2 b) + 100 + nI (g 2 b) = 2 * nI (g 2 b) + 100
      rw [show (100 : Int32) = nI 100 from rfl, show (2 : Int32) = nI 2 from rfl, nI_add, nI_add, pk_mul, nI_add]
      congr 1
      omega
  · simp only [e1, e2, z10, om_none, ↓reduceIte]
    exact ⟨_, _, rfl, rfl, rfl, hI⟩
theorem op_as (n : Nat) (S M : MS) (a1 a2 : Int32) (h : Inv n S M) : ∃ q qm, gC_as n a1 a2 S = some q ∧ gM_as a1 a2 M = some qm ∧ q.1 = qm.1 ∧ Inv n q.2 qm.2 := by
  have hI := h
  obtain ⟨h1, h2, h3, g, k1, k2, k3⟩ := h
  have hn := k1.le6
  unfold gC_as gM_as fX8_as fX9_as
  rcases buy_c hn a1 k2.1.2.2.1 with ⟨b, hb, rfl, e1, e2⟩ | ⟨e1, e2⟩
  · have c1 : (nI b).toNatClampNeg = b := nI_clamp (by omega)
    have st : (u2 S 0 0 0) 20 b = S 20 b := rfl
    rcases lane_c a2 with ⟨t, ht, rfl, e3, e4⟩ | ⟨e3, e4⟩
    · simp only [e1, e2, e3, e4, z10, om_some, ↓reduceIte, gd_nI (show b < 6 by omega) (show 6 < 2 ^ 31 by decide), c1, st, fX8_meet, fX9_failed, fX9_refused, vinsHatted, vinsNervous]
      rcases (show t = 0 ∨ t = 1 ∨ t = 2 by omega) with rfl | rfl | rfl <;> rcases kd_c k1 k2 k3 hb with ⟨s1, m1⟩ | ⟨s1, m1⟩ | ⟨s1, m1⟩ <;> rw [s1, m1] <;>
        first
        | exact ⟨_, _, rfl, rfl, rfl, hI.fault _⟩
        | exact ⟨_, _, rfl, rfl, rfl, hI.fault2 _ _⟩
    · simp only [e1, e2, e3, e4, z10, om_some, ↓reduceIte]
      exact ⟨_, _, rfl, rfl, rfl, hI.fault _⟩
  · simp only [e1, e2, z10, om_none, ↓reduceIte]
    exact ⟨_, _, rfl, rfl, rfl, hI.fault _⟩
/-! loops over cells -/
theorem lay_l {n j : Nat} {k : MS → Option MS} : ∀ d i fu (S : MS), i + d = 60 → d < fu → ∃ S', fX6_lay_12 n fu k j (nI i) S = k S' ∧ (∀ c, c ≠ 5 + j → S' c = S c) := by
  intro d
  induction d with
  | zero =>
    intro i fu S hi hf
    obtain ⟨f, rfl⟩ : ∃ f, fu = f + 1 := ⟨fu - 1, by omega⟩
    rw [fX6_lay_12, if_pos (show (60 : Int32) ≤ nI i from nI_le (a := 60) (by omega) (by omega))]
    exact ⟨S, rfl, fun _ _ => rfl⟩
  | succ d ih =>
    intro i fu S hi hf
    obtain ⟨f, rfl⟩ : ∃ f, fu = f + 1 := ⟨fu - 1, by omega⟩
    rw [fX6_lay_12, if_neg (show ¬ (60 : Int32) ≤ nI i from nI_ge (b := 60) (by omega) (by decide)), gd_nI (show i < 60 by omega) (by decide), nI_1]
    obtain ⟨S', e, hS⟩ := ih (i + 1) f (u2 S (5 + j) (nI i).toNatClampNeg 0) (by omega) (by omega)
    exact ⟨S', e, fun c hc => by rw [hS c hc, u2_ne _ _ _ hc]⟩
theorem lay_z {n j : Nat} {k : MS → Option MS} : ∀ d i fu (S : MS), i + d = 60 → d < fu → (∀ x, x < i → S (5 + j) x = 0) → ∃ S', fX6_lay_12 n fu k j (nI i) S = k S' ∧ (∀ c, c ≠ 5 + j → S' c = S c) ∧ ∀ x, x < 60 → S' (5 + j) x = 0 := by
  intro d
  induction d with
  | zero =>
    intro i fu S hi hf hz
    obtain ⟨f, rfl⟩ : ∃ f, fu = f + 1 := ⟨fu - 1, by omega⟩
    rw [fX6_lay_12, if_pos (show (60 : Int32) ≤ nI i from nI_le (a := 60) (by omega) (by omega))]
    exact ⟨S, rfl, fun _ _ => rfl, fun x hx => hz x (by omega)⟩
  | succ d ih =>
    intro i fu S hi hf hz
    obtain ⟨f, rfl⟩ : ∃ f, fu = f + 1 := ⟨fu - 1, by omega⟩
    rw [fX6_lay_12, if_neg (show ¬ (60 : Int32) ≤ nI i from nI_ge (b := 60) (by omega) (by decide)), gd_nI (show i < 60 by omega) (by decide), nI_1, nI_clamp (by omega)]
    obtain ⟨S', e, hS, hx⟩ := ih (i + 1) f (u2 S (5 + j) i 0) (by omega) (by omega) (fun x hx => by
      rw [u2_at]
      by_cases e : x = i
      · subst e; rw [upd_at]
      · rw [upd_ne _ _ e]; exact hz x (by omega))
    exact ⟨S', e, fun c hc => by rw [hS c hc, u2_ne _ _ _ hc], hx⟩
theorem lay_c {n j : Nat} (p1 p2 : Int32) (S : MS) : ∃ S', fX6_lay n j p1 p2 S = some S' ∧ (∀ c, c ≠ 5 + j → c ≠ 1 + j → S' c = S c) ∧ S' (1 + j) 0 = p1 ∧ S' (1 + j) 1 = p2 ∧ ∀ x, x < 60 → S' (5 + j) x = 0 := by
  unfold fX6_lay
  obtain ⟨S', e, h1, h2⟩ := lay_z (n := n) (j := j) (k := fun M3 => some M3) 60 0 300 (u2 (u2 S (1 + j) 0 p1) (1 + j) 1 p2) (by omega) (by omega) (fun x hx => absurd hx (Nat.not_lt_zero _))
  refine ⟨S', e, fun c h3 h4 => by rw [h1 c h3, u2_ne _ _ _ h4, u2_ne _ _ _ h4], ?_, ?_, h2⟩
  · rw [h1 (1 + j) (by omega), u2_at, upd_ne _ _ (by decide), u2_at, upd_at]
  · rw [h1 (1 + j) (by omega), u2_at, upd_at]
theorem idx60 (b i : Nat) : (60 : Int32) * nI b + nI i = nI (60 * b + i) := by rw [show (60 : Int32) = nI 60 from rfl, pk_mul, nI_add]
theorem sheet65_l {b len : Nat} {k : MS → Option (Int32 × MS)} (hb : b < 4) (hl : len ≤ 60) : ∀ d i fu (M : MS), i + d = len → d < fu → ∃ M', fX9_sheet_65 fu k (nI b) (nI len) (nI i) M = k M' ∧ (∀ c, c ≠ 29 → M' c = M c) ∧ (∀ x, ¬ (60 * b + i ≤ x ∧ x < 60 * b + len) → M' 29 x = M 29 x) ∧ ∀ x, i ≤ x → x < len → M' 29 (60 * b + x) = 0 := by
  intro d
  induction d with
  | zero =>
    intro i fu M hi hf
    obtain ⟨f, rfl⟩ : ∃ f, fu = f + 1 := ⟨fu - 1, by omega⟩
    rw [fX9_sheet_65, if_pos (nI_le (by omega) (by omega))]
    exact ⟨M, rfl, fun _ _ => rfl, fun _ _ => rfl, fun x h1 h2 => by omega⟩
  | succ d ih =>
    intro i fu M hi hf
    obtain ⟨f, rfl⟩ : ∃ f, fu = f + 1 := ⟨fu - 1, by omega⟩
    rw [fX9_sheet_65, if_neg (nI_ge (by omega) (by omega)), idx60, gd_nI (show 60 * b + i < 240 by omega) (by decide), nI_1, nI_clamp (by omega)]
    obtain ⟨M', e, h1, h2, h3⟩ := ih (i + 1) f (u2 M 29 (60 * b + i) 0) (by omega) (by omega)
    refine ⟨M', e, fun c hc => by rw [h1 c hc, u2_ne _ _ _ hc], fun x hx => ?_, fun x hx hx2 => ?_⟩
    · rw [h2 x (by omega)]
      exact upd_ne _ _ (by omega)
    · by_cases e : x = i
      · subst e
        rw [h2 _ (by omega)]
        exact upd_at _ _ _
      · exact h3 x (by omega) hx2
/-- a sheet has changed, on both sides alike -/
theorem Inv.sheet {n : Nat} {S M S' M' : MS} (h : Inv n S M) {k : Nat} (hk : k < 4) (hS : ∀ c, c ≠ 5 + k → c ≠ 1 + k → S' c = S c) (hM : ∀ c, c ≠ 27 → c ≠ 28 → c ≠ 29 → c ≠ 30 → M' c = M c) (hM2 : ∀ j, j ≠ k → M' 27 j = M 27 j ∧ M' 28 j = M 28 j) (hM3 : ∀ x, ¬ (60 * k ≤ x ∧ x < 60 * k + 60) → M' 29 x = M 29 x)
    (hk2 : (M' 27 k = -1 ∧ S' (1 + k) 0 = -1 ∧ S' (1 + k) 1 = 0) ∨ (∃ len lane : Nat, len ≤ 60 ∧ lane < 3 ∧ M' 27 k = nI len ∧ M' 28 k = nI lane ∧ S' (1 + k) 0 = nI lane ∧ S' (1 + k) 1 = nI len ∧ ∀ i, i < len → S' (5 + k) i = M' 29 (60 * k + i))) : Inv n S' M' := by
  obtain ⟨h1, h2, h3, g, k1, k2, k3⟩ := h
  refine ⟨by rw [hS 0 (by omega) (by omega), hM 0 (by decide) (by decide) (by decide) (by decide)]; exact h1, by rw [hS 9 (by omega) (by omega), hM 31 (by decide) (by decide) (by decide) (by decide)]; exact h2, fun j hj => ?_, g, k1, ?_, ?_⟩
  · by_cases e : j = k
    · subst e; exact hk2
    · have hh := h3 j hj
      rw [hS (1 + j) (by omega) (by omega), hS (5 + j) (by omega) (by omega), (hM2 j e).1, (hM2 j e).2]
      rcases hh with hh | ⟨len, lane, q1, q2, q3, q4, q5, q6, q7⟩
      · exact Or.inl hh
      · exact Or.inr ⟨len, lane, q1, q2, q3, q4, q5, q6, fun i hi => by rw [hM3 _ (by omega)]; exact q7 i hi⟩
  · unfold rM at k2 ⊢
    rw [hM 1 (by decide) (by decide) (by decide) (by decide), hM 2 (by decide) (by decide) (by decide) (by decide), hM 3 (by decide) (by decide) (by decide) (by decide), hM 8 (by decide) (by decide) (by decide) (by decide), hM 4 (by decide) (by decide) (by decide) (by decide), hM 5 (by decide) (by decide) (by decide) (by decide), hM 6 (by decide) (by decide) (by decide) (by decide), hM 7 (by decide) (by decide) (by decide) (by decide), hM 24 (by decide) (by decide) (by decide) (by decide), hM 25 (by decide) (by decide) (by decide) (by decide), hM 26 (by decide) (by decide) (by decide) (by decide)]
    exact k2
  · unfold rC at k3 ⊢
    rw [hS 10 (by omega) (by omega), hS 17 (by omega) (by omega), hS 18 (by omega) (by omega), hS 19 (by omega) (by omega), hS 20 (by omega) (by omega), hS 21 (by omega) (by omega), hS 22 (by omega) (by omega), hS 23 (by omega) (by omega)]
    exact k3
theorem op_lose (n : Nat) (S M : MS) (a : Int32) (h : Inv n S M) : ∃ q qm, gC_lose n a S = some q ∧ gM_lose a M = some qm ∧ q.1 = qm.1 ∧ Inv n q.2 qm.2 := by
  have hI := h
  obtain ⟨h1, h2, h3, g, k1, k2, k3⟩ := h
  unfold gC_lose gM_lose fX8_lose fX9_lose
  rcases sheet_c a with ⟨k, hk, rfl, e1, e2⟩ | ⟨e1, e2⟩
  · have c1 : (nI k).toNatClampNeg = k := nI_clamp (by omega)
    simp only [e1, e2, om_some, ↓reduceIte, gd_nI hk (show 4 < 2 ^ 31 by decide), c1]
    rcases h3 k hk with ⟨q1, q2, q3⟩ | ⟨len, lane, q1, q2, q3, q4, q5, q6, q7⟩
    · simp only [q1, q2, ↓reduceIte, show ¬ (0 : Int32) ≤ -1 from by decide]
      refine ⟨_, _, rfl, rfl, rfl, hI.sheet hk (fun _ _ _ => rfl) (fun c c1 c2 c3 _ => u2_ne _ _ _ c1) (fun j hj => ⟨upd_ne _ _ hj, rfl⟩) (fun _ _ => rfl) (Or.inl ⟨upd_at _ _ _, q2, q3⟩)⟩
    · have p1 : ¬ nI lane = -1 := fun q => by have := congrArg Int32.toInt q; rw [nI_toInt (by omega), show (-1 : Int32).toInt = -1 by decide] at this; omega
      obtain ⟨S', l1', l2', l3', l4', l5'⟩ := lay_c (n := n) (j := k) (-1) 0 S
      simp only [q3, q5, p1, ↓reduceIte, nI_pos' (show len < 2 ^ 31 by omega), l1', Option.bind_some]
      exact ⟨_, _, rfl, rfl, rfl, hI.sheet hk l2' (fun c c1 c2 c3 _ => u2_ne _ _ _ c1) (fun j hj => ⟨upd_ne _ _ hj, rfl⟩) (fun _ _ => rfl) (Or.inl ⟨upd_at _ _ _, l3', l4'⟩)⟩
  · simp only [e1, e2, z10, om_none, ↓reduceIte]
    exact ⟨_, _, rfl, rfl, rfl, hI⟩
theorem op_sheet (n : Nat) (S M : MS) (a1 a2 a3 : Int32) (h : Inv n S M) : ∃ q qm, gC_sheet n a1 a2 a3 S = some q ∧ gM_sheet a1 a2 a3 M = some qm ∧ q.1 = qm.1 ∧ Inv n q.2 qm.2 := by
  have hI := h
  obtain ⟨h1, h2, h3, g, k1, k2, k3⟩ := h
  unfold gC_sheet gM_sheet fX8_sheet fX9_sheet fX8_isLane
  rcases sheet_c a1 with ⟨k, hk, rfl, e1, e2⟩ | ⟨e1, e2⟩
  · have c1 : (nI k).toNatClampNeg = k := nI_clamp (by omega)
    rcases lane_c a2 with ⟨t, ht, rfl, e3, e4⟩ | ⟨e3, e4⟩
    · by_cases e5 : a3 ≤ 60
      · by_cases e6 : 0 ≤ a3
        · obtain ⟨len, hlen, rfl⟩ : ∃ len, len ≤ 60 ∧ a3 = nI len := nI_of2 (M := 60) (n := 60) (by decide) (Int32.not_lt.mpr e6) e5
          obtain ⟨S', l1', l2', l3', l4', l5'⟩ := lay_c (n := n) (j := k) (nI t) (nI len) (u2 S 0 0 0)
          obtain ⟨M', m1, m2, m3, m4⟩ := sheet65_l (b := k) (len := len) (k := fun M9 => some ((fX9_refused (1 : Int32) M9).1, (fX9_refused (1 : Int32) M9).2)) hk hlen len 0 300 (u2 (u2 M 27 k (nI len)) 28 k (nI t)) (by omega) (by omega)
          have m1 : fX9_sheet_65 300 (fun M9 => some ((fX9_refused (1 : Int32) M9).1, (fX9_refused (1 : Int32) M9).2)) (nI k) (nI len) 0 (u2 (u2 M 27 k (nI len)) 28 k (nI t)) = _ := m1
          simp only [e1, e2, e3, e4, e5, e6, z10, om_some, ↓reduceIte, gd_nI hk (show 4 < 2 ^ 31 by decide), c1, l1', Option.bind_some, m1]
          refine ⟨_, _, rfl, rfl, rfl, ?_⟩
          show Inv n S' (u2 M' 0 0 0)
          refine (hI.fault 0).sheet hk l2' (fun c c1 c2 c3 _ => ?_) (fun j hj => ⟨?_, ?_⟩) (fun x hx => ?_) (Or.inr ⟨len, t, hlen, ht, ?_, ?_, l3', l4', fun i hi => ?_⟩)
          · by_cases c0 : c = 0
            · subst c0
              rw [u2_at, u2_at, m2 0 (by decide)]; rfl
            · rw [u2_ne _ _ _ c0, u2_ne _ _ _ c0, m2 c c3, u2_ne _ _ _ c2, u2_ne _ _ _ c1]
          · show M' 27 j = M 27 j
            rw [m2 27 (by decide)]; exact upd_ne _ _ hj
          · show M' 28 j = M 28 j
            rw [m2 28 (by decide)]; exact upd_ne _ _ hj
          · show M' 29 x = M 29 x
            rw [m3 x (by omega)]; rfl
          · show M' 27 k = _
            rw [m2 27 (by decide)]; exact upd_at _ _ _
          · show M' 28 k = _
            rw [m2 28 (by decide)]; exact upd_at _ _ _
          · rw [l5' i (by omega)]
            exact (m4 i (Nat.zero_le _) hi).symm
        · simp only [e1, e2, e3, e4, e5, e6, z10, om_some, ↓reduceIte]
          exact ⟨_, _, rfl, rfl, rfl, hI.fault2 _ _⟩
      · simp only [e1, e2, e3, e4, e5, z10, om_some, ↓reduceIte]
        exact ⟨_, _, rfl, rfl, rfl, hI.fault _⟩
    · simp only [e1, e2, e3, e4, z10, om_some, ↓reduceIte]
      exact ⟨_, _, rfl, rfl, rfl, hI.fault _⟩
  · simp only [e1, e2, z10, om_none, ↓reduceIte]
    exact ⟨_, _, rfl, rfl, rfl, hI.fault _⟩
