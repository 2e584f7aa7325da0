/-! the classes: the line -/
theorem tk_succ (n : Nat) (pl : Nat → Nat) (s : Nat) : tkB (n + 1) pl s = (tkB n pl s || (pl n == s)) := by
  unfold tkB
  rw [List.range_succ, List.any_append]
  simp
theorem dn_s : ∀ q, q < 7 → nI (q + 1) + (-1) = nI q := by decide
theorem ins_l {n c m : Nat} {pl L : Nat → Nat} {k : Int32 → MS → Option MS} (hc : c < 6) (hm : m < 6) (hcp : pl c < 1000) (hL : ∀ j, j < m → L j < 6 ∧ pl (L j) < 1000) :
    ∀ q fu (S : MS), q ≤ m → q < fu → (∀ b, b < 6 → pl b < 1000 → S 12 b = nI (pl b)) → (∀ j, j < q → S 15 j = nI (L j)) → (∀ j, q ≤ j → j < m → S 15 (j + 1) = nI (L j) ∧ pl c < pl (L j)) →
      ∃ S' q', q' ≤ m ∧ fX0_lineUp_53 n fu k (nI c) (nI q) S = k (nI q') S' ∧ (∀ j, j ≠ 15 → S' j = S j) ∧ (∀ j, j < q' → S' 15 j = nI (L j)) ∧ (∀ j, q' ≤ j → j < m → S' 15 (j + 1) = nI (L j) ∧ pl c < pl (L j)) ∧ (q' = 0 ∨ pl (L (q' - 1)) ≤ pl c) := by
  intro q
  induction q with
  | zero =>
    intro fu S hq hf h12 h1 h2
    obtain ⟨f, rfl⟩ : ∃ f, fu = f + 1 := ⟨fu - 1, by omega⟩
    refine ⟨S, 0, Nat.zero_le _, ?_, fun _ _ => rfl, h1, h2, Or.inl rfl⟩
    rw [fX0_lineUp_53, if_pos (show nI 0 ≤ 0 from nI_le (b := 0) (by omega) (by omega))]
  | succ q ih =>
    intro fu S hq hf h12 h1 h2
    obtain ⟨f, rfl⟩ : ∃ f, fu = f + 1 := ⟨fu - 1, by omega⟩
    obtain ⟨l1, l2⟩ := hL q (by omega)
    have e1 : nI (q + 1) - 1 = nI q := by
      have := pk_sub (a := q + 1) (b := 1) (by omega)
      exact this
    rw [fX0_lineUp_53, if_neg (show ¬ nI (q + 1) ≤ 0 from nI_ge (a := 0) (by omega) (by omega)), e1, gd_nI (show q < 6 by omega) (by decide), nI_clamp (show q < 2 ^ 31 by omega), h1 q (by omega), gd_nI l1 (by decide), gd_nI hc (by decide), nI_clamp (show L q < 2 ^ 31 by omega), nI_clamp (show c < 2 ^ 31 by omega), h12 _ l1 l2, h12 c hc hcp]
    by_cases e : pl (L q) ≤ pl c
    · rw [if_pos (nI_le e (by omega))]
      exact ⟨S, q + 1, hq, rfl, fun _ _ => rfl, h1, h2, Or.inr e⟩
    · rw [if_neg (nI_ge (by omega) (by omega)), gd_nI (show q < 6 by omega) (by decide), gd_nI (show q + 1 < 6 by omega) (by decide), dn_s q (by omega), nI_clamp (show q + 1 < 2 ^ 31 by omega)]
      obtain ⟨S', q', w0, w1, w2, w3, w4, w5⟩ := ih f (u2 S 15 (q + 1) (nI (L q))) (by omega) (by omega) h12 (fun j hj => by
        show upd (S 15) (q + 1) (nI (L q)) j = _
        rw [upd_ne _ _ (by omega)]
        exact h1 j (by omega)) (fun j hj hj2 => by
        show upd (S 15) (q + 1) (nI (L q)) (j + 1) = _ ∧ _
        rcases Nat.lt_or_ge q j with r | r
        · rw [upd_ne _ _ (by omega)]
          exact h2 j (by omega) hj2
        · rw [show j = q by omega, upd_at]
          exact ⟨rfl, by omega⟩)
      exact ⟨S', q', w0, w1, fun j hj => (w2 j hj).trans (u2_ne _ _ _ hj), w3, w4, w5⟩
theorem line_l {n RW : Nat} {pl : Nat → Nat} {k : MS → Option MS} (hn : n ≤ 6) (hR : RW ≤ 24) (hdi : ∀ b c, b < 6 → c < 6 → pl b < 1000 → pl b = pl c → b = c) :
    ∀ d i fu (S : MS) (m : Nat) (L : Nat → Nat), i + d = 6 → d < fu → (∀ b, b < 6 → (pl b = 1000 ∧ S 12 b = -1) ∨ (pl b < RW ∧ b < n ∧ S 12 b = nI (pl b))) → m ≤ i → S 11 0 = nI m → (∀ j, j < m → S 15 j = nI (L j) ∧ L j < i ∧ L j < n ∧ pl (L j) < 1000) → (∀ j j', j < j' → j' < m → pl (L j) < pl (L j')) → (∀ b, b < i → pl b < 1000 → ∃ j, j < m ∧ L j = b) → (∀ s, s < 32 → bitS (S 11 2) s = tkB i pl s) →
      ∃ S', fX0_lineUp_12 n fu k (nI i) S = k S' ∧ (∀ j, j ≠ 11 → j ≠ 15 → S' j = S j) ∧ (∀ x, x ≠ 0 → x ≠ 2 → S' 11 x = S 11 x) ∧ lnC n S' pl ∧ ∀ s, s < 32 → bitS (S' 11 2) s = tkB 6 pl s := by
  intro d
  induction d with
  | zero =>
    intro i fu S m L hi hf h12 hmi h0 hL ho ha hb
    obtain ⟨f, rfl⟩ : ∃ f, fu = f + 1 := ⟨fu - 1, by omega⟩
    have hi6 : i = 6 := by omega
    refine ⟨S, ?_, fun _ _ _ => rfl, fun _ _ _ => rfl, ⟨m, L, by omega, h0, fun j hj => ⟨(hL j hj).1, (hL j hj).2.2⟩, ho, fun b hbn hb2 => ha b (by omega) hb2⟩, ?_⟩
    · rw [fX0_lineUp_12, if_pos (show (6 : Int32) ≤ nI i from nI_le (a := 6) (by omega) (by omega))]
    · rw [hi6] at hb; exact hb
  | succ d ih =>
    intro i fu S m L hi hf h12 hmi h0 hL ho ha hb
    obtain ⟨f, rfl⟩ : ∃ f, fu = f + 1 := ⟨fu - 1, by omega⟩
    have hi6 : i < 6 := by omega
    rw [fX0_lineUp_12, if_neg (show ¬ (6 : Int32) ≤ nI i from nI_ge (b := 6) (by omega) (by decide)), gd_nI hi6 (by decide), gd_nI hi6 (by decide), nI_clamp (show i < 2 ^ 31 by omega), nI_1]
    rcases h12 i hi6 with ⟨c1, c2⟩ | ⟨c1, c2, c3⟩
    · rw [if_pos c2]
      refine ih (i + 1) f S m L (by omega) (by omega) h12 (by omega) h0 (fun j hj => ⟨(hL j hj).1, by have := (hL j hj).2.1; omega, (hL j hj).2.2⟩) ho (fun b hb1 hb2 => ?_) (fun s hs => ?_)
      · rcases Nat.lt_or_ge b i with q | q
        · exact ha b q hb2
        · exfalso
          rw [show b = i by omega] at hb2
          omega
      · rw [tk_succ, hb s hs, show (pl i == s) = false by
          rw [beq_eq_false_iff_ne]; omega, Bool.or_false]
    · have hne : ¬ S 12 i = -1 := by rw [c3]; exact nI_nm1 (by omega)
      rw [if_neg hne, c3]
      have hS12 : ∀ b, b < 6 → pl b < 1000 → S 12 b = nI (pl b) := fun b hb hb2 => by
        rcases h12 b hb with q | q
        · omega
        · exact q.2.2
      obtain ⟨S1, q, w0, w1, w2, w3, w4, w5⟩ := ins_l (n := n) (c := i) (m := m) (pl := pl) (L := L) (k := (fun x12 M13 => (gd x12 6 (fX0_lineUp_12 n f k (nI (i + 1)) (u2 (u2 M13 15 x12.toNatClampNeg (nI i)) 11 0 (((u2 M13 15 x12.toNatClampNeg (nI i)) 11 0) + 1)))))) hi6 (by omega) (by omega) (fun j hj => ⟨by have := (hL j hj).2.1; omega, (hL j hj).2.2.2⟩) m 300 (u2 S 11 2 ((S 11 2) ||| ((1 : Int32) <<< (nI (pl i) &&& 31)))) (Nat.le_refl _) (by omega) hS12 (fun j hj => (hL j hj).1) (fun j h1 h2 => by omega)
      rw [show u2 S 11 2 ((S 11 2) ||| ((1 : Int32) <<< (nI (pl i) &&& 31))) 11 0 = S 11 0 from rfl, h0, w1, gd_nI (show q < 6 by omega) (by decide), nI_clamp (show q < 2 ^ 31 by omega)]
      have hq5 : q = 0 ∨ pl (L (q - 1)) < pl i := by
        rcases Nat.eq_zero_or_pos q with z | z
        · exact Or.inl z
        · rcases w5 with y | y
          · exact Or.inl y
          · refine Or.inr (Nat.lt_of_le_of_ne y (fun w => ?_))
            have hq1 := hL (q - 1) (by omega)
            have := hdi (L (q - 1)) i (by omega) hi6 hq1.2.2.2 w
            omega
      have hlo : ∀ j, j < q → pl (L j) < pl i := fun j hj => by
        rcases hq5 with z | z
        · omega
        · rcases Nat.lt_or_ge j (q - 1) with r | r
          · have := ho j (q - 1) r (by omega); omega
          · rw [show j = q - 1 by omega]; exact z
      have h11 : ∀ x, u2 (u2 S1 15 q (nI i)) 11 0 ((u2 S1 15 q (nI i)) 11 0 + 1) 11 x = upd (S1 11) 0 (S1 11 0 + 1) x := fun _ => rfl
      have hs11 : S1 11 = upd (S 11) 2 ((S 11 2) ||| ((1 : Int32) <<< (nI (pl i) &&& 31))) := w2 11 (by decide)
      obtain ⟨S', v1, v2, v3, v4, v5⟩ := ih (i + 1) f (u2 (u2 S1 15 q (nI i)) 11 0 ((u2 S1 15 q (nI i)) 11 0 + 1)) (m + 1) (fun j => if j < q then L j else if j = q then i else L (j - 1)) (by omega) (by omega)
        (fun b hb => by
          show (pl b = 1000 ∧ S1 12 b = -1) ∨ (pl b < RW ∧ b < n ∧ S1 12 b = nI (pl b))
          rw [w2 12 (by decide)]
          exact h12 b hb) (by omega)
        (by
          show S1 11 0 + 1 = nI (m + 1)
          rw [hs11, upd_ne _ _ (by decide), h0, nI_1])
        (fun j hj => by
          show upd (S1 15) q (nI i) j = nI (if j < q then L j else if j = q then i else L (j - 1)) ∧ (if j < q then L j else if j = q then i else L (j - 1)) < i + 1 ∧ (if j < q then L j else if j = q then i else L (j - 1)) < n ∧ pl (if j < q then L j else if j = q then i else L (j - 1)) < 1000
          rcases Nat.lt_trichotomy j q with r | r | r
          · have := hL j (by omega)
            rw [if_pos r, upd_ne _ _ (by omega), w3 j r]
            exact ⟨rfl, by omega, this.2.2⟩
          · rw [if_neg (by omega), if_pos r, r, upd_at]
            exact ⟨rfl, by omega, c2, by omega⟩
          · have := hL (j - 1) (by omega)
            have h4 := w4 (j - 1) (by omega) (by omega)
            rw [show j - 1 + 1 = j by omega] at h4
            rw [if_neg (by omega), if_neg (by omega), upd_ne _ _ (by omega), h4.1]
            exact ⟨rfl, by omega, this.2.2⟩)
        (fun j j' hjj hj' => by
          show pl (if j < q then L j else if j = q then i else L (j - 1)) < pl (if j' < q then L j' else if j' = q then i else L (j' - 1))
          rcases Nat.lt_trichotomy j q with r | r | r
          · rcases Nat.lt_trichotomy j' q with r' | r' | r'
            · rw [if_pos r, if_pos r']; exact ho j j' hjj (by omega)
            · rw [if_pos r, if_neg (by omega), if_pos r']; exact hlo j r
            · rw [if_pos r, if_neg (by omega), if_neg (by omega)]
              rcases Nat.lt_or_ge j (j' - 1) with t | t
              · exact ho j (j' - 1) t (by omega)
              · exfalso; omega
          · rw [if_neg (by omega), if_pos r, if_neg (by omega), if_neg (by omega)]
            exact (w4 (j' - 1) (by omega) (by omega)).2
          · rw [if_neg (by omega), if_neg (by omega), if_neg (by omega), if_neg (by omega)]
            exact ho (j - 1) (j' - 1) (by omega) (by omega))
        (fun b hb1 hb2 => by
          rcases Nat.lt_or_ge b i with r | r
          · obtain ⟨j, hj, e⟩ := ha b r hb2
            rcases Nat.lt_or_ge j q with t | t
            · exact ⟨j, by omega, by rw [if_pos t]; exact e⟩
            · exact ⟨j + 1, by omega, by rw [if_neg (by omega), if_neg (by omega), Nat.add_sub_cancel]; exact e⟩
          · exact ⟨q, by omega, by rw [if_neg (by omega), if_pos rfl]; omega⟩)
        (fun s hs => by
          show bitS (S1 11 2) s = _
          rw [hs11, upd_at, q_set (show pl i < 32 by omega) _ hs, hb s hs, tk_succ]
          congr 1
          by_cases e : s = pl i
          · rw [decide_eq_true e, e]; simp
          · rw [decide_eq_false e]
            symm
            rw [beq_eq_false_iff_ne]
            exact fun w => e w.symm)
      refine ⟨S', v1, fun j h1 h2 => ?_, fun x h1 h2 => ?_, v4, v5⟩
      · rw [v2 j h1 h2, u2_ne _ _ _ h1, u2_ne _ _ _ h2, w2 j h2, u2_ne _ _ _ h1]
      · rw [v3 x h1 h2, h11, upd_ne _ _ h1, hs11, upd_ne _ _ h2]
