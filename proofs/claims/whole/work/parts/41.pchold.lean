/-! the classes: taking a bid, holding a sale -/
def bdC (S : MS) (r v : Int32) : MS := u2 (u2 (u2 (u2 S 11 4 (S 11 4 + r)) 11 5 v) 16 (S 11 6).toNatClampNeg (100 * (S 11 4 + r) + v)) 11 6 (S 11 6 + 1)
def mvC (B : MS) (c : Nat) (t p : Int32) : MS := u2 (u2 (u2 B 11 2 (t &&& (((1 : Int32) <<< (p &&& 31)) ^^^ (-1)))) 11 2 ((t &&& (((1 : Int32) <<< (p &&& 31)) ^^^ (-1))) ||| ((1 : Int32) <<< ((p + 1) &&& 31)))) 12 c (p + 1)
theorem take_u (n : Nat) (p : Int32) (S : MS) (h : ¬ 99 ≤ S 11 6) : fX0_takeBidOf n p S = (fX0_riseBy n p S).bind fun r => gd (S 11 6) 99 (gd p 6 (if fX8_isIn (S 10 5) (S 12 p.toNatClampNeg) = 0 then (if fX8_isIn (S 11 2) (S 12 p.toNatClampNeg + 1) = 0 then gd p 6 (some (mvC (bdC S r p) p.toNatClampNeg (S 11 2) (S 12 p.toNatClampNeg))) else some (bdC S r p)) else some (bdC S r p))) := by
  unfold fX0_takeBidOf
  refine congrArg _ (funext fun r => ?_)
  exact if_neg h
theorem nbC_s {n W RW law : Nat} {kd lim : Nat → Nat} {pr : Nat → Bool} {S : MS} {σ : SS} (hg : gmC n W RW law kd lim pr S) (hp : cpC n RW pr S σ) (hs : okS n W RW lim σ) : fX0_nextBidder n S = some (encN (nx (elB n W law kd lim σ) σ.1 n)) := by
  obtain ⟨m, L, l1, l2, l3, l4, l5⟩ := hp.2.2.2.2.2.2.2
  exact nbC_l hg hp hs l1 l2 l3 l4 l5 m 0 300 (by omega) (by omega) (fun j hj => absurd hj (Nat.not_lt_zero j))
theorem bdC_fr (S : MS) (r v : Int32) : ∀ j, (j ≤ 10 ∨ 16 < j ∨ j = 12 ∨ j = 13 ∨ j = 14 ∨ j = 15) → bdC S r v j = S j := by
  intro j hj
  unfold bdC
  rw [u2_ne _ _ _ (by omega), u2_ne _ _ _ (by omega), u2_ne _ _ _ (by omega), u2_ne _ _ _ (by omega)]
theorem tell_s {S : MS} {σ : SS} {st b : Nat} (h4 : S 11 4 = nI σ.2.1) (h6 : S 11 6 = nI σ.2.2.2.1) (hk : ∀ k, k < σ.2.2.2.1 → S 16 k = nI (σ.2.2.2.2 k)) (hb : σ.2.2.2.1 < 2 ^ 31) : ∀ k, k < σ.2.2.2.1 + 1 → upd (S 16) (S 11 6).toNatClampNeg (100 * (S 11 4 + nI st) + nI b) k = nI (if k = σ.2.2.2.1 then 100 * (σ.2.1 + st) + b else σ.2.2.2.2 k) := by
  intro k hk'
  rw [h6, nI_clamp hb, h4]
  by_cases e : k = σ.2.2.2.1
  · rw [e, upd_at, if_pos rfl, nI_add, show (100 : Int32) = nI 100 from rfl, pk_mul, nI_add]
  · rw [upd_ne _ _ e, if_neg e]
    exact hk k (by omega)
theorem tk_mv {n b : Nat} {pl : Nat → Nat} (hb : b < n) (hpl : pl b < 1000) (hu : ∀ x y, x < n → y < n → pl x < 1000 → pl x = pl y → x = y) (s : Nat) : tkB n (fun x => if x = b then pl b + 1 else pl x) s = ((tkB n pl s && !decide (s = pl b)) || decide (s = pl b + 1)) := by
  have key : tkB n (fun x => if x = b then pl b + 1 else pl x) s = true ↔ ((tkB n pl s && !decide (s = pl b)) || decide (s = pl b + 1)) = true := by
    rw [tkB_iff]
    simp only [Bool.or_eq_true, Bool.and_eq_true, Bool.not_eq_true', decide_eq_false_iff_not, decide_eq_true_eq]
    constructor
    · rintro ⟨x, hx, e⟩
      by_cases ex : x = b
      · rw [if_pos ex] at e; exact Or.inr e.symm
      · rw [if_neg ex] at e
        refine Or.inl ⟨tkB_iff.mpr ⟨x, hx, e⟩, fun w => ex ?_⟩
        exact (hu b x hb hx hpl (by omega)).symm
    · rintro (⟨h1, h2⟩ | h)
      · obtain ⟨x, hx, e⟩ := tkB_iff.mp h1
        refine ⟨x, hx, ?_⟩
        rw [if_neg (fun w => h2 (by rw [← e, w]))]
        exact e
      · exact ⟨b, hb, by rw [if_pos rfl]; exact h.symm⟩
  cases h1 : tkB n (fun x => if x = b then pl b + 1 else pl x) s with
  | true => exact (key.mp h1).symm
  | false =>
    cases h2 : ((tkB n pl s && !decide (s = pl b)) || decide (s = pl b + 1)) with
    | true => have := key.mpr h2; rw [h1] at this; cases this
    | false => rfl
theorem take_s {n W R law b : Nat} {kd lim : Nat → Nat} {pr : Nat → Bool} {S : MS} {σ : SS} (hg : gmC n W (R * W) law kd lim pr S) (hp : cpC n (R * W) pr S σ) (hs : okS n W (R * W) lim σ) (hb : b < n) (he : elB n W law kd lim σ b = true) :
    ∃ S', fX0_takeBidOf n (nI b) S = some S' ∧ gmC n W (R * W) law kd lim pr S' ∧ cpC n (R * W) pr S' (bs n W law σ b) ∧ (∀ j, (j ≤ 10 ∨ 16 < j ∨ j = 13 ∨ j = 14) → S' j = S j) ∧ ∀ x, n ≤ x → S' 12 x = S 12 x := by
  have hg' := hg
  obtain ⟨hn, hW, hW6, hlaw, hR, h2, hh, ht, hla, hl⟩ := hg'
  obtain ⟨p1, p2, p3, p4, p5, p6, p7, p8⟩ := id hp
  obtain ⟨e1, e2, e3, e4⟩ := el_t.mp he
  have hst := stp_c W law (σ.1 b)
  have hpr : pr b = true := (p1 b hb).mp e1
  have hrw : σ.1 b < R * W := by rcases hs.1 _ hb with q | q <;> omega
  have hlb := (hl b hb).1
  have hbi := hs.2.2.2
  rw [take_u _ _ _ (by rw [p5]; exact (show ¬ (99 : Int32) ≤ nI σ.2.2.2.1 from nI_ge (b := 99) (by omega) (by decide))), rise_s hg hp hb hpr hrw, Option.bind_some, nI_clamp (show b < 2 ^ 31 by omega), p5, gd_nI (show σ.2.2.2.1 < 99 by omega) (by decide), gd_nI (show b < 6 by omega) (by decide), p2 b hb hpr, q_in (show σ.1 b < 32 by omega), hla _ hrw]
  have stay : ¬ (σ.1 b % W ≠ W - 1 ∧ tkB n σ.1 (σ.1 b + 1) = false) → gmC n W (R * W) law kd lim pr (bdC S (nI (stp W law (σ.1 b))) (nI b)) ∧ cpC n (R * W) pr (bdC S (nI (stp W law (σ.1 b))) (nI b)) (bs n W law σ b) ∧ (∀ j, (j ≤ 10 ∨ 16 < j ∨ j = 13 ∨ j = 14) → bdC S (nI (stp W law (σ.1 b))) (nI b) j = S j) ∧ ∀ x, n ≤ x → bdC S (nI (stp W law (σ.1 b))) (nI b) 12 x = S 12 x := by
    intro hc
    refine ⟨⟨hn, hW, hW6, hlaw, hR, h2, hh, ht, hla, hl⟩, ?_, fun j hj => bdC_fr _ _ _ j (by omega), fun x _ => congrFun (bdC_fr _ _ _ 12 (by omega)) x⟩
    unfold bs
    rw [if_neg hc]
    refine ⟨p1, p2, ?_, ?_, ?_, tell_s p3 p5 p6 (by omega), p7, p8⟩
    · show S 11 4 + nI (stp W law (σ.1 b)) = nI (σ.2.1 + stp W law (σ.1 b))
      rw [p3, nI_add]
    · show nI b = encP b
      rw [encP_lt (by omega)]
    · show S 11 6 + 1 = nI (σ.2.2.2.1 + 1)
      rw [p5, nI_1]
  by_cases em : σ.1 b % W = W - 1
  · rw [if_pos (show decide (σ.1 b % W = W - 1) = true by simpa using em), if_neg z10]
    exact ⟨_, rfl, stay (fun w => w.1 em)⟩
  · have hlt := mod_r hW hW6 hrw em
    rw [if_neg (show ¬ decide (σ.1 b % W = W - 1) = true by simpa using em), if_pos rfl, nI_1, q_in (show σ.1 b + 1 < 32 by omega), p7 _ hlt]
    by_cases et : tkB n σ.1 (σ.1 b + 1) = true
    · rw [if_pos et, if_neg z10]
      exact ⟨_, rfl, stay (fun w => by rw [et] at w; cases w.2)⟩
    · have et' : tkB n σ.1 (σ.1 b + 1) = false := by simpa using et
      rw [if_neg et, if_pos rfl, gd_nI (show b < 6 by omega) (by decide)]
      refine ⟨_, rfl, ⟨hn, hW, hW6, hlaw, hR, h2, hh, ht, hla, hl⟩, ?_, fun j hj => ?_, fun x hx => upd_ne (S 12) (nI (σ.1 b) + 1) (show x ≠ b by omega)⟩
      · have hno : ∀ x, x < n → σ.1 x ≠ σ.1 b + 1 := fun x hx w => by
          have := (tkB_iff (n := n) (pl := σ.1) (s := σ.1 b + 1)).mpr ⟨x, hx, w⟩
          rw [et'] at this; cases this
        unfold bs
        rw [if_pos ⟨em, et'⟩]
        refine ⟨fun x hx => ?_, fun x hx hx2 => ?_, ?_, ?_, ?_, tell_s p3 p5 p6 (by omega), fun s hs2 => ?_, ?_⟩
        · show (if x = b then σ.1 b + 1 else σ.1 x) < 1000 ↔ pr x = true
          by_cases ex : x = b
          · rw [if_pos ex, ex, hpr]; exact ⟨fun _ => rfl, fun _ => by omega⟩
          · rw [if_neg ex]; exact p1 x hx
        · show upd (S 12) b (nI (σ.1 b) + 1) x = nI (if x = b then σ.1 b + 1 else σ.1 x)
          by_cases ex : x = b
          · rw [ex, upd_at, if_pos rfl, nI_1]
          · rw [upd_ne _ _ ex, if_neg ex]; exact p2 x hx hx2
        · show S 11 4 + nI (stp W law (σ.1 b)) = nI (σ.2.1 + stp W law (σ.1 b))
          rw [p3, nI_add]
        · show nI b = encP b
          rw [encP_lt (by omega)]
        · show S 11 6 + 1 = nI (σ.2.2.2.1 + 1)
          rw [p5, nI_1]
        · show bitS ((S 11 2 &&& (((1 : Int32) <<< (nI (σ.1 b) &&& 31)) ^^^ (-1))) ||| ((1 : Int32) <<< ((nI (σ.1 b) + 1) &&& 31))) s = tkB n (fun x => if x = b then σ.1 b + 1 else σ.1 x) s
          rw [nI_1, q_set (show σ.1 b + 1 < 32 by omega) _ (by omega), q_clr (show σ.1 b < 32 by omega) _ (by omega), p7 s hs2, tk_mv hb e1 hs.2.1 s]
        · obtain ⟨m, L, l1, l2, l3, l4, l5⟩ := p8
          have hne : ∀ i, i < m → L i < n := fun i hi => (l3 i hi).2.1
          refine ⟨m, L, l1, l2, fun i hi => ⟨(l3 i hi).1, (l3 i hi).2.1, ?_⟩, fun i j hij hj => ?_, fun x hx hx2 => l5 x hx ?_⟩
          · show (if L i = b then σ.1 b + 1 else σ.1 (L i)) < 1000
            by_cases ex : L i = b
            · rw [if_pos ex]; omega
            · rw [if_neg ex]; exact (l3 i hi).2.2
          · show (if L i = b then σ.1 b + 1 else σ.1 (L i)) < (if L j = b then σ.1 b + 1 else σ.1 (L j))
            have hlt2 := l4 i j hij hj
            by_cases ei : L i = b
            · by_cases ej : L j = b
              · rw [ei, ej] at hlt2; omega
              · rw [if_pos ei, if_neg ej]
                have := hno (L j) (hne j hj)
                rw [ei] at hlt2
                omega
            · by_cases ej : L j = b
              · rw [if_neg ei, if_pos ej]
                rw [ej] at hlt2
                omega
              · rw [if_neg ei, if_neg ej]; exact hlt2
          · have hx3 : (if x = b then σ.1 b + 1 else σ.1 x) < 1000 := hx2
            by_cases ex : x = b
            · rw [ex]; exact e1
            · rw [if_neg ex] at hx3; exact hx3
      · unfold mvC
        rw [u2_ne _ _ _ (by omega), u2_ne _ _ _ (by omega), u2_ne _ _ _ (by omega)]
        exact bdC_fr _ _ _ j (by omega)
theorem hold_l {n W R law : Nat} {kd lim : Nat → Nat} {pr : Nat → Bool} {k : MS → Option MS} :
    ∀ d i fu (S : MS) (σ : SS), i + d = 99 → d < fu → gmC n W (R * W) law kd lim pr S → cpC n (R * W) pr S σ → okS n W (R * W) lim σ →
      ∃ S', fX0_hold_33 n fu k (nI i) S = k S' ∧ gmC n W (R * W) law kd lim pr S' ∧ cpC n (R * W) pr S' (sal n W law kd lim d σ) ∧ (∀ j, (j ≤ 10 ∨ 16 < j ∨ j = 13 ∨ j = 14) → S' j = S j) ∧ ∀ x, n ≤ x → S' 12 x = S 12 x := by
  intro d
  induction d with
  | zero =>
    intro i fu S σ hi hf hg hp hs
    obtain ⟨f, rfl⟩ : ∃ f, fu = f + 1 := ⟨fu - 1, by omega⟩
    refine ⟨S, ?_, hg, hp, fun _ _ => rfl, fun _ _ => rfl⟩
    rw [fX0_hold_33, if_pos (show (99 : Int32) ≤ nI i from nI_le (a := 99) (by omega) (by omega))]
  | succ d ih =>
    intro i fu S σ hi hf hg hp hs
    obtain ⟨f, rfl⟩ : ∃ f, fu = f + 1 := ⟨fu - 1, by omega⟩
    rw [fX0_hold_33, if_neg (show ¬ (99 : Int32) ≤ nI i from nI_ge (b := 99) (by omega) (by decide)), nbC_s hg hp hs, Option.bind_some]
    cases hc : nx (elB n W law kd lim σ) σ.1 n with
    | none =>
      refine ⟨S, ?_, hg, ?_, fun _ _ => rfl, fun _ _ => rfl⟩
      · rw [show encN none = -9 from rfl, if_pos rfl]
      · rw [sal, hc]; exact hp
    | some b =>
      have hb := nx_some hc
      have hn := hg.1
      obtain ⟨S1, t1, t2, t3, t4, t5⟩ := take_s hg hp hs hb.1 hb.2.1
      obtain ⟨S', w1, w0, w2, w3, w5⟩ := ih (i + 1) f S1 (bs n W law σ b) (by omega) (by omega) t2 t3 (bs_ok hs hg.2.1 hg.2.2.1 hb.1 hb.2.1)
      refine ⟨S', ?_, w0, ?_, fun j hj => (w3 j hj).trans (t4 j hj), fun x hx => (w5 x hx).trans (t5 x hx)⟩
      · rw [show encN (some b) = nI b from rfl, if_neg (m9_ne (by omega)), t1, Option.bind_some, nI_1]
        exact w1
      · rw [sal, hc]; exact w2
