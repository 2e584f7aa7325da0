/-! the reference's sale is the sale in numbers -/
def gmM (n W law lo : Nat) (may : Int32) (kd lim : Nat → Nat) (M : MS) : Prop := n ≤ 6 ∧ 2 ≤ W ∧ W ≤ 6 ∧ law < 3 ∧ M 2 0 = nI W ∧ M 3 0 = nI n ∧ M 8 0 = nI law ∧ (∀ b, b < n → M 4 b = nI (kd b) ∧ kd b < 3) ∧ ∀ b, b < n → lim b ≤ 99 ∧ ((fX9_isIn may (nI b) = 1 ∧ fX9_limitOf (nI b) (nI lo) M = some (nI (lim b))) ∨ (fX9_isIn may (nI b) = 0 ∧ lim b = 0))
theorem limitOf_cg {M M' : MS} (a b : Int32) (h4 : M' 4 = M 4) (h5 : M' 5 = M 5) (h7 : M' 7 = M 7) : fX9_limitOf a b M' = fX9_limitOf a b M := by
  unfold fX9_limitOf
  rw [h4, h5, h7]
theorem gmM.cg {n W law lo : Nat} {may : Int32} {kd lim : Nat → Nat} {M M' : MS} (h : gmM n W law lo may kd lim M) (e : ∀ j, j < 15 → M' j = M j) : gmM n W law lo may kd lim M' := by
  obtain ⟨a, b, c, d, h2, h3, h8, h4, hl⟩ := h
  refine ⟨a, b, c, d, ?_, ?_, ?_, ?_, ?_⟩
  · rw [e 2 (by decide)]; exact h2
  · rw [e 3 (by decide)]; exact h3
  · rw [e 8 (by decide)]; exact h8
  · rw [e 4 (by decide)]; exact h4
  · intro x hx
    rw [limitOf_cg (M := M) (M' := M') _ _ (e 4 (by decide)) (e 5 (by decide)) (e 7 (by decide))]
    exact hl x hx
theorem nx_no {el : Nat → Bool} {pl : Nat → Nat} {i : Nat} (h : el i = false) : nx el pl (i + 1) = nx el pl i := by
  rw [nx]
  cases nx el pl i with
  | none => simp [h]
  | some c => simp [h]
theorem nx_y0 {el : Nat → Bool} {pl : Nat → Nat} {i : Nat} (h : el i = true) (hn : nx el pl i = none) : nx el pl (i + 1) = some i := by
  rw [nx, hn]
  simp [h]
theorem nx_y1 {el : Nat → Bool} {pl : Nat → Nat} {i c : Nat} (h : el i = true) (hn : nx el pl i = some c) : nx el pl (i + 1) = if pl i < pl c then some i else some c := by
  rw [nx, hn]
  simp [h]
theorem okS.own {n W RW : Nat} {lim : Nat → Nat} {σ : SS} (h : okS n W RW lim σ) (hn : n ≤ 6) : σ.2.2.1 ≤ 1000 := by
  rcases h.2.2.1 with q | q
  · omega
  · omega
theorem okS.pr {n W RW : Nat} {lim : Nat → Nat} {σ : SS} (h : okS n W RW lim σ) (hl : ∀ b, b < n → lim b ≤ 99) : σ.2.1 ≤ 99 := by
  rcases h.2.2.1 with q | q
  · omega
  · have := hl _ q.1; omega
theorem el_f {n W law : Nat} {kd lim : Nat → Nat} {σ : SS} {b : Nat} (h : ¬ (σ.1 b < 1000 ∧ b ≠ σ.2.2.1 ∧ snB n W kd σ.1 b = true ∧ σ.2.1 + stp W law (σ.1 b) ≤ lim b)) : elB n W law kd lim σ b = false := by
  cases e : elB n W law kd lim σ b with
  | false => rfl
  | true =>
    exfalso
    apply h
    unfold elB at e
    simp only [Bool.and_eq_true, decide_eq_true_eq] at e
    exact ⟨e.1.1.1, e.1.1.2, e.1.2, e.2⟩
theorem el_t {n W law : Nat} {kd lim : Nat → Nat} {σ : SS} {b : Nat} : elB n W law kd lim σ b = true ↔ (σ.1 b < 1000 ∧ b ≠ σ.2.2.1 ∧ snB n W kd σ.1 b = true ∧ σ.2.1 + stp W law (σ.1 b) ≤ lim b) := by
  unfold elB
  simp only [Bool.and_eq_true, decide_eq_true_eq]
  exact ⟨fun e => ⟨e.1.1.1, e.1.1.2, e.1.2, e.2⟩, fun e => ⟨⟨⟨e.1, e.2.1⟩, e.2.2.1⟩, e.2.2.2⟩⟩
theorem nb_l {n W RW law lo : Nat} {may : Int32} {kd lim : Nat → Nat} {M : MS} {σ : SS} {k : Int32 → Option Int32} (hg : gmM n W law lo may kd lim M) (hp : cpM n M σ) (hs : okS n W RW lim σ) (hR : RW ≤ 24) :
    ∀ d i fu, i + d = n → d < fu → fX9_nextBidder_6 fu k (nI lo) may (encN (nx (elB n W law kd lim σ) σ.1 i)) (nI i) M = k (encN (nx (elB n W law kd lim σ) σ.1 n)) := by
  obtain ⟨hn, hW, hW6, hlaw, h2, h3, h8, h4, hl⟩ := hg
  have hpr := hs.pr (fun b hb => (hl b hb).1)
  have hpl : ∀ b, b < n → M 15 b = encP (σ.1 b) ∧ σ.1 b ≤ 1000 := fun b hb => ⟨hp.1 b hb, by rcases hs.1 b hb with q | q <;> omega⟩
  intro d
  induction d with
  | zero =>
    intro i fu hi hf
    obtain ⟨f, rfl⟩ : ∃ f, fu = f + 1 := ⟨fu - 1, by omega⟩
    rw [fX9_nextBidder_6, h3, if_pos (nI_le (by omega) (by omega)), show i = n by omega]
  | succ d ih =>
    intro i fu hi hf
    obtain ⟨f, rfl⟩ : ∃ f, fu = f + 1 := ⟨fu - 1, by omega⟩
    have hin : i < n := by omega
    have ih1 := ih (i + 1) f (by omega) (by omega)
    have eF : elB n W law kd lim σ i = false → fX9_nextBidder_6 f k (nI lo) may (encN (nx (elB n W law kd lim σ) σ.1 i)) (nI (i + 1)) M = k (encN (nx (elB n W law kd lim σ) σ.1 n)) := fun e => by
      rw [nx_no e] at ih1; exact ih1
    rw [fX9_nextBidder_6, h3, if_neg (nI_ge hin (by omega)), gd_nI (show i < 6 by omega) (by decide), nI_clamp (show i < 2 ^ 31 by omega), nI_1]
    rcases hs.1 i hin with q | q
    · rw [(hpl i hin).1, q, encP_k, if_pos (by decide)]
      exact eF (el_f (fun w => by omega))
    · rw [(hpl i hin).1, encP_lt (show σ.1 i < 1000 by omega), if_neg (show ¬ nI (σ.1 i) < 0 from nI_nlt (b := 0) (by omega) (by omega)), hp.2.2.1]
      by_cases eo : σ.2.2.1 = i
      · rw [if_pos ((encP_eq (hs.own hn) (by omega)).mpr eo).symm]
        exact eF (el_f (fun w => w.2.1 eo.symm))
      · rw [if_neg (fun w => eo ((encP_eq (hs.own hn) (by omega)).mp w.symm))]
        rcases (hl i hin).2 with ⟨m1, m2⟩ | ⟨m1, m2⟩
        · rw [m1, if_neg z10, isSeen_s hn hW6 h2 h3 hpl hin (by omega) (h4 i hin).1 (h4 i hin).2, Option.bind_some]
          by_cases es : snB n W kd σ.1 i = true
          · rw [if_pos es, if_neg z10, gd_nI (show i < 6 by omega) (by decide), step_s hW hW6 hlaw (by omega) h2 h8, Option.bind_some, m2, Option.bind_some, hp.2.1, nI_add]
            have hst := stp_c W law (σ.1 i)
            have hli := (hl i hin).1
            by_cases ep : σ.2.1 + stp W law (σ.1 i) ≤ lim i
            · have et := el_t.mpr ⟨(by omega : σ.1 i < 1000), fun w => eo w.symm, es, ep⟩
              rw [if_neg (nI_nlt ep (by omega))]
              cases hc : nx (elB n W law kd lim σ) σ.1 i with
              | none =>
                rw [nx_y0 et hc] at ih1
                rw [show encN none = -9 from rfl, if_pos (by decide)]
                exact ih1
              | some c =>
                have hc2 := nx_some hc
                have hcn : c < n := by omega
                have hcp : σ.1 c < 1000 := (el_t.mp hc2.2.1).1
                rw [nx_y1 et hc] at ih1
                rw [show encN (some c) = nI c from rfl, if_neg (show ¬ nI c < 0 from nI_nlt (b := 0) (by omega) (by omega)), gd_nI (show i < 6 by omega) (by decide), gd_nI (show c < 6 by omega) (by decide), nI_clamp (show c < 2 ^ 31 by omega), (hpl c hcn).1, encP_lt hcp]
                by_cases e : σ.1 i < σ.1 c
                · rw [if_pos e] at ih1
                  rw [if_neg (nI_ge e (by omega))]
                  exact ih1
                · rw [if_neg e] at ih1
                  rw [if_pos (nI_le (by omega) (by omega))]
                  exact ih1
            · rw [if_pos (nI_lt (by omega) (by omega))]
              exact eF (el_f (fun w => ep w.2.2.2))
          · rw [if_neg es, if_pos rfl]
            exact eF (el_f (fun w => es w.2.2.1))
        · rw [m1, if_pos rfl]
          exact eF (el_f (fun w => by have := stp_c W law (σ.1 i); omega))
theorem nb_s {n W RW law lo : Nat} {may : Int32} {kd lim : Nat → Nat} {M : MS} {σ : SS} (hg : gmM n W law lo may kd lim M) (hp : cpM n M σ) (hs : okS n W RW lim σ) (hR : RW ≤ 24) :
    fX9_nextBidder (nI lo) may M = some (encN (nx (elB n W law kd lim σ) σ.1 n)) := by
  have hn := hg.1
  exact nb_l (k := fun x19 => some x19) hg hp hs hR n 0 300 (by omega) (by omega)
/-! a bid -/
def bdM (M : MS) (r v : Int32) : MS := u2 (u2 (u2 (u2 M 16 0 (M 16 0 + r)) 17 0 v) 19 (M 18 0).toNatClampNeg (100 * (M 16 0 + r) + v)) 18 0 (M 18 0 + 1)
theorem sell_u (f : Nat) (k : MS → Option MS) (v1 v2 v3 : Int32) (M : MS) : fX9_sell_23 (f + 1) k v1 v2 v3 M = (if v3 < 0 then (k M) else (gd v3 6 ((fX9_step (M 15 v3.toNatClampNeg) M).bind fun r5 => (gd (M 18 0) 100 (gd v3 6 (nzi (M 2 0) (if ((M 15 v3.toNatClampNeg + 1) - (M 15 v3.toNatClampNeg + 1) / (M 2 0) * (M 2 0)) ≤ 0 then (gd v3 6 (gd v3 6 ((fX9_nextBidder v1 v2 (u2 (bdM M r5 v3) 15 v3.toNatClampNeg (M 15 v3.toNatClampNeg))).bind fun r13 => (fX9_sell_23 f k v1 v2 r13 (u2 (bdM M r5 v3) 15 v3.toNatClampNeg (M 15 v3.toNatClampNeg)))))) else ((fX9_isTaken (M 15 v3.toNatClampNeg + 1) (bdM M r5 v3)).bind fun r15 => (if r15 = 0 then (gd v3 6 ((fX9_nextBidder v1 v2 (u2 (bdM M r5 v3) 15 v3.toNatClampNeg (M 15 v3.toNatClampNeg + 1))).bind fun r23 => (fX9_sell_23 f k v1 v2 r23 (u2 (bdM M r5 v3) 15 v3.toNatClampNeg (M 15 v3.toNatClampNeg + 1))))) else (gd v3 6 (gd v3 6 ((fX9_nextBidder v1 v2 (u2 (bdM M r5 v3) 15 v3.toNatClampNeg (M 15 v3.toNatClampNeg))).bind fun r20 => (fX9_sell_23 f k v1 v2 r20 (u2 (bdM M r5 v3) 15 v3.toNatClampNeg (M 15 v3.toNatClampNeg))))))))))))))) := by
  rw [fX9_sell_23]; rfl
theorem bd_cp {n b st p' : Nat} {M : MS} {σ : SS} {pl' : Nat → Nat} (hp : cpM n M σ) (hb : b < n) (hn : n ≤ 6) (hst : σ.2.1 + st ≤ 99) (hbi : σ.2.2.2.1 ≤ σ.2.1) (hp' : p' < 1000) (hpl : ∀ x, x < n → pl' x = if x = b then p' else σ.1 x) :
    cpM n (u2 (bdM M (nI st) (nI b)) 15 b (nI p')) (pl', σ.2.1 + st, b, σ.2.2.2.1 + 1, fun x => if x = σ.2.2.2.1 then 100 * (σ.2.1 + st) + b else σ.2.2.2.2 x) := by
  obtain ⟨c1, c2, c3, c4, c5⟩ := hp
  refine ⟨fun x hx => ?_, ?_, ?_, ?_, fun k hk => ?_⟩
  · show upd (M 15) b (nI p') x = encP (pl' x)
    rw [hpl x hx]
    by_cases e : x = b
    · subst e
      rw [upd_at, if_pos rfl, encP_lt hp']
    · rw [upd_ne _ _ e, if_neg e]; exact c1 x hx
  · show upd (M 16) 0 (M 16 0 + nI st) 0 = nI (σ.2.1 + st)
    rw [upd_at, c2, nI_add]
  · show upd (M 17) 0 (nI b) 0 = encP b
    rw [upd_at, encP_lt (by omega)]
  · show upd (M 18) 0 (M 18 0 + 1) 0 = nI (σ.2.2.2.1 + 1)
    rw [upd_at, c4, nI_1]
  · show upd (M 19) (M 18 0).toNatClampNeg (100 * (M 16 0 + nI st) + nI b) k = nI (if k = σ.2.2.2.1 then 100 * (σ.2.1 + st) + b else σ.2.2.2.2 k)
    rw [c4, nI_clamp (by omega), c2]
    by_cases e : k = σ.2.2.2.1
    · rw [e, upd_at, if_pos rfl, nI_add, show (100 : Int32) = nI 100 from rfl, pk_mul, nI_add]
    · rw [upd_ne _ _ e, if_neg e]
      have hk' : k < σ.2.2.2.1 + 1 := hk
      exact c5 k (by omega)
theorem bd_fr (M : MS) (r v x : Int32) (c : Nat) : ∀ j, (j < 15 ∨ 19 < j) → u2 (bdM M r v) 15 c x j = M j := by
  intro j hj
  unfold bdM
  rw [u2_ne _ _ _ (by omega), u2_ne _ _ _ (by omega), u2_ne _ _ _ (by omega), u2_ne _ _ _ (by omega), u2_ne _ _ _ (by omega)]
theorem mod_l {W p : Nat} (hW : 2 ≤ W) (hW6 : W ≤ 6) : (p + 1) % W = 0 ↔ p % W = W - 1 := by
  rcases (show W = 2 ∨ W = 3 ∨ W = 4 ∨ W = 5 ∨ W = 6 by omega) with rfl | rfl | rfl | rfl | rfl <;> omega
theorem mod_r {W R p : Nat} (hW : 2 ≤ W) (hW6 : W ≤ 6) (h : p < R * W) (hm : p % W ≠ W - 1) : p + 1 < R * W := by
  rcases (show W = 2 ∨ W = 3 ∨ W = 4 ∨ W = 5 ∨ W = 6 by omega) with rfl | rfl | rfl | rfl | rfl <;> omega
theorem bs_ok {n W R law : Nat} {kd lim : Nat → Nat} {σ : SS} {b : Nat} (hs : okS n W (R * W) lim σ) (hW : 2 ≤ W) (hW6 : W ≤ 6) (hb : b < n) (he : elB n W law kd lim σ b = true) : okS n W (R * W) lim (bs n W law σ b) := by
  obtain ⟨e1, e2, e3, e4⟩ := el_t.mp he
  obtain ⟨s1, s2, s3, s4⟩ := hs
  have hst := stp_c W law (σ.1 b)
  have hpb : σ.1 b < R * W := by rcases s1 b hb with q | q <;> omega
  unfold bs
  refine ⟨?_, ?_, Or.inr ⟨hb, e4⟩, ?_⟩
  · intro x hx
    dsimp only
    by_cases c : σ.1 b % W ≠ W - 1 ∧ tkB n σ.1 (σ.1 b + 1) = false
    · rw [if_pos c]
      by_cases ex : x = b
      · rw [if_pos ex]; exact Or.inr (mod_r hW hW6 hpb c.1)
      · rw [if_neg ex]; exact s1 x hx
    · rw [if_neg c]; exact s1 x hx
  · intro x y hx hy
    dsimp only
    by_cases c : σ.1 b % W ≠ W - 1 ∧ tkB n σ.1 (σ.1 b + 1) = false
    · rw [if_pos c]
      have hno : ∀ z, z < n → ¬ σ.1 z = σ.1 b + 1 := fun z hz w => by
        have := (tkB_iff (n := n) (pl := σ.1) (s := σ.1 b + 1)).mpr ⟨z, hz, w⟩
        rw [c.2] at this; cases this
      by_cases ex : x = b
      · by_cases ey : y = b
        · intro _ _; omega
        · rw [if_pos ex, if_neg ey]
          intro _ w
          exact absurd w.symm (hno y hy)
      · by_cases ey : y = b
        · rw [if_neg ex, if_pos ey]
          intro _ w
          exact absurd w (hno x hx)
        · rw [if_neg ex, if_neg ey]
          exact s2 x y hx hy
    · rw [if_neg c]; exact s2 x y hx hy
  · dsimp only
    omega
theorem sell_l {n W R law lo : Nat} {may : Int32} {kd lim : Nat → Nat} {k : MS → Option MS} (hR : R * W ≤ 24) :
    ∀ d fu (M : MS) (σ : SS), 99 ≤ σ.2.1 + d → d < fu → gmM n W law lo may kd lim M → cpM n M σ → okS n W (R * W) lim σ →
      ∃ M', fX9_sell_23 fu k (nI lo) may (encN (nx (elB n W law kd lim σ) σ.1 n)) M = k M' ∧ cpM n M' (sal n W law kd lim d σ) ∧ okS n W (R * W) lim (sal n W law kd lim d σ) ∧ ∀ j, (j < 15 ∨ 19 < j) → M' j = M j := by
  intro d
  induction d with
  | zero =>
    intro fu M σ h99 hf hg hp hs
    obtain ⟨f, rfl⟩ : ∃ f, fu = f + 1 := ⟨fu - 1, by omega⟩
    cases hc : nx (elB n W law kd lim σ) σ.1 n with
    | none =>
      refine ⟨M, ?_, hp, hs, fun _ _ => rfl⟩
      rw [sell_u, show encN none = -9 from rfl, if_pos (by decide)]
    | some b =>
      exfalso
      have hb := nx_some hc
      have e := (el_t.mp hb.2.1).2.2.2
      have := stp_c W law (σ.1 b)
      have := (hg.2.2.2.2.2.2.2.2 b hb.1).1
      omega
  | succ d ih =>
    intro fu M σ h99 hf hg hp hs
    obtain ⟨f, rfl⟩ : ∃ f, fu = f + 1 := ⟨fu - 1, by omega⟩
    cases hc : nx (elB n W law kd lim σ) σ.1 n with
    | none =>
      refine ⟨M, ?_, ?_, ?_, fun _ _ => rfl⟩
      · rw [sell_u, show encN none = -9 from rfl, if_pos (by decide)]
      · rw [sal, hc]; exact hp
      · rw [sal, hc]; exact hs
    | some b =>
      have hb := nx_some hc
      have hbn : b < n := hb.1
      obtain ⟨e1, e2, e3, e4⟩ := el_t.mp hb.2.1
      have hst := stp_c W law (σ.1 b)
      obtain ⟨hn, hW, hW6, hlaw, h2, h3, h8, h4, hl⟩ := id hg
      have hlb := (hl b hbn).1
      have hpb : σ.1 b < R * W := by rcases hs.1 b hbn with q | q <;> omega
      have hok := bs_ok hs hW hW6 hbn hb.2.1
      have hbi := hs.2.2.2
      have hm15 : M 15 b = nI (σ.1 b) := by rw [hp.1 b hbn, encP_lt e1]
      rw [show encN (some b) = nI b from rfl, sell_u, if_neg (show ¬ nI b < 0 from nI_nlt (b := 0) (by omega) (by omega)), gd_nI (show b < 6 by omega) (by decide), nI_clamp (show b < 2 ^ 31 by omega), hm15, step_s hW hW6 hlaw e1 h2 h8, Option.bind_some, hp.2.2.2.1, gd_nI (show σ.2.2.2.1 < 100 by omega) (by decide), gd_nI (show b < 6 by omega) (by decide)]
      unfold nzi
      rw [h2, if_neg (nI_ne0 (by omega) (by omega)), nI_1, pk_rem (by omega) (by omega) (by omega)]
      have fin : ∀ p' : Nat, p' < 1000 → (∀ x, x < n → (bs n W law σ b).1 x = if x = b then p' else σ.1 x) → ∃ M', ((fX9_nextBidder (nI lo) may (u2 (bdM M (nI (stp W law (σ.1 b))) (nI b)) 15 b (nI p'))).bind fun r => fX9_sell_23 f k (nI lo) may r (u2 (bdM M (nI (stp W law (σ.1 b))) (nI b)) 15 b (nI p'))) = k M' ∧ cpM n M' (sal n W law kd lim (d + 1) σ) ∧ okS n W (R * W) lim (sal n W law kd lim (d + 1) σ) ∧ ∀ j, (j < 15 ∨ 19 < j) → M' j = M j := by
        intro p' hp' hpl
        have hcp : cpM n (u2 (bdM M (nI (stp W law (σ.1 b))) (nI b)) 15 b (nI p')) (bs n W law σ b) := bd_cp hp hbn hn (by omega) hbi hp' hpl
        have hfr := bd_fr M (nI (stp W law (σ.1 b))) (nI b) (nI p') b
        have hgm := hg.cg (M' := u2 (bdM M (nI (stp W law (σ.1 b))) (nI b)) 15 b (nI p')) (fun j hj => hfr j (Or.inl hj))
        obtain ⟨M', w1, w2, w3, w4⟩ := ih f _ (bs n W law σ b) (by show 99 ≤ σ.2.1 + stp W law (σ.1 b) + d; omega) (by omega) hgm hcp hok
        refine ⟨M', ?_, ?_, ?_, fun j hj => (w4 j hj).trans (hfr j hj)⟩
        · rw [nb_s hgm hcp hok hR, Option.bind_some]; exact w1
        · rw [sal, hc]; exact w2
        · rw [sal, hc]; exact w3
      by_cases em : σ.1 b % W = W - 1
      · rw [(mod_l hW hW6).mpr em, if_pos (show nI 0 ≤ 0 from nI_le (b := 0) (by omega) (by omega)), gd_nI (show b < 6 by omega) (by decide), gd_nI (show b < 6 by omega) (by decide)]
        refine fin (σ.1 b) e1 (fun x hx => ?_)
        show (if σ.1 b % W ≠ W - 1 ∧ tkB n σ.1 (σ.1 b + 1) = false then (fun x => if x = b then σ.1 b + 1 else σ.1 x) else σ.1) x = _
        rw [if_neg (fun w => w.1 em)]
        by_cases ex : x = b
        · rw [if_pos ex, ex]
        · rw [if_neg ex]
      · have hm0 : ¬ (σ.1 b + 1) % W = 0 := fun w => em ((mod_l hW hW6).mp w)
        rw [if_neg (show ¬ nI ((σ.1 b + 1) % W) ≤ 0 from nI_ge (a := 0) (by omega) (by have := Nat.mod_lt (σ.1 b + 1) (show W > 0 by omega); omega))]
        have hpl : ∀ x, x < n → bdM M (nI (stp W law (σ.1 b))) (nI b) 15 x = encP (σ.1 x) ∧ σ.1 x ≤ 1000 := fun x hx => ⟨hp.1 x hx, by rcases hs.1 x hx with q | q <;> omega⟩
        rw [isTaken_s hn (show bdM M (nI (stp W law (σ.1 b))) (nI b) 3 0 = nI n from h3) hpl (by omega), Option.bind_some]
        by_cases et : tkB n σ.1 (σ.1 b + 1) = true
        · rw [if_pos et, if_neg z10, gd_nI (show b < 6 by omega) (by decide), gd_nI (show b < 6 by omega) (by decide)]
          refine fin (σ.1 b) e1 (fun x hx => ?_)
          show (if σ.1 b % W ≠ W - 1 ∧ tkB n σ.1 (σ.1 b + 1) = false then (fun x => if x = b then σ.1 b + 1 else σ.1 x) else σ.1) x = _
          rw [if_neg (fun w => by rw [et] at w; cases w.2)]
          by_cases ex : x = b
          · rw [if_pos ex, ex]
          · rw [if_neg ex]
        · rw [if_neg et, if_pos rfl, gd_nI (show b < 6 by omega) (by decide)]
          refine fin (σ.1 b + 1) (by omega) (fun x hx => ?_)
          show (if σ.1 b % W ≠ W - 1 ∧ tkB n σ.1 (σ.1 b + 1) = false then (fun x => if x = b then σ.1 b + 1 else σ.1 x) else σ.1) x = _
          rw [if_pos ⟨em, by simpa using et⟩]
