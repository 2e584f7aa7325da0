/-! the classes' sale is the sale in numbers -/
/-- the line: all who sit, by their places -/
def lnC (n : Nat) (S : MS) (pl : Nat → Nat) : Prop := ∃ (m : Nat) (L : Nat → Nat), m ≤ 6 ∧ S 11 0 = nI m ∧ (∀ i, i < m → S 15 i = nI (L i) ∧ L i < n ∧ pl (L i) < 1000) ∧ (∀ i j, i < j → j < m → pl (L i) < pl (L j)) ∧ ∀ b, b < n → pl b < 1000 → ∃ i, i < m ∧ L i = b
def gmC (n W RW law : Nat) (kd lim : Nat → Nat) (pr : Nat → Bool) (S : MS) : Prop := n ≤ 6 ∧ 2 ≤ W ∧ W ≤ 6 ∧ law < 3 ∧ RW ≤ 24 ∧ S 10 2 = nI W ∧ (∀ b, b < n → pr b = true → bitS (S 11 1) b = decide (kd b ≠ 0)) ∧ (∀ s, s < RW → bitS (S 11 3) s = decide (stp W law s = 2)) ∧ (∀ s, s < RW → bitS (S 10 5) s = decide (s % W = W - 1)) ∧ ∀ b, b < n → lim b ≤ 99 ∧ (pr b = true → S 14 b = nI (lim b))
def cpC (n RW : Nat) (pr : Nat → Bool) (S : MS) (σ : SS) : Prop := (∀ b, b < n → (σ.1 b < 1000 ↔ pr b = true)) ∧ (∀ b, b < n → pr b = true → S 12 b = nI (σ.1 b)) ∧ S 11 4 = nI σ.2.1 ∧ S 11 5 = encP σ.2.2.1 ∧ S 11 6 = nI σ.2.2.2.1 ∧ (∀ k, k < σ.2.2.2.1 → S 16 k = nI (σ.2.2.2.2 k)) ∧ (∀ s, s < RW → bitS (S 11 2) s = tkB n σ.1 s) ∧ lnC n S σ.1
theorem rise_s {n W RW law b : Nat} {kd lim : Nat → Nat} {pr : Nat → Bool} {S : MS} {σ : SS} (hg : gmC n W RW law kd lim pr S) (hp : cpC n RW pr S σ) (hb : b < n) (hpr : pr b = true) (hr : σ.1 b < RW) : fX0_riseBy n (nI b) S = some (nI (stp W law (σ.1 b))) := by
  obtain ⟨hn, hW, hW6, hlaw, hR, h2, hh, ht, hla, hl⟩ := hg
  unfold fX0_riseBy
  rw [gd_nI (show b < 6 by omega) (by decide), nI_clamp (show b < 2 ^ 31 by omega), hp.2.1 b hb hpr, q_in (by omega), ht _ hr]
  rcases stp_c W law (σ.1 b) with e | e
  · rw [e]; rfl
  · rw [e]; rfl
theorem neg_s {W p : Nat} (hW : W ≤ 6) (h : p < W) : nI p - nI W < 0 :=
  (by decide : ∀ W, W < 7 → ∀ p, p < W → nI p - nI W < 0) W (by omega) p h
theorem seen_s {n W RW law b : Nat} {kd lim : Nat → Nat} {pr : Nat → Bool} {S : MS} {σ : SS} (hg : gmC n W RW law kd lim pr S) (hp : cpC n RW pr S σ) (hb : b < n) (hpr : pr b = true) (hr : σ.1 b < RW) : fX0_isSeen n (nI b) S = some (if snB n W kd σ.1 b = true then 1 else 0) := by
  obtain ⟨hn, hW, hW6, hlaw, hR, h2, hh, ht, hla, hl⟩ := hg
  unfold fX0_isSeen
  rw [gd_nI (show b < 6 by omega) (by decide), nI_clamp (show b < 2 ^ 31 by omega), hp.2.1 b hb hpr, h2, q_in (by omega), hh b hb hpr]
  unfold snB
  by_cases e0 : kd b = 0
  · rw [e0]; rfl
  · rw [if_pos (show decide (kd b ≠ 0) = true by simpa using e0), if_neg z10, show (kd b == 0) = false by simpa using e0]
    by_cases e1 : σ.1 b < W
    · rw [if_pos (neg_s hW6 e1), show decide (σ.1 b < W) = true by simpa using e1]
      rfl
    · rw [pk_sub (by omega), if_neg (show ¬ nI (σ.1 b - W) < 0 from nI_nlt (b := 0) (by omega) (by omega)), q_in (by omega), hp.2.2.2.2.2.2.1 _ (by omega), show decide (σ.1 b < W) = false by simpa using e1]
      cases tkB n σ.1 (σ.1 b - W) with
      | true => rfl
      | false => rfl
theorem nx_is {n W RW : Nat} {lim : Nat → Nat} {σ : SS} {el : Nat → Bool} {c : Nat} (hs : okS n W RW lim σ) (hc : c < n) (he : el c = true) (hp : σ.1 c < 1000) (hmin : ∀ b, b < n → el b = true → σ.1 c ≤ σ.1 b) : nx el σ.1 n = some c := by
  cases h : nx el σ.1 n with
  | none => have := nx_none h c hc; rw [he] at this; cases this
  | some d =>
    have hd := nx_some h
    have h1 := hmin d hd.1 hd.2.1
    have h2 := hd.2.2 c hc he
    rw [hs.2.1 c d hc hd.1 hp (by omega)]
theorem nbC_l {n W RW law : Nat} {kd lim : Nat → Nat} {pr : Nat → Bool} {S : MS} {σ : SS} {m : Nat} {L : Nat → Nat} (hg : gmC n W RW law kd lim pr S) (hp : cpC n RW pr S σ) (hs : okS n W RW lim σ)
    (hm : m ≤ 6) (h0 : S 11 0 = nI m) (hL : ∀ i, i < m → S 15 i = nI (L i) ∧ L i < n ∧ σ.1 (L i) < 1000) (ho : ∀ i j, i < j → j < m → σ.1 (L i) < σ.1 (L j)) (ha : ∀ b, b < n → σ.1 b < 1000 → ∃ i, i < m ∧ L i = b) :
    ∀ d i fu, i + d = m → d < fu → (∀ j, j < i → elB n W law kd lim σ (L j) = false) → fX0_nextBidder_2 n fu (fun (_ : Unit) => (some (-9))) (nI i) S = some (encN (nx (elB n W law kd lim σ) σ.1 n)) := by
  have hg' := hg
  obtain ⟨hn, hW, hW6, hlaw, hR, h2, hh, ht, hla, hl⟩ := hg'
  intro d
  induction d with
  | zero =>
    intro i fu hi hf hno
    obtain ⟨f, rfl⟩ : ∃ f, fu = f + 1 := ⟨fu - 1, by omega⟩
    rw [fX0_nextBidder_2, h0, if_pos (nI_le (by omega) (by omega))]
    cases hc : nx (elB n W law kd lim σ) σ.1 n with
    | none => rfl
    | some c =>
      exfalso
      have hc2 := nx_some hc
      obtain ⟨j, hj, e⟩ := ha c hc2.1 (el_t.mp hc2.2.1).1
      have := hno j (by omega)
      rw [e, hc2.2.1] at this
      cases this
  | succ d ih =>
    intro i fu hi hf hno
    obtain ⟨f, rfl⟩ : ∃ f, fu = f + 1 := ⟨fu - 1, by omega⟩
    have him : i < m := by omega
    obtain ⟨l1, l2, l3⟩ := hL i him
    have hpr : pr (L i) = true := (hp.1 _ l2).mp l3
    have hrw : σ.1 (L i) < RW := by rcases hs.1 _ l2 with q | q <;> omega
    have hst := stp_c W law (σ.1 (L i))
    have hpr99 : σ.2.1 ≤ 99 := hs.pr (fun b hb => (hl b hb).1)
    have go : elB n W law kd lim σ (L i) = false → fX0_nextBidder_2 n f (fun (_ : Unit) => (some (-9))) (nI (i + 1)) S = some (encN (nx (elB n W law kd lim σ) σ.1 n)) := fun e => ih (i + 1) f (by omega) (by omega) (fun j hj => by
      rcases Nat.lt_or_ge j i with q | q
      · exact hno j q
      · rw [show j = i by omega]; exact e)
    rw [fX0_nextBidder_2, h0, if_neg (nI_ge him (by omega)), gd_nI (show i < 6 by omega) (by decide), nI_clamp (show i < 2 ^ 31 by omega), l1, hp.2.2.2.1, nI_1]
    by_cases eo : σ.2.2.1 = L i
    · rw [if_pos ((encP_eq (hs.own hn) (by omega)).mpr eo).symm]
      exact go (el_f (fun w => w.2.1 eo.symm))
    · have hl1 := hl _ l2
      rw [if_neg (fun w => eo ((encP_eq (hs.own hn) (by omega)).mp w.symm)), rise_s hg hp l2 hpr hrw, Option.bind_some, gd_nI (show L i < 6 by omega) (by decide), nI_clamp (show L i < 2 ^ 31 by omega), hl1.2 hpr, hp.2.2.1, nI_add]
      by_cases ep : σ.2.1 + stp W law (σ.1 (L i)) ≤ lim (L i)
      · rw [if_neg (nI_nlt ep (by omega)), seen_s hg hp l2 hpr hrw, Option.bind_some]
        by_cases es : snB n W kd σ.1 (L i) = true
        · rw [if_pos es, if_neg z10]
          have et := el_t.mpr ⟨l3, fun w => eo w.symm, es, ep⟩
          rw [nx_is hs l2 et l3 (fun b hb he => by
            obtain ⟨j, hj, e⟩ := ha b hb (el_t.mp he).1
            rcases Nat.lt_or_ge j i with q | q
            · have := hno j q
              rw [e, he] at this; cases this
            · rcases Nat.lt_or_ge i j with r | r
              · have := ho i j r hj; rw [e] at this; omega
              · rw [← e, show j = i by omega]; exact Nat.le_refl _)]
          rfl
        · rw [if_neg es, if_pos rfl]
          exact go (el_f (fun w => es w.2.2.1))
      · rw [if_pos (nI_lt (by omega) (by omega))]
        exact go (el_f (fun w => ep w.2.2.2))
