/-! a sale, in numbers; the reference's sale is it -/
abbrev SS : Type := (Nat → Nat) × Nat × Nat × Nat × (Nat → Nat)
def tkB (n : Nat) (pl : Nat → Nat) (s : Nat) : Bool := (List.range n).any fun b => pl b == s
theorem tkB_iff {n : Nat} {pl : Nat → Nat} {s : Nat} : tkB n pl s = true ↔ ∃ b, b < n ∧ pl b = s := by
  unfold tkB
  rw [List.any_eq_true]
  constructor
  · rintro ⟨b, hb, e⟩
    exact ⟨b, List.mem_range.mp hb, by simpa using e⟩
  · rintro ⟨b, hb, e⟩
    exact ⟨b, List.mem_range.mpr hb, by simpa using e⟩
def stp (W law s : Nat) : Nat := if (law = 0 ∧ s % W < W / 2) ∨ (law = 1 ∧ ¬ s % W < W / 2) then 2 else 1
theorem stp_c (W law s : Nat) : stp W law s = 1 ∨ stp W law s = 2 := by
  unfold stp
  split
  · exact Or.inr rfl
  · exact Or.inl rfl
def snB (n W : Nat) (kd pl : Nat → Nat) (b : Nat) : Bool := (kd b == 0) || decide (pl b < W) || !tkB n pl (pl b - W)
def elB (n W law : Nat) (kd lim : Nat → Nat) (σ : SS) (b : Nat) : Bool := decide (σ.1 b < 1000) && decide (b ≠ σ.2.2.1) && snB n W kd σ.1 b && decide (σ.2.1 + stp W law (σ.1 b) ≤ lim b)
def nx (el : Nat → Bool) (pl : Nat → Nat) : Nat → Option Nat
  | 0 => none
  | i + 1 => match nx el pl i with
    | none => if el i then some i else none
    | some c => if el i && decide (pl i < pl c) then some i else some c
theorem nx_some {el : Nat → Bool} {pl : Nat → Nat} : ∀ {i c : Nat}, nx el pl i = some c → c < i ∧ el c = true ∧ ∀ b, b < i → el b = true → pl c ≤ pl b := by
  intro i
  induction i with
  | zero => intro c h; cases h
  | succ i ih =>
    intro c h
    rw [nx] at h
    cases hn : nx el pl i with
    | none =>
      rw [hn] at h
      dsimp only at h
      by_cases he : el i = true
      · rw [if_pos he] at h
        cases h
        refine ⟨by omega, he, fun b hb hb2 => ?_⟩
        rcases Nat.lt_or_ge b i with q | q
        · exfalso
          have : ∀ {j : Nat}, nx el pl j = none → ∀ b, b < j → ¬ el b = true := by
            intro j
            induction j with
            | zero => intro _ b hb; omega
            | succ j ihj =>
              intro hj b hb hb2
              rw [nx] at hj
              cases hq : nx el pl j with
              | none =>
                rw [hq] at hj
                dsimp only at hj
                rcases Nat.lt_or_ge b j with r | r
                · exact ihj hq b r hb2
                · rw [show b = j by omega] at hb2
                  rw [if_pos hb2] at hj; cases hj
              | some d =>
                rw [hq] at hj
                dsimp only at hj
                split at hj <;> cases hj
          exact this hn b q hb2
        · rw [show b = i by omega]; exact Nat.le_refl _
      · rw [if_neg he] at h; cases h
    | some d =>
      rw [hn] at h
      dsimp only at h
      obtain ⟨h1, h2, h3⟩ := ih hn
      by_cases he : (el i && decide (pl i < pl d)) = true
      · rw [if_pos he] at h
        cases h
        simp only [Bool.and_eq_true, decide_eq_true_eq] at he
        refine ⟨by omega, he.1, fun b hb hb2 => ?_⟩
        rcases Nat.lt_or_ge b i with q | q
        · have := h3 b q hb2; omega
        · rw [show b = i by omega]; exact Nat.le_refl _
      · rw [if_neg he] at h
        cases h
        refine ⟨by omega, h2, fun b hb hb2 => ?_⟩
        rcases Nat.lt_or_ge b i with q | q
        · exact h3 b q hb2
        · rw [show b = i by omega] at hb2 ⊢
          simp only [Bool.and_eq_true, decide_eq_true_eq, not_and, Nat.not_lt] at he
          exact he hb2
theorem nx_none {el : Nat → Bool} {pl : Nat → Nat} : ∀ {i : Nat}, nx el pl i = none → ∀ b, b < i → el b = false := by
  intro i
  induction i with
  | zero => intro _ b hb; omega
  | succ i ih =>
    intro h b hb
    rw [nx] at h
    cases hq : nx el pl i with
    | none =>
      rw [hq] at h
      dsimp only at h
      rcases Nat.lt_or_ge b i with r | r
      · exact ih hq b r
      · rw [show b = i by omega]
        cases he : el i with
        | false => rfl
        | true => rw [he, if_pos rfl] at h; cases h
    | some d =>
      rw [hq] at h
      dsimp only at h
      split at h <;> cases h
def bs (n W law : Nat) (σ : SS) (b : Nat) : SS := ((if σ.1 b % W ≠ W - 1 ∧ tkB n σ.1 (σ.1 b + 1) = false then (fun x => if x = b then σ.1 b + 1 else σ.1 x) else σ.1), σ.2.1 + stp W law (σ.1 b), b, σ.2.2.2.1 + 1, fun x => if x = σ.2.2.2.1 then 100 * (σ.2.1 + stp W law (σ.1 b)) + b else σ.2.2.2.2 x)
def sal (n W law : Nat) (kd lim : Nat → Nat) : Nat → SS → SS
  | 0, σ => σ
  | f + 1, σ => match nx (elB n W law kd lim σ) σ.1 n with
    | none => σ
    | some b => sal n W law kd lim f (bs n W law σ b)
def encP (p : Nat) : Int32 := if p = 1000 then -9 else nI p
def encN (o : Option Nat) : Int32 := match o with
  | none => -9
  | some c => nI c
/-- what keeps through a sale -/
def okS (n W RW : Nat) (lim : Nat → Nat) (σ : SS) : Prop := (∀ b, b < n → σ.1 b = 1000 ∨ σ.1 b < RW) ∧ (∀ b c, b < n → c < n → σ.1 b < 1000 → σ.1 b = σ.1 c → b = c) ∧ (σ.2.2.1 = 1000 ∧ σ.2.1 = 0 ∨ σ.2.2.1 < n ∧ σ.2.1 ≤ lim σ.2.2.1) ∧ σ.2.2.2.1 ≤ σ.2.1
def cpM (n : Nat) (M : MS) (σ : SS) : Prop := (∀ b, b < n → M 15 b = encP (σ.1 b)) ∧ M 16 0 = nI σ.2.1 ∧ M 17 0 = encP σ.2.2.1 ∧ M 18 0 = nI σ.2.2.2.1 ∧ ∀ k, k < σ.2.2.2.1 → M 19 k = nI (σ.2.2.2.2 k)
theorem encP_lt {p : Nat} (h : p < 1000) : encP p = nI p := if_neg (by omega)
theorem encP_k : encP 1000 = -9 := if_pos rfl
theorem m9_ne {k : Nat} (h : k < 2 ^ 31) : ¬ nI k = -9 := fun q => by
  have := congrArg Int32.toInt q
  rw [nI_toInt h, show (-9 : Int32).toInt = -9 by decide] at this
  omega
theorem encP_eq {p s : Nat} (hp : p ≤ 1000) (hs : s < 1000) : encP p = nI s ↔ p = s := by
  by_cases h : p = 1000
  · subst h
    rw [encP_k]
    exact ⟨fun q => absurd q.symm (m9_ne (by omega)), fun q => by omega⟩
  · rw [encP_lt (by omega)]
    exact nI_eq (by omega) (by omega)
/-! the reference's parts of a sale -/
theorem isTaken_l {M : MS} {n s : Nat} {pl : Nat → Nat} {k : Int32 → Option Int32} (hn : n ≤ 6) (h3 : M 3 0 = nI n) (hp : ∀ b, b < n → M 15 b = encP (pl b) ∧ pl b ≤ 1000) (hs : s < 1000) :
    ∀ d i fu, i + d = n → d < fu → fX9_isTaken_4 fu k (nI s) (if tkB i pl s = true then 1 else 0) (nI i) M = k (if tkB n pl s = true then 1 else 0) := by
  intro d
  induction d with
  | zero =>
    intro i fu hi hf
    obtain ⟨f, rfl⟩ : ∃ f, fu = f + 1 := ⟨fu - 1, by omega⟩
    rw [fX9_isTaken_4, h3, if_pos (nI_le (by omega) (by omega)), show i = n by omega]
  | succ d ih =>
    intro i fu hi hf
    obtain ⟨f, rfl⟩ : ∃ f, fu = f + 1 := ⟨fu - 1, by omega⟩
    have hin : i < n := by omega
    have hm := hp i hin
    have ht : tkB (i + 1) pl s = (tkB i pl s || (pl i == s)) := by
      unfold tkB
      rw [List.range_succ, List.any_append]
      simp
    have ih1 := ih (i + 1) f (by omega) (by omega)
    rw [ht] at ih1
    rw [fX9_isTaken_4, h3, if_neg (nI_ge hin (by omega)), nI_1]
    by_cases e0 : tkB i pl s = true
    · rw [e0] at ih1
      rw [if_pos e0, if_neg (by decide)]
      exact ih1
    · rw [if_neg e0, if_pos rfl, gd_nI (show i < 6 by omega) (by decide), nI_clamp (by omega), hm.1]
      have e0' : tkB i pl s = false := by simpa using e0
      rw [e0'] at ih1
      by_cases e : pl i = s
      · rw [if_pos ((encP_eq hm.2 hs).mpr e)]
        rw [show (pl i == s) = true by simpa using e] at ih1
        exact ih1
      · rw [if_neg (fun q => e ((encP_eq hm.2 hs).mp q))]
        rw [show (pl i == s) = false by simpa using e] at ih1
        exact ih1
theorem isTaken_s {M : MS} {n s : Nat} {pl : Nat → Nat} (hn : n ≤ 6) (h3 : M 3 0 = nI n) (hp : ∀ b, b < n → M 15 b = encP (pl b) ∧ pl b ≤ 1000) (hs : s < 1000) : fX9_isTaken (nI s) M = some (if tkB n pl s = true then 1 else 0) := by
  unfold fX9_isTaken
  have := isTaken_l (k := fun x5 => (zb x5 (some x5))) hn h3 hp hs n 0 300 (by omega) (by omega)
  rw [show tkB 0 pl s = false from rfl, if_neg (by decide)] at this
  refine Eq.trans this ?_
  unfold zb
  by_cases e : tkB n pl s = true
  · rw [if_pos e, if_pos (Or.inr rfl)]
  · rw [if_neg e, if_pos (Or.inl rfl)]
theorem step_s {M : MS} {W law s : Nat} (hW : 2 ≤ W) (hW6 : W ≤ 6) (hl : law < 3) (hs : s < 1000) (h2 : M 2 0 = nI W) (h8 : M 8 0 = nI law) : fX9_step (nI s) M = some (nI (stp W law s)) := by
  unfold fX9_step nzi
  rw [h2, h8, if_neg (nI_ne0 (by omega) (by omega)), pk_rem (by omega) (by omega) (by omega), show (2 : Int32) = nI 2 from rfl, pk_div (by omega) (by decide) (by decide)]
  unfold stp
  rcases (show law = 0 ∨ law = 1 ∨ law = 2 by omega) with rfl | rfl | rfl
  · by_cases h : s % W < W / 2
    · rw [if_neg (nI_ge h (by omega)), if_pos (show nI 0 = 0 from rfl), if_pos (Or.inl ⟨rfl, h⟩)]
    · rw [if_pos (nI_le (by omega) (by have := Nat.mod_lt s (show W > 0 by omega); omega)), if_pos (show nI 0 = 0 from rfl), if_neg (by decide), if_neg (by omega)]; rfl
  · by_cases h : s % W < W / 2
    · rw [if_neg (nI_ge h (by omega)), if_neg (by decide), if_pos (show nI 1 = 1 from rfl), if_neg (by omega)]; rfl
    · rw [if_pos (nI_le (by omega) (by have := Nat.mod_lt s (show W > 0 by omega); omega)), if_neg (by decide), if_pos (show nI 1 = 1 from rfl), if_pos (Or.inr ⟨rfl, h⟩)]
  · by_cases h : s % W < W / 2
    · rw [if_neg (nI_ge h (by omega)), if_neg (by decide), if_neg (by decide), if_neg (by omega)]; rfl
    · rw [if_pos (nI_le (by omega) (by have := Nat.mod_lt s (show W > 0 by omega); omega)), if_neg (by decide), if_neg (by decide), if_neg (by omega)]; rfl
theorem isSeen_s {M : MS} {n W b : Nat} {pl kd : Nat → Nat} (hn : n ≤ 6) (hW6 : W ≤ 6) (h2 : M 2 0 = nI W) (h3 : M 3 0 = nI n) (hp : ∀ b, b < n → M 15 b = encP (pl b) ∧ pl b ≤ 1000) (hb : b < n) (hpl : pl b < 1000) (hk : M 4 b = nI (kd b)) (hk3 : kd b < 3) : fX9_isSeen (nI b) M = some (if snB n W kd pl b = true then 1 else 0) := by
  unfold fX9_isSeen
  have c1 : (nI b).toNatClampNeg = b := nI_clamp (by omega)
  simp only [gd_nI (show b < 6 by omega) (show 6 < 2 ^ 31 by decide), c1, hk, (hp b hb).1, h2, encP_lt hpl]
  unfold snB
  by_cases e0 : kd b = 0
  · rw [e0, if_pos (show nI 0 = 0 from rfl)]; rfl
  · rw [if_neg (nI_ne0 (by omega) (by omega)), show (kd b == 0) = false by simpa using e0]
    by_cases e1 : pl b < W
    · rw [if_pos (nI_lt e1 (by omega)), show decide (pl b < W) = true by simpa using e1]; rfl
    · rw [if_neg (nI_nlt (by omega) (by omega)), show decide (pl b < W) = false by simpa using e1, pk_sub (by omega), isTaken_s hn h3 hp (by omega), Option.bind_some]
      by_cases e2 : tkB n pl (pl b - W) = true
      · rw [e2, if_pos rfl, if_neg (by decide)]; rfl
      · rw [if_neg e2, if_pos rfl, show tkB n pl (pl b - W) = false by simpa using e2]; rfl
