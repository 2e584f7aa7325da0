/-! bits of a word -/
theorem q_sh : ∀ t, t < 32 → ((nI t &&& 31).toBitVec.smod 32).toNat = t := by decide +kernel
theorem q_one : ∀ t, t < 32 → ∀ s, s < 32 → bitS ((1 : Int32) <<< (nI t &&& 31)) s = decide (s = t) := by decide +kernel
theorem q_m1 : ∀ s, s < 32 → bitS (-1) s = true := by decide +kernel
theorem q_or (x y : Int32) (s : Nat) : bitS (x ||| y) s = (bitS x s || bitS y s) := by
  unfold bitS
  rw [Int32.toBitVec_or, BitVec.getLsbD_or]
theorem q_and (x y : Int32) (s : Nat) : bitS (x &&& y) s = (bitS x s && bitS y s) := by
  unfold bitS
  rw [Int32.toBitVec_and, BitVec.getLsbD_and]
theorem q_xor (x y : Int32) (s : Nat) : bitS (x ^^^ y) s = (bitS x s ^^ bitS y s) := by
  unfold bitS
  rw [Int32.toBitVec_xor, BitVec.getLsbD_xor]
theorem q_0 (s : Nat) : bitS 0 s = false := BitVec.getLsbD_zero
theorem q_in {s : Nat} (hs : s < 32) (x : Int32) : fX8_isIn x (nI s) = if bitS x s = true then 1 else 0 := by
  unfold fX8_isIn
  have e : ((x >>> (nI s &&& 31)) &&& 1).toBitVec = (x.toBitVec.sshiftRight s) &&& 1#32 := by
    rw [Int32.toBitVec_and, Int32.toBitVec_shiftRight]
    show x.toBitVec.sshiftRight ((nI s &&& 31).toBitVec.smod 32).toNat &&& _ = _
    rw [q_sh s hs]
    rfl
  have e3 : (x.toBitVec.sshiftRight s).getLsbD 0 = bitS x s := by
    unfold bitS
    rw [BitVec.getLsbD_sshiftRight]
    simp [hs]
  have e2 : ((x >>> (nI s &&& 31)) &&& 1) = 1 ↔ bitS x s = true := by
    rw [← Int32.toBitVec_inj, e, BitVec.and_one_eq_setWidth_ofBool_getLsbD, e3]
    show _ = 1#32 ↔ _
    cases bitS x s <;> decide
  by_cases h : bitS x s = true
  · rw [if_pos h, if_pos (e2.mpr h)]
  · rw [if_neg h, if_neg (fun w => h (e2.mp w))]
theorem q_in9 {s : Nat} (hs : s < 32) (x : Int32) : fX9_isIn x (nI s) = if bitS x s = true then 1 else 0 := q_in hs x
theorem q_set {t : Nat} (ht : t < 32) (x : Int32) {s : Nat} (hs : s < 32) : bitS (x ||| ((1 : Int32) <<< (nI t &&& 31))) s = (bitS x s || decide (s = t)) := by
  rw [q_or, q_one t ht s hs]
theorem q_clr {t : Nat} (ht : t < 32) (x : Int32) {s : Nat} (hs : s < 32) : bitS (x &&& (((1 : Int32) <<< (nI t &&& 31)) ^^^ (-1))) s = (bitS x s && !decide (s = t)) := by
  rw [q_and, q_xor, q_one t ht s hs, q_m1 s hs]
  cases decide (s = t) <;> cases bitS x s <;> rfl
