/-! bits: the first rows are pasted from kit/laws/BITS.to-paste.lean.txt -/
def bt (x : Int32) (i : Nat) : Bool := x.toBitVec.getLsbD i
theorem b_ext {x y : Int32} (h : ∀ i, i < 32 → bt x i = bt y i) : x = y := Int32.toBitVec_inj.mp (BitVec.eq_of_getLsbD_eq (fun i hi => h i hi))
theorem b_or (x y : Int32) (i : Nat) : bt (x ||| y) i = (bt x i || bt y i) := by unfold bt; rw [Int32.toBitVec_or, BitVec.getLsbD_or]
theorem b_and (x y : Int32) (i : Nat) : bt (x &&& y) i = (bt x i && bt y i) := by unfold bt; rw [Int32.toBitVec_and, BitVec.getLsbD_and]
theorem b_xor (x y : Int32) (i : Nat) : bt (x ^^^ y) i = (bt x i ^^ bt y i) := by unfold bt; rw [Int32.toBitVec_xor, BitVec.getLsbD_xor]
theorem b_big {x : Int32} {i : Nat} (h : 32 ≤ i) : bt x i = false := BitVec.getLsbD_of_ge _ _ h
theorem b_255 (i : Nat) : bt 255 i = decide (i < 8) := by
  rcases Nat.lt_or_ge i 32 with h | h
  · exact (by decide +kernel : ∀ i, i < 32 → bt 255 i = decide (i < 8)) i h
  · rw [b_big h, decide_eq_false (by omega)]
theorem b_65535 (i : Nat) : bt 65535 i = decide (i < 16) := by
  rcases Nat.lt_or_ge i 32 with h | h
  · exact (by decide +kernel : ∀ i, i < 32 → bt 65535 i = decide (i < 16)) i h
  · rw [b_big h, decide_eq_false (by omega)]
theorem b_m1 : ∀ i, i < 32 → bt (-1) i = true := by decide +kernel
theorem b_0 (i : Nat) : bt 0 i = false := BitVec.getLsbD_zero
theorem s_l : ∀ n, n < 32 → ((nI n &&& 31).toBitVec.smod 32).toNat = n := by decide +kernel
theorem s_u : ∀ n, n < 32 → (((nI n).toUInt32 &&& Int32.toUInt32 31).toBitVec % 32).toNat = n := by decide +kernel
theorem b_shl (n : Nat) (hn : n < 32) (x : Int32) {i : Nat} (hi : i < 32) : bt (x <<< (nI n &&& 31)) i = (decide (n ≤ i) && bt x (i - n)) := by
  unfold bt
  rw [Int32.toBitVec_shiftLeft]
  show (x.toBitVec <<< ((nI n &&& 31).toBitVec.smod 32).toNat).getLsbD i = _
  rw [s_l n hn, BitVec.getLsbD_shiftLeft]
  rcases Nat.lt_or_ge i n with h | h
  · simp [h, Nat.not_le.mpr h]
  · simp [hi, h, Nat.not_lt.mpr h]
theorem b_ushr (n : Nat) (hn : n < 32) (x : Int32) (i : Nat) : bt ((x.toUInt32 >>> ((nI n).toUInt32 &&& Int32.toUInt32 31)).toInt32) i = bt x (n + i) := by
  show (x.toUInt32 >>> ((nI n).toUInt32 &&& Int32.toUInt32 31)).toBitVec.getLsbD i = x.toUInt32.toBitVec.getLsbD (n + i)
  rw [UInt32.toBitVec_shiftRight]
  show (x.toUInt32.toBitVec >>> (((nI n).toUInt32 &&& Int32.toUInt32 31).toBitVec % 32).toNat).getLsbD i = _
  rw [s_u n hn, BitVec.getLsbD_ushiftRight]
theorem b_sshr (n : Nat) (hn : n < 32) (x : Int32) {i : Nat} (hi : i < 32) : bt (x >>> (nI n &&& 31)) i = if n + i < 32 then bt x (n + i) else bt x 31 := by
  unfold bt
  rw [Int32.toBitVec_shiftRight]
  show (x.toBitVec.sshiftRight ((nI n &&& 31).toBitVec.smod 32).toNat).getLsbD i = _
  rw [s_l n hn, BitVec.getLsbD_sshiftRight, BitVec.msb_eq_getLsbD_last]
  simp [hi]
/-! bits of the mini machine's numbers -/
def mt (x : Int) (i : Nat) : Bool := bt (Int32.ofInt x) i
theorem mt_and (x y : Int) (i : Nat) : mt (mj_and x y) i = (mt x i && mt y i) := by unfold mt mj_and; rw [Int32.ofInt_toInt, b_and]
theorem mt_or (x y : Int) (i : Nat) : mt (mj_or x y) i = (mt x i || mt y i) := by unfold mt mj_or; rw [Int32.ofInt_toInt, b_or]
theorem mt_xor (x y : Int) (i : Nat) : mt (mj_xor x y) i = (mt x i ^^ mt y i) := by unfold mt mj_xor; rw [Int32.ofInt_toInt, b_xor]
theorem mt_ext {x y : Int} (hx : mj_R x) (hy : mj_R y) (h : ∀ i, i < 32 → mt x i = mt y i) : x = y := (mj_eqI hx hy).mp (b_ext h)
theorem mt_m1 {i : Nat} (h : i < 32) : mt (-1) i = true := b_m1 i h
theorem mt_0 (i : Nat) : mt 0 i = false := b_0 i
theorem mt_1 : ∀ i, i < 32 → mt 1 i = decide (i = 0) := by decide +kernel
theorem mt_big {x : Int} {i : Nat} (h : 32 ≤ i) : mt x i = false := b_big h
theorem mt_bit : ∀ p, p < 32 → ∀ i, i < 32 → mt (mj_shl 1 (p : Nat)) i = decide (i = p) := by decide +kernel
theorem mj_and_R (x y : Int) : mj_R (mj_and x y) := mj_toR _
theorem mj_or_R (x y : Int) : mj_R (mj_or x y) := mj_toR _
theorem mj_xor_R (x y : Int) : mj_R (mj_xor x y) := mj_toR _
theorem mj_shl_R (x y : Int) : mj_R (mj_shl x y) := mj_toR _
theorem mj_shr_R (x y : Int) : mj_R (mj_shr x y) := mj_toR _
theorem mt_shr (x : Int) {p : Nat} (hp : p < 32) {i : Nat} (hi : i < 32) : mt (mj_shr x (p : Nat)) i = if p + i < 32 then mt x (p + i) else mt x 31 := by
  unfold mt mj_shr
  rw [Int32.ofInt_toInt]
  exact b_sshr p hp (Int32.ofInt x) hi
/-- a bit that is asked for -/
theorem mj_ask (x : Int) {p : Nat} (hp : p < 32) : mj_and (mj_shr x (p : Nat)) 1 = if mt x p = true then 1 else 0 := by
  refine mt_ext (mj_and_R _ _) (by split <;> (unfold mj_R; omega)) (fun i hi => ?_)
  rw [mt_and, mt_1 i hi, mt_shr x hp hi]
  by_cases h0 : i = 0
  · subst h0
    rw [if_pos (by omega), Nat.add_zero]
    cases mt x p <;> rfl
  · rw [decide_eq_false h0, Bool.and_false]
    split
    · rw [mt_1 i hi, decide_eq_false h0]
    · rw [mt_0]
theorem mj_ask0 (x : Int) {p : Nat} (hp : p < 32) : mj_and (mj_shr x (p : Nat)) 1 = 0 ↔ mt x p = false := by
  rw [mj_ask x hp]
  cases mt x p <;> simp
theorem mj_ask1 (x : Int) {p : Nat} (hp : p < 32) : mj_and (mj_shr x (p : Nat)) 1 = 1 ↔ mt x p = true := by
  rw [mj_ask x hp]
  cases mt x p <;> simp
theorem mt_not (x : Int) {i : Nat} (h : i < 32) : mt (mj_xor x (-1)) i = !mt x i := by
  rw [mt_xor, mt_m1 h]
  cases mt x i <;> rfl
/-- numbers of seven bits -/
def mt7 (x : Int) : Prop := 0 ≤ x ∧ x < 128
theorem mt7_hi {x : Int} (h : mt7 x) {i : Nat} (hi : 7 ≤ i) : mt x i = false := by
  rcases Nat.lt_or_ge i 32 with h32 | h32
  · obtain ⟨n, rfl⟩ := Int.eq_ofNat_of_zero_le h.1
    have key : ∀ n, n < 128 → ∀ i, i < 32 → 7 ≤ i → mt (n : Nat) i = false := by decide +kernel
    exact key n (by have := h.2; omega) i h32 hi
  · exact mt_big h32
theorem mt7_nat : ∀ n, n < 128 → ∀ i, i < 7 → mt (n : Nat) i = n.testBit i := by decide +kernel
theorem mt7_of {x : Int} (hR : mj_R x) (h : ∀ i, 7 ≤ i → i < 32 → mt x i = false) : mt7 x := by
  have hx : x = mj_and x 127 := by
    refine mt_ext hR (mj_and_R _ _) (fun i hi => ?_)
    rw [mt_and]
    have k : ∀ i, i < 32 → mt 127 i = decide (i < 7) := by decide +kernel
    rw [k i hi]
    by_cases h7 : i < 7
    · rw [decide_eq_true h7, Bool.and_true]
    · rw [h i (by omega) hi]; rfl
  rw [hx]
  unfold mj_and mt7
  have e := pk_and (Int32.ofInt x) (m := 127) 7 (by decide)
  rw [show Int32.ofInt 127 = (127 : Int32) from rfl, e, nI_toInt (by omega)]
  omega
/-- how many bits -/
def w_pc (n : Nat) : Nat := (n.testBit 0).toNat + (n.testBit 1).toNat + (n.testBit 2).toNat + (n.testBit 3).toNat + (n.testBit 4).toNat + (n.testBit 5).toNat + (n.testBit 6).toNat
def w_bc (i0 : Int) : Int :=
  let i1 := mj_wr (i0 - mj_and (mj_ushr i0 1) 1431655765)
  let i2 := mj_wr (mj_and i1 858993459 + mj_and (mj_ushr i1 2) 858993459)
  let i3 := mj_and (mj_wr (i2 + mj_ushr i2 4)) 252645135
  let i4 := mj_wr (i3 + mj_ushr i3 8)
  let i5 := mj_wr (i4 + mj_ushr i4 16)
  mj_and i5 63
theorem w_bc7 : ∀ n, n < 128 → w_bc (n : Nat) = (w_pc n : Int) := by decide +kernel
/-- 38 Integer.bitCount -/
theorem c_bitCount {d : Nat} {I : mj_I} {S : mj_S} {Q : mj_Q} (n : Nat) (hn : n < 128) (h : Q (some (.inl (w_pc n))) I S) : mj_C d 38 [.inl (n : Int)] I S Q := by
  refine mj_C_of 60 ?_
  rw [← w_bc7 n hn] at h
  exact h
