/-! bits; a box's properties -/
def bit (b : Bool) (m : Int32) : Int32 := if b then m else 0
def bits8 (b0 b1 b2 b3 b4 b5 b6 b7 : Bool) : Int32 := bit b0 1 ||| bit b1 2 ||| bit b2 4 ||| bit b3 8 ||| bit b4 16 ||| bit b5 32 ||| bit b6 64 ||| bit b7 128
def B8 (f : Nat → Bool) : Int32 := bits8 (f 0) (f 1) (f 2) (f 3) (f 4) (f 5) (f 6) (f 7)
theorem bits_or : ∀ b0 b1 b2 b3 b4 b5 b6 b7 : Bool, bits8 b0 b1 b2 b3 b4 b5 b6 b7 ||| (1 <<< (nI 0 &&& 31)) = bits8 true b1 b2 b3 b4 b5 b6 b7 ∧ bits8 b0 b1 b2 b3 b4 b5 b6 b7 ||| (1 <<< (nI 1 &&& 31)) = bits8 b0 true b2 b3 b4 b5 b6 b7 ∧ bits8 b0 b1 b2 b3 b4 b5 b6 b7 ||| (1 <<< (nI 2 &&& 31)) = bits8 b0 b1 true b3 b4 b5 b6 b7 ∧ bits8 b0 b1 b2 b3 b4 b5 b6 b7 ||| (1 <<< (nI 3 &&& 31)) = bits8 b0 b1 b2 true b4 b5 b6 b7 ∧ bits8 b0 b1 b2 b3 b4 b5 b6 b7 ||| (1 <<< (nI 4 &&& 31)) = bits8 b0 b1 b2 b3 true b5 b6 b7 ∧ bits8 b0 b1 b2 b3 b4 b5 b6 b7 ||| (1 <<< (nI 5 &&& 31)) = bits8 b0 b1 b2 b3 b4 true b6 b7 ∧ bits8 b0 b1 b2 b3 b4 b5 b6 b7 ||| (1 <<< (nI 6 &&& 31)) = bits8 b0 b1 b2 b3 b4 b5 true b7 ∧ bits8 b0 b1 b2 b3 b4 b5 b6 b7 ||| (1 <<< (nI 7 &&& 31)) = bits8 b0 b1 b2 b3 b4 b5 b6 true := by decide +kernel
theorem bits_cnt : ∀ b0 b1 b2 b3 b4 b5 b6 b7 : Bool, fJ6_bitCount_0f7a4 (bits8 b0 b1 b2 b3 b4 b5 b6 b7) = some (bit b0 1 + bit b1 1 + bit b2 1 + bit b3 1 + bit b4 1 + bit b5 1 + bit b6 1 + bit b7 1) := by decide +kernel
theorem B8_or (f : Nat → Bool) (m : Nat) (h : m < 8) : B8 f ||| (1 <<< (nI m &&& 31)) = B8 (fun k => f k || decide (k = m)) := by
  have e := bits_or (f 0) (f 1) (f 2) (f 3) (f 4) (f 5) (f 6) (f 7)
  unfold B8
  have hm : m = 0 ∨ m = 1 ∨ m = 2 ∨ m = 3 ∨ m = 4 ∨ m = 5 ∨ m = 6 ∨ m = 7 := by omega
  rcases hm with rfl | rfl | rfl | rfl | rfl | rfl | rfl | rfl
  · rw [e.1]; simp
  · rw [e.2.1]; simp
  · rw [e.2.2.1]; simp
  · rw [e.2.2.2.1]; simp
  · rw [e.2.2.2.2.1]; simp
  · rw [e.2.2.2.2.2.1]; simp
  · rw [e.2.2.2.2.2.2.1]; simp
  · rw [e.2.2.2.2.2.2.2]; simp
theorem B8_ext {f g : Nat → Bool} (h : ∀ k, k < 8 → f k = g k) : B8 f = B8 g := by
  unfold B8
  rw [h 0 (by omega), h 1 (by omega), h 2 (by omega), h 3 (by omega), h 4 (by omega), h 5 (by omega), h 6 (by omega), h 7 (by omega)]
theorem B8_0 : B8 (fun _ => false) = 0 := by decide +kernel
