/-! ===== bits of names ===== -/
section BIT
theorem i32_nat {x : Int} (h0 : 0 ≤ x) (h1 : x < 2147483648) : (Int32.ofInt x).toBitVec.toNat = x.toNat := by
  show (BitVec.ofInt 32 x).toNat = x.toNat
  rw [BitVec.toNat_ofInt]
  omega
theorem i32_int {z : Int32} (h : z.toBitVec.toNat < 2147483648) : z.toInt = (z.toBitVec.toNat : Int) := by
  show z.toBitVec.toInt = _
  rw [BitVec.toInt_eq_toNat_cond, if_pos (by omega)]
theorem xor32_nat {x y : Int} (x0 : 0 ≤ x) (x1 : x < 2147483648) (y0 : 0 ≤ y) (y1 : y < 2147483648) : xor32 x y = ((x.toNat ||| y.toNat : Nat) : Int) := by
  unfold xor32
  have e : (Int32.ofInt x ||| Int32.ofInt y).toBitVec.toNat = x.toNat ||| y.toNat := by
    rw [Int32.toBitVec_or, BitVec.toNat_or, i32_nat x0 x1, i32_nat y0 y1]
  have hb : x.toNat ||| y.toNat < 2 ^ 31 := Nat.or_lt_two_pow (by omega) (by omega)
  rw [i32_int (by rw [e]; omega), e]
theorem xand32_nat {x y : Int} (x0 : 0 ≤ x) (x1 : x < 2147483648) (y0 : 0 ≤ y) (y1 : y < 2147483648) : xand32 x y = ((x.toNat &&& y.toNat : Nat) : Int) := by
  unfold xand32
  have e : (Int32.ofInt x &&& Int32.ofInt y).toBitVec.toNat = x.toNat &&& y.toNat := by
    rw [Int32.toBitVec_and, BitVec.toNat_and, i32_nat x0 x1, i32_nat y0 y1]
  have hb : x.toNat &&& y.toNat ≤ x.toNat := Nat.and_le_left
  rw [i32_int (by rw [e]; omega), e]
theorem sh_lit {a : Int} (a0 : 0 ≤ a) (a1 : a < 16) : (Int32.ofInt a &&& 31) = Int32.ofInt a := by
  have : a = 0 ∨ a = 1 ∨ a = 2 ∨ a = 3 ∨ a = 4 ∨ a = 5 ∨ a = 6 ∨ a = 7 ∨ a = 8 ∨ a = 9 ∨ a = 10 ∨ a = 11 ∨ a = 12 ∨ a = 13 ∨ a = 14 ∨ a = 15 := by omega
  rcases this with z | z | z | z | z | z | z | z | z | z | z | z | z | z | z | z <;> subst z <;> rfl
theorem xshl_nat {a : Int} (a0 : 0 ≤ a) (a1 : a < 16) : xshl32 1 a = ((2 ^ a.toNat : Nat) : Int) := by
  have : a = 0 ∨ a = 1 ∨ a = 2 ∨ a = 3 ∨ a = 4 ∨ a = 5 ∨ a = 6 ∨ a = 7 ∨ a = 8 ∨ a = 9 ∨ a = 10 ∨ a = 11 ∨ a = 12 ∨ a = 13 ∨ a = 14 ∨ a = 15 := by omega
  rcases this with z | z | z | z | z | z | z | z | z | z | z | z | z | z | z | z <;> subst z <;> decide
theorem shr_lit {x : Int32} {a : Int} (a0 : 0 ≤ a) (a1 : a < 16) : (x >>> Int32.ofInt a).toBitVec = x.toBitVec.sshiftRight a.toNat := by
  have : a = 0 ∨ a = 1 ∨ a = 2 ∨ a = 3 ∨ a = 4 ∨ a = 5 ∨ a = 6 ∨ a = 7 ∨ a = 8 ∨ a = 9 ∨ a = 10 ∨ a = 11 ∨ a = 12 ∨ a = 13 ∨ a = 14 ∨ a = 15 := by omega
  rcases this with z | z | z | z | z | z | z | z | z | z | z | z | z | z | z | z <;> subst z <;> rfl
theorem xshr_nat {x a : Int} (x0 : 0 ≤ x) (x1 : x < 2147483648) (a0 : 0 ≤ a) (a1 : a < 16) : xshr32 x a = ((x.toNat >>> a.toNat : Nat) : Int) := by
  unfold xshr32
  rw [sh_lit a0 a1]
  have hx := i32_nat x0 x1
  have e : (Int32.ofInt x >>> Int32.ofInt a).toBitVec.toNat = x.toNat >>> a.toNat := by
    rw [shr_lit a0 a1, BitVec.sshiftRight_eq_of_msb_false (by rw [BitVec.msb_eq_decide, hx]; exact decide_eq_false (by omega)), BitVec.toNat_ushiftRight, hx]
  have hb : x.toNat >>> a.toNat ≤ x.toNat := Nat.shiftRight_le _ _
  generalize x.toNat >>> a.toNat = K at e hb ⊢
  rw [i32_int (by rw [e]; omega), e]
theorem bit_tb {x a : Int} (x0 : 0 ≤ x) (x1 : x < 2147483648) (a0 : 0 ≤ a) (a1 : a < 16) : xand32 (xshr32 x a) 1 = 1 ↔ x.toNat.testBit a.toNat = true := by
  have hb : x.toNat >>> a.toNat ≤ x.toNat := Nat.shiftRight_le _ _
  rw [xshr_nat x0 x1 a0 a1, Nat.testBit]
  generalize x.toNat >>> a.toNat = K at hb ⊢
  rw [xand32_nat (by omega) (by omega) (by omega) (by omega), Int.toNat_natCast, show (1 : Int).toNat = 1 from rfl, Nat.and_comm, Nat.one_and_eq_mod_two]
  have : K % 2 = 0 ∨ K % 2 = 1 := by omega
  rcases this with z | z
  · rw [z]; exact ⟨fun h => absurd h (by decide), fun h => absurd h (by decide)⟩
  · rw [z]; exact ⟨fun _ => by decide, fun _ => by decide⟩
/-- a set of names -/
def nmW (x : Int) : Prop := 0 ≤ x ∧ x < 65536
theorem nmW_or {x y : Int} (hx : nmW x) (hy : nmW y) : nmW (xor32 x y) := by
  obtain ⟨x0, x1⟩ := hx
  obtain ⟨y0, y1⟩ := hy
  rw [xor32_nat x0 (by omega) y0 (by omega)]
  have hb : x.toNat ||| y.toNat < 2 ^ 16 := Nat.or_lt_two_pow (by omega) (by omega)
  exact ⟨by omega, by omega⟩
theorem nmW_sh {a : Int} (a0 : 0 ≤ a) (a1 : a < 16) : nmW (xshl32 1 a) := by
  have : a = 0 ∨ a = 1 ∨ a = 2 ∨ a = 3 ∨ a = 4 ∨ a = 5 ∨ a = 6 ∨ a = 7 ∨ a = 8 ∨ a = 9 ∨ a = 10 ∨ a = 11 ∨ a = 12 ∨ a = 13 ∨ a = 14 ∨ a = 15 := by omega
  rcases this with z | z | z | z | z | z | z | z | z | z | z | z | z | z | z | z <;> subst z <;> exact ⟨by decide, by decide⟩
theorem bit_or {x y a : Int} (hx : nmW x) (hy : nmW y) (a0 : 0 ≤ a) (a1 : a < 16) : xand32 (xshr32 (xor32 x y) a) 1 = 1 ↔ (xand32 (xshr32 x a) 1 = 1 ∨ xand32 (xshr32 y a) 1 = 1) := by
  have hz := nmW_or hx hy
  obtain ⟨x0, x1⟩ := hx
  obtain ⟨y0, y1⟩ := hy
  rw [bit_tb hz.1 (by have := hz.2; omega) a0 a1, bit_tb x0 (by omega) a0 a1, bit_tb y0 (by omega) a0 a1, xor32_nat x0 (by omega) y0 (by omega), Int.toNat_natCast, Nat.testBit_or, Bool.or_eq_true]
theorem bit_sh {n a : Int} (n0 : 0 ≤ n) (n1 : n < 16) (a0 : 0 ≤ a) (a1 : a < 16) : xand32 (xshr32 (xshl32 1 n) a) 1 = 1 ↔ n = a := by
  have hz := nmW_sh n0 n1
  rw [bit_tb hz.1 (by have := hz.2; omega) a0 a1, xshl_nat n0 n1, Int.toNat_natCast, Nat.testBit_two_pow]
  constructor
  · intro h
    have := of_decide_eq_true h
    omega
  · intro h; rw [h]; exact decide_eq_true rfl
theorem bit_0 {a : Int} (a0 : 0 ≤ a) (a1 : a < 16) : ¬ xand32 (xshr32 0 a) 1 = 1 := by
  rw [bit_tb (by decide) (by decide) a0 a1]
  show ¬ (0 : Nat).testBit a.toNat = true
  rw [Nat.zero_testBit]; decide
theorem and_0 {x y : Int} (hx : nmW x) (hy : nmW y) : xand32 x y = 0 ↔ ∀ a, 0 ≤ a → a < 16 → ¬ (xand32 (xshr32 x a) 1 = 1 ∧ xand32 (xshr32 y a) 1 = 1) := by
  obtain ⟨x0, x1⟩ := hx
  obtain ⟨y0, y1⟩ := hy
  rw [xand32_nat x0 (by omega) y0 (by omega)]
  constructor
  · intro h a a0 a1 hh
    rw [bit_tb x0 (by omega) a0 a1, bit_tb y0 (by omega) a0 a1] at hh
    have hz : x.toNat &&& y.toNat = 0 := by omega
    have : (x.toNat &&& y.toNat).testBit a.toNat = true := by rw [Nat.testBit_and, hh.1, hh.2]; rfl
    rw [hz, Nat.zero_testBit] at this
    cases this
  · intro h
    have : x.toNat &&& y.toNat = 0 := by
      apply Nat.eq_of_testBit_eq
      intro i
      rw [Nat.zero_testBit]
      by_cases hi : i < 16
      · cases hb : (x.toNat &&& y.toNat).testBit i with
        | false => rfl
        | true =>
          rw [Nat.testBit_and, Bool.and_eq_true] at hb
          exfalso
          refine h i (by omega) (by omega) ⟨?_, ?_⟩
          · rw [bit_tb x0 (by omega) (by omega) (by omega)]; exact hb.1
          · rw [bit_tb y0 (by omega) (by omega) (by omega)]; exact hb.2
      · rw [Nat.testBit_and, Nat.testBit_lt_two_pow (Nat.lt_of_lt_of_le (show x.toNat < 2 ^ 16 by omega) (Nat.pow_le_pow_right (by decide) (by omega)))]; rfl
    rw [this]; rfl
end BIT
