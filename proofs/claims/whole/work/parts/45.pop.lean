/-! the number of bits, as the library counts them -/
def pcA (x : Int32) : Int32 := x - ((((x : Int32).toUInt32 >>> ((1 : Int32).toUInt32 &&& Int32.toUInt32 31)).toInt32) &&& 1431655765)
def pcB (x : Int32) : Int32 := (x &&& 858993459) + ((((x : Int32).toUInt32 >>> ((2 : Int32).toUInt32 &&& Int32.toUInt32 31)).toInt32) &&& 858993459)
def pcC (x : Int32) : Int32 := (x + (((x : Int32).toUInt32 >>> ((4 : Int32).toUInt32 &&& Int32.toUInt32 31)).toInt32)) &&& 252645135
def pcD (x : Int32) : Int32 := x + (((x : Int32).toUInt32 >>> ((8 : Int32).toUInt32 &&& Int32.toUInt32 31)).toInt32)
def pcE (x : Int32) : Int32 := (x + (((x : Int32).toUInt32 >>> ((16 : Int32).toUInt32 &&& Int32.toUInt32 31)).toInt32)) &&& 63
theorem pc_all (x : Int32) : f_J6_bitCount_0f7a4 x = some (pcE (pcD (pcC (pcB (pcA x))))) := rfl
def pnA (n : Nat) : Nat := Nat.mod (Nat.add (Nat.sub 4294967296 (Nat.land (Nat.shiftRight n 1) 1431655765)) n) 4294967296
def pnB (n : Nat) : Nat := Nat.mod (Nat.add (Nat.land n 858993459) (Nat.land (Nat.shiftRight n 2) 858993459)) 4294967296
def pnC (n : Nat) : Nat := Nat.land (Nat.mod (Nat.add n (Nat.shiftRight n 4)) 4294967296) 252645135
def pnD (n : Nat) : Nat := Nat.mod (Nat.add n (Nat.shiftRight n 8)) 4294967296
def pnE (n : Nat) : Nat := Nat.land (Nat.mod (Nat.add n (Nat.shiftRight n 16)) 4294967296) 63
def t9 (x : Int32) : Nat := x.toBitVec.toNat
theorem t9_ushr (a : Int32) {j : Nat} (hj : j < 32) : t9 ((a.toUInt32 >>> ((zI (j : Int)).toUInt32 &&& Int32.toUInt32 31)).toInt32) = Nat.shiftRight (t9 a) j := by
  show ((a.toUInt32 >>> ((zI (j : Int)).toUInt32 &&& Int32.toUInt32 31)).toBitVec).toNat = _
  rw [UInt32.toBitVec_shiftRight]
  show (a.toBitVec >>> (((zI (j : Int)).toUInt32 &&& Int32.toUInt32 31).toBitVec % 32)).toNat = _
  rw [BitVec.ushiftRight_eq', ushr_amt ⟨j, hj⟩, BitVec.toNat_ushiftRight]
  rfl
theorem t9_and (a b : Int32) : t9 (a &&& b) = Nat.land (t9 a) (t9 b) := BitVec.toNat_and _ _
theorem t9_add (a b : Int32) : t9 (a + b) = Nat.mod (Nat.add (t9 a) (t9 b)) 4294967296 := BitVec.toNat_add _ _
theorem t9_sub (a b : Int32) : t9 (a - b) = Nat.mod (Nat.add (Nat.sub 4294967296 (t9 b)) (t9 a)) 4294967296 := BitVec.toNat_sub _ _
theorem pn_A (x : Int32) : t9 (pcA x) = pnA (t9 x) := by
  unfold pcA pnA
  rw [t9_sub, t9_and, show (1 : Int32) = zI ((1 : Nat) : Int) from zI_1, t9_ushr x (by omega)]
  rfl
theorem pn_B (x : Int32) : t9 (pcB x) = pnB (t9 x) := by
  unfold pcB pnB
  rw [t9_add, t9_and, t9_and, show (2 : Int32) = zI ((2 : Nat) : Int) from zI_2, t9_ushr x (by omega)]
  rfl
theorem pn_C (x : Int32) : t9 (pcC x) = pnC (t9 x) := by
  unfold pcC pnC
  rw [t9_and, t9_add, show (4 : Int32) = zI ((4 : Nat) : Int) from zI_4, t9_ushr x (by omega)]
  rfl
theorem pn_D (x : Int32) : t9 (pcD x) = pnD (t9 x) := by
  unfold pcD pnD
  rw [t9_add, show (8 : Int32) = zI ((8 : Nat) : Int) from zI_8, t9_ushr x (by omega)]
theorem pn_E (x : Int32) : t9 (pcE x) = pnE (t9 x) := by
  unfold pcE pnE
  rw [t9_and, t9_add, show (16 : Int32) = zI ((16 : Nat) : Int) from zI_16, t9_ushr x (by omega)]
  rfl
def pnX (n : Nat) : Nat := pnE (pnD (pnC (pnB (pnA n))))
def pnK : Nat → Nat → Nat → Bool
  | 0, x, k => Nat.beq (pnX x) k
  | d + 1, x, k => pnK d (Nat.mul 2 x) k && pnK d (Nat.add (Nat.mul 2 x) 1) (Nat.add k 1)
theorem cntF_cong {f g : Nat → Bool} : ∀ {m : Nat}, (∀ c, c < m → f c = g c) → cntF f m = cntF g m
  | 0, _ => rfl
  | m + 1, h => by
    rw [cntF, cntF, cntF_cong (m := m) (fun c hc => h c (by omega)), h m (by omega)]
theorem pnK_ok : ∀ (d x k : Nat), pnK d x k = true → ∀ y, y < 2 ^ d → pnX (x * 2 ^ d + y) = k + cntF (fun i => y.testBit i) d
  | 0, x, k, h, y, hy => by
    have : y = 0 := by omega
    subst this
    rw [pnK] at h
    have := Nat.eq_of_beq_eq_true h
    simpa [cntF] using this
  | d + 1, x, k, h, y, hy => by
    rw [pnK, Bool.and_eq_true] at h
    have h1 := pnK_ok d _ _ h.1
    have h2 := pnK_ok d _ _ h.2
    rw [Nat.pow_succ] at hy
    have hp : 0 < 2 ^ d := Nat.pow_pos (by omega)
    rw [cntF]
    by_cases c : y < 2 ^ d
    · have := h1 y c
      rw [show x * 2 ^ (d + 1) + y = Nat.mul 2 x * 2 ^ d + y by
        rw [Nat.pow_succ]
        show x * (2 ^ d * 2) + y = 2 * x * 2 ^ d + y
        rw [Nat.mul_comm 2 x, Nat.mul_comm (2 ^ d) 2, Nat.mul_assoc], this, Nat.testBit_lt_two_pow c]
      simp
    · have hz : y - 2 ^ d < 2 ^ d := by omega
      have := h2 (y - 2 ^ d) hz
      rw [show x * 2 ^ (d + 1) + y = Nat.add (Nat.mul 2 x) 1 * 2 ^ d + (y - 2 ^ d) by
        rw [Nat.pow_succ]
        show x * (2 ^ d * 2) + y = (2 * x + 1) * 2 ^ d + (y - 2 ^ d)
        rw [Nat.add_mul, Nat.mul_comm 2 x, Nat.mul_comm (2 ^ d) 2, Nat.mul_assoc]
        omega, this]
      have e1 : y.testBit d = true := by
        rw [show y = 2 ^ d + (y - 2 ^ d) by omega, Nat.testBit_two_pow_add_eq, Nat.testBit_lt_two_pow hz]
        rfl
      have e2 : cntF (fun i => (y - 2 ^ d).testBit i) d = cntF (fun i => y.testBit i) d := cntF_cong (fun c hc => by
        rw [show y = 2 ^ d + (y - 2 ^ d) by omega, Nat.testBit_two_pow_add_gt hc]
        congr 1
        omega)
      rw [e1, e2]
      simp only [if_true]
      show k + 1 + _ = _
      omega
set_option maxRecDepth 100000 in
set_option maxHeartbeats 4000000 in
theorem pn_chk : pnK 19 0 0 = true := by decide +kernel
