/-! NUMBERS: an int by the whole number that it is -/
def zI (z : Int) : Int32 := Int32.ofInt z
theorem zI_toInt {z : Int} (h1 : -2147483648 ≤ z) (h2 : z < 2147483648) : (zI z).toInt = z := Int32.toInt_ofInt_of_le (by omega) (by omega)
theorem zI_add (a b : Int) : zI a + zI b = zI (a + b) := (Int32.ofInt_add a b).symm
theorem zI_sub (a b : Int) : zI a - zI b = zI (a - b) := (Int32.ofInt_sub a b).symm
theorem zI_mul (a b : Int) : zI a * zI b = zI (a * b) := (Int32.ofInt_mul a b).symm
theorem zI_neg (a : Int) : -zI a = zI (-a) := (Int32.ofInt_neg a).symm
theorem zI_lt {a b : Int} (h1 : -2147483648 ≤ a) (h2 : a < 2147483648) (h3 : -2147483648 ≤ b) (h4 : b < 2147483648) : (zI a < zI b) = (a < b) := by
  rw [Int32.lt_iff_toInt_lt, zI_toInt h1 h2, zI_toInt h3 h4]
theorem zI_le {a b : Int} (h1 : -2147483648 ≤ a) (h2 : a < 2147483648) (h3 : -2147483648 ≤ b) (h4 : b < 2147483648) : (zI a ≤ zI b) = (a ≤ b) := by
  rw [Int32.le_iff_toInt_le, zI_toInt h1 h2, zI_toInt h3 h4]
theorem zI_eq {a b : Int} (h1 : -2147483648 ≤ a) (h2 : a < 2147483648) (h3 : -2147483648 ≤ b) (h4 : b < 2147483648) : (zI a = zI b) = (a = b) := by
  rw [← Int32.toInt_inj, zI_toInt h1 h2, zI_toInt h3 h4]
theorem zI_div {a b : Int} (h1 : 0 ≤ a) (h2 : a < 2147483648) (h3 : 0 < b) (h4 : b < 2147483648) : zI a / zI b = zI (a / b) := by
  apply Int32.toInt_inj.1
  have hab : a / b ≤ a := Int.ediv_le_self b h1
  have hab0 : 0 ≤ a / b := Int.ediv_nonneg h1 (by omega)
  rw [zI_toInt (by omega) (by omega), Int32.toInt_div_of_ne_right, zI_toInt (by omega) h2, zI_toInt (by omega) h4, Int.tdiv_eq_ediv_of_nonneg h1]
  intro h
  have h9 := congrArg Int32.toInt h
  rw [zI_toInt (by omega) h4] at h9
  have e9 : (-1 : Int32).toInt = -1 := by decide
  omega
theorem zI_mod (a b : Int) : zI a - zI (a / b) * zI b = zI (a % b) := by
  rw [zI_mul, zI_sub, Int.emod_def, Int.mul_comm]
theorem zI_cl {a : Int} (h1 : -2147483648 ≤ a) (h2 : a < 2147483648) : (zI a).toNatClampNeg = a.toNat := by
  rw [← Int32.toNat_toInt, zI_toInt h1 h2]
theorem zI_in {a : Int} {N : Nat} (h1 : -2147483648 ≤ a) (h2 : a < 2147483648) : inB (zI a) N = decide (0 ≤ a ∧ a < N) := by
  unfold inB
  rw [zI_toInt h1 h2]
theorem zI_nz {a : Int} (h1 : -2147483648 ≤ a) (h2 : a < 2147483648) : nz (zI a) = decide (a ≠ 0) := by
  unfold nz
  have e : (zI a ≠ 0) = (a ≠ 0) := by
    show (¬ zI a = zI 0) = _
    rw [zI_eq h1 h2 (by omega) (by omega)]
  simp only [e]
theorem zI_of (x : Int32) : ∃ z : Int, -2147483648 ≤ z ∧ z < 2147483648 ∧ x = zI z := by
  have h1 := Int32.le_toInt x
  have h2 := Int32.toInt_lt x
  exact ⟨x.toInt, by omega, by omega, (Int32.ofInt_toInt x).symm⟩
theorem zI_lit (n : Nat) : (OfNat.ofNat n : Int32) = zI (OfNat.ofNat n) := by
  show Int32.ofNat n = Int32.ofInt n
  exact (Int32.ofInt_eq_ofNat).symm
theorem zI_nI (n : Nat) : nI n = zI n := (Int32.ofInt_eq_ofNat).symm
theorem zI_ofNat (n : Nat) : Int32.ofNat n = zI n := (Int32.ofInt_eq_ofNat).symm
theorem zI_m1 : (-1 : Int32) = zI (-1) := by decide
theorem zI_m2 : (-2 : Int32) = zI (-2) := by decide
theorem zI_m3 : (-3 : Int32) = zI (-3) := by decide
theorem zI_isZ {a : Int} (h1 : -2147483648 ≤ a) (h2 : a < 2147483648) : isZ (zI a) = decide (a = 0 ∨ a = 1) := by
  unfold isZ
  have e : (zI a = 0 ∨ zI a = 1) = (a = 0 ∨ a = 1) := by
    show (zI a = zI 0 ∨ zI a = zI 1) = _
    rw [zI_eq h1 h2 (by omega) (by omega), zI_eq h1 h2 (by omega) (by omega)]
  simp only [e]
theorem zI_byte {a : Int} (h1 : -128 ≤ a) (h2 : a < 128) : (zI a).toInt8.toInt32 = zI a := by
  apply Int32.toInt_inj.1
  rw [Int8.toInt_toInt32, Int32.toInt_toInt8, zI_toInt (by omega) (by omega), Int.bmod_eq_of_le (by omega) (by omega)]
/-! THE STATE's words -/
theorem ss_n (s : gS) (k : Nat) (v : Int32) (j : Nat) : (ss s k v).1 j = if j = k then v else s.1 j := rfl
theorem ss_r (s : gS) (k : Nat) (v : Int32) : (ss s k v).2 = s.2 := rfl
theorem sa_n (s : gS) (k i : Nat) (v : Int32) : (sa s k i v).1 = s.1 := rfl
theorem sa_r (s : gS) (k i : Nat) (v : Int32) (j : Nat) : (sa s k i v).2 j = if j = k then upd (s.2 k) i v else s.2 j := rfl
theorem sf_n (s : gS) (k N : Nat) (v : Int32) : (sf s k N v).1 = s.1 := rfl
theorem sf_r (s : gS) (k N : Nat) (v : Int32) (j : Nat) : (sf s k N v).2 j = if j = k then (fun i => if i < N then v else s.2 k i) else s.2 j := rfl
theorem upd_at (f : Nat → Int32) (k : Nat) (v : Int32) (j : Nat) : upd f k v j = if j = k then v else f j := rfl
def Kp (ks as : List Nat) (s t : gS) : Prop := (∀ k, k ∉ ks → t.1 k = s.1 k) ∧ ∀ a, a ∉ as → t.2 a = s.2 a
theorem Kp.rf {ks as : List Nat} {s : gS} : Kp ks as s s := ⟨fun _ _ => rfl, fun _ _ => rfl⟩
theorem Kp.ss {ks as : List Nat} {s t : gS} {k : Nat} {v : Int32} (hk : k ∈ ks) (h : Kp ks as s t) : Kp ks as s (ss t k v) := ⟨fun j hj => by
  rw [ss_n, if_neg (fun e => hj (by rw [e]; exact hk))]
  exact h.1 j hj, h.2⟩
theorem Kp.sa {ks as : List Nat} {s t : gS} {k i : Nat} {v : Int32} (hk : k ∈ as) (h : Kp ks as s t) : Kp ks as s (sa t k i v) := ⟨h.1, fun j hj => by
  rw [sa_r, if_neg (fun e => hj (by rw [e]; exact hk))]
  exact h.2 j hj⟩
theorem Kp.sf {ks as : List Nat} {s t : gS} {k N : Nat} {v : Int32} (hk : k ∈ as) (h : Kp ks as s t) : Kp ks as s (sf t k N v) := ⟨h.1, fun j hj => by
  rw [sf_r, if_neg (fun e => hj (by rw [e]; exact hk))]
  exact h.2 j hj⟩
theorem Kp.tr {ks as : List Nat} {s t u : gS} (h1 : Kp ks as s t) (h2 : Kp ks as t u) : Kp ks as s u := ⟨fun k hk => (h2.1 k hk).trans (h1.1 k hk), fun a ha => (h2.2 a ha).trans (h1.2 a ha)⟩
theorem Kp.mo {ks as ks2 as2 : List Nat} {s t : gS} (h : Kp ks as s t) (h1 : ∀ x ∈ ks, x ∈ ks2) (h2 : ∀ x ∈ as, x ∈ as2) : Kp ks2 as2 s t := ⟨fun k hk => h.1 k (fun q => hk (h1 k q)), fun a ha => h.2 a (fun q => ha (h2 a q))⟩
