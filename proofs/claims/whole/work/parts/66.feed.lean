/-! THE TAPE: what is fed -/
def TpC (B : Nat → Nat) (m : Nat) (s : gS) : Prop := m ≤ 120 ∧ (∀ j, B j < 256) ∧ s.1 12 = zI m ∧ ∀ j, j < m → s.2 11 j = zI (B j)
def TpM (B : Nat → Nat) (m : Nat) (s : gS) : Prop := m ≤ 120 ∧ (∀ j, B j < 256) ∧ s.1 31 = zI m ∧ ∀ j, j < m → s.2 32 j &&& 255 = zI (B j)
theorem TpC.kp {B : Nat → Nat} {m : Nat} {s t : gS} {ks as : List Nat} (h : TpC B m s) (hk : Kp ks as s t) (hd : 12 ∉ ks ∧ 11 ∉ as) : TpC B m t := ⟨h.1, h.2.1, (hk.1 _ hd.1).trans h.2.2.1, fun j hj => by rw [hk.2 _ hd.2]; exact h.2.2.2 j hj⟩
theorem TpM.kp {B : Nat → Nat} {m : Nat} {s t : gS} {ks as : List Nat} (h : TpM B m s) (hk : Kp ks as s t) (hd : 31 ∉ ks ∧ 32 ∉ as) : TpM B m t := ⟨h.1, h.2.1, (hk.1 _ hd.1).trans h.2.2.1, fun j hj => by rw [hk.2 _ hd.2]; exact h.2.2.2 j hj⟩
def byF (x : Int32) (k : Nat) : Nat := t9 (((x.toUInt32 >>> ((zI ((8 * k : Nat) : Int)).toUInt32 &&& Int32.toUInt32 31)).toInt32) &&& 255)
theorem byF_lt (x : Int32) (k : Nat) : byF x k < 256 := by
  unfold byF
  rw [t9_and]
  exact Nat.lt_succ_of_le Nat.and_le_right
theorem byF_z (x : Int32) (k : Nat) : zI (byF x k : Nat) = ((x.toUInt32 >>> ((zI ((8 * k : Nat) : Int)).toUInt32 &&& Int32.toUInt32 31)).toInt32) &&& 255 := by
  have h := byF_lt x k
  apply t9_inj
  rw [t9_z (by omega)]
  rfl
theorem bt_255 : ∀ i : Fin 32, bt 255 i.val = decide (i.val < 8) := by decide +kernel
theorem bt_i8 (a : Int32) {i : Nat} (hi : i < 8) : bt (a.toInt8.toInt32) i = bt a i := by
  show ((a.toBitVec.signExtend 8).signExtend 32).getLsbD i = _
  rw [BitVec.getLsbD_signExtend, if_pos hi, BitVec.getLsbD_signExtend, if_pos (by omega), decide_eq_true (show i < 32 by omega), decide_eq_true hi]
  rfl
theorem byF_m (x : Int32) {k : Nat} (hk : k ≤ 3) : (((x >>> ((8 * zI (k : Int)) &&& 31)).toInt8.toInt32).toInt8.toInt32) &&& 255 = zI (byF x k : Nat) := by
  have e : (8 : Int32) * zI (k : Int) = zI ((8 * k : Nat) : Int) := by
    rw [zI_8, zI_mul]
    exact zI_c (by omega)
  rw [byF_z, e]
  apply bt_ext
  intro i hi
  rw [bt_and, bt_and, bt_255 ⟨i, hi⟩]
  by_cases h : i < 8
  · rw [bt_i8 _ h, bt_i8 _ h, bt_sar _ (by omega) i (by omega), bt_ushr _ (by omega)]
  · rw [decide_eq_false h, Bool.and_false, Bool.and_false]
def upB (B : Nat → Nat) (m b : Nat) : Nat → Nat := fun j => if j = m then b else B j
def puB : (Nat → Nat) → Nat → Int32 → Nat → (Nat → Nat)
  | B, _, _, 0 => B
  | B, m, x, k + 1 => puB (upB B m (byF x k)) (m + 1) x k
theorem upB_lt {B : Nat → Nat} (h : ∀ j, B j < 256) (m : Nat) (x : Int32) (k : Nat) : ∀ j, upB B m (byF x k) j < 256 := fun j => by
  unfold upB
  by_cases e : j = m
  · rw [if_pos e]; exact byF_lt x k
  · rw [if_neg e]; exact h j
theorem c_four1 {x : Int32} : ∀ (k m φ : Nat) (B : Nat → Nat) (s : gS), k ≤ 4 → m + k ≤ 120 → k < φ → TpC B m s → ∃ u, f_X6_addFour_3 φ s x (zI (8 * (k : Int) - 8)) = some u ∧ TpC (puB B m x k) (m + k) u
  | 0, m, φ, B, s, hk, hm, hf, h => by
    obtain ⟨φ, rfl⟩ : ∃ m, φ = m + 1 := ⟨φ - 1, by omega⟩
    rw [f_X6_addFour_3, if_pos (by rw [zI_0, zI_lt (by omega) (by omega) (by omega) (by omega)]; omega)]
    exact ⟨s, rfl, h⟩
  | k + 1, m, φ, B, s, hk, hm, hf, h => by
    obtain ⟨φ, rfl⟩ : ∃ m, φ = m + 1 := ⟨φ - 1, by omega⟩
    have e8 : 8 * ((k + 1 : Nat) : Int) - 8 = ((8 * k : Nat) : Int) := by omega
    have em : zI ((8 * k : Nat) : Int) + (-8 : Int32) = zI (8 * (k : Int) - 8) := by
      rw [show (-8 : Int32) = zI (-8) by decide, zI_add]
      exact zI_c (by omega)
    rw [f_X6_addFour_3, e8, if_neg (by rw [zI_0, zI_lt (by omega) (by omega) (by omega) (by omega)]; omega), h.2.2.1, if_neg (by rw [zI_120, zI_le (by omega) (by omega) (by omega) (by omega)]; omega), if_pos (zin (by omega) (by omega)), zcl (by omega)]
    unfold f_X6_addFour_45
    rw [em, zsuc, ← byF_z]
    obtain ⟨u, u1, u2⟩ := c_four1 (x := x) k (m + 1) φ (upB B m (byF x k)) (ss (sa s 11 m (zI (byF x k : Nat))) 12 (zI ((m + 1 : Nat) : Int))) (by omega) (by omega) (by omega) ⟨by omega, upB_lt h.2.1 m x k, rfl, fun j hj => by
      show (sa s 11 m (zI (byF x k : Nat))).2 11 j = _
      rw [sa_at]
      unfold upB
      by_cases e : j = m
      · rw [if_pos ⟨rfl, e⟩, if_pos e]
      · rw [if_neg (fun g => e g.2), if_neg e]
        exact h.2.2.2 j (by omega)⟩
    refine ⟨u, u1, ?_⟩
    rw [show m + (k + 1) = m + 1 + k by omega]
    exact u2
theorem c_four {x : Int32} {m : Nat} {B : Nat → Nat} {s : gS} (hm : m + 4 ≤ 120) (h : TpC B m s) : ∃ u, f_X6_addFour s x = some u ∧ TpC (puB B m x 4) (m + 4) u := by
  obtain ⟨g, hg⟩ := gf_big
  exact c_four1 (x := x) 4 m gφ B s (by omega) hm (by omega) h
theorem m_type1 {x : Int32} : ∀ (k m φ : Nat) (B : Nat → Nat) (s : gS), k ≤ 4 → m + k ≤ 120 → k < φ → TpM B m s → ∃ u, f_X9_types_2 φ s x (zI ((k : Int) - 1)) = some u ∧ TpM (puB B m x k) (m + k) u
  | 0, m, φ, B, s, hk, hm, hf, h => by
    obtain ⟨φ, rfl⟩ : ∃ m, φ = m + 1 := ⟨φ - 1, by omega⟩
    rw [f_X9_types_2, if_pos (by rw [zI_0, zI_lt (by omega) (by omega) (by omega) (by omega)]; omega)]
    exact ⟨s, rfl, h⟩
  | k + 1, m, φ, B, s, hk, hm, hf, h => by
    obtain ⟨φ, rfl⟩ : ∃ m, φ = m + 1 := ⟨φ - 1, by omega⟩
    have e8 : ((k + 1 : Nat) : Int) - 1 = (k : Int) := by omega
    have em : zI (k : Int) + (-1 : Int32) = zI ((k : Int) - 1) := by
      rw [zI_m1, zI_add]
      exact zI_c (by omega)
    rw [f_X9_types_2, e8, if_neg (by rw [zI_0, zI_lt (by omega) (by omega) (by omega) (by omega)]; omega), h.2.2.1, if_pos (zin (by omega) (by omega)), zcl (by omega), em, zsuc]
    obtain ⟨u, u1, u2⟩ := m_type1 (x := x) k (m + 1) φ (upB B m (byF x k)) (ss (sa s 32 m (((x >>> ((8 * zI (k : Int)) &&& 31)).toInt8.toInt32).toInt8.toInt32)) 31 (zI ((m + 1 : Nat) : Int))) (by omega) (by omega) (by omega) ⟨by omega, upB_lt h.2.1 m x k, rfl, fun j hj => by
      show (sa s 32 m (((x >>> ((8 * zI (k : Int)) &&& 31)).toInt8.toInt32).toInt8.toInt32)).2 32 j &&& 255 = _
      rw [sa_at]
      unfold upB
      by_cases e : j = m
      · rw [if_pos ⟨rfl, e⟩, if_pos e]
        exact byF_m x (by omega)
      · rw [if_neg (fun g => e g.2), if_neg e]
        exact h.2.2.2 j (by omega)⟩
    refine ⟨u, u1, ?_⟩
    rw [show m + (k + 1) = m + 1 + k by omega]
    exact u2
theorem m_type {x : Int32} {m : Nat} {B : Nat → Nat} {s : gS} (hm : m + 4 ≤ 120) (h : TpM B m s) : ∃ u, f_X9_types s x = some u ∧ TpM (puB B m x 4) (m + 4) u := by
  obtain ⟨g, hg⟩ := gf_big
  exact m_type1 (x := x) 4 m gφ B s (by omega) hm (by omega) h
def fd5 (B : Nat → Nat) (m : Nat) (a b c d e : Int32) : Nat → Nat := puB (puB (puB (puB (puB B m a 4) (m + 4) b 4) (m + 4 + 4) c 4) (m + 4 + 4 + 4) d 4) (m + 4 + 4 + 4 + 4) e 4
theorem c_feed {m : Nat} {B : Nat → Nat} {s : gS} (h : TpC B m s) (a b c d e : Int32) : ∃ u, f_X8_feed s a b c d e = some (zI (if m ≤ 100 then ((m + 20 : Nat) : Int) else -1), u) ∧ TpC (if m ≤ 100 then fd5 B m a b c d e else B) (if m ≤ 100 then m + 20 else m) u := by
  have hm := h.1
  unfold f_X8_feed f_X6_hasRoomForTwenty
  rw [h.2.2.1, zI_20, zI_add]
  by_cases k : m ≤ 100
  · rw [if_neg (by rw [zI_120, zI_lt (by omega) (by omega) (by omega) (by omega)]; omega), ob9, if_neg (by decide), if_pos k, if_pos k, if_pos k]
    obtain ⟨u1, a1, b1⟩ := c_four (x := a) (by omega) h
    obtain ⟨u2, a2, b2⟩ := c_four (x := b) (by omega) b1
    obtain ⟨u3, a3, b3⟩ := c_four (x := c) (by omega) b2
    obtain ⟨u4, a4, b4⟩ := c_four (x := d) (by omega) b3
    obtain ⟨u5, a5, b5⟩ := c_four (x := e) (by omega) b4
    rw [a1, ob9, a2, ob9, a3, ob9, a4, ob9, a5, ob9]
    exact ⟨u5, by rw [b5.2.2.1], b5⟩
  · rw [if_pos (by rw [zI_120, zI_lt (by omega) (by omega) (by omega) (by omega)]; omega), ob9, if_pos rfl, if_neg k, if_neg k, if_neg k]
    exact ⟨s, by rw [zI_m1], h⟩
theorem m_feed {m : Nat} {B : Nat → Nat} {s : gS} (h : TpM B m s) (a b c d e : Int32) : ∃ u, f_X9_feed s a b c d e = some (zI (if m ≤ 100 then ((m + 20 : Nat) : Int) else -1), u) ∧ TpM (if m ≤ 100 then fd5 B m a b c d e else B) (if m ≤ 100 then m + 20 else m) u := by
  have hm := h.1
  unfold f_X9_feed
  rw [h.2.2.1, zI_20, zI_add]
  by_cases k : m ≤ 100
  · rw [if_pos (by rw [zI_120, zI_le (by omega) (by omega) (by omega) (by omega)]; omega), if_pos k, if_pos k, if_pos k]
    obtain ⟨u1, a1, b1⟩ := m_type (x := a) (by omega) h
    obtain ⟨u2, a2, b2⟩ := m_type (x := b) (by omega) b1
    obtain ⟨u3, a3, b3⟩ := m_type (x := c) (by omega) b2
    obtain ⟨u4, a4, b4⟩ := m_type (x := d) (by omega) b3
    obtain ⟨u5, a5, b5⟩ := m_type (x := e) (by omega) b4
    rw [a1, ob9, a2, ob9, a3, ob9, a4, ob9, a5, ob9]
    exact ⟨u5, by rw [b5.2.2.1], b5⟩
  · rw [if_neg (by rw [zI_120, zI_le (by omega) (by omega) (by omega) (by omega)]; omega), if_neg k, if_neg k, if_neg k]
    exact ⟨s, by rw [zI_m1], h⟩
