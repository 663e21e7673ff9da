/-! TO READ: the text's bytes, signs, numbers; the class -/
def sgF (B : Nat → Nat) (L i : Nat) : Nat := if i < L then B i else 0
def dtA (B : Nat → Nat) (L i : Nat) : Bool := decide (48 ≤ sgF B L i ∧ sgF B L i ≤ 57)
def clA (B : Nat → Nat) (L i : Nat) : Bool := decide ((97 ≤ sgF B L i ∧ sgF B L i ≤ 100) ∧ 49 ≤ sgF B L (i + 1) ∧ sgF B L (i + 1) ≤ 52)
def nxA (B : Nat → Nat) (L i : Nat) : Nat := if sgF B L i = 33 ∨ sgF B L i = 35 ∨ sgF B L i = 61 ∨ sgF B L i = 63 then i + 1 else if sgF B L i = 42 then (if clA B L (i + 1) = true then i + 3 else i) else if sgF B L i = 43 then (if dtA B L (i + 1) = true then (if dtA B L (i + 2) = true then i + 3 else i + 2) else i) else i
def enA (B : Nat → Nat) (L : Nat) : Nat → Nat → Nat
  | 0, i => i
  | f + 1, i => if nxA B L i = i then i else enA B L f (nxA B L i)
def nbA (B : Nat → Nat) (L a k : Nat) : Nat := if k < 10 then (if sgF B L a = 48 + k % 10 ∧ sgF B L (a + 1) = 46 then a + 2 else a) else if sgF B L a = 48 + k / 10 then (if sgF B L (a + 1) = 48 + k % 10 ∧ sgF B L (a + 2) = 46 then a + 3 else a) else a
def eA (B : Nat → Nat) (L a k : Nat) : Nat := enA B L 120 (nbA B L a k + 2)
def xA (B : Nat → Nat) (L a k : Nat) : Nat := sgF B L (nbA B L a k) - 97
def yA (B : Nat → Nat) (L a k : Nat) : Nat := sgF B L (nbA B L a k + 1) - 49
def okA (B : Nat → Nat) (L a k : Nat) : Bool := clA B L (nbA B L a k) && (decide (eA B L a k = L) || decide (sgF B L (eA B L a k) = 32))
def cdA (q : Cfg) (B : Nat → Nat) (L a k : Nat) : Nat := cW q * yA B L a k + xA B L a k
def goA (q : Cfg) (B : Nat → Nat) (L : Nat) (mv : Nat → Nat) (n a : Nat) : Bool := okA B L a (n + 1) && decide (xA B L a (n + 1) < cW q ∧ yA B L a (n + 1) < cH q ∧ plF q mv n ((cdA q B L a (n + 1) : Nat) : Int) = true)
def rdA (q : Cfg) (B : Nat → Nat) (L : Nat) : Nat → (Nat → Nat) → Nat → Nat → ((Nat → Nat) × Nat) × Nat
  | 0, mv, n, a => ((mv, n), a)
  | f + 1, mv, n, a => if a < L ∧ goA q B L mv n a = true then rdA q B L f (mvS mv n (cdA q B L a (n + 1))) (n + 1) (min (eA B L a (n + 1) + 1) L) else ((mv, n), a)
theorem sg_in {B : Nat → Nat} {L i : Nat} (h : sgF B L i ≠ 0) : i < L := by
  unfold sgF at h
  by_cases g : i < L
  · exact g
  · rw [if_neg g] at h
    exact absurd rfl h
theorem dt_in {B : Nat → Nat} {L i : Nat} (h : dtA B L i = true) : i < L := by
  have h1 := (of_decide_eq_true h : _ ∧ _).1
  exact sg_in (B := B) (by omega)
theorem cl_in {B : Nat → Nat} {L i : Nat} (h : clA B L i = true) : i + 1 < L := by
  have h1 := (of_decide_eq_true h : _ ∧ _ ∧ _).2.1
  exact sg_in (B := B) (by omega)
theorem nx_rng {B : Nat → Nat} {L i : Nat} (hi : i ≤ L) : i ≤ nxA B L i ∧ nxA B L i ≤ L := by
  unfold nxA
  by_cases c1 : sgF B L i = 33 ∨ sgF B L i = 35 ∨ sgF B L i = 61 ∨ sgF B L i = 63
  · rw [if_pos c1]
    have := sg_in (B := B) (L := L) (i := i) (by omega)
    omega
  · rw [if_neg c1]
    by_cases c2 : sgF B L i = 42
    · rw [if_pos c2]
      by_cases c3 : clA B L (i + 1) = true
      · rw [if_pos c3]
        have := cl_in c3
        omega
      · rw [if_neg c3]
        omega
    · rw [if_neg c2]
      by_cases c3 : sgF B L i = 43
      · rw [if_pos c3]
        by_cases c4 : dtA B L (i + 1) = true
        · rw [if_pos c4]
          by_cases c5 : dtA B L (i + 2) = true
          · rw [if_pos c5]
            have := dt_in c5
            omega
          · rw [if_neg c5]
            have := dt_in c4
            omega
        · rw [if_neg c4]
          omega
      · rw [if_neg c3]
        omega
theorem en_rng {B : Nat → Nat} {L : Nat} : ∀ (f i : Nat), i ≤ L → i ≤ enA B L f i ∧ enA B L f i ≤ L
  | 0, i, hi => ⟨Nat.le_refl _, hi⟩
  | f + 1, i, hi => by
    have h := nx_rng (B := B) hi
    rw [enA]
    by_cases c : nxA B L i = i
    · rw [if_pos c]
      omega
    · rw [if_neg c]
      have := en_rng (B := B) f (nxA B L i) h.2
      omega
theorem nb_ge (B : Nat → Nat) (L a k : Nat) : a ≤ nbA B L a k ∧ nbA B L a k ≤ a + 3 := by
  unfold nbA
  by_cases c1 : k < 10
  · rw [if_pos c1]
    by_cases c2 : sgF B L a = 48 + k % 10 ∧ sgF B L (a + 1) = 46
    · rw [if_pos c2]; omega
    · rw [if_neg c2]; omega
  · rw [if_neg c1]
    by_cases c2 : sgF B L a = 48 + k / 10
    · rw [if_pos c2]
      by_cases c3 : sgF B L (a + 1) = 48 + k % 10 ∧ sgF B L (a + 2) = 46
      · rw [if_pos c3]; omega
      · rw [if_neg c3]; omega
    · rw [if_neg c2]; omega
theorem sg_lt {B : Nat → Nat} (hB : ∀ j, B j < 256) (L i : Nat) : sgF B L i < 256 := by
  unfold sgF
  by_cases g : i < L
  · rw [if_pos g]; exact hB i
  · rw [if_neg g]; omega
/-- the class's tape as far as it is read -/
def BC (B : Nat → Nat) (L : Nat) (s : gS) : Prop := L ≤ 120 ∧ (∀ j, B j < 256) ∧ ∀ j, j < L → s.2 11 j = zI (B j)
theorem BC.kp {B : Nat → Nat} {L : Nat} {s t : gS} {ks as : List Nat} (h : BC B L s) (hk : Kp ks as s t) (hd : 11 ∉ as) : BC B L t := ⟨h.1, h.2.1, fun j hj => by rw [hk.2 _ hd]; exact h.2.2 j hj⟩
def bY (B : Nat → Nat) (L i : Nat) : Int := if i < L then (B i : Int) else -1
theorem bY_sg {B : Nat → Nat} (hB : ∀ j, B j < 256) (L i : Nat) : (bY B L i = -1 ∧ sgF B L i = 0) ∨ (bY B L i = (sgF B L i : Int)) := by
  unfold bY sgF
  by_cases g : i < L
  · rw [if_pos g, if_pos g]
    exact Or.inr rfl
  · rw [if_neg g, if_neg g]
    exact Or.inl ⟨rfl, rfl⟩
theorem bY_rng {B : Nat → Nat} (hB : ∀ j, B j < 256) (L i : Nat) : -1 ≤ bY B L i ∧ bY B L i < 256 := by
  unfold bY
  by_cases g : i < L
  · rw [if_pos g]
    have := hB i
    omega
  · rw [if_neg g]
    omega
theorem c_byte {B : Nat → Nat} {L i : Nat} {s : gS} (h : BC B L s) (hi : i ≤ 1000) : f_X6_byteAt s (zI i) (zI L) = some (zI (bY B L i)) := by
  have hL := h.1
  unfold f_X6_byteAt bY
  rw [if_neg (by rw [zI_0, zI_lt (by omega) (by omega) (by omega) (by omega)]; omega)]
  by_cases g : i < L
  · rw [if_neg (by rw [zI_le (by omega) (by omega) (by omega) (by omega)]; omega), if_neg (by rw [zI_120, zI_le (by omega) (by omega) (by omega) (by omega)]; omega), if_pos (zin (by omega) (by omega)), zcl (by omega), h.2.2 i g, if_pos g]
  · rw [if_pos (by rw [zI_le (by omega) (by omega) (by omega) (by omega)]; omega), if_neg g, zI_m1]
theorem c_digit {B : Nat → Nat} {L i : Nat} {s : gS} (h : BC B L s) (hi : i ≤ 1000) : f_X6_isDigitAt s (zI i) (zI L) = some (if dtA B L i = true then 1 else 0) := by
  have r := bY_rng h.2.1 L i
  have e := bY_sg h.2.1 L i
  unfold f_X6_isDigitAt dtA
  rw [c_byte h hi, ob9]
  by_cases c1 : bY B L i < 48
  · rw [if_pos (by rw [zI_48, zI_lt (by omega) (by omega) (by omega) (by omega)]; omega), if_neg (by rw [decide_eq_true_eq]; omega)]
  · rw [if_neg (by rw [zI_48, zI_lt (by omega) (by omega) (by omega) (by omega)]; omega)]
    by_cases c2 : 57 < bY B L i
    · rw [if_pos (by rw [zI_57, zI_lt (by omega) (by omega) (by omega) (by omega)]; omega), if_neg (by rw [decide_eq_true_eq]; omega)]
    · rw [if_neg (by rw [zI_57, zI_lt (by omega) (by omega) (by omega) (by omega)]; omega), if_pos (by rw [decide_eq_true_eq]; omega)]
theorem c_cellA {B : Nat → Nat} {L i : Nat} {s : gS} (h : BC B L s) (hi : i ≤ 999) : f_X6_isCellAt s (zI i) (zI L) = some (if clA B L i = true then 1 else 0) := by
  have r := bY_rng h.2.1 L i
  have e := bY_sg h.2.1 L i
  have r2 := bY_rng h.2.1 L (i + 1)
  have e2 := bY_sg h.2.1 L (i + 1)
  unfold f_X6_isCellAt clA
  rw [c_byte h (by omega), ob9, zsuc, c_byte h (by omega), ob9]
  by_cases c1 : bY B L i < 97
  · rw [if_pos (by rw [zI_97, zI_lt (by omega) (by omega) (by omega) (by omega)]; omega), if_neg (by rw [decide_eq_true_eq]; omega)]
  · rw [if_neg (by rw [zI_97, zI_lt (by omega) (by omega) (by omega) (by omega)]; omega)]
    by_cases c2 : 100 < bY B L i
    · rw [if_pos (by rw [zI_100, zI_lt (by omega) (by omega) (by omega) (by omega)]; omega), if_neg (by rw [decide_eq_true_eq]; omega)]
    · rw [if_neg (by rw [zI_100, zI_lt (by omega) (by omega) (by omega) (by omega)]; omega)]
      by_cases c3 : bY B L (i + 1) < 49
      · rw [if_pos (by rw [zI_49, zI_lt (by omega) (by omega) (by omega) (by omega)]; omega), if_neg (by rw [decide_eq_true_eq]; omega)]
      · rw [if_neg (by rw [zI_49, zI_lt (by omega) (by omega) (by omega) (by omega)]; omega)]
        by_cases c4 : 52 < bY B L (i + 1)
        · rw [if_pos (by rw [zI_52, zI_lt (by omega) (by omega) (by omega) (by omega)]; omega), if_neg (by rw [decide_eq_true_eq]; omega)]
        · rw [if_neg (by rw [zI_52, zI_lt (by omega) (by omega) (by omega) (by omega)]; omega), if_pos (by rw [decide_eq_true_eq]; omega)]
theorem zadd2 (c k : Nat) : zI (c : Int) + zI (k : Int) = zI ((c + k : Nat) : Int) := by rw [zI_add]; exact zI_c (by omega)
theorem zp2 (c : Nat) : zI (c : Int) + 2 = zI ((c + 2 : Nat) : Int) := zadd2 c 2
theorem zp3 (c : Nat) : zI (c : Int) + 3 = zI ((c + 3 : Nat) : Int) := zadd2 c 3
theorem bY_eq {B : Nat → Nat} (hB : ∀ j, B j < 256) {L i : Nat} (k : Nat) (hk : 1 ≤ k ∧ k < 256) : (zI (bY B L i) = zI (k : Int)) ↔ sgF B L i = k := by
  have r := bY_rng hB L i
  have e := bY_sg hB L i
  rw [zI_eq (by omega) (by omega) (by omega) (by omega)]
  constructor
  · intro g
    omega
  · intro g
    omega
theorem c_sign1 {B : Nat → Nat} {L i : Nat} {s : gS} (h : BC B L s) (hi : i ≤ 900) : f_X6_behindSign s (zI i) (zI L) = some (zI (nxA B L i : Nat)) := by
  have b33 : zI (bY B L i) = zI 33 ↔ sgF B L i = 33 := bY_eq h.2.1 33 (by omega)
  have b35 : zI (bY B L i) = zI 35 ↔ sgF B L i = 35 := bY_eq h.2.1 35 (by omega)
  have b42 : zI (bY B L i) = zI 42 ↔ sgF B L i = 42 := bY_eq h.2.1 42 (by omega)
  have b43 : zI (bY B L i) = zI 43 ↔ sgF B L i = 43 := bY_eq h.2.1 43 (by omega)
  have b61 : zI (bY B L i) = zI 61 ↔ sgF B L i = 61 := bY_eq h.2.1 61 (by omega)
  have b63 : zI (bY B L i) = zI 63 ↔ sgF B L i = 63 := bY_eq h.2.1 63 (by omega)
  unfold f_X6_behindSign nxA
  rw [c_byte h (by omega), ob9, zsuc, c_cellA h (by omega), ob9, c_digit h (by omega), ob9, zp2, c_digit h (by omega), ob9, zp3, if10, if10, if10, zI_33, zI_35, zI_42, zI_43, zI_61, zI_63]
  by_cases c1 : sgF B L i = 33
  · rw [if_pos (b33.2 c1), if_pos (Or.inl c1)]
  · rw [if_neg (fun g => c1 (b33.1 g))]
    by_cases c2 : sgF B L i = 35
    · rw [if_pos (b35.2 c2), if_pos (Or.inr (Or.inl c2))]
    · rw [if_neg (fun g => c2 (b35.1 g))]
      by_cases c3 : sgF B L i = 42
      · rw [if_pos (b42.2 c3), if_neg (show ¬ (sgF B L i = 33 ∨ sgF B L i = 35 ∨ sgF B L i = 61 ∨ sgF B L i = 63) by omega), if_pos c3]
        by_cases k : clA B L (i + 1) = true
        · rw [if_pos k, if_pos k]
        · rw [if_neg k, if_neg k]
      · rw [if_neg (fun g => c3 (b42.1 g))]
        by_cases c4 : sgF B L i = 43
        · rw [if_pos (b43.2 c4), if_neg (show ¬ (sgF B L i = 33 ∨ sgF B L i = 35 ∨ sgF B L i = 61 ∨ sgF B L i = 63) by omega), if_neg c3, if_pos c4]
          by_cases k : dtA B L (i + 1) = true
          · rw [if_pos k, if_pos k]
            by_cases k2 : dtA B L (i + 2) = true
            · rw [if_pos k2, if_pos k2]
            · rw [if_neg k2, if_neg k2]
          · rw [if_neg k, if_neg k]
        · rw [if_neg (fun g => c4 (b43.1 g))]
          by_cases c5 : sgF B L i = 61
          · rw [if_pos (b61.2 c5), if_pos (by omega)]
          · rw [if_neg (fun g => c5 (b61.1 g))]
            by_cases c6 : sgF B L i = 63
            · rw [if_pos (b63.2 c6), if_pos (by omega)]
            · rw [if_neg (fun g => c6 (b63.1 g)), if_neg (show ¬ (sgF B L i = 33 ∨ sgF B L i = 35 ∨ sgF B L i = 61 ∨ sgF B L i = 63) by omega), if_neg c3, if_neg c4]
theorem c_signs5 {B : Nat → Nat} {L : Nat} {s : gS} (h : BC B L s) : ∀ (m c i φ : Nat), c + m = 120 → m < φ → i ≤ L → f_X6_behindSigns_5 φ s (zI L) (zI i) (zI c) = some (zI (enA B L m i : Nat))
  | 0, c, i, φ, hc, hf, hi => by
    obtain ⟨φ, rfl⟩ : ∃ m, φ = m + 1 := ⟨φ - 1, by omega⟩
    rw [f_X6_behindSigns_5, if_pos (by rw [zI_120, zI_le (by omega) (by omega) (by omega) (by omega)]; omega), enA]
  | m + 1, c, i, φ, hc, hf, hi => by
    obtain ⟨φ, rfl⟩ : ∃ m, φ = m + 1 := ⟨φ - 1, by omega⟩
    have hL := h.1
    have hr := nx_rng (B := B) hi
    rw [f_X6_behindSigns_5, if_neg (by rw [zI_120, zI_le (by omega) (by omega) (by omega) (by omega)]; omega), c_sign1 h (by omega), ob9, enA]
    by_cases k : nxA B L i = i
    · rw [if_pos (by rw [zI_eq (by omega) (by omega) (by omega) (by omega)]; omega), if_pos k]
    · rw [if_neg (by rw [zI_eq (by omega) (by omega) (by omega) (by omega)]; omega), if_neg k, zsuc]
      exact c_signs5 h m (c + 1) (nxA B L i) φ (by omega) (by omega) hr.2
theorem c_signs {B : Nat → Nat} {L i : Nat} {s : gS} (h : BC B L s) (hi : i ≤ L) : f_X6_behindSigns s (zI i) (zI L) = some (zI (enA B L 120 i : Nat)) := by
  obtain ⟨g, hg⟩ := gf_big
  exact c_signs5 h 120 0 i gφ (by omega) (by omega) hi
theorem z48 (k : Nat) : (48 : Int32) + zI (k : Int) = zI ((48 + k : Nat) : Int) := by rw [zI_48, zI_add]; exact zI_c (by omega)
theorem zrem10 {k : Nat} (hk : k < 100) : zI (k : Int) - zI (k : Int) / 10 * 10 = zI ((k % 10 : Nat) : Int) := zrem (n := k) (d := 10) (by omega) (by omega) (by omega)
theorem zquo10 {k : Nat} (hk : k < 100) : zI (k : Int) / 10 = zI ((k / 10 : Nat) : Int) := zquo (n := k) (d := 10) (by omega) (by omega) (by omega)
theorem c_nb31 {B : Nat → Nat} {L a k p : Nat} {s : gS} (h : BC B L s) (ha : p ≤ 500) (hk : k < 100) : f_X6_behindNumber_31 s (zI a) (zI L) (zI k) (zI p) = some (zI ((if sgF B L p = 48 + k % 10 ∧ sgF B L (p + 1) = 46 then p + 2 else a : Nat) : Int)) := by
  unfold f_X6_behindNumber_31 f_X6_behindNumber_66 f_X6_behindNumber_67
  have b1 := bY_eq h.2.1 (L := L) (i := p) (48 + k % 10) (by omega)
  have b2 : zI (bY B L (p + 1)) = zI 46 ↔ sgF B L (p + 1) = 46 := bY_eq h.2.1 46 (by omega)
  rw [c_byte h (by omega), ob9, zsuc, c_byte h (by omega), ob9, zrem10 hk, z48, zI_46, zp2]
  by_cases c1 : sgF B L p = 48 + k % 10
  · rw [if_pos (b1.2 c1)]
    by_cases c2 : sgF B L (p + 1) = 46
    · rw [if_pos (b2.2 c2), if_neg (by decide), if_pos ⟨c1, c2⟩]
    · rw [if_neg (fun g => c2 (b2.1 g)), if_pos rfl, if_neg (fun g => c2 g.2)]
  · rw [if_neg (fun g => c1 (b1.1 g)), if_pos rfl, if_neg (fun g => c1 g.1)]
theorem c_nb {B : Nat → Nat} {L a k : Nat} {s : gS} (h : BC B L s) (ha : a ≤ 400) (hk : k < 100) : f_X6_behindNumber s (zI a) (zI L) (zI k) = some (zI (nbA B L a k : Nat)) := by
  unfold f_X6_behindNumber nbA
  have b1 := bY_eq h.2.1 (L := L) (i := a) (48 + k / 10) (by omega)
  rw [c_nb31 h (by omega) hk, zsuc, c_nb31 h (by omega) hk, c_byte h (by omega), ob9, zquo10 hk, z48]
  by_cases c1 : k < 10
  · rw [if_pos (by rw [zI_10, zI_lt (by omega) (by omega) (by omega) (by omega)]; omega), if_pos c1]
  · rw [if_neg (by rw [zI_10, zI_lt (by omega) (by omega) (by omega) (by omega)]; omega), if_neg c1]
    by_cases c2 : sgF B L a = 48 + k / 10
    · rw [if_pos (b1.2 c2), if_pos c2]
    · rw [if_neg (fun g => c2 (b1.1 g)), if_neg c2]
theorem c_rw {B : Nat → Nat} {L a k : Nat} {s : gS} (h : BC B L s) (ha : a ≤ L) (hk : k < 100) : ∃ u, f_X6_readWords s (zI a) (zI L) (zI k) = some (if okA B L a k = true then 1 else 0, u) ∧ Kp [14, 15, 16] [] s u ∧ (okA B L a k = true → u.1 14 = zI (xA B L a k : Nat) ∧ u.1 15 = zI (yA B L a k : Nat) ∧ u.1 16 = zI (eA B L a k : Nat)) := by
  have hL := h.1
  have hn := nb_ge B L a k
  have key : ∃ u, f_X6_readWords s (zI a) (zI L) (zI k) = some (if okA B L a k = true then 1 else 0, u) ∧ (okA B L a k = true → u.1 14 = zI (xA B L a k : Nat) ∧ u.1 15 = zI (yA B L a k : Nat) ∧ u.1 16 = zI (eA B L a k : Nat)) := by
    unfold f_X6_readWords
    rw [c_nb h (by omega) hk, ob9, c_cellA h (by omega), ob9, if10]
    by_cases c1 : clA B L (nbA B L a k) = true
    · have hin := cl_in c1
      have hcl := (of_decide_eq_true c1 : _ ∧ _ ∧ _)
      have e1 := bY_sg h.2.1 L (nbA B L a k)
      have e2 := bY_sg h.2.1 L (nbA B L a k + 1)
      rw [if_pos c1, c_byte h (by omega), ob9]
      have k1 : Kp [14] [] s (ss s 14 (zI (bY B L (nbA B L a k)) - 97)) := Kp.rf.ss (by decide)
      rw [zsuc, c_byte (h.kp k1 (by decide)) (by omega), ob9]
      have k2 : Kp [14, 15] [] s (ss (ss s 14 (zI (bY B L (nbA B L a k)) - 97)) 15 (zI (bY B L (nbA B L a k + 1)) - 49)) := (Kp.rf.ss (by decide)).ss (by decide)
      rw [zp2, c_signs (h.kp k2 (by decide)) (by omega), ob9]
      have he := en_rng (B := B) 120 (nbA B L a k + 2) (show nbA B L a k + 2 ≤ L by omega)
      have k3 : Kp [14, 15, 16] [] s (ss (ss (ss s 14 (zI (bY B L (nbA B L a k)) - 97)) 15 (zI (bY B L (nbA B L a k + 1)) - 49)) 16 (zI (enA B L 120 (nbA B L a k + 2) : Nat))) := ((Kp.rf.ss (by decide)).ss (by decide)).ss (by decide)
      rw [c_byte (h.kp k3 (by decide)) (by omega), ob9]
      have fin : (ss (ss (ss s 14 (zI (bY B L (nbA B L a k)) - 97)) 15 (zI (bY B L (nbA B L a k + 1)) - 49)) 16 (zI (enA B L 120 (nbA B L a k + 2) : Nat))).1 14 = zI (xA B L a k : Nat) ∧ (ss (ss (ss s 14 (zI (bY B L (nbA B L a k)) - 97)) 15 (zI (bY B L (nbA B L a k + 1)) - 49)) 16 (zI (enA B L 120 (nbA B L a k + 2) : Nat))).1 15 = zI (yA B L a k : Nat) ∧ (ss (ss (ss s 14 (zI (bY B L (nbA B L a k)) - 97)) 15 (zI (bY B L (nbA B L a k + 1)) - 49)) 16 (zI (enA B L 120 (nbA B L a k + 2) : Nat))).1 16 = zI (eA B L a k : Nat) := by
        refine ⟨?_, ?_, rfl⟩
        · show zI (bY B L (nbA B L a k)) - 97 = _
          rw [zI_97, zI_sub]
          unfold xA
          exact zI_c (by omega)
        · show zI (bY B L (nbA B L a k + 1)) - 49 = _
          rw [zI_49, zI_sub]
          unfold yA
          exact zI_c (by omega)
      have b32 : zI (bY B L (enA B L 120 (nbA B L a k + 2))) = zI 32 ↔ sgF B L (enA B L 120 (nbA B L a k + 2)) = 32 := bY_eq h.2.1 32 (by omega)
      by_cases c2 : enA B L 120 (nbA B L a k + 2) = L
      · have ok : okA B L a k = true := by
          unfold okA eA
          rw [c1, decide_eq_true c2]
          rfl
        rw [if_pos (by rw [zI_eq (by omega) (by omega) (by omega) (by omega)]; omega), ok, if_pos rfl]
        exact ⟨_, rfl, fun _ => fin⟩
      · rw [if_neg (by rw [zI_eq (by omega) (by omega) (by omega) (by omega)]; omega), zI_32]
        by_cases c3 : sgF B L (enA B L 120 (nbA B L a k + 2)) = 32
        · have ok : okA B L a k = true := by
            unfold okA eA
            rw [c1, decide_eq_true c3, Bool.or_true]
            rfl
          rw [if_pos (b32.2 c3), ok, if_pos rfl]
          exact ⟨_, rfl, fun _ => fin⟩
        · have ok : okA B L a k = false := by
            unfold okA eA
            rw [decide_eq_false c2, decide_eq_false c3]
            exact Bool.and_false _
          rw [if_neg (fun g => c3 (b32.1 g)), ok, if_neg (by decide)]
          exact ⟨_, rfl, fun g => by cases g⟩
    · have ok : okA B L a k = false := by
        unfold okA
        cases e : clA B L (nbA B L a k) with
        | false => rfl
        | true => exact absurd e c1
      rw [if_neg c1, ok, if_neg (by decide)]
      exact ⟨s, rfl, fun g => by cases g⟩
  obtain ⟨u, u1, u2⟩ := key
  exact ⟨u, u1, fr_X6_readWords _ _ _ _ _ u1, u2⟩
theorem p5_xy {q : Cfg} {x y : Nat} (hq : okC q) (hx : x < cW q) (hy : y < cH q) : cW q * y + x < cN q ∧ p5 q (cW q * y + x) = 5 * y + x := by
  have hw : 0 < cW q := by omega
  constructor
  · have h1 : cW q * (y + 1) ≤ cW q * cH q := Nat.mul_le_mul_left _ hy
    rw [Nat.mul_add, Nat.mul_one] at h1
    unfold cN
    omega
  · unfold p5
    rw [Nat.mul_add_div hw, Nat.div_eq_of_lt hx, Nat.mul_add_mod, Nat.mod_eq_of_lt hx, Nat.add_zero]
theorem c_read_stop {q : Cfg} {D n0 a n2 : Nat} {mv2 : Nat → Nat} {t : gS} (ht : Cj q mv2 n2 D t) : ∃ u, f_X8_read_113 t (zI n0) (zI a) = some (zI ((n2 : Int) - (n0 : Int)), u) ∧ Cj q mv2 n2 D u ∧ u.1 12 = 0 ∧ u.1 13 = zI (a : Int) := by
  have k : Kp [12, 13] [] t (ss (ss t 13 (zI a)) 12 0) := (Kp.rf.ss (by decide)).ss (by decide)
  refine ⟨ss (ss t 13 (zI a)) 12 0, ?_, ht.kp k (by decide), rfl, rfl⟩
  unfold f_X8_read_113 f_X6_finish
  rw [ob9, k.1 7 (by decide), ht.1.2.1, zI_sub]
theorem c_read_end {q : Cfg} {D L n0 f a tr φ n : Nat} {B mv : Nat → Nat} {s : gS} (hL : L ≤ 120) (c0 : L ≤ a) (ht : tr ≤ a) (ha : a ≤ L) (h : Cj q mv n D s) : ∃ u, f_X8_read_30 (φ + 1) s (zI L) (zI n0) (zI a) (zI tr) = some (zI ((rdA q B L f mv n a).1.2 - (n0 : Int)), u) ∧ Cj q (rdA q B L f mv n a).1.1 (rdA q B L f mv n a).1.2 D u ∧ u.1 12 = 0 ∧ u.1 13 = zI ((rdA q B L f mv n a).2 : Nat) := by
  have er : rdA q B L f mv n a = ((mv, n), a) := by
    cases f with
    | zero => rfl
    | succ f => rw [rdA, if_neg (fun g => by omega)]
  rw [er, f_X8_read_30]
  by_cases c1 : L ≤ tr
  · rw [if_pos (by rw [zI_le (by omega) (by omega) (by omega) (by omega)]; omega)]
    exact c_read_stop h
  · rw [if_neg (by rw [zI_le (by omega) (by omega) (by omega) (by omega)]; omega), if_pos (by rw [zI_le (by omega) (by omega) (by omega) (by omega)]; omega)]
    exact c_read_stop h
theorem c_read30 {q : Cfg} {D L : Nat} {B : Nat → Nat} {n0 : Nat} : ∀ (f a tr φ : Nat) (mv : Nat → Nat) (n : Nat) (s : gS), L ≤ a + f → f < φ → tr ≤ a → a ≤ L → Cj q mv n D s → BC B L s → ∃ u, f_X8_read_30 φ s (zI L) (zI n0) (zI a) (zI tr) = some (zI ((rdA q B L f mv n a).1.2 - (n0 : Int)), u) ∧ Cj q (rdA q B L f mv n a).1.1 (rdA q B L f mv n a).1.2 D u ∧ u.1 12 = 0 ∧ u.1 13 = zI ((rdA q B L f mv n a).2 : Nat)
  | 0, a, tr, φ, mv, n, s, hf, hφ, ht, ha, h, hB => by
    obtain ⟨φ, rfl⟩ : ∃ m, φ = m + 1 := ⟨φ - 1, by omega⟩
    exact c_read_end hB.1 (by omega) ht ha h
  | f + 1, a, tr, φ, mv, n, s, hf, hφ, ht, ha, h, hB => by
    obtain ⟨φ, rfl⟩ : ∃ m, φ = m + 1 := ⟨φ - 1, by omega⟩
    have hL := hB.1
    have hn := h.1.n16
    by_cases c0 : L ≤ a
    · exact c_read_end hB.1 c0 ht ha h
    · rw [f_X8_read_30, if_neg (by rw [zI_le (by omega) (by omega) (by omega) (by omega)]; omega), if_neg (by rw [zI_le (by omega) (by omega) (by omega) (by omega)]; omega), h.1.2.1, zsuc]
      obtain ⟨t, t1, t2, t3⟩ := c_rw (k := n + 1) hB ha (by omega)
      have hT := h.kp t2 (by decide)
      have no : ¬ goA q B L mv n a = true → rdA q B L (f + 1) mv n a = ((mv, n), a) := fun g => by rw [rdA, if_neg (fun e => g e.2)]
      rw [t1, ob9, if10]
      dsimp only
      by_cases c1 : okA B L a (n + 1) = true
      · obtain ⟨x1, x2, x3⟩ := t3 c1
        have hcl : clA B L (nbA B L a (n + 1)) = true := by
          unfold okA at c1
          rw [Bool.and_eq_true] at c1
          exact c1.1
        have hcc := (of_decide_eq_true hcl : _ ∧ _ ∧ _)
        have hxl : xA B L a (n + 1) ≤ 3 := by unfold xA; omega
        have hyl : yA B L a (n + 1) ≤ 3 := by unfold yA; omega
        have hin := cl_in hcl
        have hnb := nb_ge B L a (n + 1)
        have hen := en_rng (B := B) 120 (nbA B L a (n + 1) + 2) (show nbA B L a (n + 1) + 2 ≤ L by omega)
        have hee : a + 2 ≤ eA B L a (n + 1) ∧ eA B L a (n + 1) ≤ L := by unfold eA; omega
        rw [if_pos c1, x1, x2, c_bitAt hT.1.1 (by omega) (by omega), ob9, Int.toNat_natCast, Int.toNat_natCast]
        by_cases c2 : xA B L a (n + 1) < cW q ∧ yA B L a (n + 1) < cH q
        · obtain ⟨hc, hp⟩ := p5_xy h.1.1.1 c2.1 c2.2
          have hxy : ((0 : Int) ≤ (xA B L a (n + 1) : Nat) ∧ ((xA B L a (n + 1) : Nat) : Int) < cW q) ∧ (0 : Int) ≤ (yA B L a (n + 1) : Nat) ∧ ((yA B L a (n + 1) : Nat) : Int) < cH q := by omega
          rw [if_pos hxy, ← hp]
          by_cases c3 : winF q mv n = 3 ∧ isMv q (posF mv n) (cW q * yA B L a (n + 1) + xA B L a (n + 1)) = true
          · have hpl : plF q mv n ((cdA q B L a (n + 1) : Nat) : Int) = true := by
              unfold plF cdA
              rw [decide_eq_true_eq, Int.toNat_natCast]
              exact ⟨c3.1, by omega, c3.2⟩
            have hgo : goA q B L mv n a = true := by
              unfold goA
              rw [c1, Bool.true_and, decide_eq_true_eq]
              exact ⟨c2.1, c2.2, hpl⟩
            have er : rdA q B L (f + 1) mv n a = rdA q B L f (mvS mv n (cdA q B L a (n + 1))) (n + 1) (min (eA B L a (n + 1) + 1) L) := by rw [rdA, if_pos ⟨by omega, hgo⟩]
            rw [er]
            obtain ⟨w, w1, w2, w3⟩ := c_set hT hc c3
            rw [w1, ob9, if_neg (show ¬ (1 : Int32) = 0 by decide)]
            show ∃ u, f_X8_read_30 φ w (zI L) (zI n0) (if zI (L : Int) < w.1 16 + 1 then zI (L : Int) else w.1 16 + 1) (zI (tr : Int) + 1) = _ ∧ _
            have e16 : w.1 16 = zI (eA B L a (n + 1) : Nat) := by rw [w3.1 16 (by decide)]; exact x3
            have emin : (if zI (L : Int) < w.1 16 + 1 then zI (L : Int) else w.1 16 + 1) = zI ((min (eA B L a (n + 1) + 1) L : Nat) : Int) := by
              rw [e16, zsuc]
              by_cases g : L < eA B L a (n + 1) + 1
              · rw [if_pos (by rw [zI_lt (by omega) (by omega) (by omega) (by omega)]; omega), Nat.min_eq_right (by omega)]
              · rw [if_neg (by rw [zI_lt (by omega) (by omega) (by omega) (by omega)]; omega), Nat.min_eq_left (by omega)]
            rw [emin, zsuc]
            exact c_read30 f (min (eA B L a (n + 1) + 1) L) (tr + 1) φ (mvS mv n (cdA q B L a (n + 1))) (n + 1) w (by omega) (by omega) (by omega) (by omega) w2 ((hB.kp t2 (by decide)).kp w3 (by decide))
          · have hgo : ¬ goA q B L mv n a = true := by
              unfold goA
              rw [c1, Bool.true_and, decide_eq_true_eq]
              rintro ⟨-, -, g⟩
              unfold plF cdA at g
              rw [decide_eq_true_eq, Int.toNat_natCast] at g
              exact c3 ⟨g.1, g.2.2⟩
            rw [no hgo, c_setNo hT (Or.inr ⟨_, hc, rfl, c3⟩), ob9, if_pos rfl]
            exact c_read_stop hT
        · have hgo : ¬ goA q B L mv n a = true := by
            unfold goA
            rw [c1, Bool.true_and, decide_eq_true_eq]
            rintro ⟨g1, g2, -⟩
            exact c2 ⟨g1, g2⟩
          have hxy : ¬ (((0 : Int) ≤ (xA B L a (n + 1) : Nat) ∧ ((xA B L a (n + 1) : Nat) : Int) < cW q) ∧ (0 : Int) ≤ (yA B L a (n + 1) : Nat) ∧ ((yA B L a (n + 1) : Nat) : Int) < cH q) := by omega
          rw [no hgo, if_neg hxy, c_setNo hT (Or.inl rfl), ob9, if_pos rfl]
          exact c_read_stop hT
      · have hgo : ¬ goA q B L mv n a = true := by
          unfold goA
          rw [Bool.and_eq_true]
          exact fun g => c1 g.1
        rw [if_neg c1, no hgo]
        exact c_read_stop hT
theorem c_read {q : Cfg} {mv : Nat → Nat} {n D m : Nat} {B : Nat → Nat} {s : gS} (h : Cj q mv n D s) (hB : TpC B m s) {a : Int} (ha : -2147483648 ≤ a ∧ a < 2147483648) : (0 ≤ a ∧ a ≤ m → ∃ u, f_X8_read s (zI a) = some (zI ((rdA q B a.toNat 120 mv n 0).1.2 - (n : Int)), u) ∧ Cj q (rdA q B a.toNat 120 mv n 0).1.1 (rdA q B a.toNat 120 mv n 0).1.2 D u ∧ u.1 12 = 0 ∧ u.1 13 = zI ((rdA q B a.toNat 120 mv n 0).2 : Nat)) ∧ (¬ (0 ≤ a ∧ a ≤ m) → f_X8_read s (zI a) = some (zI (-1), s)) := by
  have hm := hB.1
  obtain ⟨g, hg⟩ := gf_big
  unfold f_X8_read
  rw [hB.2.2.1]
  constructor
  · rintro ⟨h1, h2⟩
    rw [if_neg (by rw [zI_0, zI_lt (by omega) (by omega) (by omega) (by omega)]; omega), if_pos (by rw [zI_le (by omega) (by omega) (by omega) (by omega)]; omega), h.1.2.1]
    obtain ⟨L, rfl⟩ : ∃ L : Nat, a = (L : Int) := ⟨a.toNat, by omega⟩
    rw [Int.toNat_natCast]
    exact c_read30 (L := L) (n0 := n) 120 0 0 gφ mv n s (by omega) (by omega) (by omega) (by omega) h ⟨by omega, hB.2.1, fun j hj => hB.2.2.2 j (by omega)⟩
  · intro hn
    by_cases c : a < 0
    · rw [if_pos (by rw [zI_0, zI_lt (by omega) (by omega) (by omega) (by omega)]; omega), zI_m1]
    · rw [if_neg (by rw [zI_0, zI_lt (by omega) (by omega) (by omega) (by omega)]; omega), if_neg (by rw [zI_le (by omega) (by omega) (by omega) (by omega)]; omega), zI_m1]
