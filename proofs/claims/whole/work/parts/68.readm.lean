/-! TO READ: the model -/
def BM (B : Nat → Nat) (L : Nat) (s : gS) : Prop := s.1 33 = zI L ∧ L ≤ 120 ∧ (∀ j, B j < 256) ∧ ∀ j, j < L → s.2 32 j &&& 255 = zI (B j)
theorem BM.kp {B : Nat → Nat} {L : Nat} {s t : gS} {ks as : List Nat} (h : BM B L s) (hk : Kp ks as s t) (hd : 33 ∉ ks ∧ 32 ∉ as) : BM B L t := ⟨(hk.1 _ hd.1).trans h.1, h.2.1, h.2.2.1, fun j hj => by rw [hk.2 _ hd.2]; exact h.2.2.2 j hj⟩
theorem m_sgn {B : Nat → Nat} {L i : Nat} {s : gS} (h : BM B L s) (hi : i ≤ 1000) : f_X9_sign s (zI i) = some (zI (sgF B L i : Nat)) := by
  have hL := h.2.1
  unfold f_X9_sign sgF
  rw [h.1]
  by_cases g : i < L
  · rw [if_neg (by rw [zI_le (by omega) (by omega) (by omega) (by omega)]; omega), if_pos (zin (by omega) (by omega)), zcl (by omega), h.2.2.2 i g, if_pos g]
  · rw [if_pos (by rw [zI_le (by omega) (by omega) (by omega) (by omega)]; omega), if_neg g]
    rfl
theorem sg_eq {B : Nat → Nat} (hB : ∀ j, B j < 256) {L i : Nat} (k : Nat) (hk : k < 256) : (zI (sgF B L i : Nat) = zI (k : Int)) ↔ sgF B L i = k := by
  have r := sg_lt hB L i
  rw [zI_eq (by omega) (by omega) (by omega) (by omega)]
  omega
theorem m_dig {B : Nat → Nat} {L i : Nat} (hB : ∀ j, B j < 256) : f_X9_isDigit (zI (sgF B L i : Nat)) = some (if dtA B L i = true then 1 else 0) := by
  have r := sg_lt hB L i
  unfold f_X9_isDigit dtA
  by_cases c1 : sgF B L i < 48
  · rw [if_pos (by rw [zI_48, zI_lt (by omega) (by omega) (by omega) (by omega)]; omega), if_neg (by rw [decide_eq_true_eq]; omega)]
  · rw [if_neg (by rw [zI_48, zI_lt (by omega) (by omega) (by omega) (by omega)]; omega)]
    by_cases c2 : 57 < sgF B L i
    · rw [if_pos (by rw [zI_57, zI_lt (by omega) (by omega) (by omega) (by omega)]; omega), if_neg (by rw [decide_eq_true_eq]; omega)]
    · rw [if_neg (by rw [zI_57, zI_lt (by omega) (by omega) (by omega) (by omega)]; omega), if_pos (by rw [decide_eq_true_eq]; omega)]
theorem m_cellA {B : Nat → Nat} {L i : Nat} {s : gS} (h : BM B L s) (hi : i ≤ 999) : f_X9_isCellAt s (zI i) = some (if clA B L i = true then 1 else 0) := by
  have r := sg_lt h.2.2.1 L i
  have r2 := sg_lt h.2.2.1 L (i + 1)
  unfold f_X9_isCellAt clA
  rw [m_sgn h (by omega), ob9, ob9, zsuc, m_sgn h (by omega), ob9, ob9]
  by_cases c1 : sgF B L i < 97
  · rw [if_pos (by rw [zI_97, zI_lt (by omega) (by omega) (by omega) (by omega)]; omega), if_neg (by rw [decide_eq_true_eq]; omega)]
  · rw [if_neg (by rw [zI_97, zI_lt (by omega) (by omega) (by omega) (by omega)]; omega)]
    by_cases c2 : 100 < sgF B L i
    · rw [if_pos (by rw [zI_100, zI_lt (by omega) (by omega) (by omega) (by omega)]; omega), if_neg (by rw [decide_eq_true_eq]; omega)]
    · rw [if_neg (by rw [zI_100, zI_lt (by omega) (by omega) (by omega) (by omega)]; omega)]
      by_cases c3 : sgF B L (i + 1) < 49
      · rw [if_pos (by rw [zI_49, zI_lt (by omega) (by omega) (by omega) (by omega)]; omega), if_neg (by rw [decide_eq_true_eq]; omega)]
      · rw [if_neg (by rw [zI_49, zI_lt (by omega) (by omega) (by omega) (by omega)]; omega)]
        by_cases c4 : 52 < sgF B L (i + 1)
        · rw [if_pos (by rw [zI_52, zI_lt (by omega) (by omega) (by omega) (by omega)]; omega), if_neg (by rw [decide_eq_true_eq]; omega)]
        · rw [if_neg (by rw [zI_52, zI_lt (by omega) (by omega) (by omega) (by omega)]; omega), if_pos (by rw [decide_eq_true_eq]; omega)]
theorem m_num59 {B : Nat → Nat} {L p k : Nat} {s : gS} (h : BM B L s) (h32 : s.1 32 = zI p) (hp : p ≤ 500) (hk : k < 100) : f_X9_readsNumber_59 s (zI k) = if sgF B L p = 48 + k % 10 ∧ sgF B L (p + 1) = 46 then some (1, ss s 32 (zI ((p + 2 : Nat) : Int))) else some (0, s) := by
  have b1 := sg_eq h.2.2.1 (L := L) (i := p) (48 + k % 10) (by omega)
  have b2 : zI (sgF B L (p + 1) : Nat) = zI 46 ↔ sgF B L (p + 1) = 46 := sg_eq h.2.2.1 46 (by omega)
  unfold f_X9_readsNumber_59
  rw [h32, m_sgn h (by omega), ob9, zsuc, m_sgn h (by omega), ob9, zrem10 hk, z48, zI_46, zp2]
  by_cases c1 : sgF B L p = 48 + k % 10
  · rw [if_pos (b1.2 c1)]
    by_cases c2 : sgF B L (p + 1) = 46
    · rw [if_pos (b2.2 c2), if_pos ⟨c1, c2⟩]
    · rw [if_neg (fun g => c2 (b2.1 g)), if_neg (fun g => c2 g.2)]
  · rw [if_neg (fun g => c1 (b1.1 g)), if_neg (fun g => c1 g.1)]
theorem dt_cl {B : Nat → Nat} {L a : Nat} (h : dtA B L a = true) : clA B L a = false := by
  have h1 := (of_decide_eq_true h : _ ∧ _)
  unfold clA
  exact decide_eq_false (by omega)
theorem m_rnum {B : Nat → Nat} {L a n : Nat} {s : gS} (h : BM B L s) (h32 : s.1 32 = zI a) (h23 : s.1 23 = zI n) (ha : a ≤ 400) (hn : n ≤ 16) : ∃ r u, f_X9_readsNumber s = some (r, u) ∧ ((r = 1 ∧ u.1 32 = zI (nbA B L a (n + 1) : Nat)) ∨ (r = 0 ∧ clA B L (nbA B L a (n + 1)) = false)) := by
  unfold f_X9_readsNumber
  rw [h32, m_sgn h (by omega), ob9, m_dig h.2.2.1, ob9, if10, h23, zsuc, ob9, zquo10 (by omega), z48, zsuc]
  have b1 := sg_eq h.2.2.1 (L := L) (i := a) (48 + (n + 1) / 10) (by omega)
  by_cases c0 : dtA B L a = true
  · rw [if_pos c0]
    have hcl := dt_cl c0
    by_cases c1 : n + 1 < 10
    · rw [if_pos (by rw [zI_10, zI_lt (by omega) (by omega) (by omega) (by omega)]; omega), m_num59 h h32 (by omega) (by omega)]
      by_cases c2 : sgF B L a = 48 + (n + 1) % 10 ∧ sgF B L (a + 1) = 46
      · have e : nbA B L a (n + 1) = a + 2 := by unfold nbA; rw [if_pos c1, if_pos c2]
        rw [if_pos c2, e]
        exact ⟨1, _, rfl, Or.inl ⟨rfl, rfl⟩⟩
      · have e : nbA B L a (n + 1) = a := by unfold nbA; rw [if_pos c1, if_neg c2]
        rw [if_neg c2, e]
        exact ⟨0, _, rfl, Or.inr ⟨rfl, hcl⟩⟩
    · rw [if_neg (by rw [zI_10, zI_lt (by omega) (by omega) (by omega) (by omega)]; omega)]
      by_cases c2 : sgF B L a = 48 + (n + 1) / 10
      · have k1 : Kp [32] [] s (ss s 32 (zI ((a + 1 : Nat) : Int))) := Kp.rf.ss (by decide)
        rw [if_pos (b1.2 c2), m_num59 (p := a + 1) (h.kp k1 (by decide)) rfl (by omega) (by omega)]
        by_cases c3 : sgF B L (a + 1) = 48 + (n + 1) % 10 ∧ sgF B L (a + 1 + 1) = 46
        · have e : nbA B L a (n + 1) = a + 3 := by unfold nbA; rw [if_neg c1, if_pos c2, if_pos c3]
          rw [if_pos c3, e]
          exact ⟨1, _, rfl, Or.inl ⟨rfl, rfl⟩⟩
        · have e : nbA B L a (n + 1) = a := by unfold nbA; rw [if_neg c1, if_pos c2, if_neg c3]
          rw [if_neg c3, e]
          exact ⟨0, _, rfl, Or.inr ⟨rfl, hcl⟩⟩
      · have e : nbA B L a (n + 1) = a := by unfold nbA; rw [if_neg c1, if_neg c2]
        rw [if_neg (fun g => c2 (b1.1 g)), e]
        exact ⟨0, _, rfl, Or.inr ⟨rfl, hcl⟩⟩
  · rw [if_neg c0]
    have c9 : ¬ (48 ≤ sgF B L a ∧ sgF B L a ≤ 57) := fun g => c0 (decide_eq_true g)
    have e : nbA B L a (n + 1) = a := by
      unfold nbA
      by_cases c1 : n + 1 < 10
      · rw [if_pos c1, if_neg (by omega)]
      · rw [if_neg c1, if_neg (by omega)]
    rw [e]
    exact ⟨1, s, rfl, Or.inl ⟨rfl, h32⟩⟩
theorem m_sg_end {B : Nat → Nat} {L i φ : Nat} {s : gS} (h : BM B L s) (h32 : s.1 32 = zI i) (hi : i ≤ L) (hc : ¬ (sgF B L i = 33 ∨ sgF B L i = 35 ∨ sgF B L i = 61 ∨ sgF B L i = 63 ∨ sgF B L i = 42 ∨ sgF B L i = 43)) : f_X9_readsSigns_2 (φ + 1 + 1) s 1 = some (1, s) := by
  have hL := h.2.1
  have b33 : zI (sgF B L i : Nat) = zI 33 ↔ sgF B L i = 33 := sg_eq h.2.2.1 33 (by omega)
  have b35 : zI (sgF B L i : Nat) = zI 35 ↔ sgF B L i = 35 := sg_eq h.2.2.1 35 (by omega)
  have b42 : zI (sgF B L i : Nat) = zI 42 ↔ sgF B L i = 42 := sg_eq h.2.2.1 42 (by omega)
  have b43 : zI (sgF B L i : Nat) = zI 43 ↔ sgF B L i = 43 := sg_eq h.2.2.1 43 (by omega)
  have b61 : zI (sgF B L i : Nat) = zI 61 ↔ sgF B L i = 61 := sg_eq h.2.2.1 61 (by omega)
  have b63 : zI (sgF B L i : Nat) = zI 63 ↔ sgF B L i = 63 := sg_eq h.2.2.1 63 (by omega)
  rw [f_X9_readsSigns_2, if_neg (by decide), h32, m_sgn h (by omega), ob9, zI_33, zI_35, zI_42, zI_43, zI_61, zI_63, if_neg (fun g => by have := b35.1 g; omega), if_neg (fun g => by have := b43.1 g; omega), if_neg (fun g => by have := b33.1 g; omega), if_neg (fun g => by have := b63.1 g; omega), if_neg (fun g => by have := b42.1 g; omega), if_neg (fun g => by have := b61.1 g; omega)]
  unfold f_X9_readsSigns_56
  rw [if_pos rfl, f_X9_readsSigns_2, if_pos rfl]
theorem m_sg2 {B : Nat → Nat} {L : Nat} : ∀ (f i φ : Nat) (s : gS), L ≤ i + f → i ≤ L → f + 1 < φ → BM B L s → s.1 32 = zI i → ∃ r u, f_X9_readsSigns_2 φ s 1 = some (r, u) ∧ ((r = 1 ∧ u.1 32 = zI (enA B L f i : Nat)) ∨ (r = 0 ∧ (sgF B L (enA B L f i) = 42 ∨ sgF B L (enA B L f i) = 43)))
  | 0, i, φ, s, hf, hi, hφ, h, h32 => by
    obtain ⟨φ, rfl⟩ : ∃ m, φ = m + 1 + 1 := ⟨φ - 2, by omega⟩
    have e0 : sgF B L i = 0 := by unfold sgF; rw [if_neg (by omega)]
    exact ⟨1, s, m_sg_end h h32 hi (by omega), Or.inl ⟨rfl, h32⟩⟩
  | f + 1, i, φ, s, hf, hi, hφ, h, h32 => by
    obtain ⟨φ, rfl⟩ : ∃ m, φ = m + 1 + 1 := ⟨φ - 2, by omega⟩
    have hL := h.2.1
    have hr := nx_rng (B := B) hi
    have b33 : zI (sgF B L i : Nat) = zI 33 ↔ sgF B L i = 33 := sg_eq h.2.2.1 33 (by omega)
    have b35 : zI (sgF B L i : Nat) = zI 35 ↔ sgF B L i = 35 := sg_eq h.2.2.1 35 (by omega)
    have b42 : zI (sgF B L i : Nat) = zI 42 ↔ sgF B L i = 42 := sg_eq h.2.2.1 42 (by omega)
    have b43 : zI (sgF B L i : Nat) = zI 43 ↔ sgF B L i = 43 := sg_eq h.2.2.1 43 (by omega)
    have b61 : zI (sgF B L i : Nat) = zI 61 ↔ sgF B L i = 61 := sg_eq h.2.2.1 61 (by omega)
    have b63 : zI (sgF B L i : Nat) = zI 63 ↔ sgF B L i = 63 := sg_eq h.2.2.1 63 (by omega)
    by_cases cc : sgF B L i = 33 ∨ sgF B L i = 35 ∨ sgF B L i = 61 ∨ sgF B L i = 63 ∨ sgF B L i = 42 ∨ sgF B L i = 43
    · have hin := sg_in (B := B) (L := L) (i := i) (by omega)
      have e51 : f_X9_readsSigns_2 (φ + 1 + 1) s 1 = f_X9_readsSigns_51 (f_X9_readsSigns_2 (φ + 1)) s (zI (sgF B L i : Nat)) := by
        rw [f_X9_readsSigns_2, if_neg (by decide), h32, m_sgn h (by omega), ob9, zI_33, zI_35, zI_42, zI_43, zI_61, zI_63]
        by_cases d1 : sgF B L i = 35
        · rw [if_pos (b35.2 d1)]
        · rw [if_neg (fun g => d1 (b35.1 g))]
          by_cases d2 : sgF B L i = 43
          · rw [if_pos (b43.2 d2)]
          · rw [if_neg (fun g => d2 (b43.1 g))]
            by_cases d3 : sgF B L i = 33
            · rw [if_pos (b33.2 d3)]
            · rw [if_neg (fun g => d3 (b33.1 g))]
              by_cases d4 : sgF B L i = 63
              · rw [if_pos (b63.2 d4)]
              · rw [if_neg (fun g => d4 (b63.1 g))]
                by_cases d5 : sgF B L i = 42
                · rw [if_pos (b42.2 d5)]
                · rw [if_neg (fun g => d5 (b42.1 g)), if_pos (b61.2 (by omega))]
      have k1 : Kp [32] [] s (ss s 32 (zI ((i + 1 : Nat) : Int))) := Kp.rf.ss (by decide)
      have h1 := h.kp k1 (by decide)
      rw [e51]
      unfold f_X9_readsSigns_51 f_X9_readsSigns_56 f_X9_readsSigns_122 f_X9_readsSigns_158
      rw [if_neg (by decide), h32, zsuc, m_sgn h1 (by omega), ob9, m_dig h.2.2.1, ob9, if10, zsuc, m_sgn h1 (by omega), ob9, m_dig h.2.2.1, ob9, if10, m_cellA h1 (by omega), ob9, if10, zp2, zI_42, zI_43]
      by_cases d2 : sgF B L i = 43
      · rw [if_pos (b43.2 d2)]
        by_cases d3 : dtA B L (i + 1) = true
        · rw [if_pos d3]
          by_cases d4 : dtA B L (i + 1 + 1) = true
          · have en : nxA B L i = i + 3 := by unfold nxA; rw [if_neg (by omega), if_neg (by omega), if_pos d2, if_pos d3, if_pos d4]
            have ee : enA B L (f + 1) i = enA B L f (i + 3) := by rw [enA, en, if_neg (by omega)]
            rw [if_pos d4, ee]
            exact m_sg2 f (i + 3) (φ + 1) _ (by omega) (by omega) (by omega) (h1.kp (Kp.rf.ss (ks := [32]) (as := []) (by decide)) (by decide)) rfl
          · have en : nxA B L i = i + 2 := by unfold nxA; rw [if_neg (by omega), if_neg (by omega), if_pos d2, if_pos d3, if_neg d4]
            have ee : enA B L (f + 1) i = enA B L f (i + 2) := by rw [enA, en, if_neg (by omega)]
            rw [if_neg d4, ee]
            exact m_sg2 f (i + 2) (φ + 1) _ (by omega) (by omega) (by omega) (h1.kp (Kp.rf.ss (ks := [32]) (as := []) (by decide)) (by decide)) rfl
        · have en : nxA B L i = i := by unfold nxA; rw [if_neg (by omega), if_neg (by omega), if_pos d2, if_neg d3]
          have ee : enA B L (f + 1) i = i := by rw [enA, if_pos en]
          rw [if_neg d3, ee]
          exact ⟨0, _, rfl, Or.inr ⟨rfl, Or.inr d2⟩⟩
      · rw [if_neg (fun g => d2 (b43.1 g))]
        by_cases d3 : sgF B L i = 42
        · rw [if_pos (b42.2 d3)]
          by_cases d4 : clA B L (i + 1) = true
          · have en : nxA B L i = i + 3 := by unfold nxA; rw [if_neg (by omega), if_pos d3, if_pos d4]
            have ee : enA B L (f + 1) i = enA B L f (i + 3) := by rw [enA, en, if_neg (by omega)]
            rw [if_pos d4, ee]
            exact m_sg2 f (i + 3) (φ + 1) _ (by omega) (by omega) (by omega) (h1.kp (Kp.rf.ss (ks := [32]) (as := []) (by decide)) (by decide)) rfl
          · have en : nxA B L i = i := by unfold nxA; rw [if_neg (by omega), if_pos d3, if_neg d4]
            have ee : enA B L (f + 1) i = i := by rw [enA, if_pos en]
            rw [if_neg d4, ee]
            exact ⟨0, _, rfl, Or.inr ⟨rfl, Or.inl d3⟩⟩
        · have en : nxA B L i = i + 1 := by unfold nxA; rw [if_pos (by omega)]
          have ee : enA B L (f + 1) i = enA B L f (i + 1) := by rw [enA, en, if_neg (by omega)]
          rw [if_neg (fun g => d3 (b42.1 g)), ee]
          exact m_sg2 f (i + 1) (φ + 1) _ (by omega) (by omega) (by omega) h1 rfl
    · have en : nxA B L i = i := by unfold nxA; rw [if_neg (by omega), if_neg (by omega), if_neg (by omega)]
      have ee : enA B L (f + 1) i = i := by rw [enA, if_pos en]
      rw [ee]
      exact ⟨1, s, m_sg_end h h32 hi cc, Or.inl ⟨rfl, h32⟩⟩
theorem go_parts {q : Cfg} {B : Nat → Nat} {L n a : Nat} {mv : Nat → Nat} : goA q B L mv n a = true ↔ clA B L (nbA B L a (n + 1)) = true ∧ (eA B L a (n + 1) = L ∨ sgF B L (eA B L a (n + 1)) = 32) ∧ xA B L a (n + 1) < cW q ∧ yA B L a (n + 1) < cH q ∧ plF q mv n ((cdA q B L a (n + 1) : Nat) : Int) = true := by
  unfold goA okA
  simp only [Bool.and_eq_true, Bool.or_eq_true, decide_eq_true_eq]
  constructor
  · rintro ⟨⟨h1, h2⟩, h3⟩
    exact ⟨h1, h2, h3⟩
  · rintro ⟨h1, h2, h3⟩
    exact ⟨⟨h1, h2⟩, h3⟩
theorem m_rm89 {q : Cfg} {mv : Nat → Nat} {n D x y : Nat} {s : gS} (h : MG q mv n D s) (hx : x ≤ 3) (hy : y ≤ 3) : ∃ r u, f_X9_readsMove_89 s (zI x) (zI y) = some (r, u) ∧ ((x < cW q ∧ y < cH q ∧ plF q mv n ((cW q * y + x : Nat) : Int) = true) → r = 1 ∧ MG q (mvS mv n (cW q * y + x)) (n + 1) D u) ∧ (¬ (x < cW q ∧ y < cH q ∧ plF q mv n ((cW q * y + x : Nat) : Int) = true) → r = 0 ∧ MG q mv n D u) ∧ Kp [23, 27, 28] [20, 22, 27] s u := by
  obtain ⟨q1, q2, q3, q4, -⟩ := id h.1.1
  have hn := okM_n h.1.2.2.2.1
  have hN := okC_n h.1.1
  have hxy : cW q * y ≤ 4 * 3 := Nat.mul_le_mul q2 hy
  unfold f_X9_readsMove_89
  rw [h.1.2.1.1, h.1.2.1.2.1]
  by_cases c1 : x < cW q
  · rw [if_neg (by rw [zI_le (by omega) (by omega) (by omega) (by omega)]; omega)]
    by_cases c2 : y < cH q
    · have e : zI (cW q : Int) * zI (y : Int) + zI (x : Int) = zI ((cW q * y + x : Nat) : Int) := by
        rw [zI_mul, zI_add]
        refine zI_c ?_
        rw [Int.natCast_add, Int.natCast_mul]
      obtain ⟨u, u1, u2, u3, u4⟩ := m_play h.1 h.2 (a := ((cW q * y + x : Nat) : Int)) (by omega)
      rw [if_pos (by rw [zI_lt (by omega) (by omega) (by omega) (by omega)]; omega), e, u1, ob9]
      by_cases c3 : plF q mv n ((cW q * y + x : Nat) : Int) = true
      · refine ⟨1, u, ?_, fun _ => ⟨rfl, ?_⟩, fun g => absurd ⟨c1, c2, c3⟩ g, u4⟩
        · rw [if_pos c3, if_neg (by rw [zI_m1]; show ¬ zI ((n : Int) + 1) = zI (-1); rw [zI_eq (by omega) (by omega) (by omega) (by omega)]; omega)]
        · have := u2 c3
          rw [Int.toNat_natCast] at this
          exact this
      · refine ⟨0, u, ?_, fun g => absurd g.2.2 c3, fun _ => ⟨rfl, ?_⟩, u4⟩
        · rw [if_neg c3, if_pos zI_m1.symm]
        · refine u3 ?_
          cases g : plF q mv n ((cW q * y + x : Nat) : Int) with
          | false => rfl
          | true => exact absurd g c3
    · rw [if_neg (by rw [zI_lt (by omega) (by omega) (by omega) (by omega)]; omega)]
      exact ⟨0, s, rfl, fun g => absurd g.2.1 c2, fun _ => ⟨rfl, h⟩, Kp.rf⟩
  · rw [if_pos (by rw [zI_le (by omega) (by omega) (by omega) (by omega)]; omega)]
    exact ⟨0, s, rfl, fun g => absurd g.1 c1, fun _ => ⟨rfl, h⟩, Kp.rf⟩
theorem m_rm {q : Cfg} {mv : Nat → Nat} {n D a L : Nat} {B : Nat → Nat} {s : gS} (h : MG q mv n D s) (hB : BM B L s) (h32 : s.1 32 = zI a) (ha : a ≤ L) : ∃ r u, f_X9_readsMove s = some (r, u) ∧ (goA q B L mv n a = true → r = 1 ∧ MG q (mvS mv n (cdA q B L a (n + 1))) (n + 1) D u ∧ u.1 32 = zI (eA B L a (n + 1) : Nat)) ∧ (¬ goA q B L mv n a = true → r = 0 ∧ MG q mv n D u) := by
  have hL := hB.2.1
  have hn := okM_n h.1.2.2.2.1
  have hN := okC_n h.1.1
  have hnb := nb_ge B L a (n + 1)
  unfold f_X9_readsMove
  obtain ⟨r, t, t1, t2⟩ := m_rnum hB h32 h.1.2.2.1 (by omega) (by omega)
  have kt : Kp [32] [] s t := fr_X9_readsNumber _ _ t1
  have hT := h.kp kt (by decide)
  have hBT := hB.kp kt (by decide)
  rw [t1, ob9]
  dsimp only
  rcases t2 with ⟨rfl, t2⟩ | ⟨rfl, t2⟩
  · rw [if_neg (by decide), t2, m_cellA hBT (by omega), ob9, if10]
    by_cases c1 : clA B L (nbA B L a (n + 1)) = true
    · have hin := cl_in c1
      have hcc := (of_decide_eq_true c1 : _ ∧ _ ∧ _)
      have hxl : xA B L a (n + 1) ≤ 3 := by unfold xA; omega
      have hyl : yA B L a (n + 1) ≤ 3 := by unfold yA; omega
      have ex : zI (sgF B L (nbA B L a (n + 1)) : Nat) - 97 = zI (xA B L a (n + 1) : Nat) := by
        rw [zI_97, zI_sub]
        unfold xA
        exact zI_c (by omega)
      have ey : zI (sgF B L (nbA B L a (n + 1) + 1) : Nat) - 49 = zI (yA B L a (n + 1) : Nat) := by
        rw [zI_49, zI_sub]
        unfold yA
        exact zI_c (by omega)
      rw [if_pos c1, m_sgn hBT (by omega), ob9, zsuc, m_sgn hBT (by omega), ob9, zp2, ex, ey]
      have k2 : Kp [32] [] t (ss t 32 (zI ((nbA B L a (n + 1) + 2 : Nat) : Int))) := Kp.rf.ss (by decide)
      obtain ⟨g, hg⟩ := gf_big
      obtain ⟨r2, w, w1, w2⟩ := m_sg2 (B := B) (L := L) 120 (nbA B L a (n + 1) + 2) gφ (ss t 32 (zI ((nbA B L a (n + 1) + 2 : Nat) : Int))) (by omega) (by omega) (by omega) (hBT.kp k2 (by decide)) rfl
      have kw : Kp [32] [] (ss t 32 (zI ((nbA B L a (n + 1) + 2 : Nat) : Int))) w := fr_X9_readsSigns _ (r2, w) w1
      have hW := (hT.kp k2 (by decide)).kp kw (by decide)
      have hBW := (hBT.kp k2 (by decide)).kp kw (by decide)
      have hen := en_rng (B := B) 120 (nbA B L a (n + 1) + 2) (show nbA B L a (n + 1) + 2 ≤ L by omega)
      have e1 : f_X9_readsSigns (ss t 32 (zI ((nbA B L a (n + 1) + 2 : Nat) : Int))) = some (r2, w) := w1
      rw [e1, ob9]
      dsimp only
      rcases w2 with ⟨rfl, w2⟩ | ⟨rfl, w2⟩
      · rw [if_neg (by decide), hBW.1, w2, m_sgn hBW (by omega), ob9, zI_32]
        have b32 : zI (sgF B L (enA B L 120 (nbA B L a (n + 1) + 2)) : Nat) = zI 32 ↔ sgF B L (enA B L 120 (nbA B L a (n + 1) + 2)) = 32 := sg_eq hB.2.2.1 32 (by omega)
        have fin : (eA B L a (n + 1) = L ∨ sgF B L (eA B L a (n + 1)) = 32) → ∃ r u, f_X9_readsMove_89 w (zI (xA B L a (n + 1) : Nat)) (zI (yA B L a (n + 1) : Nat)) = some (r, u) ∧ (goA q B L mv n a = true → r = 1 ∧ MG q (mvS mv n (cdA q B L a (n + 1))) (n + 1) D u ∧ u.1 32 = zI (eA B L a (n + 1) : Nat)) ∧ (¬ goA q B L mv n a = true → r = 0 ∧ MG q mv n D u) := fun he => by
          obtain ⟨r3, u, u1, u2, u3, u4⟩ := m_rm89 hW hxl hyl
          refine ⟨r3, u, u1, fun g => ?_, fun g => ?_⟩
          · have g2 := (go_parts.1 g).2.2
            obtain ⟨v1, v2⟩ := u2 g2
            exact ⟨v1, v2, by rw [u4.1 32 (by decide)]; exact w2⟩
          · exact u3 (fun g2 => g (go_parts.2 ⟨c1, he, g2⟩))
        by_cases c2 : enA B L 120 (nbA B L a (n + 1) + 2) = L
        · rw [if_pos (by rw [zI_le (by omega) (by omega) (by omega) (by omega)]; omega)]
          exact fin (Or.inl c2)
        · rw [if_neg (by rw [zI_le (by omega) (by omega) (by omega) (by omega)]; omega)]
          by_cases c3 : sgF B L (enA B L 120 (nbA B L a (n + 1) + 2)) = 32
          · rw [if_pos (b32.2 c3)]
            exact fin (Or.inr c3)
          · rw [if_neg (fun g => c3 (b32.1 g))]
            refine ⟨0, w, rfl, fun g => ?_, fun _ => ⟨rfl, hW⟩⟩
            rcases (go_parts.1 g).2.1 with g2 | g2
            · exact absurd g2 c2
            · exact absurd g2 c3
      · rw [if_pos rfl]
        refine ⟨0, w, rfl, fun g => ?_, fun _ => ⟨rfl, hW⟩⟩
        have w3 := sg_in (B := B) (L := L) (i := enA B L 120 (nbA B L a (n + 1) + 2)) (by omega)
        rcases (go_parts.1 g).2.1 with g2 | g2
        · unfold eA at g2
          omega
        · unfold eA at g2
          omega
    · rw [if_neg c1]
      exact ⟨0, t, rfl, fun g => absurd (go_parts.1 g).1 c1, fun _ => ⟨rfl, hT⟩⟩
  · rw [if_pos rfl]
    refine ⟨0, t, rfl, fun g => ?_, fun _ => ⟨rfl, hT⟩⟩
    have := (go_parts.1 g).1
    rw [t2] at this
    cases this
theorem go_rng {q : Cfg} {B : Nat → Nat} {L n a : Nat} {mv : Nat → Nat} (h : goA q B L mv n a = true) : a < L ∧ a + 2 ≤ eA B L a (n + 1) ∧ eA B L a (n + 1) ≤ L := by
  have h1 := cl_in (go_parts.1 h).1
  have h2 := nb_ge B L a (n + 1)
  have h3 := en_rng (B := B) 120 (nbA B L a (n + 1) + 2) (show nbA B L a (n + 1) + 2 ≤ L by omega)
  unfold eA
  omega
theorem rd_no {q : Cfg} {B : Nat → Nat} {L f n a : Nat} {mv : Nat → Nat} (h : ¬ goA q B L mv n a = true) : rdA q B L f mv n a = ((mv, n), a) := by
  cases f with
  | zero => rfl
  | succ f => rw [rdA, if_neg (fun g => h g.2)]
theorem rd_L {q : Cfg} {B : Nat → Nat} {L f n : Nat} {mv : Nat → Nat} : rdA q B L f mv n L = ((mv, n), L) := by
  cases f with
  | zero => rfl
  | succ f => rw [rdA, if_neg (fun g => by omega)]
theorem m_read41 {q : Cfg} {D L : Nat} {B : Nat → Nat} {n0 : Nat} : ∀ (f a φ : Nat) (mv : Nat → Nat) (n : Nat) (s : gS), L ≤ a + f → f + 2 < φ → a ≤ L → MG q mv n D s → BM B L s → s.1 32 = zI a → s.1 34 = zI a → ∃ u, f_X9_read_41 φ s (zI ((n : Int) - (n0 : Int))) 1 = some (zI ((rdA q B L f mv n a).1.2 - (n0 : Int)), u) ∧ MG q (rdA q B L f mv n a).1.1 (rdA q B L f mv n a).1.2 D u ∧ u.1 31 = 0 ∧ u.1 34 = zI ((rdA q B L f mv n a).2 : Nat)
  | 0, a, φ, mv, n, s, hf, hφ, ha, h, hB, h32, h34 => by
    obtain ⟨φ, rfl⟩ : ∃ m, φ = m + 1 + 1 := ⟨φ - 2, by omega⟩
    obtain ⟨r, t, t1, t2, t3⟩ := m_rm h hB h32 ha
    have kt : Kp [23, 27, 28, 32] [20, 22, 27] s t := fr_X9_readsMove _ _ t1
    rw [f_X9_read_41, if_neg (by decide), t1, ob9]
    dsimp only
    have go : ¬ goA q B L mv n a = true := fun g => by
      have := (go_rng g).1
      omega
    obtain ⟨rfl, hT⟩ := t3 go
    rw [if_pos rfl, rd_no go, f_X9_read_41, if_pos rfl]
    have k3 : Kp [31] [] t (ss t 31 0) := Kp.rf.ss (by decide)
    refine ⟨ss t 31 0, rfl, hT.kp k3 (by decide), rfl, ?_⟩
    rw [k3.1 34 (by decide), kt.1 34 (by decide)]
    exact h34
  | f + 1, a, φ, mv, n, s, hf, hφ, ha, h, hB, h32, h34 => by
    obtain ⟨φ, rfl⟩ : ∃ m, φ = m + 1 + 1 := ⟨φ - 2, by omega⟩
    have hL := hB.2.1
    obtain ⟨r, t, t1, t2, t3⟩ := m_rm h hB h32 ha
    have kt : Kp [23, 27, 28, 32] [20, 22, 27] s t := fr_X9_readsMove _ _ t1
    have hBT := hB.kp kt (by decide)
    rw [f_X9_read_41, if_neg (by decide), t1, ob9]
    dsimp only
    by_cases go : goA q B L mv n a = true
    · obtain ⟨rfl, hT, e32⟩ := t2 go
      obtain ⟨g1, g2, g3⟩ := go_rng go
      rw [if_neg (by decide), hBT.1, e32]
      unfold f_X9_read_86 f_X9_read_105
      rw [hBT.1, e32, zsuc]
      have en : zI ((n : Int) - (n0 : Int)) + 1 = zI (((n + 1 : Nat) : Int) - (n0 : Int)) := by
        rw [zI_1, zI_add]
        exact zI_c (by omega)
      rw [en]
      have er : rdA q B L (f + 1) mv n a = rdA q B L f (mvS mv n (cdA q B L a (n + 1))) (n + 1) (min (eA B L a (n + 1) + 1) L) := by rw [rdA, if_pos ⟨g1, go⟩]
      rw [er]
      by_cases c1 : eA B L a (n + 1) = L
      · rw [if_pos (by rw [zI_le (by omega) (by omega) (by omega) (by omega)]; omega), if_pos (by rw [zI_le (by omega) (by omega) (by omega) (by omega)]; omega), Nat.min_eq_right (by omega), rd_L, f_X9_read_41, if_pos rfl]
        refine ⟨_, rfl, ?_, rfl, rfl⟩
        exact hT.kp (ks := [31, 32, 34]) (as := []) (((Kp.rf.ss (by decide)).ss (by decide)).ss (by decide)) (by decide)
      · rw [if_neg (by rw [zI_le (by omega) (by omega) (by omega) (by omega)]; omega), if_neg (by rw [zI_le (by omega) (by omega) (by omega) (by omega)]; omega), Nat.min_eq_left (by omega)]
        show ∃ u, f_X9_read_41 (φ + 1) (ss (ss t 34 (zI ((eA B L a (n + 1) + 1 : Nat) : Int))) 32 (t.1 32 + 1)) (zI (((n + 1 : Nat) : Int) - (n0 : Int))) 1 = _ ∧ _
        rw [e32, zsuc]
        have k3 : Kp [32, 34] [] t (ss (ss t 34 (zI ((eA B L a (n + 1) + 1 : Nat) : Int))) 32 (zI ((eA B L a (n + 1) + 1 : Nat) : Int))) := (Kp.rf.ss (by decide)).ss (by decide)
        exact m_read41 f (eA B L a (n + 1) + 1) (φ + 1) (mvS mv n (cdA q B L a (n + 1))) (n + 1) _ (by omega) (by omega) (by omega) (hT.kp k3 (by decide)) (hBT.kp k3 (by decide)) rfl rfl
    · obtain ⟨rfl, hT⟩ := t3 go
      rw [if_pos rfl, rd_no go, f_X9_read_41, if_pos rfl]
      have k3 : Kp [31] [] t (ss t 31 0) := Kp.rf.ss (by decide)
      refine ⟨ss t 31 0, rfl, hT.kp k3 (by decide), rfl, ?_⟩
      rw [k3.1 34 (by decide), kt.1 34 (by decide)]
      exact h34
theorem m_read {q : Cfg} {mv : Nat → Nat} {n D m : Nat} {B : Nat → Nat} {s : gS} (h : MG q mv n D s) (hB : TpM B m s) {a : Int} (ha : -2147483648 ≤ a ∧ a < 2147483648) : (0 ≤ a ∧ a ≤ m → ∃ u, f_X9_read s (zI a) = some (zI ((rdA q B a.toNat 120 mv n 0).1.2 - (n : Int)), u) ∧ MG q (rdA q B a.toNat 120 mv n 0).1.1 (rdA q B a.toNat 120 mv n 0).1.2 D u ∧ u.1 31 = 0 ∧ u.1 34 = zI ((rdA q B a.toNat 120 mv n 0).2 : Nat)) ∧ (¬ (0 ≤ a ∧ a ≤ m) → f_X9_read s (zI a) = some (zI (-1), s)) := by
  have hm := hB.1
  obtain ⟨g, hg⟩ := gf_big
  unfold f_X9_read f_X9_read_40
  rw [hB.2.2.1]
  constructor
  · rintro ⟨h1, h2⟩
    rw [if_neg (by rw [zI_0, zI_lt (by omega) (by omega) (by omega) (by omega)]; omega), if_pos (by rw [zI_le (by omega) (by omega) (by omega) (by omega)]; omega)]
    obtain ⟨L, rfl⟩ : ∃ L : Nat, a = (L : Int) := ⟨a.toNat, by omega⟩
    rw [Int.toNat_natCast]
    have k3 : Kp [32, 33, 34] [] s (ss (ss (ss s 33 (zI L)) 32 0) 34 0) := ((Kp.rf.ss (by decide)).ss (by decide)).ss (by decide)
    have hS := h.kp k3 (by decide)
    have zn : zI ((n : Int) - (n : Int)) = 0 := by rw [Int.sub_self]; rfl
    by_cases c : L = 0
    · subst c
      rw [if_pos (by decide), rd_L]
      obtain ⟨φ, hφ⟩ : ∃ m, gφ = m + 1 := ⟨gφ - 1, by omega⟩
      rw [hφ, f_X9_read_41, if_pos rfl]
      refine ⟨_, by rw [zn], hS.kp (ks := [31]) (as := []) (Kp.rf.ss (by decide)) (by decide), rfl, rfl⟩
    · rw [if_neg (by rw [zI_0, zI_le (by omega) (by omega) (by omega) (by omega)]; omega)]
      have key := m_read41 (q := q) (D := D) (L := L) (B := B) (n0 := n) 120 0 gφ mv n (ss (ss (ss s 33 (zI L)) 32 0) 34 0) (by omega) (by omega) (by omega) hS ⟨rfl, by omega, hB.2.1, fun j hj => hB.2.2.2 j (by omega)⟩ rfl rfl
      rw [zn] at key
      exact key
  · intro hn
    by_cases c : a < 0
    · rw [if_pos (by rw [zI_0, zI_lt (by omega) (by omega) (by omega) (by omega)]; omega), zI_m1]
    · rw [if_neg (by rw [zI_0, zI_lt (by omega) (by omega) (by omega) (by omega)]; omega), if_neg (by rw [zI_le (by omega) (by omega) (by omega) (by omega)]; omega), zI_m1]
