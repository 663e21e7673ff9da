theorem zdec (c : Nat) : zI ((c + 1 : Nat) : Int) + (-1 : Int32) = zI (c : Int) := by rw [zI_m1, zI_add]; exact zI_c (by omega)
theorem sa3_8 (s : gS) (i : Nat) (a b c : Int32) (T : Nat) : (sa (sa (sa s 8 i a) 9 i b) 10 i c).2 8 T = (if T = i then a else s.2 8 T) := by simp [sa_at]
theorem sa3_9 (s : gS) (i : Nat) (a b c : Int32) (T : Nat) : (sa (sa (sa s 8 i a) 9 i b) 10 i c).2 9 T = (if T = i then b else s.2 9 T) := by simp [sa_at]
theorem sa3_10 (s : gS) (i : Nat) (a b c : Int32) (T : Nat) : (sa (sa (sa s 8 i a) 9 i b) 10 i c).2 10 T = (if T = i then c else s.2 10 T) := by simp [sa_at]
theorem c_weigh_end {w c : Nat → Int} {nb : Nat → Nat} {k i m sp S φ : Nat} {s : gS} (hk : OkK w c nb k) (hi : i + (m + 1) = k) (hsp : sp ≤ 201) (hS : S ≤ sp) (hlt : (S : Int) < c i) (h7 : s.2 7 i = zI (c i)) (ha : ∀ T, T ≤ S → DpK w c nb (i + 1) m T (s.2 8 T) (s.2 9 T) (s.2 10 T)) (hb : ∀ T, S < T → T ≤ sp → DpK w c nb i (m + 1) T (s.2 8 T) (s.2 9 T) (s.2 10 T)) : f_X1_weigh_2 (φ + 1) s (zI i) (zI S) = some s ∧ ∀ T, T ≤ sp → DpK w c nb i (m + 1) T (s.2 8 T) (s.2 9 T) (s.2 10 T) := by
  have o := hk.2 i (by omega)
  have h12 := hk.1
  constructor
  · rw [f_X1_weigh_2, if_pos (zin (by omega) (by omega)), zcl (by omega), h7, if_pos (by rw [zI_lt (by omega) (by omega) (by omega) (by omega)]; exact hlt)]
  · intro T hT
    by_cases e : T ≤ S
    · exact (ha T e).no hk (by omega) (by omega)
    · exact hb T (by omega) hT
theorem c_weigh1 {w c : Nat → Int} {nb : Nat → Nat} {k i m sp : Nat} (hk : OkK w c nb k) (hi : i + (m + 1) = k) (hsp : sp ≤ 201) : ∀ (S φ : Nat) (s : gS), S < φ → S ≤ sp → s.2 7 i = zI (c i) → s.2 6 i = zI (w i) → s.2 5 i = zI ((nb i + 1 : Nat) : Int) → (∀ T, T ≤ S → DpK w c nb (i + 1) m T (s.2 8 T) (s.2 9 T) (s.2 10 T)) → (∀ T, S < T → T ≤ sp → DpK w c nb i (m + 1) T (s.2 8 T) (s.2 9 T) (s.2 10 T)) → ∃ u, f_X1_weigh_2 φ s (zI i) (zI S) = some u ∧ ∀ T, T ≤ sp → DpK w c nb i (m + 1) T (u.2 8 T) (u.2 9 T) (u.2 10 T)
  | 0, φ, s, hf, hS, h7, h6, h5, ha, hb => by
    obtain ⟨φ, rfl⟩ : ∃ m, φ = m + 1 := ⟨φ - 1, by omega⟩
    have o := hk.2 i (by omega)
    obtain ⟨e1, e2⟩ := c_weigh_end (φ := φ) hk hi hsp hS (by omega) h7 ha hb
    exact ⟨s, e1, e2⟩
  | S + 1, φ, s, hf, hS, h7, h6, h5, ha, hb => by
    obtain ⟨φ, rfl⟩ : ∃ m, φ = m + 1 := ⟨φ - 1, by omega⟩
    have o := hk.2 i (by omega)
    have h12 := hk.1
    by_cases hlt : ((S + 1 : Nat) : Int) < c i
    · obtain ⟨e1, e2⟩ := c_weigh_end (φ := φ) hk hi hsp hS hlt h7 ha hb
      exact ⟨s, e1, e2⟩
    · obtain ⟨T, hT⟩ : ∃ T : Nat, (T : Int) + c i = ((S + 1 : Nat) : Int) := ⟨(((S + 1 : Nat) : Int) - c i).toNat, by omega⟩
      have eT : ((S + 1 : Nat) : Int) - c i = (T : Int) := by omega
      have g1 : inB (zI (i : Int)) 12 = true := zin (by omega) (by omega)
      have g2 : inB (zI (T : Int)) 202 = true := zin (by omega) (by omega)
      have g3 : inB (zI ((S + 1 : Nat) : Int)) 202 = true := zin (by omega) (by omega)
      have l1 : ¬ zI ((S + 1 : Nat) : Int) < zI (c i) := by rw [zI_lt (by omega) (by omega) (by omega) (by omega)]; exact hlt
      have c1 : (zI (i : Int)).toNatClampNeg = i := zcl (by omega)
      have c2 : (zI (T : Int)).toNatClampNeg = T := zcl (by omega)
      have c3 : (zI ((S + 1 : Nat) : Int)).toNatClampNeg = S + 1 := zcl (by omega)
      have two := DpK.two hk (by omega) hT (ha (S + 1) (by omega)) (ha T (by omega))
      have keep : ¬ (¬ s.2 8 T + zI (w i) ≤ s.2 8 (S + 1) ∨ (s.2 8 T + zI (w i) = s.2 8 (S + 1) ∧ ¬ s.2 9 (S + 1) < s.2 9 T + zI (c i))) → ∃ u, f_X1_weigh_2 φ s (zI i) (zI S) = some u ∧ ∀ T, T ≤ sp → DpK w c nb i (m + 1) T (u.2 8 T) (u.2 9 T) (u.2 10 T) := fun tk =>
        c_weigh1 hk hi hsp S φ s (by omega) (by omega) h7 h6 h5 (fun T hT => ha T (by omega)) (fun T' h1 h2 => by
          by_cases e : T' = S + 1
          · rw [e]; exact two.2 tk
          · exact hb T' (by omega) h2)
      have take : (¬ s.2 8 T + zI (w i) ≤ s.2 8 (S + 1) ∨ (s.2 8 T + zI (w i) = s.2 8 (S + 1) ∧ ¬ s.2 9 (S + 1) < s.2 9 T + zI (c i))) → ∃ u, f_X1_weigh_99 (f_X1_weigh_2 φ) s (zI i) (zI ((S + 1 : Nat) : Int)) (zI T) (s.2 8 T + zI (w i)) (s.2 9 T + zI (c i)) = some u ∧ ∀ T, T ≤ sp → DpK w c nb i (m + 1) T (u.2 8 T) (u.2 9 T) (u.2 10 T) := fun tk => by
        unfold f_X1_weigh_99 f_X1_weigh_139
        simp only [g1, g2, g3, ↓reduceIte]
        rw [c1, c2, c3, h5, zpred, zdec]
        refine c_weigh1 hk hi hsp S φ _ (by omega) (by omega) h7 h6 h5 (fun T' hT' => ?_) (fun T' h1 h2 => ?_)
        · rw [sa3_8, sa3_9, sa3_10, if_neg (by omega), if_neg (by omega), if_neg (by omega)]
          exact ha T' (by omega)
        · rw [sa3_8, sa3_9, sa3_10]
          by_cases e : T' = S + 1
          · rw [if_pos e, if_pos e, if_pos e, e]
            exact two.1 tk
          · rw [if_neg e, if_neg e, if_neg e]
            exact hb T' (by omega) h2
      rw [f_X1_weigh_2]
      simp only [g1, g2, g3, c1, c2, c3, h7, h6, zI_sub, eT, l1, ↓reduceIte]
      by_cases A : s.2 8 T + zI (w i) ≤ s.2 8 (S + 1)
      · rw [if_pos A]
        unfold f_X1_weigh_70
        simp only [g3, c3, ↓reduceIte]
        by_cases B : s.2 8 T + zI (w i) = s.2 8 (S + 1)
        · rw [if_pos B]
          by_cases C : s.2 9 (S + 1) < s.2 9 T + zI (c i)
          · rw [if_pos C]
            unfold f_X1_weigh_139
            rw [zdec]
            exact keep (fun g => g.elim (fun g => g A) (fun g => g.2 C))
          · rw [if_neg C]
            exact take (Or.inr ⟨B, C⟩)
        · rw [if_neg B]
          unfold f_X1_weigh_139
          rw [zdec]
          exact keep (fun g => g.elim (fun g => g A) (fun g => B g.1))
      · rw [if_neg A]
        unfold f_X1_weigh_70
        rw [if_neg (by decide)]
        exact take (Or.inl A)
theorem c_choose1 {w c : Nat → Int} {nb : Nat → Nat} {k sp : Nat} (hk : OkK w c nb k) (hsp : sp ≤ 201) : ∀ (i m φ : Nat) (s : gS), i + m = k → i < φ → (∀ j, j < k → s.2 7 j = zI (c j) ∧ s.2 6 j = zI (w j) ∧ s.2 5 j = zI ((nb j + 1 : Nat) : Int)) → (∀ T, T ≤ sp → DpK w c nb i m T (s.2 8 T) (s.2 9 T) (s.2 10 T)) → ∃ r u, f_X1_choose_45 φ s (zI sp) (zI ((i : Int) - 1)) = some (r, u) ∧ ∃ x y, DpK w c nb 0 k sp x y r
  | 0, m, φ, s, hi, hf, hs, ha => by
    obtain ⟨φ, rfl⟩ : ∃ m, φ = m + 1 := ⟨φ - 1, by omega⟩
    have : m = k := by omega
    subst this
    rw [f_X1_choose_45, if_pos (by rw [zI_0, zI_lt (by omega) (by omega) (by omega) (by omega)]; omega), if_neg (by rw [zI_0, zI_lt (by omega) (by omega) (by omega) (by omega)]; omega), if_pos (zin (by omega) (by omega)), zcl (by omega)]
    exact ⟨_, s, rfl, _, _, ha sp (Nat.le_refl _)⟩
  | i + 1, m, φ, s, hi, hf, hs, ha => by
    obtain ⟨φ, rfl⟩ : ∃ m, φ = m + 1 := ⟨φ - 1, by omega⟩
    obtain ⟨g, hg⟩ := gf_big
    have h12 := hk.1
    have e1 : ((i + 1 : Nat) : Int) - 1 = (i : Int) := by omega
    obtain ⟨h7, h6, h5⟩ := hs i (by omega)
    obtain ⟨u, u1, u2⟩ := c_weigh1 hk (i := i) (m := m) (by omega) hsp sp gφ s (by omega) (Nat.le_refl _) h7 h6 h5 ha (fun T h1 h2 => by omega)
    have kk : Kp [] [8, 9, 10] s u := fr_X1_weigh s (zI i) (zI sp) u u1
    rw [f_X1_choose_45, e1, if_neg (by rw [zI_0, zI_lt (by omega) (by omega) (by omega) (by omega)]; omega), show f_X1_weigh s (zI i) (zI sp) = some u from u1, ob9]
    have e2 : zI (i : Int) + (-1 : Int32) = zI ((i : Int) - 1) := by rw [zI_m1, zI_add]; exact zI_c (by omega)
    rw [e2]
    exact c_choose1 hk hsp i (m + 1) φ u (by omega) (by omega) (fun j hj => by rw [kk.2 7 (by decide), kk.2 6 (by decide), kk.2 5 (by decide)]; exact hs j hj) u2
theorem c_choose {w c : Nat → Int} {nb : Nat → Nat} {k room : Nat} {s : gS} (hk : OkK w c nb k) (hr : room ≤ 200) (h11 : s.1 11 = zI k) (hs : ∀ j, j < k → s.2 7 j = zI (c j) ∧ s.2 6 j = zI (w j) ∧ s.2 5 j = zI ((nb j + 1 : Nat) : Int)) : ∃ r u, f_X1_choose s (zI room) = some (r, u) ∧ ∃ x y, DpK w c nb 0 k (room + 1) x y r := by
  have h12 := hk.1
  obtain ⟨g, hg⟩ := gf_big
  have e0 : (202 - 1 : Int32) = zI 201 := by decide
  have e1 : (if (202 - 1 : Int32) < zI (room : Int) + 1 then (202 - 1 : Int32) else zI (room : Int) + 1) = zI ((room + 1 : Nat) : Int) := by
    rw [zsuc, e0, if_neg (by rw [zI_lt (by omega) (by omega) (by omega) (by omega)]; omega)]
  unfold f_X1_choose
  rw [e1, h11, zI_1, zI_sub]
  refine c_choose1 hk (by omega) k 0 gφ _ (by omega) (by omega) hs (fun T hT => ?_)
  refine ⟨fun _ => false, by rw [smK_0]; omega, fun g _ => by rw [smK_0, smK_0]; exact Int.le_refl _, ?_, ?_, fun j => ?_⟩
  · show (if T < 202 then (0 : Int32) else _) = _
    rw [if_pos (by omega)]
    rfl
  · show (if T < 202 then (0 : Int32) else _) = _
    rw [if_pos (by omega)]
    rfl
  · show bt (if T < 202 then (0 : Int32) else _) j = _
    rw [if_pos (by omega), bt_0]
    rfl
