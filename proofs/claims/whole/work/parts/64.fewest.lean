theorem z_iff (m : Int32) : m = 0 ↔ ∀ i, i < 32 → bt m i = false := by
  constructor
  · intro h i _
    rw [h, bt_0]
  · intro h
    apply bt_ext
    intro i hi
    rw [bt_0, h i hi]
theorem c_line1 {q : Cfg} {s : gS} {t : Nat} (h : CB q s) (ht : t ≤ 6) : ∀ (m i φ : Nat) (x : Int32), i + m = cK q → m < φ → (∀ j, bt x j = decide (∃ a, a < i ∧ j = a * t)) → ∃ r, f_X0_lineAlong_4 φ s (zI t) x (zI i) = some r ∧ ∀ j, bt r j = decide (∃ a, a < cK q ∧ j = a * t)
  | 0, i, φ, x, hi, hf, hx => by
    obtain ⟨φ, rfl⟩ : ∃ m, φ = m + 1 := ⟨φ - 1, by omega⟩
    have hk := okC_k h.1
    have e : i = cK q := by omega
    rw [f_X0_lineAlong_4, h.2.2.2.1, if_pos (by rw [zI_le (by omega) (by omega) (by omega) (by omega)]; omega)]
    exact ⟨x, rfl, fun j => by rw [hx, e]⟩
  | m + 1, i, φ, x, hi, hf, hx => by
    obtain ⟨φ, rfl⟩ : ∃ m, φ = m + 1 := ⟨φ - 1, by omega⟩
    have hk := okC_k h.1
    have hit : i * t ≤ 4 * 6 := Nat.mul_le_mul (by omega) ht
    rw [f_X0_lineAlong_4, h.2.2.2.1, if_neg (by rw [zI_le (by omega) (by omega) (by omega) (by omega)]; omega), zI_mul, ← Int.natCast_mul, zsuc]
    refine c_line1 h ht m (i + 1) φ (x ||| b5 (i * t)) (by omega) (by omega) (fun j => ?_)
    rw [bt_or, bt_b5 (by omega), hx, Bool.eq_iff_iff]
    simp only [Bool.or_eq_true, decide_eq_true_eq]
    constructor
    · rintro (⟨a, a1, a2⟩ | e)
      · exact ⟨a, by omega, a2⟩
      · exact ⟨i, by omega, e⟩
    · rintro ⟨a, a1, a2⟩
      by_cases e : a = i
      · rw [e] at a2
        exact Or.inr a2
      · exact Or.inl ⟨a, by omega, a2⟩
theorem c_line {q : Cfg} {s : gS} {t : Nat} (h : CB q s) (ht : t ≤ 6) : ∃ r, f_X0_lineAlong s (zI t) = some r ∧ ∀ j, bt r j = decide (∃ a, a < cK q ∧ j = a * t) := by
  obtain ⟨g, hg⟩ := gf_big
  have hk := okC_k h.1
  exact c_line1 h ht (cK q - 1) 1 gφ 1 (by omega) (by omega) (fun j => by
    rw [bt_1, Bool.eq_iff_iff, decide_eq_true_eq, decide_eq_true_eq]
    constructor
    · intro e
      exact ⟨0, by omega, by omega⟩
    · rintro ⟨a, a1, a2⟩
      have : a = 0 := by omega
      rw [this] at a2
      omega)
theorem p5_up {q : Cfg} (hq : okC q) (c : Nat) : p5 q (c + cW q) = 5 + p5 q c := by
  have hw : 0 < cW q := by have := hq.1; omega
  unfold p5
  rw [Nat.add_div_right c hw, Nat.add_mod_right]
  omega
theorem c_sup1 {q : Cfg} {s : gS} {p : Nat → Nat} {g : Nat → Bool} {x2 : Int32} (h : CB q s) (h2 : Mk q (fun c => decide (p c = 2)) x2) (hg : cG q = true) : ∀ (m r φ : Nat) (x : Int32), r + 1 + m = cH q → m < φ → Mk q (supF q p g r) x → ∃ y, f_X0_withSupports_5 φ s x2 x (zI ((r + 1 : Nat) : Int)) = some y ∧ Mk q (supF q p g (cH q - 1)) y
  | 0, r, φ, x, hr, hf, hx => by
    obtain ⟨φ, rfl⟩ : ∃ m, φ = m + 1 := ⟨φ - 1, by omega⟩
    obtain ⟨-, -, q3, q4, -⟩ := id h.1
    rw [f_X0_withSupports_5, h.2.2.1, if_pos (by rw [zI_le (by omega) (by omega) (by omega) (by omega)]; omega)]
    exact ⟨x, rfl, by rw [show cH q - 1 = r by omega]; exact hx⟩
  | m + 1, r, φ, x, hr, hf, hx => by
    obtain ⟨φ, rfl⟩ : ∃ m, φ = m + 1 := ⟨φ - 1, by omega⟩
    obtain ⟨-, -, q3, q4, -⟩ := id h.1
    rw [f_X0_withSupports_5, h.2.2.1, if_neg (by rw [zI_le (by omega) (by omega) (by omega) (by omega)]; omega), h.2.2.2.2.1, hg, if_neg (by decide), zsuc]
    have e5 : ∀ i, bt ((x.toUInt32 >>> ((5 : Int32).toUInt32 &&& Int32.toUInt32 31)).toInt32) i = bt x (5 + i) := fun i => by
      have h9 := bt_ushr x (j := 5) (by omega) i
      rw [show zI ((5 : Nat) : Int) = (5 : Int32) by decide] at h9
      exact h9
    refine c_sup1 h h2 hg m (r + 1) φ _ (by omega) (by omega) ?_
    have h3 := (Mk.and (x := (x.toUInt32 >>> ((5 : Int32).toUInt32 &&& Int32.toUInt32 31)).toInt32) (g := fun c => decide (c + cW q < cN q) && supF q p g r (c + cW q)) h.1 h2 (fun c hc => by
      rw [e5, ← p5_up h.1]
      by_cases k : c + cW q < cN q
      · rw [hx.bit h.1 k, decide_eq_true k, Bool.true_and]
      · rw [decide_eq_false k, Bool.false_and, hx]
        cases e : inBd q (p5 q (c + cW q)) with
        | false => rfl
        | true => exact absurd (inBd_p5 h.1 e) k)).2
    refine Mk.eq h.1 (hx.or h3) (fun c hc => ?_)
    show (supF q p g r c || (decide (p c = 2) && (decide (c + cW q < cN q) && supF q p g r (c + cW q)))) = _
    rw [supF_s, Bool.and_comm (decide (p c = 2))]
theorem c_sup {q : Cfg} {s : gS} {p : Nat → Nat} {v t l : Nat} {x x2 : Int32} (h : CB q s) (h2 : Mk q (fun c => decide (p c = 2)) x2) (hx : Mk q (neF q p v t l) x) : ∃ y, f_X0_withSupports s x x2 = some y ∧ Mk q (ndF q p v t l) y := by
  obtain ⟨g, hg⟩ := gf_big
  obtain ⟨-, -, q3, q4, -⟩ := id h.1
  unfold f_X0_withSupports ndF
  by_cases gg : cG q = true
  · rw [if_pos gg]
    exact c_sup1 h h2 gg (cH q - 1) 0 gφ x (by omega) (by omega) hx
  · rw [if_neg gg]
    have ge : cG q = false := by
      cases e : cG q with
      | false => rfl
      | true => exact absurd e gg
    obtain ⟨m, hm⟩ : ∃ m, gφ = m + 1 := ⟨gφ - 1, by omega⟩
    rw [hm, f_X0_withSupports_5, h.2.2.1, if_neg (by rw [zI_1, zI_le (by omega) (by omega) (by omega) (by omega)]; omega), h.2.2.2.2.1, ge, if_pos (by decide)]
    exact ⟨x, rfl, hx⟩
theorem c_place {q : Cfg} {st : gS} {p : Nat → Nat} {v t : Nat} {a b ℓ x5 x6 : Int32} {K16 : gS → Int32 → Int32 → Int32 → Int32 → Int32 → Option Int32} (h : CB q st) (hp : ∀ j, p j ≤ 2) (hv : v ≤ 1) (ht : isT t) (ha : Mk q (fun c => decide (p c = v)) a) (hb : Mk q (fun c => decide (p c = 1 - v)) b) (hl : ∀ j, bt ℓ j = decide (∃ i, i < cK q ∧ j = i * t)) : ∀ (m sl φ fw : Nat), sl + (cK q - 1) * t + m = 20 → m < φ → fw ≤ 17 → ∃ fw2 : Nat, f_X0_fewestToRow_52 K16 φ st a b (zI fw) x5 x6 ℓ (zI (((cK q - 1) * t : Nat) : Int)) (zI sl) = K16 st a b (zI fw2) x5 (x6 + 1) ∧ fw2 ≤ fw ∧ (fw2 = fw ∨ ∃ s', GdL q p v t s' ∧ fw2 = cntF (ndF q p v t s') (cN q)) ∧ ∀ s', sl ≤ s' → GdL q p v t s' → fw2 ≤ cntF (ndF q p v t s') (cN q)
  | 0, sl, φ, fw, hs, hf, hw => by
    obtain ⟨φ, rfl⟩ : ∃ m, φ = m + 1 := ⟨φ - 1, by omega⟩
    have hk := okC_k h.1
    rw [f_X0_fewestToRow_52, zI_add, zI_20, if_pos (by rw [zI_le (by omega) (by omega) (by omega) (by omega)]; omega)]
    refine ⟨fw, rfl, Nat.le_refl _, Or.inl rfl, fun s' h1 h2 => ?_⟩
    have := (c5_ok h.1 (h2.2 (cK q - 1) (by omega)).1).2.2
    omega
  | m + 1, sl, φ, fw, hs, hf, hw => by
    obtain ⟨φ, rfl⟩ : ∃ m, φ = m + 1 := ⟨φ - 1, by omega⟩
    have hk := okC_k h.1
    have hts := ht.rng
    have hjt : ∀ j, j < cK q → j * t ≤ (cK q - 1) * t := fun j hj => Nat.mul_le_mul_right t (by omega)
    rw [f_X0_fewestToRow_52, zI_add, zI_20, if_neg (by rw [zI_le (by omega) (by omega) (by omega) (by omega)]; omega)]
    have hml : ∀ i, bt (ℓ <<< (zI (sl : Int) &&& 31)) i = decide (∃ j, j < cK q ∧ i = sl + j * t) := fun i => by
      rw [bt_shl _ (by omega), hl, Bool.eq_iff_iff]
      simp only [Bool.and_eq_true, Bool.not_eq_true', decide_eq_true_eq, decide_eq_false_iff_not]
      constructor
      · rintro ⟨⟨h1, h2⟩, j, j1, j2⟩
        exact ⟨j, j1, by omega⟩
      · rintro ⟨j, j1, j2⟩
        have := hjt j j1
        exact ⟨⟨by omega, by omega⟩, j, j1, by omega⟩
    have cond1 : (ℓ <<< (zI (sl : Int) &&& 31)) &&& (st.1 5 ^^^ (-1 : Int32)) = 0 ↔ ∀ j, j < cK q → inBd q (sl + j * t) = true := by
      rw [z_iff]
      constructor
      · intro g j hj
        have h1 := hjt j hj
        have h2 := g (sl + j * t) (by omega)
        rw [bt_and, hml, decide_eq_true ⟨j, hj, rfl⟩, bt_not (by omega), h.2.2.2.2.2.2.1, Bool.true_and] at h2
        cases e : inBd q (sl + j * t) with
        | true => rfl
        | false => rw [e] at h2; cases h2
      · intro g i hi
        rw [bt_and, hml, bt_not hi, h.2.2.2.2.2.2.1]
        by_cases e : ∃ j, j < cK q ∧ i = sl + j * t
        · obtain ⟨j, j1, j2⟩ := e
          rw [j2, g j j1]
          exact Bool.and_false _
        · rw [decide_eq_false e, Bool.false_and]
    have hb2 : ∀ i, bt b i = (inBd q i && decide (p (c5 q i) = 1 - v)) := hb
    have cond2 : (ℓ <<< (zI (sl : Int) &&& 31)) &&& b = 0 ↔ ∀ j, j < cK q → ¬ (inBd q (sl + j * t) = true ∧ p (c5 q (sl + j * t)) = 1 - v) := by
      rw [z_iff]
      constructor
      · intro g j hj
        have h1 := hjt j hj
        have h2 := g (sl + j * t) (by omega)
        rw [bt_and, hml, decide_eq_true ⟨j, hj, rfl⟩, hb2, Bool.true_and] at h2
        rintro ⟨g1, g2⟩
        rw [g1, decide_eq_true g2] at h2
        cases h2
      · intro g i hi
        rw [bt_and, hml, hb2]
        by_cases e : ∃ j, j < cK q ∧ i = sl + j * t
        · obtain ⟨j, j1, j2⟩ := e
          have h1 := g j j1
          rw [← j2] at h1
          cases k1 : inBd q i with
          | false => rw [Bool.false_and, Bool.and_false]
          | true =>
            rw [decide_eq_false (fun k2 => h1 ⟨k1, k2⟩), Bool.and_false, Bool.and_false]
        · rw [decide_eq_false e, Bool.false_and]
    have skip : ¬ GdL q p v t sl → ∃ fw2 : Nat, f_X0_fewestToRow_120 K16 (f_X0_fewestToRow_52 K16 φ) st a b (zI fw) x5 x6 ℓ (zI (((cK q - 1) * t : Nat) : Int)) (zI sl) = K16 st a b (zI fw2) x5 (x6 + 1) ∧ fw2 ≤ fw ∧ (fw2 = fw ∨ ∃ s', GdL q p v t s' ∧ fw2 = cntF (ndF q p v t s') (cN q)) ∧ ∀ s', sl ≤ s' → GdL q p v t s' → fw2 ≤ cntF (ndF q p v t s') (cN q) := fun hn => by
      unfold f_X0_fewestToRow_120
      rw [zsuc]
      obtain ⟨f2, e1, e2, e3, e4⟩ := c_place (K16 := K16) (x5 := x5) (x6 := x6) h hp hv ht ha hb hl m (sl + 1) φ fw (by omega) (by omega) hw
      refine ⟨f2, e1, e2, e3, fun s' h1 h2 => ?_⟩
      by_cases k : s' = sl
      · rw [k] at h2
        exact absurd h2 hn
      · exact e4 s' (by omega) h2
    by_cases k1 : ∀ j, j < cK q → inBd q (sl + j * t) = true
    · rw [if_pos (cond1.2 k1)]
      by_cases k2 : ∀ j, j < cK q → ¬ (inBd q (sl + j * t) = true ∧ p (c5 q (sl + j * t)) = 1 - v)
      · rw [if_pos (cond2.2 k2)]
        have gd : GdL q p v t sl := ⟨ht, fun j hj => ⟨k1 j hj, fun e => k2 j hj ⟨k1 j hj, e⟩⟩⟩
        have m1 : Mk q (lnF q t sl) (ℓ <<< (zI (sl : Int) &&& 31)) := fun i => by
          rw [hml]
          unfold lnF
          cases e : inBd q i with
          | true => rw [(c5_ok h.1 e).2.1, Bool.true_and]
          | false =>
            rw [Bool.false_and, decide_eq_false]
            rintro ⟨j, j1, j2⟩
            have := k1 j j1
            rw [← j2, e] at this
            cases this
        have m2 : Mk q (neF q p v t sl) ((ℓ <<< (zI (sl : Int) &&& 31)) &&& (a ^^^ (-1 : Int32))) := (Mk.and (g := fun c => decide (p c ≠ v)) h.1 m1 (fun c hc => by
          have h9 := (p5_ok h.1 hc).2.2.1
          rw [bt_not (by omega), ha.bit h.1 hc]
          by_cases e : p c = v
          · rw [decide_eq_true e, decide_eq_false (fun g => g e)]; rfl
          · rw [decide_eq_false e, decide_eq_true e]; rfl)).1
        have m0 : Mk q (fun _ => true) (st.1 5) := fun i => by rw [h.2.2.2.2.2.2.1, Bool.and_true]
        have m3 : Mk q (fun c => decide (p c = 2)) (st.1 5 &&& ((a ||| b) ^^^ (-1 : Int32))) := (Mk.and (g := fun c => decide (p c = 2)) h.1 m0 (fun c hc => by
          have h9 := (p5_ok h.1 hc).2.2.1
          have h8 := hp c
          rw [bt_not (by omega), bt_or, ha.bit h.1 hc, hb.bit h.1 hc]
          by_cases e : p c = 2
          · rw [decide_eq_true e, decide_eq_false (by omega), decide_eq_false (by omega)]; rfl
          · rw [decide_eq_false e]
            by_cases e2 : p c = v
            · rw [decide_eq_true e2]; rfl
            · rw [decide_eq_true (show p c = 1 - v by omega), Bool.or_true]; rfl)).1.eq h.1 (fun c _ => Bool.true_and _)
        obtain ⟨y, y1, y2⟩ := c_sup h m3 m2
        rw [y1, ob9, y2.cnt h.1, ob9]
        have hN := okC_n h.1
        have hc := cntF_le (ndF q p v t sl) (cN q)
        have emin : (if zI (cntF (ndF q p v t sl) (cN q) : Nat) < zI (fw : Int) then zI (cntF (ndF q p v t sl) (cN q) : Nat) else zI (fw : Int)) = zI ((min (cntF (ndF q p v t sl) (cN q)) fw : Nat) : Int) := by
          by_cases g : cntF (ndF q p v t sl) (cN q) < fw
          · rw [if_pos (by rw [zI_lt (by omega) (by omega) (by omega) (by omega)]; omega), Nat.min_eq_left (by omega)]
          · rw [if_neg (by rw [zI_lt (by omega) (by omega) (by omega) (by omega)]; omega), Nat.min_eq_right (by omega)]
        unfold f_X0_fewestToRow_120
        rw [emin, zsuc]
        obtain ⟨f2, e1, e2, e3, e4⟩ := c_place (K16 := K16) (x5 := x5) (x6 := x6) h hp hv ht ha hb hl m (sl + 1) φ (min (cntF (ndF q p v t sl) (cN q)) fw) (by omega) (by omega) (by omega)
        refine ⟨f2, e1, by omega, ?_, fun s' h1 h2 => ?_⟩
        · rcases e3 with e3 | e3
          · by_cases g : cntF (ndF q p v t sl) (cN q) < fw
            · exact Or.inr ⟨sl, gd, by omega⟩
            · exact Or.inl (by omega)
          · exact Or.inr e3
        · by_cases k : s' = sl
          · rw [k]
            omega
          · exact e4 s' (by omega) h2
      · rw [if_neg (fun g => k2 (cond2.1 g))]
        exact skip (fun g => k2 (fun j hj e => (g.2 j hj).2 e.2))
    · rw [if_neg (fun g => k1 (cond1.1 g))]
      exact skip (fun g => k1 (fun j hj => (g.2 j hj).1))
theorem stp_T : ∀ k, isT (stp k)
  | 0 => Or.inl rfl
  | 1 => Or.inr (Or.inl rfl)
  | 2 => Or.inr (Or.inr (Or.inl rfl))
  | _ + 3 => Or.inr (Or.inr (Or.inr rfl))
theorem c_few1 {q : Cfg} {st : gS} {p : Nat → Nat} {v : Nat} {a b : Int32} (h : CB q st) (hp : ∀ j, p j ≤ 2) (hv : v ≤ 1) (ha : Mk q (fun c => decide (p c = v)) a) (hb : Mk q (fun c => decide (p c = 1 - v)) b) : ∀ (m k φ fw : Nat), k + m = 4 → m < φ → fw ≤ 17 → ∃ f2 : Nat, f_X0_fewestToRow_16 φ st a b (zI fw) 4 (zI k) = some (zI f2) ∧ f2 ≤ fw ∧ (f2 = fw ∨ ∃ t s', GdL q p v t s' ∧ f2 = cntF (ndF q p v t s') (cN q)) ∧ ∀ k', k ≤ k' → k' < 4 → ∀ s', GdL q p v (stp k') s' → f2 ≤ cntF (ndF q p v (stp k') s') (cN q)
  | 0, k, φ, fw, hk, hf, hw => by
    obtain ⟨φ, rfl⟩ : ∃ m, φ = m + 1 := ⟨φ - 1, by omega⟩
    rw [f_X0_fewestToRow_16, zI_4, if_pos (by rw [zI_le (by omega) (by omega) (by omega) (by omega)]; omega)]
    exact ⟨fw, rfl, Nat.le_refl _, Or.inl rfl, fun k' h1 h2 => by omega⟩
  | m + 1, k, φ, fw, hk, hf, hw => by
    obtain ⟨φ, rfl⟩ : ∃ m, φ = m + 1 := ⟨φ - 1, by omega⟩
    obtain ⟨g, hg⟩ := gf_big
    have hK := okC_k h.1
    obtain ⟨s1, s2, s3⟩ := stp_ok k
    obtain ⟨ℓ, l1, l2⟩ := c_line h s3
    rw [f_X0_fewestToRow_16, if_neg (by rw [zI_4, zI_le (by omega) (by omega) (by omega) (by omega)]; omega), if_pos (zin (by omega) (by omega)), zcl (by omega), s1, l1, ob9, h.2.2.2.1]
    have eR : (zI (cK q : Int) - 1) * zI ((stp k : Nat) : Int) = zI (((cK q - 1) * stp k : Nat) : Int) := by
      rw [zI_1, zI_sub, zI_mul]
      refine zI_c ?_
      rw [Int.natCast_mul]
      congr 1
      omega
    have hR : (cK q - 1) * stp k ≤ 3 * 6 := Nat.mul_le_mul (by omega) s3
    obtain ⟨f1, e1, e2, e3, e4⟩ := c_place (K16 := f_X0_fewestToRow_16 φ) (x5 := 4) (x6 := zI k) h hp hv (stp_T k) ha hb l2 (20 - (cK q - 1) * stp k) 0 gφ fw (by omega) (by omega) hw
    rw [z00] at e1
    rw [eR, e1, zsuc]
    obtain ⟨f2, d1, d2, d3, d4⟩ := c_few1 h hp hv ha hb m (k + 1) φ f1 (by omega) (by omega) (by omega)
    refine ⟨f2, d1, by omega, ?_, fun k' h1 h2 s' h3 => ?_⟩
    · rcases d3 with d3 | d3
      · rcases e3 with e3 | ⟨s', g1, g2⟩
        · exact Or.inl (by omega)
        · exact Or.inr ⟨stp k, s', g1, by omega⟩
      · exact Or.inr d3
    · by_cases e : k' = k
      · rw [e] at h3 ⊢
        have := e4 s' (by omega) h3
        omega
      · exact d4 k' (by omega) h2 s' h3
theorem c_few {q : Cfg} {st : gS} {p : Nat → Nat} {v : Nat} {a b : Int32} (h : CB q st) (hp : ∀ j, p j ≤ 2) (hv : v ≤ 1) (ha : Mk q (fun c => decide (p c = v)) a) (hb : Mk q (fun c => decide (p c = 1 - v)) b) : ∃ f2 : Nat, f_X0_fewestToRow st a b = some (zI f2) ∧ f2 ≤ 17 ∧ (f2 = 17 ∨ ∃ t s', GdL q p v t s' ∧ f2 = cntF (ndF q p v t s') (cN q)) ∧ ∀ t s', GdL q p v t s' → f2 ≤ cntF (ndF q p v t s') (cN q) := by
  obtain ⟨g, hg⟩ := gf_big
  obtain ⟨f2, d1, d2, d3, d4⟩ := c_few1 h hp hv ha hb 4 0 gφ 17 (by omega) (by omega) (by omega)
  refine ⟨f2, d1, d2, d3, fun t s' hgd => ?_⟩
  rcases hgd.1 with rfl | rfl | rfl | rfl
  · exact d4 0 (by omega) (by omega) s' hgd
  · exact d4 1 (by omega) (by omega) s' hgd
  · exact d4 2 (by omega) (by omega) s' hgd
  · exact d4 3 (by omega) (by omega) s' hgd
