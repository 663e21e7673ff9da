/-! a level of the model's search, from a cell on to its end -/
def TBf : Nat → Nat
  | 0 => 1
  | e + 1 => 16 * TBf e + 2
theorem TBf_pos : ∀ e, 1 ≤ TBf e
  | 0 => Nat.le_refl 1
  | e + 1 => by rw [TBf]; omega
def Rc (d n0 : Nat) (s : gS) (L t : Nat) (s2 : gS) (L2 : Nat) : Prop := ∀ φ, lpF d n0 (φ + t) s L = lpF d n0 φ s2 L2
theorem Rc.tr {d n0 : Nat} {s s1 s2 : gS} {L L1 L2 t1 t2 : Nat} (h1 : Rc d n0 s L t1 s1 L1) (h2 : Rc d n0 s1 L1 t2 s2 L2) : Rc d n0 s L (t2 + t1) s2 L2 := fun φ => by
  rw [← Nat.add_assoc, h1, h2]
def lowE (s t : gS) (L : Nat) : Prop := ∀ i, i < L → t.2 23 i = s.2 23 i ∧ t.2 24 i = s.2 24 i ∧ t.2 25 i = s.2 25 i
theorem lowE.tr {s t u : gS} {L : Nat} (h1 : lowE s t L) (h2 : lowE t u L) : lowE s u L := fun i hi => ⟨(h2 i hi).1.trans (h1 i hi).1, (h2 i hi).2.1.trans (h1 i hi).2.1, (h2 i hi).2.2.trans (h1 i hi).2.2⟩
def LvE (q : Cfg) (d n0 e L m c : Nat) (b : Int) (p : Nat → Nat) (s : gS) : Prop := ∃ (t : Nat) (u : gS), t ≤ m * TBf e ∧ Rc d n0 s L t u L ∧ StB u p ∧ (u.2 24 L = zI (cN q) ∨ u.2 23 L = zI 1) ∧ u.2 23 L = zI (bfF (mvF q e p (n0 + L)) (isMv q p) b c m) ∧ Kp [] [22, 23, 24, 25] s u ∧ lowE s u L
theorem set1_back {p : Nat → Nat} {c v : Nat} (h : p c = 2) : set1 (set1 p c v) c 2 = p := by
  funext j
  unfold set1
  by_cases e : j = c
  · rw [if_pos e, e, h]
  · rw [if_neg e, if_neg e]
/-- a cell more is done: the rest by the row for fewer cells -/
theorem lv_glue {q : Cfg} {d n0 e L m c : Nat} {b b1 : Int} {p : Nat → Nat} {s s1 : gS} {t1 : Nat} (ht : t1 ≤ TBf e) (hr : Rc d n0 s L t1 s1 L) (hk : Kp [] [22, 23, 24, 25] s s1) (hl : lowE s s1 L) (hb1 : b1 = if isMv q p c = true then max b (mvF q e p (n0 + L) c) else b) (h : LvE q d n0 e L m (c + 1) b1 p s1) : LvE q d n0 e L (m + 1) c b p s := by
  obtain ⟨t, u, g1, g2, g3, g4, g5, g6, g7⟩ := h
  refine ⟨t + t1, u, ?_, hr.tr g2, g3, g4, ?_, hk.tr g6, hl.tr g7⟩
  · rw [Nat.succ_mul]
    omega
  · rw [g5, bfF, hb1]
theorem sa_at (s : gS) (k i : Nat) (v : Int32) (a j : Nat) : (sa s k i v).2 a j = if a = k ∧ j = i then v else s.2 a j := by
  rw [sa_r]
  by_cases h : a = k
  · rw [if_pos h, upd_at]
    by_cases h2 : j = i
    · rw [if_pos h2, if_pos ⟨h, h2⟩]
    · rw [if_neg h2, if_neg (fun g => h2 g.2), h]
  · rw [if_neg h, if_neg (fun g => h g.1)]
theorem max_if {b v : Int} : max b v = if v ≤ b then b else v := by
  by_cases h : v ≤ b
  · rw [if_pos h]; omega
  · rw [if_neg h]; omega
set_option maxHeartbeats 2000000 in
theorem m_level {q : Cfg} (hq : okC q) {d n0 : Nat} (hd5 : d ≤ 5) (hn0 : n0 ≤ 16) : ∀ (e L : Nat), L + e + 1 = d → ∀ (m c : Nat) (b : Int) (p : Nat → Nat) (s : gS), c + m = cN q → MS q s → StB s p → okP q p (n0 + L) → n0 + L < cN q → s.2 24 L = zI c → s.2 23 L = zI b → (-2 ≤ b ∧ b ≤ 1) → LvE q d n0 e L m c b p s := by
  have hN := okC_n hq
  intro e
  induction e using Nat.strongRecOn with
  | _ e ihe =>
    intro L hd m
    induction m with
    | zero =>
      intro c b p s hc hs hp hk hn h1 h2 hb
      refine ⟨0, s, Nat.zero_le _, fun φ => rfl, hp, Or.inl ?_, h2, Kp.rf, fun i hi => ⟨rfl, rfl, rfl⟩⟩
      rw [h1]
      exact zI_c (by omega)
    | succ m ih =>
      intro c b p s hc hs hp hk hn h1 h2 hb
      by_cases hb1 : b = 1
      · refine ⟨0, s, Nat.zero_le _, fun φ => rfl, hp, Or.inr (by rw [h2, hb1]), ?_, Kp.rf, fun i hi => ⟨rfl, rfl, rfl⟩⟩
        rw [h2, hb1, bfF_one (fun c hc => (mvF_rng hk hn hc).2)]
      · have st := fun φ => lp_step (e := e) hq hs hp hd hd5 hn0 h1 (by omega) h2 hb hb1 rfl φ
        by_cases c1 : isMv q p c = true
        · have hmv := mvF_rng (d := e) hk hn c1
          have hpp := (isMv_in c1).2
          by_cases c2 : rowAt q p ((n0 + L) % 2) c = true ∨ n0 + L + 1 = cN q ∨ e = 0
          · have ev : (if rowAt q p ((n0 + L) % 2) c = true then (if cL q = true then -1 else 1) else (0 : Int)) = mvF q e p (n0 + L) c := by
              unfold mvF
              by_cases e1 : rowAt q p ((n0 + L) % 2) c = true
              · rw [if_pos e1, if_pos e1]
              · rw [if_neg e1, if_neg e1]
                by_cases e2 : n0 + L + 1 = cN q
                · rw [if_pos e2]
                · rw [if_neg e2, (c2.resolve_left e1).resolve_left e2]
                  rfl
            rw [ev] at st
            have hp2 : StB (sa (sa (sa s 24 L (zI ((c + 1 : Nat) : Int))) 22 c (zI (((n0 + L) % 2 : Nat) : Int))) 22 c (zI 2)) p := by
              have h9 := StB.set (c := c) (v := 2) (StB.set (s := sa s 24 L (zI ((c + 1 : Nat) : Int))) (c := c) (v := (n0 + L) % 2) hp (by omega)) (Nat.le_refl 2)
              rw [set1_back hpp] at h9
              exact h9
            by_cases e2 : mvF q e p (n0 + L) c ≤ b
            · refine lv_glue (t1 := 1) (b1 := b) (s1 := sa (sa (sa s 24 L (zI ((c + 1 : Nat) : Int))) 22 c (zI (((n0 + L) % 2 : Nat) : Int))) 22 c (zI 2)) (TBf_pos e) (fun φ => by rw [st φ, if_pos c1, if_pos c2, if_pos e2]) (Kp.sa (by decide) (Kp.sa (by decide) (Kp.sa (by decide) Kp.rf))) (fun i hi => ?_) (by rw [if_pos c1, max_if, if_pos e2]) (ih (c + 1) b p _ (by omega) hs hp2 hk hn ?_ ?_ hb)
              · simp [sa_at, show ¬ i = L by omega]
              · simp [sa_at]
              · simpa [sa_at] using h2
            · refine lv_glue (t1 := 1) (b1 := mvF q e p (n0 + L) c) (s1 := sa (sa (sa (sa s 24 L (zI ((c + 1 : Nat) : Int))) 22 c (zI (((n0 + L) % 2 : Nat) : Int))) 22 c (zI 2)) 23 L (zI (mvF q e p (n0 + L) c))) (TBf_pos e) (fun φ => by rw [st φ, if_pos c1, if_pos c2, if_neg e2]) (Kp.sa (by decide) (Kp.sa (by decide) (Kp.sa (by decide) (Kp.sa (by decide) Kp.rf)))) (fun i hi => ?_) (by rw [if_pos c1, max_if, if_neg e2]) (ih (c + 1) _ p _ (by omega) hs hp2 hk hn ?_ ?_ (by omega))
              · simp [sa_at, show ¬ i = L by omega]
              · simp [sa_at]
              · simp [sa_at]
          · obtain ⟨e1, rfl⟩ : ∃ e1, e = e1 + 1 := ⟨e - 1, by
              have : ¬ e = 0 := fun h => c2 (Or.inr (Or.inr h))
              omega⟩
            have k2 : ¬ rowAt q p ((n0 + L) % 2) c = true := fun h => c2 (Or.inl h)
            have k3 : ¬ n0 + L + 1 = cN q := fun h => c2 (Or.inr (Or.inl h))
            have hp4 : StB (sa (sa (sa (sa (sa s 24 L (zI ((c + 1 : Nat) : Int))) 22 c (zI (((n0 + L) % 2 : Nat) : Int))) 25 L (zI c)) 23 (L + 1) (zI (-2))) 24 (L + 1) (zI 0)) (set1 p c ((n0 + L) % 2)) := StB.set (s := sa s 24 L (zI ((c + 1 : Nat) : Int))) (c := c) (v := (n0 + L) % 2) hp (by omega)
            have hk4 : okP q (set1 p c ((n0 + L) % 2)) (n0 + (L + 1)) := hk.set c1
            obtain ⟨t2, u, g1, g2, g3, g4, g5, g6, g7⟩ := ihe e1 (by omega) (L + 1) (by omega) (cN q) 0 (-2) (set1 p c ((n0 + L) % 2)) (sa (sa (sa (sa (sa s 24 L (zI ((c + 1 : Nat) : Int))) 22 c (zI (((n0 + L) % 2 : Nat) : Int))) 25 L (zI c)) 23 (L + 1) (zI (-2))) 24 (L + 1) (zI 0)) (by omega) hs hp4 hk4 (by omega) (by simp [sa_at]) (by simp [sa_at]) (by omega)
            have ev : bfF (mvF q e1 (set1 p c ((n0 + L) % 2)) (n0 + (L + 1))) (isMv q (set1 p c ((n0 + L) % 2))) (-2) 0 (cN q) = valF q (e1 + 1) (set1 p c ((n0 + L) % 2)) (n0 + (L + 1)) := by
              have h9 := bfF_best (f := mvF q e1 (set1 p c ((n0 + L) % 2)) (n0 + (L + 1))) (ok := isMv q (set1 p c ((n0 + L) % 2))) (cN q) 0
              rw [Nat.zero_add] at h9
              exact h9
            have em : mvF q (e1 + 1) p (n0 + L) c = -(valF q (e1 + 1) (set1 p c ((n0 + L) % 2)) (n0 + (L + 1))) := by
              unfold mvF
              rw [if_neg k2, if_neg k3]
              rfl
            rw [ev] at g5
            have hvr := valF_rng (e1 + 1) _ _ hk4 (show n0 + (L + 1) < cN q by omega)
            generalize valF q (e1 + 1) (set1 p c ((n0 + L) % 2)) (n0 + (L + 1)) = v at *
            have lw := g7 L (by omega)
            have u23 : u.2 23 L = zI b := by rw [lw.1]; simpa [sa_at] using h2
            have u24 : u.2 24 L = zI ((c + 1 : Nat) : Int) := by rw [lw.2.1]; simp [sa_at]
            have u25 : u.2 25 L = zI c := by rw [lw.2.2]; simp [sa_at]
            have hsu : MS q u := hs.kp (Kp.tr (Kp.sa (by decide) (Kp.sa (by decide) (Kp.sa (by decide) (Kp.sa (by decide) (Kp.sa (by decide) Kp.rf))))) g6) (by decide)
            have up := fun φ => lp_up (d := d) (n0 := n0) hq hsu (show L + 1 < 6 by omega) g4 g5 (by omega) u25 (by omega) u23 hb φ
            have hp5 : StB (sa u 22 c (zI 2)) p := by
              have h9 := StB.set (c := c) (v := 2) g3 (Nat.le_refl 2)
              rw [set1_back hpp] at h9
              exact h9
            have r1 : Rc d n0 s L 1 (sa (sa (sa (sa (sa s 24 L (zI ((c + 1 : Nat) : Int))) 22 c (zI (((n0 + L) % 2 : Nat) : Int))) 25 L (zI c)) 23 (L + 1) (zI (-2))) 24 (L + 1) (zI 0)) (L + 1) := fun φ => by rw [st φ, if_pos c1, if_neg c2]
            have ht : t2 ≤ 16 * TBf e1 := Nat.le_trans g1 (Nat.mul_le_mul_right _ hN.2)
            have kk : Kp [] [22, 23, 24, 25] s u := Kp.tr (Kp.sa (by decide) (Kp.sa (by decide) (Kp.sa (by decide) (Kp.sa (by decide) (Kp.sa (by decide) Kp.rf))))) g6
            have ll : lowE s u L := fun i hi => by
              have h9 := g7 i (by omega)
              rw [h9.1, h9.2.1, h9.2.2]
              simp [sa_at, show ¬ i = L by omega, show ¬ i = L + 1 by omega]
            by_cases e2 : -v ≤ b
            · refine lv_glue (t1 := 1 + (t2 + 1)) (b1 := b) (s1 := sa u 22 c (zI 2)) (by rw [TBf]; omega) (Rc.tr (Rc.tr r1 g2) (fun φ => by rw [up φ, if_pos e2])) (Kp.sa (by decide) kk) (fun i hi => ?_) (by rw [if_pos c1, em, max_if, if_pos e2]) (ih (c + 1) b p _ (by omega) hsu hp5 hk hn ?_ ?_ hb)
              · have h9 := ll i hi
                simp [sa_at, h9]
              · simpa [sa_at] using u24
              · simpa [sa_at] using u23
            · refine lv_glue (t1 := 1 + (t2 + 1)) (b1 := -v) (s1 := sa (sa u 22 c (zI 2)) 23 L (zI (-v))) (by rw [TBf]; omega) (Rc.tr (Rc.tr r1 g2) (fun φ => by rw [up φ, if_neg e2])) (Kp.sa (by decide) (Kp.sa (by decide) kk)) (fun i hi => ?_) (by rw [if_pos c1, em, max_if, if_neg e2]) (ih (c + 1) (-v) p _ (by omega) hsu hp5 hk hn ?_ ?_ (by omega))
              · have h9 := ll i hi
                simp [sa_at, h9, show ¬ i = L by omega]
              · simpa [sa_at] using u24
              · simp [sa_at]
        · refine lv_glue (t1 := 1) (b1 := b) (s1 := sa s 24 L (zI ((c + 1 : Nat) : Int))) (TBf_pos e) (fun φ => by rw [st φ, if_neg c1]) (Kp.sa (by decide) Kp.rf) (fun i hi => ?_) (by rw [if_neg c1]) (ih (c + 1) b p _ (by omega) hs hp hk hn ?_ ?_ hb)
          · simp [sa_at, show ¬ i = L by omega]
          · simp [sa_at]
          · simpa [sa_at] using h2
/-- THE MODEL's search: the value -/
def endV (win n : Nat) : Int := if win = 2 then 0 else if win = n % 2 then 1 else -1
theorem TBf_le : ∀ e, e ≤ 4 → 16 * TBf e ≤ 2000000
  | 0, _ => by decide
  | 1, _ => by decide
  | 2, _ => by decide
  | 3, _ => by decide
  | 4, _ => by decide
theorem gf_big : ∃ m : Nat, gφ = m + 3000000 := ⟨gφ - 3000000, by unfold gφ; omega⟩
theorem m_searched {q : Cfg} (hq : okC q) {s : gS} {p : Nat → Nat} {n d win : Nat} (hs : MS q s) (hp : StB s p) (hk : okP q p n) (h1 : s.1 27 = zI n) (h2 : s.1 28 = zI win) (hw : win ≤ 3) (hn : win = 3 → n < cN q) (hd : d ≤ 5) : ∃ u, f_X9_searched s (zI d) = some (zI (if win = 3 then valF q d p n else endV win n), u) ∧ StB u p ∧ Kp [] [22, 23, 24, 25] s u := by
  have hN := okC_n hq
  have hn16 : n ≤ 16 := by unfold okP at hk; omega
  unfold f_X9_searched
  rw [h1, h2, zI_par (by omega)]
  by_cases c1 : win = 3
  · subst c1
    rw [if_pos (by rw [zI_3]; rfl), if_pos rfl]
    by_cases c2 : d = 0
    · subst c2
      rw [if_pos (by rw [zI_0]; rfl)]
      exact ⟨s, by rw [zI_0]; rfl, hp, Kp.rf⟩
    · rw [if_neg (by rw [zI_0, zI_eq (by omega) (by omega) (by omega) (by omega)]; omega)]
      obtain ⟨e, rfl⟩ : ∃ e, d = e + 1 := ⟨d - 1, by omega⟩
      have e0 : (0 : Int32).toNatClampNeg = 0 := rfl
      rw [e0, zI_m2]
      obtain ⟨t, u, g1, g2, g3, g4, g5, g6, g7⟩ := m_level hq (d := e + 1) (n0 := n) hd hn16 e 0 (by omega) (cN q) 0 (-2) p (sa (sa s 23 0 (zI (-2))) 24 0 0) (by omega) hs hp hk (hn rfl) (by rw [zI_0]; simp [sa_at]) (by simp [sa_at]) (by omega)
      have hb := TBf_le e (by omega)
      have ht : t ≤ 16 * TBf e := Nat.le_trans g1 (Nat.mul_le_mul_right _ hN.2)
      obtain ⟨m, hm⟩ := gf_big
      obtain ⟨m2, hm2⟩ : ∃ m2, gφ = (m2 + 1) + t := ⟨gφ - t - 1, by omega⟩
      have h9 := bfF_best (f := mvF q e p n) (ok := isMv q p) (cN q) 0
      rw [Nat.zero_add] at h9
      have h8 : bfF (mvF q e p (n + 0)) (isMv q p) (-2) 0 (cN q) = valF q (e + 1) p n := h9
      rw [h8] at g5
      have hsu : MS q u := hs.kp (Kp.tr (Kp.sa (by decide) (Kp.sa (by decide) Kp.rf)) g6) (by decide)
      refine ⟨u, ?_, g3, Kp.tr (Kp.sa (by decide) (Kp.sa (by decide) Kp.rf)) g6⟩
      have h7 := g2 (m2 + 1)
      rw [← hm2] at h7
      exact h7.trans (lp_end hq hsu g4 g5 m2)
  · rw [if_neg (by rw [zI_3, zI_eq (by omega) (by omega) (by omega) (by omega)]; omega), if_neg c1]
    refine ⟨s, ?_, hp, Kp.rf⟩
    unfold endV
    by_cases c2 : win = 2
    · rw [if_pos (by rw [zI_2, c2]; rfl), if_pos c2, zI_0]
    · rw [if_neg (by rw [zI_2, zI_eq (by omega) (by omega) (by omega) (by omega)]; omega), if_neg c2]
      by_cases c3 : win = n % 2
      · rw [if_pos (by rw [c3]), if_pos c3, zI_1]
      · rw [if_neg (by rw [zI_eq (by omega) (by omega) (by omega) (by omega)]; omega), if_neg c3, zI_m1]
