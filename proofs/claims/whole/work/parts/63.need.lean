/-! THE PLAN: what a line needs, and runs of moves of one player -/
def lnF (q : Cfg) (t s c : Nat) : Bool := decide (∃ j, j < cK q ∧ p5 q c = s + j * t)
def neF (q : Cfg) (p : Nat → Nat) (v t s c : Nat) : Bool := lnF q t s c && decide (p c ≠ v)
def supF (q : Cfg) (p : Nat → Nat) (g : Nat → Bool) : Nat → Nat → Bool
  | 0 => g
  | r + 1 => fun c => supF q p g r c || (decide (c + cW q < cN q) && supF q p g r (c + cW q) && decide (p c = 2))
def ndF (q : Cfg) (p : Nat → Nat) (v t s : Nat) : Nat → Bool := if cG q = true then supF q p (neF q p v t s) (cH q - 1) else neF q p v t s
def GdL (q : Cfg) (p : Nat → Nat) (v t s : Nat) : Prop := isT t ∧ ∀ j, j < cK q → inBd q (s + j * t) = true ∧ p (c5 q (s + j * t)) ≠ 1 - v
theorem supF_s (q : Cfg) (p : Nat → Nat) (g : Nat → Bool) (r c : Nat) : supF q p g (r + 1) c = (supF q p g r c || (decide (c + cW q < cN q) && supF q p g r (c + cW q) && decide (p c = 2))) := rfl
theorem supF_up {q : Cfg} {p : Nat → Nat} {g : Nat → Bool} {r c : Nat} (h : supF q p g r c = true) : supF q p g (r + 1) c = true := by
  rw [supF_s, h, Bool.true_or]
theorem supF_g {q : Cfg} {p : Nat → Nat} {g : Nat → Bool} {c : Nat} (h : g c = true) : ∀ r, supF q p g r c = true
  | 0 => h
  | r + 1 => supF_up (supF_g h r)
theorem supF_stab {q : Cfg} {p : Nat → Nat} {g : Nat → Bool} : ∀ (r c : Nat), cN q ≤ c + (r + 1) * cW q → supF q p g (r + 1) c = supF q p g r c
  | 0, c, h => by
    rw [supF_s, decide_eq_false (by omega), Bool.false_and, Bool.false_and, Bool.or_false]
  | r + 1, c, h => by
    have e : (r + 1 + 1) * cW q = (r + 1) * cW q + cW q := Nat.succ_mul _ _
    have ih := supF_stab (q := q) (p := p) (g := g) r (c + cW q) (by omega)
    rw [supF_s q p g (r + 1) c, ih]
    cases hx : (decide (c + cW q < cN q) && supF q p g r (c + cW q) && decide (p c = 2)) with
    | false => rw [Bool.or_false]
    | true => rw [supF_s, hx, Bool.or_true, Bool.or_true]
theorem supF_top {q : Cfg} {p : Nat → Nat} {g : Nat → Bool} : ∀ {r c : Nat}, supF q p g r c = true → g c = true ∨ (c + cW q < cN q ∧ supF q p g r (c + cW q) = true ∧ p c = 2)
  | 0, c, h => Or.inl h
  | r + 1, c, h => by
    rw [supF_s, Bool.or_eq_true, Bool.and_eq_true, Bool.and_eq_true, decide_eq_true_eq, decide_eq_true_eq] at h
    rcases h with h | h
    · rcases supF_top h with h | h
      · exact Or.inl h
      · exact Or.inr ⟨h.1, supF_up h.2.1, h.2.2⟩
    · exact Or.inr ⟨h.1.1, supF_up h.1.2, h.2⟩
theorem supF_in {q : Cfg} {p : Nat → Nat} {g S : Nat → Bool} (h0 : ∀ c, c < cN q → g c = true → S c = true) (h1 : ∀ c, c + cW q < cN q → S (c + cW q) = true → p c = 2 → S c = true) : ∀ (r c : Nat), c < cN q → supF q p g r c = true → S c = true
  | 0, c, hc, h => h0 c hc h
  | r + 1, c, hc, h => by
    rw [supF_s, Bool.or_eq_true, Bool.and_eq_true, Bool.and_eq_true, decide_eq_true_eq, decide_eq_true_eq] at h
    rcases h with h | h
    · exact supF_in h0 h1 r c hc h
    · exact h1 c h.1.1 (supF_in h0 h1 r _ h.1.1 h.1.2) h.2
theorem p5_div {q : Cfg} (hq : okC q) (c : Nat) : p5 q c / 5 = c / cW q ∧ p5 q c % 5 = c % cW q := by
  obtain ⟨h1, h2, -⟩ := hq
  have h3 : c % cW q < cW q := Nat.mod_lt _ (by omega)
  unfold p5
  constructor
  · rw [Nat.mul_add_div (by decide), Nat.div_eq_of_lt (show c % cW q < 5 by omega), Nat.add_zero]
  · rw [Nat.mul_add_mod, Nat.mod_eq_of_lt (show c % cW q < 5 by omega)]
theorem inBd_p5 {q : Cfg} (hq : okC q) {c : Nat} (h : inBd q (p5 q c) = true) : c < cN q := by
  have h1 := (of_decide_eq_true h : _ ∧ _).2
  rw [(p5_div hq c).1] at h1
  have hw : 0 < cW q := by have := hq.1; omega
  rw [Nat.div_lt_iff_lt_mul hw, Nat.mul_comm] at h1
  exact h1
theorem neF_in {q : Cfg} {p : Nat → Nat} {v t s c : Nat} (hq : okC q) (hp : ∀ j, p j ≤ 2) (hv : v ≤ 1) (h : GdL q p v t s) (hn : neF q p v t s c = true) : c < cN q ∧ p c = 2 ∧ ∃ j, j < cK q ∧ p5 q c = s + j * t := by
  unfold neF lnF at hn
  rw [Bool.and_eq_true, decide_eq_true_eq, decide_eq_true_eq] at hn
  obtain ⟨⟨j, j1, j2⟩, h2⟩ := hn
  obtain ⟨b1, b2⟩ := h.2 j j1
  rw [← j2] at b1 b2
  have hc := inBd_p5 hq b1
  rw [(p5_ok hq hc).2.1] at b2
  have := hp c
  exact ⟨hc, by omega, j, j1, j2⟩
theorem ndF_ne {q : Cfg} {p : Nat → Nat} {v t s c : Nat} (h : neF q p v t s c = true) : ndF q p v t s c = true := by
  unfold ndF
  by_cases g : cG q = true
  · rw [if_pos g]
    exact supF_g h _
  · rw [if_neg g]
    exact h
theorem ndF_top {q : Cfg} {p : Nat → Nat} {v t s c : Nat} (h : ndF q p v t s c = true) : neF q p v t s c = true ∨ (c + cW q < cN q ∧ ndF q p v t s (c + cW q) = true ∧ p c = 2) := by
  unfold ndF at h ⊢
  by_cases g : cG q = true
  · rw [if_pos g] at h ⊢
    exact supF_top h
  · rw [if_neg g] at h
    exact Or.inl h
theorem ndF_cl {q : Cfg} {p : Nat → Nat} {v t s c : Nat} (hq : okC q) (g : cG q = true) (h : ndF q p v t s (c + cW q) = true) (h1 : c + cW q < cN q) (h2 : p c = 2) : ndF q p v t s c = true := by
  unfold ndF at h ⊢
  rw [if_pos g] at h ⊢
  obtain ⟨-, -, q3, -⟩ := id hq
  have e : (cH q - 1 + 1) * cW q = cN q := by
    rw [Nat.sub_add_cancel (by omega), Nat.mul_comm]
    rfl
  rw [← supF_stab (cH q - 1) c (by omega), supF_s, h, decide_eq_true h1, decide_eq_true h2, Bool.true_and, Bool.true_and, Bool.or_true]
theorem ndF_in {q : Cfg} {p : Nat → Nat} {v t s c : Nat} (hq : okC q) (hp : ∀ j, p j ≤ 2) (hv : v ≤ 1) (h : GdL q p v t s) (hn : ndF q p v t s c = true) : c < cN q ∧ p c = 2 := by
  rcases ndF_top hn with g | g
  · have := neF_in hq hp hv h g
    exact ⟨this.1, this.2.1⟩
  · exact ⟨by omega, g.2.2⟩
/-- moves of one player alone; whether the last one makes a row -/
def rcF (q : Cfg) (v : Nat) : List Nat → (Nat → Nat) → Bool → Bool
  | [], _, b => b
  | x :: r, p, _ => isMv q p x && rcF q v r (set1 p x v) (rowAt q p v x)
def lsF (g : Nat → Bool) : Nat → Nat → List Nat
  | _, 0 => []
  | c, m + 1 => if g c = true then c :: lsF g (c + 1) m else lsF g (c + 1) m
theorem lsF_len (g : Nat → Bool) : ∀ (m c : Nat), cntF g c + (lsF g c m).length = cntF g (c + m)
  | 0, c => rfl
  | m + 1, c => by
    have ih := lsF_len g m (c + 1)
    rw [show c + (m + 1) = c + 1 + m by omega, ← ih, lsF, cntF]
    by_cases e : g c = true
    · rw [if_pos e, if_pos e, List.length_cons]
      omega
    · rw [if_neg e, if_neg e]
      rfl
def paF (p : Nat → Nat) (g : Nat → Bool) (v c : Nat) : Nat → Nat := fun j => if j < c ∧ g j = true then v else p j
theorem rc_A {q : Cfg} {p : Nat → Nat} {g : Nat → Bool} {v : Nat} (hv : v ≤ 1) (h1 : ∀ c, g c = true → c < cN q ∧ p c = 2) (h2 : ∀ c, cG q = true → g (c + cW q) = true → p c = 2 → g c = true) (h3 : ∀ c, g c = true → (∀ j, c < j → g j = false) → rowAt q (paF p g v c) v c = true) : ∀ (m c : Nat) (b : Bool), c + m = cN q → ((∃ j, c ≤ j ∧ g j = true) ∨ b = true) → rcF q v (lsF g c m) (paF p g v c) b = true
  | 0, c, b, hc, hb => by
    rcases hb with ⟨j, j1, j2⟩ | hb
    · have := (h1 j j2).1
      omega
    · exact hb
  | m + 1, c, b, hc, hb => by
    rw [lsF]
    by_cases e : g c = true
    · rw [if_pos e, rcF]
      obtain ⟨c1, c2⟩ := h1 c e
      have hmv : isMv q (paF p g v c) c = true := by
        unfold isMv
        rw [decide_eq_true_eq]
        refine ⟨c1, ?_, ?_⟩
        · unfold paF
          rw [if_neg (by omega)]
          exact c2
        · by_cases gg : cG q = true
          · by_cases l : c < cW q
            · exact Or.inr (Or.inl l)
            · refine Or.inr (Or.inr ?_)
              unfold paF
              by_cases pp : p (c - cW q) = 2
              · have := h2 (c - cW q) gg (by rw [Nat.sub_add_cancel (by omega)]; exact e) pp
                by_cases w0 : cW q = 0
                · rw [w0] at this ⊢
                  exfalso
                  have e0 : cN q = 0 := by unfold cN; rw [w0, Nat.zero_mul]
                  omega
                · rw [if_pos ⟨by omega, this⟩]
                  omega
              · by_cases k : c - cW q < c ∧ g (c - cW q) = true
                · rw [if_pos k]; omega
                · rw [if_neg k]; exact pp
          · left
            cases h : cG q with
            | false => rfl
            | true => exact absurd h gg
      have hset : set1 (paF p g v c) c v = paF p g v (c + 1) := by
        funext j
        unfold set1 paF
        by_cases k : j = c
        · rw [if_pos k, if_pos ⟨by omega, by rw [k]; exact e⟩]
        · rw [if_neg k]
          by_cases l : j < c ∧ g j = true
          · rw [if_pos l, if_pos ⟨by omega, l.2⟩]
          · rw [if_neg l, if_neg (fun t => l ⟨by omega, t.2⟩)]
      rw [hmv, Bool.true_and, hset]
      refine rc_A hv h1 h2 h3 m (c + 1) _ (by omega) ?_
      by_cases k : ∃ j, c + 1 ≤ j ∧ g j = true
      · exact Or.inl k
      · refine Or.inr (h3 c e (fun j hj => ?_))
        cases h : g j with
        | false => rfl
        | true => exact absurd ⟨j, hj, h⟩ k
    · rw [if_neg e]
      have hset : paF p g v c = paF p g v (c + 1) := by
        funext j
        unfold paF
        by_cases l : j < c ∧ g j = true
        · rw [if_pos l, if_pos ⟨by omega, l.2⟩]
        · rw [if_neg l, if_neg (fun t => l ⟨by
            by_cases k : j = c
            · exact absurd (by rw [← k]; exact t.2) e
            · omega, t.2⟩)]
      rw [hset]
      refine rc_A hv h1 h2 h3 m (c + 1) b (by omega) ?_
      rcases hb with ⟨j, j1, j2⟩ | hb
      · refine Or.inl ⟨j, ?_, j2⟩
        by_cases k : j = c
        · exact absurd (by rw [← k]; exact j2) e
        · omega
      · exact Or.inr hb
theorem plan_A {q : Cfg} {p : Nat → Nat} {v t s : Nat} (hq : okC q) (hp : ∀ j, p j ≤ 2) (hv : v ≤ 1) (h : GdL q p v t s) (hx : ∃ c, ndF q p v t s c = true) : ∃ l : List Nat, l.length = cntF (ndF q p v t s) (cN q) ∧ rcF q v l p false = true := by
  have hts := h.1.rng
  refine ⟨lsF (ndF q p v t s) 0 (cN q), ?_, ?_⟩
  · have := lsF_len (ndF q p v t s) (cN q) 0
    rw [Nat.zero_add] at this
    rw [← this, cntF, Nat.zero_add]
  · have e0 : p = paF p (ndF q p v t s) v 0 := by
      funext j
      unfold paF
      rw [if_neg (by omega)]
    have key := rc_A (q := q) (p := p) (g := ndF q p v t s) (v := v) hv (fun c hc => ndF_in hq hp hv h hc) (fun c gg hc hpc => ndF_cl hq gg hc (ndF_in hq hp hv h hc).1 hpc) (fun c hc hl => by
      have hcn := ndF_in hq hp hv h hc
      have hne : neF q p v t s c = true := by
        rcases ndF_top hc with g | g
        · exact g
        · have hw := hq.1
          have := hl (c + cW q) (by omega)
          rw [g.2.1] at this
          cases this
      obtain ⟨-, -, a, a1, a2⟩ := neF_in hq hp hv h hne
      refine HL.row hq hcn.1 h.1 a1 a2 (fun j h1 h2 => ?_)
      obtain ⟨b1, b2⟩ := h.2 j h1
      refine ⟨b1, ?_⟩
      obtain ⟨k1, k2, -⟩ := c5_ok hq b1
      unfold paF
      by_cases pv : p (c5 q (s + j * t)) = v
      · by_cases l : c5 q (s + j * t) < c ∧ ndF q p v t s (c5 q (s + j * t)) = true
        · rw [if_pos l]
        · rw [if_neg l]; exact pv
      · have hn : ndF q p v t s (c5 q (s + j * t)) = true := by
          refine ndF_ne ?_
          unfold neF lnF
          rw [Bool.and_eq_true, decide_eq_true_eq, decide_eq_true_eq]
          exact ⟨⟨j, h1, k2⟩, pv⟩
        have hlt : c5 q (s + j * t) < c := by
          by_cases l : c < c5 q (s + j * t)
          · have := hl _ l
            rw [hn] at this
            cases this
          · have hnc : c5 q (s + j * t) ≠ c := by
              intro e
              rw [e] at k2
              have := mul_ne hts.1 h2
              omega
            omega
        rw [if_pos ⟨hlt, hn⟩]) (cN q) 0 false (by omega) (by
      obtain ⟨c, hc⟩ := hx
      exact Or.inl ⟨c, by omega, hc⟩)
    rw [← e0] at key
    exact key
def pS (p : Nat → Nat) (S : Nat → Bool) (v : Nat) : Nat → Nat := fun j => if S j = true then v else p j
def adB (S : Nat → Bool) (x : Nat) : Nat → Bool := fun j => S j || decide (j = x)
theorem adB_at (S : Nat → Bool) (x j : Nat) : adB S x j = (S j || decide (j = x)) := rfl
theorem pS_at (p : Nat → Nat) (S : Nat → Bool) (v j : Nat) : pS p S v j = if S j = true then v else p j := rfl
theorem rc_B {q : Cfg} {p : Nat → Nat} {v : Nat} (hq : okC q) (hv : v ≤ 1) : ∀ (l : List Nat) (S : Nat → Bool) (b : Bool), (∀ j, S j = true → p j = 2) → (cG q = true → ∀ j, S (j + cW q) = true → p j = 2 → S j = true) → (b = true → HL q v (pS p S v)) → rcF q v l (pS p S v) b = true → ∃ S2 : Nat → Bool, (∀ j, S2 j = true → p j = 2) ∧ (cG q = true → ∀ j, S2 (j + cW q) = true → p j = 2 → S2 j = true) ∧ cntF S2 (cN q) = cntF S (cN q) + l.length ∧ HL q v (pS p S2 v)
  | [], S, b, h1, h2, h3, h => ⟨S, h1, h2, rfl, h3 h⟩
  | x :: r, S, b, h1, h2, h3, h => by
    rw [rcF, Bool.and_eq_true] at h
    obtain ⟨hm, h⟩ := h
    obtain ⟨m1, m2, m3⟩ := (of_decide_eq_true hm : _ ∧ _ ∧ _)
    have hSx : S x = false := by
      cases e : S x with
      | false => rfl
      | true =>
        unfold pS at m2
        rw [if_pos e] at m2
        omega
    have hpx : p x = 2 := by
      unfold pS at m2
      rw [hSx, if_neg (by decide)] at m2
      exact m2
    have hset : set1 (pS p S v) x v = pS p (adB S x) v := by
      funext j
      rw [pS_at, adB_at]
      unfold set1
      by_cases k : j = x
      · rw [if_pos k, decide_eq_true k, Bool.or_true, if_pos rfl]
      · rw [if_neg k, decide_eq_false k, Bool.or_false, pS_at]
    rw [hset] at h
    obtain ⟨S2, s1, s2, s3, s4⟩ := rc_B hq hv r (adB S x) (rowAt q (pS p S v) v x) (fun j hj => by
      rw [adB_at, Bool.or_eq_true, decide_eq_true_eq] at hj
      rcases hj with hj | hj
      · exact h1 j hj
      · rw [hj]; exact hpx) (fun gg j hj hpj => by
      rw [adB_at, Bool.or_eq_true, decide_eq_true_eq] at hj ⊢
      rcases hj with hj | hj
      · exact Or.inl (h2 gg j hj hpj)
      · left
        rcases m3 with m3 | m3 | m3
        · rw [gg] at m3; cases m3
        · omega
        · have ej : x - cW q = j := by omega
          rw [ej] at m3
          cases e : S j with
          | true => rfl
          | false =>
            unfold pS at m3
            rw [e, if_neg (by decide)] at m3
            exact absurd hpj m3) (fun hr => by
      obtain ⟨t, a, ht, a1, a2, a3⟩ := row_to hq m1 hr
      refine ⟨t, p5 q x - a * t, ht, fun j hj => ?_⟩
      by_cases k : j = a
      · obtain ⟨k1, k2, -⟩ := p5_ok hq m1
        rw [k, Nat.sub_add_cancel a2, k2]
        refine ⟨k1, ?_⟩
        rw [pS_at, adB_at, decide_eq_true rfl, Bool.or_true, if_pos rfl]
      · obtain ⟨b1, b2⟩ := a3 j hj k
        refine ⟨b1, ?_⟩
        rw [pS_at] at b2 ⊢
        rw [adB_at]
        by_cases y : S (c5 q (p5 q x - a * t + j * t)) = true
        · rw [y, Bool.true_or, if_pos rfl]
        · rw [if_neg y] at b2
          by_cases z : (S (c5 q (p5 q x - a * t + j * t)) || decide (c5 q (p5 q x - a * t + j * t) = x)) = true
          · rw [if_pos z]
          · rw [if_neg z]; exact b2) h
    refine ⟨S2, s1, s2, ?_, s4⟩
    have c1 := cnt_less (f := adB S x) (c := x) (by rw [adB_at, decide_eq_true rfl, Bool.or_true]) m1
    have c2 : cntF (fun a => adB S x a && !decide (a = x)) (cN q) = cntF S (cN q) := cntF_cong (fun c _ => by
      show (adB S x c && !decide (c = x)) = S c
      rw [adB_at]
      by_cases k : c = x
      · rw [k, hSx, decide_eq_true rfl]
        rfl
      · rw [decide_eq_false k, Bool.or_false]
        exact Bool.and_true _)
    rw [s3, ← c1, c2, List.length_cons]
    omega
theorem cnt_mono {f g : Nat → Bool} : ∀ {m : Nat}, (∀ c, c < m → f c = true → g c = true) → cntF f m ≤ cntF g m
  | 0, _ => Nat.le_refl _
  | m + 1, h => by
    have ih := cnt_mono (f := f) (g := g) (m := m) (fun c hc => h c (by omega))
    rw [cntF, cntF]
    by_cases e : f m = true
    · rw [if_pos e, if_pos (h m (by omega) e)]
      omega
    · rw [if_neg e]
      omega
theorem plan_B {q : Cfg} {p : Nat → Nat} {v : Nat} {l : List Nat} (hq : okC q) (hv : v ≤ 1) (hl : rcF q v l p false = true) : ∃ t s, GdL q p v t s ∧ cntF (ndF q p v t s) (cN q) ≤ l.length := by
  have e0 : p = pS p (fun _ => false) v := by
    funext j
    unfold pS
    rw [if_neg Bool.false_ne_true]
  have hl2 : rcF q v l (pS p (fun _ => false) v) false = true := by rw [← e0]; exact hl
  obtain ⟨S, s1, s2, s3, t, s, ht, hs⟩ := rc_B hq hv l (fun _ => false) false (fun j hj => by cases hj) (fun _ j hj => by cases hj) (fun hj => by cases hj) hl2
  have c0 : cntF (fun _ => false) (cN q) = 0 := cnt_0 (fun _ _ => rfl)
  rw [c0, Nat.zero_add] at s3
  refine ⟨t, s, ⟨ht, fun j hj => ?_⟩, ?_⟩
  · obtain ⟨b1, b2⟩ := hs j hj
    refine ⟨b1, ?_⟩
    unfold pS at b2
    by_cases y : S (c5 q (s + j * t)) = true
    · have := s1 _ y
      omega
    · rw [if_neg y] at b2
      omega
  · rw [← s3]
    refine cnt_mono (fun c hc h => ?_)
    have hne : ∀ c, c < cN q → neF q p v t s c = true → S c = true := by
      intro c hc hn
      unfold neF lnF at hn
      rw [Bool.and_eq_true, decide_eq_true_eq, decide_eq_true_eq] at hn
      obtain ⟨⟨j, j1, j2⟩, h2⟩ := hn
      obtain ⟨b1, b2⟩ := hs j j1
      rw [← j2, (p5_ok hq hc).2.1] at b2
      unfold pS at b2
      by_cases y : S c = true
      · exact y
      · rw [if_neg y] at b2
        exact absurd b2 h2
    unfold ndF at h
    by_cases g : cG q = true
    · rw [if_pos g] at h
      exact supF_in hne (fun c h1 h2 h3 => s2 g c h2 h3) _ c hc h
    · rw [if_neg g] at h
      exact hne c hc h
