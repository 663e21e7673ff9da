section GoMore
variable {P : gX → Prop} {y : MethodName} {cc : ByteArray} {nL : Nat} {rt : Option FieldType} {d mc ms : Nat} {Q : Option Value → List va_E → Prop} {k n : Nat} {w : List va_E} {pc q : Nat} {ls : List (Option Value)} {st : List Value}

theorem go_callV0 {idx np d2 b ci : Nat} {M : gM} {as rest : List Value} {fs : List Value} {r : Option Value} {w2 : List va_E} {T : u_T} {N : Nat} {st2 : List Value} (hd : decode cc pc = .ok (.invokevirtual idx, 3)) (hC : gCV y.cls idx np M) (hM : Cal d2 M (.ref b :: as) w 0 0 r w2) (he : w[b]? = some (.inr (ci, fs))) (hc : gCl[ci]? = some (M.1.cls, T, N)) (hs : st = as.reverse ++ .ref b :: rest) (hn : as.length = np) (hr : (rest.map fun v => v.category).sum ≤ 8) (hdd : d2 + 1 ≤ d) (hk : k ≤ mc ∧ n ≤ ms) (hq : pc + 3 = q) (hs2 : r.toList ++ rest = st2) (h : Go P y cc nL rt d mc ms Q k n w2 q ls st2) : Go P y cc nL rt d mc ms Q k n w pc ls st := go_callV hd hC hM he hc hs hn hr hdd hk hq hs2 h
theorem go_callS0 {idx np d2 : Nat} {M : gM} {as rest : List Value} {r : Option Value} {w2 : List va_E} {st2 : List Value} (hd : decode cc pc = .ok (.invokestatic idx, 3)) (hC : gCS y.cls idx np M) (hM : Cal d2 M as w 0 0 r w2) (hs : st = as.reverse ++ rest) (hn : as.length = np) (hr : (rest.map fun v => v.category).sum ≤ 8) (hdd : d2 + 1 ≤ d) (hk : k ≤ mc ∧ n ≤ ms) (hq : pc + 3 = q) (hs2 : r.toList ++ rest = st2) (h : Go P y cc nL rt d mc ms Q k n w2 q ls st2) : Go P y cc nL rt d mc ms Q k n w pc ls st := go_callS hd hC hM hs hn hr hdd hk hq hs2 h
theorem g_sum (G : gX) (rest : List Value) : ((rest.map (gv G)).map fun v => v.category).sum = (rest.map fun v => v.category).sum := by
  rw [List.map_map, show ((fun v : Value => v.category) ∘ gv G) = (fun v : Value => v.category) from funext (gv_cat G)]
theorem gmath_max_s : Cond.static Lib.Math.max.name ∈ gT := gT_t (i := 36) (by decide +kernel) rfl
theorem gmath_max_c : Cond.code Lib.Math.max.name Lib.Math.max.code 2 (some .int) ∈ gT := gT_t (i := 37) (by decide +kernel) rfl
theorem cmX0_19 : Cond.methodLink RX0 19 Lib.Math.max.name ∈ gT := gT_t (i := 35) (by decide +kernel) rfl
theorem gmath_min_s : Cond.static Lib.Math.min.name ∈ gT := gT_t (i := 313) (by decide +kernel) rfl
theorem gmath_min_c : Cond.code Lib.Math.min.name Lib.Math.min.code 2 (some .int) ∈ gT := gT_t (i := 314) (by decide +kernel) rfl
theorem cmX2_50 : Cond.methodLink RX2 50 Lib.Math.min.name ∈ gT := gT_t (i := 312) (by decide +kernel) rfl
theorem cmX0_73 : Cond.methodLink RX0 73 Lib.Math.min.name ∈ gT := gT_t (i := 477) (by decide +kernel) rfl
theorem cmX1_40 : Cond.methodLink RX1 40 Lib.Math.min.name ∈ gT := gT_t (i := 556) (by decide +kernel) rfl
theorem cmX8_197 : Cond.methodLink RX8 197 Lib.Math.min.name ∈ gT := gT_t (i := 610) (by decide +kernel) rfl
theorem gmath_ini : Cond.initialized "java/lang/Math" ∈ gT := gT_t (i := 3) (by decide +kernel) rfl
theorem ckJ6_265 : Cond.constant RJ6 265 1431655765 ∈ gT := gT_t (i := 392) (by decide +kernel) rfl
theorem ckJ6_266 : Cond.constant RJ6 266 858993459 ∈ gT := gT_t (i := 393) (by decide +kernel) rfl
theorem ckJ6_267 : Cond.constant RJ6 267 252645135 ∈ gT := gT_t (i := 394) (by decide +kernel) rfl
theorem go_mmax {idx : Nat} {a b : Int32} (hd : decode cc pc = .ok (.invokestatic idx, 3)) (hw1 : Cond.methodLink y.cls idx Lib.Math.max.name ∈ gT) (h1 : 1 ≤ d) (hr : (st.map fun v => v.category).sum ≤ 8) (hk : k ≤ mc ∧ n ≤ ms) (hq : pc + 3 = q) (h : Go P y cc nL rt d mc ms Q k n w q ls (.int (if a < b then b else a) :: st)) : Go P y cc nL rt d mc ms Q k n w pc ls (.int b :: .int a :: st) := by
  subst hq
  intro G hg p l e R s m args below meth c Z A E H locs la hP hS hl
  obtain ⟨hx, hb, hml, hown, hts, hF, hfr, hlo, hmc, hms, -⟩ := id A
  exact va_mmax hx hb (hml.trans hl.1.symm) hown (hts _ hw1) (hts _ gmath_max_s) (hts _ gmath_ini) (hts _ gmath_max_c) (by omega) (by rw [g_sum]; omega) (by omega) (by omega) hd (h G hg p l e R s m args below meth c Z A E H locs la hP hS hl)
theorem go_mmin {idx : Nat} {a b : Int32} (hd : decode cc pc = .ok (.invokestatic idx, 3)) (hw1 : Cond.methodLink y.cls idx Lib.Math.min.name ∈ gT) (h1 : 1 ≤ d) (hr : (st.map fun v => v.category).sum ≤ 8) (hk : k ≤ mc ∧ n ≤ ms) (hq : pc + 3 = q) (h : Go P y cc nL rt d mc ms Q k n w q ls (.int (if b < a then b else a) :: st)) : Go P y cc nL rt d mc ms Q k n w pc ls (.int b :: .int a :: st) := by
  subst hq
  intro G hg p l e R s m args below meth c Z A E H locs la hP hS hl
  obtain ⟨hx, hb, hml, hown, hts, hF, hfr, hlo, hmc, hms, -⟩ := id A
  exact va_mmin hx hb (hml.trans hl.1.symm) hown (hts _ hw1) (hts _ gmath_min_s) (hts _ gmath_ini) (hts _ gmath_min_c) (by omega) (by rw [g_sum]; omega) (by omega) (by omega) hd (h G hg p l e R s m args below meth c Z A E H locs la hP hS hl)
theorem go_ldcw {idx : Nat} {v : Int32} (hd : decode cc pc = .ok (.ldc_w idx, 3)) (hw1 : Cond.constant y.cls idx v ∈ gT) (hq : pc + 3 = q) (h : Go P y cc nL rt d mc ms Q k n w q ls (.int v :: st)) : Go P y cc nL rt d mc ms Q k n w pc ls st := by
  subst hq
  intro G hg p l e R s m args below meth c Z A E H locs la hP hS hl
  exact lv_ldcw A.1 A.2.1 A.2.2.2.1 (A.2.2.2.2.1 _ hw1) hd (h G hg p l e R s m args below meth c Z A E H locs la hP hS hl)
/-- slots that are forgotten -/
def gSub : List (Option Value) → List (Option Value) → Prop
  | [], [] => True
  | none :: t2, _ :: t => gSub t2 t
  | some v :: t2, x :: t => x = some v ∧ gSub t2 t
  | _, _ => False
theorem gSub_at : ∀ (l2 l : List (Option Value)), gSub l2 l → ∀ (i : Nat) (v : Value), l2[i]? = some (some v) → l[i]? = some (some v)
  | [], [], _, i, v, h => by simp at h
  | none :: t2, x :: t, hs, i, v, h => by
    cases i with
    | zero => simp at h
    | succ i => simpa using gSub_at t2 t hs i v (by simpa using h)
  | some u :: t2, x :: t, hs, i, v, h => by
    cases i with
    | zero =>
      have e : u = v := by simpa using h
      subst e
      simp [hs.1]
    | succ i => simpa using gSub_at t2 t hs.2 i v (by simpa using h)
  | [], _ :: _, hs, _, _, _ => hs.elim
  | none :: _, [], hs, _, _, _ => hs.elim
  | some _ :: _, [], hs, _, _, _ => hs.elim
theorem go_ls {ls2 : List (Option Value)} (hs : gSub ls2 ls) (h : Go P y cc nL rt d mc ms Q k n w pc ls2 st) : Go P y cc nL rt d mc ms Q k n w pc ls st := fun G hg p l e R s m args below meth c Z A E H locs la hP hS hl => h G hg p l e R s m args below meth c Z A E H locs la hP hS ⟨hl.1, hl.2.1, fun i v hi => hl.2.2 i v (gSub_at _ _ hs i v hi)⟩
end GoMore
theorem g_bind {α β : Type} {x : Option α} {f : α → Option β} {r : β} (h : x.bind f = some r) : ∃ a, x = some a ∧ f a = some r := by
  cases x with
  | none => cases h
  | some a => exact ⟨a, rfl, h⟩
theorem g_guard {β : Type} {c : Bool} {x : Option β} {r : β} (h : (if c = true then x else none) = some r) : c = true ∧ x = some r := by
  by_cases hc : c = true
  · rw [if_pos hc] at h
    exact ⟨hc, h⟩
  · rw [if_neg hc] at h
    cases h
def inB (x : Int32) (N : Nat) : Bool := decide (0 ≤ x.toInt ∧ x.toInt < N)
theorem inB_in {x : Int32} {N : Nat} (h : inB x N = true) : vp_in x N := vp_in_iff.mpr (of_decide_eq_true h)
def nz (x : Int32) : Bool := decide (x ≠ 0)
theorem nz_ne {x : Int32} (h : nz x = true) : ¬ x = 0 := of_decide_eq_true h
/-- a truth value as the machine has it -/
def isZ (x : Int32) : Bool := decide (x = 0 ∨ x = 1)
theorem isZ_nar {x : Int32} (h : isZ x = true) : narrow .boolean (.int x) = .int x := by
  rcases (of_decide_eq_true h : x = 0 ∨ x = 1) with rfl | rfl <;> rfl
theorem isZ_fit {x : Int32} (h : isZ x = true) : fits .boolean (.int x) = true := by
  rcases (of_decide_eq_true h : x = 0 ∨ x = 1) with rfl | rfl <;> rfl
/-! THE STATE: numbers by their places, rows by theirs -/
abbrev gS : Type := (Nat → Int32) × (Nat → Nat → Int32)
def ss (s : gS) (k : Nat) (v : Int32) : gS := (upd s.1 k v, s.2)
def sa (s : gS) (k i : Nat) (v : Int32) : gS := (s.1, fun j => if j = k then upd (s.2 k) i v else s.2 j)
def sf (s : gS) (k N : Nat) (v : Int32) : gS := (s.1, fun j => if j = k then (fun i => if i < N then v else s.2 k i) else s.2 j)

def wW (s : gS) : List va_E := [.inr (8, [.ref 1, .ref 2, .ref 4, .ref 5, .ref 9, .ref 12, .ref 19, .ref 21]),
  .inr (0, [.int (s.1 0), .int (s.1 1), .int (s.1 2), .int (s.1 3), .int (s.1 4), .int (s.1 5), .int (s.1 6)]),
  .inr (3, [.ref 1, .ref 3, .int (s.1 7), .int (s.1 8)]),
  .inl (0, 16, .inl (s.2 0)),
  .inr (5, [.ref 1]),
  .inr (2, [.ref 1, .ref 2, .ref 4, .ref 6, .ref 7, .ref 8, .int (s.1 9), .int (s.1 10)]),
  .inl (0, 6, .inl (s.2 1)),
  .inl (0, 102, .inl (s.2 2)),
  .inl (0, 102, .inl (s.2 3)),
  .inr (4, [.ref 1, .ref 2, .ref 5, .ref 10]),
  .inr (7, [.ref 11, .int (s.1 17)]),
  .inl (1, 272, .inl (s.2 4)),
  .inr (1, [.ref 13, .ref 14, .ref 15, .int (s.1 11), .ref 16, .ref 17, .ref 18]),
  .inl (0, 12, .inl (s.2 5)),
  .inl (0, 12, .inl (s.2 6)),
  .inl (0, 12, .inl (s.2 7)),
  .inl (0, 202, .inl (s.2 8)),
  .inl (0, 202, .inl (s.2 9)),
  .inl (0, 202, .inl (s.2 10)),
  .inr (6, [.ref 20, .int (s.1 12), .int (s.1 13), .int (s.1 14), .int (s.1 15), .int (s.1 16)]),
  .inl (0, 120, .inl (s.2 11)),
  .inr (7, [.ref 22, .int (s.1 18)]),
  .inl (1, 272, .inl (s.2 12)),
  .inr (9, [.int (s.1 20), .int (s.1 21), .int (s.1 22), .int (s.1 23), .int (s.1 24), .int (s.1 25), .int (s.1 26), .ref 24, .ref 25, .ref 26, .int (s.1 27), .int (s.1 28), .ref 27, .ref 28, .ref 29, .ref 30, .ref 31, .ref 32, .int (s.1 29), .ref 33, .ref 34, .ref 35, .int (s.1 30), .ref 36, .int (s.1 31), .int (s.1 32), .int (s.1 33), .int (s.1 34)]),
  .inl (0, 16, .inl (s.2 20)),
  .inl (0, 6, .inl (s.2 21)),
  .inl (0, 16, .inl (s.2 22)),
  .inl (0, 6, .inl (s.2 23)),
  .inl (0, 6, .inl (s.2 24)),
  .inl (0, 6, .inl (s.2 25)),
  .inl (0, 17, .inl (s.2 26)),
  .inl (2, 17, .inl (s.2 27)),
  .inl (1, 600, .inl (s.2 28)),
  .inl (0, 12, .inl (s.2 29)),
  .inl (0, 12, .inl (s.2 30)),
  .inl (0, 12, .inl (s.2 31)),
  .inl (1, 120, .inl (s.2 32))]
theorem wg_0 (s : gS) : (wW s)[0]? = some (.inr (8, [.ref 1, .ref 2, .ref 4, .ref 5, .ref 9, .ref 12, .ref 19, .ref 21])) := rfl
theorem wg_1 (s : gS) : (wW s)[1]? = some (.inr (0, [.int (s.1 0), .int (s.1 1), .int (s.1 2), .int (s.1 3), .int (s.1 4), .int (s.1 5), .int (s.1 6)])) := rfl
theorem wp_1_0 (s : gS) (v : Int32) : (wW s).set 1 (.inr (0, [.int (s.1 0), .int (s.1 1), .int (s.1 2), .int (s.1 3), .int (s.1 4), .int (s.1 5), .int (s.1 6)].set 0 (.int v))) = wW (ss s 0 v) := rfl
theorem wp_1_1 (s : gS) (v : Int32) : (wW s).set 1 (.inr (0, [.int (s.1 0), .int (s.1 1), .int (s.1 2), .int (s.1 3), .int (s.1 4), .int (s.1 5), .int (s.1 6)].set 1 (.int v))) = wW (ss s 1 v) := rfl
theorem wp_1_2 (s : gS) (v : Int32) : (wW s).set 1 (.inr (0, [.int (s.1 0), .int (s.1 1), .int (s.1 2), .int (s.1 3), .int (s.1 4), .int (s.1 5), .int (s.1 6)].set 2 (.int v))) = wW (ss s 2 v) := rfl
theorem wp_1_3 (s : gS) (v : Int32) : (wW s).set 1 (.inr (0, [.int (s.1 0), .int (s.1 1), .int (s.1 2), .int (s.1 3), .int (s.1 4), .int (s.1 5), .int (s.1 6)].set 3 (.int v))) = wW (ss s 3 v) := rfl
theorem wp_1_4 (s : gS) (v : Int32) : (wW s).set 1 (.inr (0, [.int (s.1 0), .int (s.1 1), .int (s.1 2), .int (s.1 3), .int (s.1 4), .int (s.1 5), .int (s.1 6)].set 4 (.int v))) = wW (ss s 4 v) := rfl
theorem wp_1_5 (s : gS) (v : Int32) : (wW s).set 1 (.inr (0, [.int (s.1 0), .int (s.1 1), .int (s.1 2), .int (s.1 3), .int (s.1 4), .int (s.1 5), .int (s.1 6)].set 5 (.int v))) = wW (ss s 5 v) := rfl
theorem wp_1_6 (s : gS) (v : Int32) : (wW s).set 1 (.inr (0, [.int (s.1 0), .int (s.1 1), .int (s.1 2), .int (s.1 3), .int (s.1 4), .int (s.1 5), .int (s.1 6)].set 6 (.int v))) = wW (ss s 6 v) := rfl
theorem wg_2 (s : gS) : (wW s)[2]? = some (.inr (3, [.ref 1, .ref 3, .int (s.1 7), .int (s.1 8)])) := rfl
theorem wp_2_2 (s : gS) (v : Int32) : (wW s).set 2 (.inr (3, [.ref 1, .ref 3, .int (s.1 7), .int (s.1 8)].set 2 (.int v))) = wW (ss s 7 v) := rfl
theorem wp_2_3 (s : gS) (v : Int32) : (wW s).set 2 (.inr (3, [.ref 1, .ref 3, .int (s.1 7), .int (s.1 8)].set 3 (.int v))) = wW (ss s 8 v) := rfl
theorem wg_3 (s : gS) : (wW s)[3]? = some (.inl (0, 16, .inl (s.2 0))) := rfl
theorem wa_3 (s : gS) (i : Nat) (v : Int32) : (wW s).set 3 (.inl (0, 16, .inl (upd (s.2 0) i v))) = wW (sa s 0 i v) := rfl
theorem wg_4 (s : gS) : (wW s)[4]? = some (.inr (5, [.ref 1])) := rfl
theorem wg_5 (s : gS) : (wW s)[5]? = some (.inr (2, [.ref 1, .ref 2, .ref 4, .ref 6, .ref 7, .ref 8, .int (s.1 9), .int (s.1 10)])) := rfl
theorem wp_5_6 (s : gS) (v : Int32) : (wW s).set 5 (.inr (2, [.ref 1, .ref 2, .ref 4, .ref 6, .ref 7, .ref 8, .int (s.1 9), .int (s.1 10)].set 6 (.int v))) = wW (ss s 9 v) := rfl
theorem wp_5_7 (s : gS) (v : Int32) : (wW s).set 5 (.inr (2, [.ref 1, .ref 2, .ref 4, .ref 6, .ref 7, .ref 8, .int (s.1 9), .int (s.1 10)].set 7 (.int v))) = wW (ss s 10 v) := rfl
theorem wg_6 (s : gS) : (wW s)[6]? = some (.inl (0, 6, .inl (s.2 1))) := rfl
theorem wa_6 (s : gS) (i : Nat) (v : Int32) : (wW s).set 6 (.inl (0, 6, .inl (upd (s.2 1) i v))) = wW (sa s 1 i v) := rfl
theorem wg_7 (s : gS) : (wW s)[7]? = some (.inl (0, 102, .inl (s.2 2))) := rfl
theorem wa_7 (s : gS) (i : Nat) (v : Int32) : (wW s).set 7 (.inl (0, 102, .inl (upd (s.2 2) i v))) = wW (sa s 2 i v) := rfl
theorem wg_8 (s : gS) : (wW s)[8]? = some (.inl (0, 102, .inl (s.2 3))) := rfl
theorem wa_8 (s : gS) (i : Nat) (v : Int32) : (wW s).set 8 (.inl (0, 102, .inl (upd (s.2 3) i v))) = wW (sa s 3 i v) := rfl
theorem wg_9 (s : gS) : (wW s)[9]? = some (.inr (4, [.ref 1, .ref 2, .ref 5, .ref 10])) := rfl
theorem wg_10 (s : gS) : (wW s)[10]? = some (.inr (7, [.ref 11, .int (s.1 17)])) := rfl
theorem wp_10_1 (s : gS) (v : Int32) : (wW s).set 10 (.inr (7, [.ref 11, .int (s.1 17)].set 1 (.int v))) = wW (ss s 17 v) := rfl
theorem wg_11 (s : gS) : (wW s)[11]? = some (.inl (1, 272, .inl (s.2 4))) := rfl
theorem wa_11 (s : gS) (i : Nat) (v : Int32) : (wW s).set 11 (.inl (1, 272, .inl (upd (s.2 4) i v))) = wW (sa s 4 i v) := rfl
theorem wg_12 (s : gS) : (wW s)[12]? = some (.inr (1, [.ref 13, .ref 14, .ref 15, .int (s.1 11), .ref 16, .ref 17, .ref 18])) := rfl
theorem wp_12_3 (s : gS) (v : Int32) : (wW s).set 12 (.inr (1, [.ref 13, .ref 14, .ref 15, .int (s.1 11), .ref 16, .ref 17, .ref 18].set 3 (.int v))) = wW (ss s 11 v) := rfl
theorem wg_13 (s : gS) : (wW s)[13]? = some (.inl (0, 12, .inl (s.2 5))) := rfl
theorem wa_13 (s : gS) (i : Nat) (v : Int32) : (wW s).set 13 (.inl (0, 12, .inl (upd (s.2 5) i v))) = wW (sa s 5 i v) := rfl
theorem wg_14 (s : gS) : (wW s)[14]? = some (.inl (0, 12, .inl (s.2 6))) := rfl
theorem wa_14 (s : gS) (i : Nat) (v : Int32) : (wW s).set 14 (.inl (0, 12, .inl (upd (s.2 6) i v))) = wW (sa s 6 i v) := rfl
theorem wg_15 (s : gS) : (wW s)[15]? = some (.inl (0, 12, .inl (s.2 7))) := rfl
theorem wa_15 (s : gS) (i : Nat) (v : Int32) : (wW s).set 15 (.inl (0, 12, .inl (upd (s.2 7) i v))) = wW (sa s 7 i v) := rfl
theorem wg_16 (s : gS) : (wW s)[16]? = some (.inl (0, 202, .inl (s.2 8))) := rfl
theorem wa_16 (s : gS) (i : Nat) (v : Int32) : (wW s).set 16 (.inl (0, 202, .inl (upd (s.2 8) i v))) = wW (sa s 8 i v) := rfl
theorem wg_17 (s : gS) : (wW s)[17]? = some (.inl (0, 202, .inl (s.2 9))) := rfl
theorem wa_17 (s : gS) (i : Nat) (v : Int32) : (wW s).set 17 (.inl (0, 202, .inl (upd (s.2 9) i v))) = wW (sa s 9 i v) := rfl
theorem wg_18 (s : gS) : (wW s)[18]? = some (.inl (0, 202, .inl (s.2 10))) := rfl
theorem wa_18 (s : gS) (i : Nat) (v : Int32) : (wW s).set 18 (.inl (0, 202, .inl (upd (s.2 10) i v))) = wW (sa s 10 i v) := rfl
theorem wg_19 (s : gS) : (wW s)[19]? = some (.inr (6, [.ref 20, .int (s.1 12), .int (s.1 13), .int (s.1 14), .int (s.1 15), .int (s.1 16)])) := rfl
theorem wp_19_1 (s : gS) (v : Int32) : (wW s).set 19 (.inr (6, [.ref 20, .int (s.1 12), .int (s.1 13), .int (s.1 14), .int (s.1 15), .int (s.1 16)].set 1 (.int v))) = wW (ss s 12 v) := rfl
theorem wp_19_2 (s : gS) (v : Int32) : (wW s).set 19 (.inr (6, [.ref 20, .int (s.1 12), .int (s.1 13), .int (s.1 14), .int (s.1 15), .int (s.1 16)].set 2 (.int v))) = wW (ss s 13 v) := rfl
theorem wp_19_3 (s : gS) (v : Int32) : (wW s).set 19 (.inr (6, [.ref 20, .int (s.1 12), .int (s.1 13), .int (s.1 14), .int (s.1 15), .int (s.1 16)].set 3 (.int v))) = wW (ss s 14 v) := rfl
theorem wp_19_4 (s : gS) (v : Int32) : (wW s).set 19 (.inr (6, [.ref 20, .int (s.1 12), .int (s.1 13), .int (s.1 14), .int (s.1 15), .int (s.1 16)].set 4 (.int v))) = wW (ss s 15 v) := rfl
theorem wp_19_5 (s : gS) (v : Int32) : (wW s).set 19 (.inr (6, [.ref 20, .int (s.1 12), .int (s.1 13), .int (s.1 14), .int (s.1 15), .int (s.1 16)].set 5 (.int v))) = wW (ss s 16 v) := rfl
theorem wg_20 (s : gS) : (wW s)[20]? = some (.inl (0, 120, .inl (s.2 11))) := rfl
theorem wa_20 (s : gS) (i : Nat) (v : Int32) : (wW s).set 20 (.inl (0, 120, .inl (upd (s.2 11) i v))) = wW (sa s 11 i v) := rfl
theorem wg_21 (s : gS) : (wW s)[21]? = some (.inr (7, [.ref 22, .int (s.1 18)])) := rfl
theorem wp_21_1 (s : gS) (v : Int32) : (wW s).set 21 (.inr (7, [.ref 22, .int (s.1 18)].set 1 (.int v))) = wW (ss s 18 v) := rfl
theorem wg_22 (s : gS) : (wW s)[22]? = some (.inl (1, 272, .inl (s.2 12))) := rfl
theorem wa_22 (s : gS) (i : Nat) (v : Int32) : (wW s).set 22 (.inl (1, 272, .inl (upd (s.2 12) i v))) = wW (sa s 12 i v) := rfl
theorem wg_23 (s : gS) : (wW s)[23]? = some (.inr (9, [.int (s.1 20), .int (s.1 21), .int (s.1 22), .int (s.1 23), .int (s.1 24), .int (s.1 25), .int (s.1 26), .ref 24, .ref 25, .ref 26, .int (s.1 27), .int (s.1 28), .ref 27, .ref 28, .ref 29, .ref 30, .ref 31, .ref 32, .int (s.1 29), .ref 33, .ref 34, .ref 35, .int (s.1 30), .ref 36, .int (s.1 31), .int (s.1 32), .int (s.1 33), .int (s.1 34)])) := rfl
theorem wp_23_0 (s : gS) (v : Int32) : (wW s).set 23 (.inr (9, [.int (s.1 20), .int (s.1 21), .int (s.1 22), .int (s.1 23), .int (s.1 24), .int (s.1 25), .int (s.1 26), .ref 24, .ref 25, .ref 26, .int (s.1 27), .int (s.1 28), .ref 27, .ref 28, .ref 29, .ref 30, .ref 31, .ref 32, .int (s.1 29), .ref 33, .ref 34, .ref 35, .int (s.1 30), .ref 36, .int (s.1 31), .int (s.1 32), .int (s.1 33), .int (s.1 34)].set 0 (.int v))) = wW (ss s 20 v) := rfl
theorem wp_23_1 (s : gS) (v : Int32) : (wW s).set 23 (.inr (9, [.int (s.1 20), .int (s.1 21), .int (s.1 22), .int (s.1 23), .int (s.1 24), .int (s.1 25), .int (s.1 26), .ref 24, .ref 25, .ref 26, .int (s.1 27), .int (s.1 28), .ref 27, .ref 28, .ref 29, .ref 30, .ref 31, .ref 32, .int (s.1 29), .ref 33, .ref 34, .ref 35, .int (s.1 30), .ref 36, .int (s.1 31), .int (s.1 32), .int (s.1 33), .int (s.1 34)].set 1 (.int v))) = wW (ss s 21 v) := rfl
theorem wp_23_2 (s : gS) (v : Int32) : (wW s).set 23 (.inr (9, [.int (s.1 20), .int (s.1 21), .int (s.1 22), .int (s.1 23), .int (s.1 24), .int (s.1 25), .int (s.1 26), .ref 24, .ref 25, .ref 26, .int (s.1 27), .int (s.1 28), .ref 27, .ref 28, .ref 29, .ref 30, .ref 31, .ref 32, .int (s.1 29), .ref 33, .ref 34, .ref 35, .int (s.1 30), .ref 36, .int (s.1 31), .int (s.1 32), .int (s.1 33), .int (s.1 34)].set 2 (.int v))) = wW (ss s 22 v) := rfl
theorem wp_23_3 (s : gS) (v : Int32) : (wW s).set 23 (.inr (9, [.int (s.1 20), .int (s.1 21), .int (s.1 22), .int (s.1 23), .int (s.1 24), .int (s.1 25), .int (s.1 26), .ref 24, .ref 25, .ref 26, .int (s.1 27), .int (s.1 28), .ref 27, .ref 28, .ref 29, .ref 30, .ref 31, .ref 32, .int (s.1 29), .ref 33, .ref 34, .ref 35, .int (s.1 30), .ref 36, .int (s.1 31), .int (s.1 32), .int (s.1 33), .int (s.1 34)].set 3 (.int v))) = wW (ss s 23 v) := rfl
theorem wp_23_4 (s : gS) (v : Int32) : (wW s).set 23 (.inr (9, [.int (s.1 20), .int (s.1 21), .int (s.1 22), .int (s.1 23), .int (s.1 24), .int (s.1 25), .int (s.1 26), .ref 24, .ref 25, .ref 26, .int (s.1 27), .int (s.1 28), .ref 27, .ref 28, .ref 29, .ref 30, .ref 31, .ref 32, .int (s.1 29), .ref 33, .ref 34, .ref 35, .int (s.1 30), .ref 36, .int (s.1 31), .int (s.1 32), .int (s.1 33), .int (s.1 34)].set 4 (.int v))) = wW (ss s 24 v) := rfl
theorem wp_23_5 (s : gS) (v : Int32) : (wW s).set 23 (.inr (9, [.int (s.1 20), .int (s.1 21), .int (s.1 22), .int (s.1 23), .int (s.1 24), .int (s.1 25), .int (s.1 26), .ref 24, .ref 25, .ref 26, .int (s.1 27), .int (s.1 28), .ref 27, .ref 28, .ref 29, .ref 30, .ref 31, .ref 32, .int (s.1 29), .ref 33, .ref 34, .ref 35, .int (s.1 30), .ref 36, .int (s.1 31), .int (s.1 32), .int (s.1 33), .int (s.1 34)].set 5 (.int v))) = wW (ss s 25 v) := rfl
theorem wp_23_6 (s : gS) (v : Int32) : (wW s).set 23 (.inr (9, [.int (s.1 20), .int (s.1 21), .int (s.1 22), .int (s.1 23), .int (s.1 24), .int (s.1 25), .int (s.1 26), .ref 24, .ref 25, .ref 26, .int (s.1 27), .int (s.1 28), .ref 27, .ref 28, .ref 29, .ref 30, .ref 31, .ref 32, .int (s.1 29), .ref 33, .ref 34, .ref 35, .int (s.1 30), .ref 36, .int (s.1 31), .int (s.1 32), .int (s.1 33), .int (s.1 34)].set 6 (.int v))) = wW (ss s 26 v) := rfl
theorem wp_23_10 (s : gS) (v : Int32) : (wW s).set 23 (.inr (9, [.int (s.1 20), .int (s.1 21), .int (s.1 22), .int (s.1 23), .int (s.1 24), .int (s.1 25), .int (s.1 26), .ref 24, .ref 25, .ref 26, .int (s.1 27), .int (s.1 28), .ref 27, .ref 28, .ref 29, .ref 30, .ref 31, .ref 32, .int (s.1 29), .ref 33, .ref 34, .ref 35, .int (s.1 30), .ref 36, .int (s.1 31), .int (s.1 32), .int (s.1 33), .int (s.1 34)].set 10 (.int v))) = wW (ss s 27 v) := rfl
theorem wp_23_11 (s : gS) (v : Int32) : (wW s).set 23 (.inr (9, [.int (s.1 20), .int (s.1 21), .int (s.1 22), .int (s.1 23), .int (s.1 24), .int (s.1 25), .int (s.1 26), .ref 24, .ref 25, .ref 26, .int (s.1 27), .int (s.1 28), .ref 27, .ref 28, .ref 29, .ref 30, .ref 31, .ref 32, .int (s.1 29), .ref 33, .ref 34, .ref 35, .int (s.1 30), .ref 36, .int (s.1 31), .int (s.1 32), .int (s.1 33), .int (s.1 34)].set 11 (.int v))) = wW (ss s 28 v) := rfl
theorem wp_23_18 (s : gS) (v : Int32) : (wW s).set 23 (.inr (9, [.int (s.1 20), .int (s.1 21), .int (s.1 22), .int (s.1 23), .int (s.1 24), .int (s.1 25), .int (s.1 26), .ref 24, .ref 25, .ref 26, .int (s.1 27), .int (s.1 28), .ref 27, .ref 28, .ref 29, .ref 30, .ref 31, .ref 32, .int (s.1 29), .ref 33, .ref 34, .ref 35, .int (s.1 30), .ref 36, .int (s.1 31), .int (s.1 32), .int (s.1 33), .int (s.1 34)].set 18 (.int v))) = wW (ss s 29 v) := rfl
theorem wp_23_22 (s : gS) (v : Int32) : (wW s).set 23 (.inr (9, [.int (s.1 20), .int (s.1 21), .int (s.1 22), .int (s.1 23), .int (s.1 24), .int (s.1 25), .int (s.1 26), .ref 24, .ref 25, .ref 26, .int (s.1 27), .int (s.1 28), .ref 27, .ref 28, .ref 29, .ref 30, .ref 31, .ref 32, .int (s.1 29), .ref 33, .ref 34, .ref 35, .int (s.1 30), .ref 36, .int (s.1 31), .int (s.1 32), .int (s.1 33), .int (s.1 34)].set 22 (.int v))) = wW (ss s 30 v) := rfl
theorem wp_23_24 (s : gS) (v : Int32) : (wW s).set 23 (.inr (9, [.int (s.1 20), .int (s.1 21), .int (s.1 22), .int (s.1 23), .int (s.1 24), .int (s.1 25), .int (s.1 26), .ref 24, .ref 25, .ref 26, .int (s.1 27), .int (s.1 28), .ref 27, .ref 28, .ref 29, .ref 30, .ref 31, .ref 32, .int (s.1 29), .ref 33, .ref 34, .ref 35, .int (s.1 30), .ref 36, .int (s.1 31), .int (s.1 32), .int (s.1 33), .int (s.1 34)].set 24 (.int v))) = wW (ss s 31 v) := rfl
theorem wp_23_25 (s : gS) (v : Int32) : (wW s).set 23 (.inr (9, [.int (s.1 20), .int (s.1 21), .int (s.1 22), .int (s.1 23), .int (s.1 24), .int (s.1 25), .int (s.1 26), .ref 24, .ref 25, .ref 26, .int (s.1 27), .int (s.1 28), .ref 27, .ref 28, .ref 29, .ref 30, .ref 31, .ref 32, .int (s.1 29), .ref 33, .ref 34, .ref 35, .int (s.1 30), .ref 36, .int (s.1 31), .int (s.1 32), .int (s.1 33), .int (s.1 34)].set 25 (.int v))) = wW (ss s 32 v) := rfl
theorem wp_23_26 (s : gS) (v : Int32) : (wW s).set 23 (.inr (9, [.int (s.1 20), .int (s.1 21), .int (s.1 22), .int (s.1 23), .int (s.1 24), .int (s.1 25), .int (s.1 26), .ref 24, .ref 25, .ref 26, .int (s.1 27), .int (s.1 28), .ref 27, .ref 28, .ref 29, .ref 30, .ref 31, .ref 32, .int (s.1 29), .ref 33, .ref 34, .ref 35, .int (s.1 30), .ref 36, .int (s.1 31), .int (s.1 32), .int (s.1 33), .int (s.1 34)].set 26 (.int v))) = wW (ss s 33 v) := rfl
theorem wp_23_27 (s : gS) (v : Int32) : (wW s).set 23 (.inr (9, [.int (s.1 20), .int (s.1 21), .int (s.1 22), .int (s.1 23), .int (s.1 24), .int (s.1 25), .int (s.1 26), .ref 24, .ref 25, .ref 26, .int (s.1 27), .int (s.1 28), .ref 27, .ref 28, .ref 29, .ref 30, .ref 31, .ref 32, .int (s.1 29), .ref 33, .ref 34, .ref 35, .int (s.1 30), .ref 36, .int (s.1 31), .int (s.1 32), .int (s.1 33), .int (s.1 34)].set 27 (.int v))) = wW (ss s 34 v) := rfl
theorem wg_24 (s : gS) : (wW s)[24]? = some (.inl (0, 16, .inl (s.2 20))) := rfl
theorem wa_24 (s : gS) (i : Nat) (v : Int32) : (wW s).set 24 (.inl (0, 16, .inl (upd (s.2 20) i v))) = wW (sa s 20 i v) := rfl
theorem wg_25 (s : gS) : (wW s)[25]? = some (.inl (0, 6, .inl (s.2 21))) := rfl
theorem wa_25 (s : gS) (i : Nat) (v : Int32) : (wW s).set 25 (.inl (0, 6, .inl (upd (s.2 21) i v))) = wW (sa s 21 i v) := rfl
theorem wg_26 (s : gS) : (wW s)[26]? = some (.inl (0, 16, .inl (s.2 22))) := rfl
theorem wa_26 (s : gS) (i : Nat) (v : Int32) : (wW s).set 26 (.inl (0, 16, .inl (upd (s.2 22) i v))) = wW (sa s 22 i v) := rfl
theorem wg_27 (s : gS) : (wW s)[27]? = some (.inl (0, 6, .inl (s.2 23))) := rfl
theorem wa_27 (s : gS) (i : Nat) (v : Int32) : (wW s).set 27 (.inl (0, 6, .inl (upd (s.2 23) i v))) = wW (sa s 23 i v) := rfl
theorem wg_28 (s : gS) : (wW s)[28]? = some (.inl (0, 6, .inl (s.2 24))) := rfl
theorem wa_28 (s : gS) (i : Nat) (v : Int32) : (wW s).set 28 (.inl (0, 6, .inl (upd (s.2 24) i v))) = wW (sa s 24 i v) := rfl
theorem wg_29 (s : gS) : (wW s)[29]? = some (.inl (0, 6, .inl (s.2 25))) := rfl
theorem wa_29 (s : gS) (i : Nat) (v : Int32) : (wW s).set 29 (.inl (0, 6, .inl (upd (s.2 25) i v))) = wW (sa s 25 i v) := rfl
theorem wg_30 (s : gS) : (wW s)[30]? = some (.inl (0, 17, .inl (s.2 26))) := rfl
theorem wa_30 (s : gS) (i : Nat) (v : Int32) : (wW s).set 30 (.inl (0, 17, .inl (upd (s.2 26) i v))) = wW (sa s 26 i v) := rfl
theorem wg_31 (s : gS) : (wW s)[31]? = some (.inl (2, 17, .inl (s.2 27))) := rfl
theorem wa_31 (s : gS) (i : Nat) (v : Int32) : (wW s).set 31 (.inl (2, 17, .inl (upd (s.2 27) i v))) = wW (sa s 27 i v) := rfl
theorem wg_32 (s : gS) : (wW s)[32]? = some (.inl (1, 600, .inl (s.2 28))) := rfl
theorem wa_32 (s : gS) (i : Nat) (v : Int32) : (wW s).set 32 (.inl (1, 600, .inl (upd (s.2 28) i v))) = wW (sa s 28 i v) := rfl
theorem wg_33 (s : gS) : (wW s)[33]? = some (.inl (0, 12, .inl (s.2 29))) := rfl
theorem wa_33 (s : gS) (i : Nat) (v : Int32) : (wW s).set 33 (.inl (0, 12, .inl (upd (s.2 29) i v))) = wW (sa s 29 i v) := rfl
theorem wg_34 (s : gS) : (wW s)[34]? = some (.inl (0, 12, .inl (s.2 30))) := rfl
theorem wa_34 (s : gS) (i : Nat) (v : Int32) : (wW s).set 34 (.inl (0, 12, .inl (upd (s.2 30) i v))) = wW (sa s 30 i v) := rfl
theorem wg_35 (s : gS) : (wW s)[35]? = some (.inl (0, 12, .inl (s.2 31))) := rfl
theorem wa_35 (s : gS) (i : Nat) (v : Int32) : (wW s).set 35 (.inl (0, 12, .inl (upd (s.2 31) i v))) = wW (sa s 31 i v) := rfl
theorem wg_36 (s : gS) : (wW s)[36]? = some (.inl (1, 120, .inl (s.2 32))) := rfl
theorem wa_36 (s : gS) (i : Nat) (v : Int32) : (wW s).set 36 (.inl (1, 120, .inl (upd (s.2 32) i v))) = wW (sa s 32 i v) := rfl
