/-! Arrays.fill of a row of ints, in any world -/
def fiF (f : Nat → Int32) (v : Int32) (j : Nat) : Nat → Int32 := fun i => if i < j then v else f i
theorem fiF_0 (f : Nat → Int32) (v : Int32) : fiF f v 0 = f := by
  funext i
  simp [fiF]
theorem fiF_s (f : Nat → Int32) (v : Int32) (j : Nat) : upd (fiF f v j) j v = fiF f v (j + 1) := by
  funext i
  unfold upd fiF
  by_cases h : i = j
  · subst h
    simp
  · by_cases h2 : i < j
    · rw [if_neg h, if_pos h2, if_pos (by omega)]
    · rw [if_neg h, if_neg h2, if_neg (by omega)]
set_option maxHeartbeats 4000000 in
set_option maxRecDepth 100000 in
theorem fill_go (w : List va_E) (b N : Nat) (f : Nat → Int32) (v : Int32) (hb : w[b]? = some (.inl (0, N, .inl f))) (hN : N < 2 ^ 31) : ∀ (m j : Nat), j + m = N → Go gTr yJ7_fill_53178 cJ7_fill_53178 4 none 1 0 0 (fun r9 w9 => r9 = none ∧ w9 = w.set b (.inl (0, N, .inl (fiF f v N)))) 0 0 (w.set b (.inl (0, N, .inl (fiF f v j)))) 5 [some (.ref b), some (.int v), some (.int (nI j)), some (.int (nI N))] [] := by
  have hlt : b < w.length := (List.getElem?_eq_some_iff.mp hb).1
  intro m
  induction m with
  | zero =>
    intro j hj
    have hjN : j = N := by omega
    subst hjN
    refine go_iload_n (q := 6) dJ7_fill_53178_5 rfl rfl ?_
    refine go_iload_n (q := 7) dJ7_fill_53178_6 rfl rfl ?_
    refine go_icmp_ge (tgt := 20) (q := 10) dJ7_fill_53178_7 (by decide) rfl (fun c1 => ?_) (fun c1 => ?_)
    · exact go_ret dJ7_fill_53178_20 rfl (Nat.le_refl _) (Nat.le_refl _) ⟨rfl, rfl⟩
    · exact absurd (nI_le (Nat.le_refl _) hN) c1
  | succ m ih =>
    intro j hj
    refine go_iload_n (q := 6) dJ7_fill_53178_5 rfl rfl ?_
    refine go_iload_n (q := 7) dJ7_fill_53178_6 rfl rfl ?_
    refine go_icmp_ge (tgt := 20) (q := 10) dJ7_fill_53178_7 (by decide) rfl (fun c1 => ?_) (fun c1 => ?_)
    · exact absurd c1 (nI_ge (by omega) hN)
    · refine go_aload_n (q := 11) dJ7_fill_53178_10 rfl rfl ?_
      refine go_iload_n (q := 12) dJ7_fill_53178_11 rfl rfl ?_
      refine go_iload_n (q := 13) dJ7_fill_53178_12 rfl rfl ?_
      refine go_iast (f := fiF f v j) (N := N) (w2 := w.set b (.inl (0, N, .inl (fiF f v (j + 1))))) (q := 14) dJ7_fill_53178_13 (by rw [List.getElem?_set_self hlt]) (vp_in_nI (by omega) hN) (by rw [List.set_set, nI_clamp (by omega), fiF_s]) rfl ?_
      refine go_iinc (v := nI (j + 1)) (ls2 := [some (.ref b), some (.int v), some (.int (nI (j + 1))), some (.int (nI N))]) (q := 17) dJ7_fill_53178_14 (by decide) rfl (nI_1 j) rfl rfl ?_
      refine go_goto (tgt := 5) dJ7_fill_53178_17 (by decide) ?_
      exact ih (j + 1) (by omega)
set_option maxHeartbeats 4000000 in
theorem fill_cal (w : List va_E) (b N : Nat) (f : Nat → Int32) (v : Int32) (hb : w[b]? = some (.inl (0, N, .inl f))) (hN : N < 2 ^ 31) : Cal 1 mJ7_fill_53178 [.ref b, .int v] w 0 0 none (w.set b (.inl (0, N, .inl (fiF f v N)))) := by
  refine Cal.of (by decide) (fun x hx => by
    rcases List.mem_cons.mp hx with rfl | hx
    · rfl
    · rcases List.mem_cons.mp hx with rfl | hx
      · rfl
      · cases hx) (Nat.le_of_ble_eq_true rfl) ?_
  show Go gTr yJ7_fill_53178 cJ7_fill_53178 4 none 1 0 0 _ 0 0 w 0 [some (.ref b), some (.int v), none, none] []
  refine go_iconst (v := 0) (q := 1) dJ7_fill_53178_0 (by decide) rfl ?_
  refine go_istore_n (ls2 := [some (.ref b), some (.int v), some (.int 0), none]) (q := 2) dJ7_fill_53178_1 (by decide) rfl rfl ?_
  refine go_aload_n (q := 3) dJ7_fill_53178_2 rfl rfl ?_
  refine go_alen (v := nI N) (q := 4) dJ7_fill_53178_3 (by decide) hb rfl rfl ?_
  refine go_istore_n (ls2 := [some (.ref b), some (.int v), some (.int (nI 0)), some (.int (nI N))]) (q := 5) dJ7_fill_53178_4 (by decide) rfl rfl ?_
  have e : w = w.set b (.inl (0, N, .inl (fiF f v 0))) := by
    rw [fiF_0]
    apply List.ext_getElem?
    intro i
    rw [List.getElem?_set]
    by_cases h : b = i
    · subst h
      rw [if_pos rfl, if_pos (List.getElem?_eq_some_iff.mp hb).1, hb]
    · rw [if_neg h]
  refine go_w e ?_
  exact fill_go w b N f v hb hN N 0 (by omega)
theorem fill_6 (s : gS) (v : Int32) : Cal 1 mJ7_fill_53178 [.ref 6, .int v] (wW s) 0 0 none (wW (sf s 1 6 v)) := fill_cal (wW s) 6 6 (s.2 1) v (wg_6 s) (by decide)
theorem fill_7 (s : gS) (v : Int32) : Cal 1 mJ7_fill_53178 [.ref 7, .int v] (wW s) 0 0 none (wW (sf s 2 102 v)) := fill_cal (wW s) 7 102 (s.2 2) v (wg_7 s) (by decide)
theorem fill_16 (s : gS) (v : Int32) : Cal 1 mJ7_fill_53178 [.ref 16, .int v] (wW s) 0 0 none (wW (sf s 8 202 v)) := fill_cal (wW s) 16 202 (s.2 8) v (wg_16 s) (by decide)
theorem fill_17 (s : gS) (v : Int32) : Cal 1 mJ7_fill_53178 [.ref 17, .int v] (wW s) 0 0 none (wW (sf s 9 202 v)) := fill_cal (wW s) 17 202 (s.2 9) v (wg_17 s) (by decide)
theorem fill_18 (s : gS) (v : Int32) : Cal 1 mJ7_fill_53178 [.ref 18, .int v] (wW s) 0 0 none (wW (sf s 10 202 v)) := fill_cal (wW s) 18 202 (s.2 10) v (wg_18 s) (by decide)
