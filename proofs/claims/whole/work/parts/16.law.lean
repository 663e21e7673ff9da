def f_L_law_tail_686 (L : Nat) (xs : Nat → Int32) (K18 : gS → Int32 → Option (Int32 × gS)) (s : gS) (x3 : Int32) : Option (Int32 × gS) :=
  K18 s (x3 + 6)
set_option maxHeartbeats 4000000 in
set_option maxRecDepth 100000 in
theorem b_L_law_tail_686 (L : Nat) (xs : Nat → Int32) (K18 : gS → Int32 → Option (Int32 × gS)) (r : Int32 × gS) (nm : String) (k n : Nat) (hkn : k ≤ 600000 ∧ n ≤ 7302250) (hK18 : ∀ (s : gS) (x3 : Int32) , K18 s x3 = some r → Go (PX L xs) ⟨RL, nm, "([I)Z"⟩ cL_law 4 (some .boolean) 16 600000 7302250 (fun r9 w9 => r9 = some (.int r.1) ∧ w9 = wW r.2) k n (wW s) 18 [some (.ref 1001), some (.ref 0), some (.ref 23), some (.int x3)] []) : ∀ (s : gS) (x3 : Int32) , f_L_law_tail_686 L xs K18 s x3 = some r → Go (PX L xs) ⟨RL, nm, "([I)Z"⟩ cL_law 4 (some .boolean) 16 600000 7302250 (fun r9 w9 => r9 = some (.int r.1) ∧ w9 = wW r.2) k n (wW s) 686 [some (.ref 1001), some (.ref 0), some (.ref 23), some (.int x3)] [] := by
  intro s x3 h
  rw [f_L_law_tail_686] at h
  refine go_iinc (v := x3 + 6) (ls2 := [some (.ref 1001), some (.ref 0), some (.ref 23), some (.int (x3 + 6))]) (q := 689) dL_law_686 (by decide) rfl rfl rfl rfl ?_
  refine go_goto (tgt := 18) dL_law_689 (by decide) ?_
  refine go_ls (ls2 := [some (.ref 1001), some (.ref 0), some (.ref 23), some (.int (x3 + 6))]) ⟨rfl, rfl, rfl, rfl, trivial⟩ ?_
  exact hK18 s (x3 + 6) h
def f_L_law_tail_207 (L : Nat) (xs : Nat → Int32) (K18 : gS → Int32 → Option (Int32 × gS)) (s : gS) (x3 : Int32) (t0 : Int32) (t2 : Int32) (t3 : Int32) (t4 : Int32) (t5 : Int32) (t6 : Int32) : Option (Int32 × gS) :=
  (f_X9_game s t2 t3 t4 t5 t6).bind fun r1 =>
  if t0 = r1.1 then
    f_L_law_tail_686 L xs K18 r1.2 x3
  else
    some (0, r1.2)
set_option maxHeartbeats 4000000 in
set_option maxRecDepth 100000 in
theorem b_L_law_tail_207 (L : Nat) (xs : Nat → Int32) (K18 : gS → Int32 → Option (Int32 × gS)) (r : Int32 × gS) (nm : String) (k n : Nat) (hkn : k ≤ 600000 ∧ n ≤ 7302250) (hK18 : ∀ (s : gS) (x3 : Int32) , K18 s x3 = some r → Go (PX L xs) ⟨RL, nm, "([I)Z"⟩ cL_law 4 (some .boolean) 16 600000 7302250 (fun r9 w9 => r9 = some (.int r.1) ∧ w9 = wW r.2) k n (wW s) 18 [some (.ref 1001), some (.ref 0), some (.ref 23), some (.int x3)] []) : ∀ (s : gS) (x3 : Int32) (t0 : Int32) (t2 : Int32) (t3 : Int32) (t4 : Int32) (t5 : Int32) (t6 : Int32) , f_L_law_tail_207 L xs K18 s x3 t0 t2 t3 t4 t5 t6 = some r → Go (PX L xs) ⟨RL, nm, "([I)Z"⟩ cL_law 4 (some .boolean) 16 600000 7302250 (fun r9 w9 => r9 = some (.int r.1) ∧ w9 = wW r.2) k n (wW s) 207 [some (.ref 1001), some (.ref 0), some (.ref 23), some (.int x3)] [.int t6, .int t5, .int t4, .int t3, .int t2, .ref 23, .int t0] := by
  intro s x3 t0 t2 t3 t4 t5 t6 h
  rw [f_L_law_tail_207] at h
  obtain ⟨r1, e2, h⟩ := g_bind h
  refine go_callV0 (q := 210) (as := [.int t2, .int t3, .int t4, .int t5, .int t6]) (rest := [.int t0]) (st2 := [.int r1.1, .int t0]) (w2 := wW r1.2) dL_law_207 cL_17 (t_X9_game s t2 t3 t4 t5 t6 _ e2) (wg_23 _) rfl rfl rfl (Nat.le_of_ble_eq_true rfl) (by decide) hkn rfl rfl ?_
  refine go_icmp_eq (tgt := 686) (q := 213) dL_law_210 (by decide) rfl (fun c3 => ?_) (fun c3 => ?_)
  · replace h := g_pos c3 h
    refine go_ls (ls2 := [some (.ref 1001), some (.ref 0), some (.ref 23), some (.int x3)]) ⟨rfl, rfl, rfl, rfl, trivial⟩ ?_
    exact b_L_law_tail_686 L xs K18 r nm k n hkn hK18 r1.2 x3 h
  · replace h := g_neg c3 h
    refine go_iconst (v := 0) (q := 214) dL_law_213 (by decide) rfl ?_
    cases h
    exact go_iret dL_law_214 rfl rfl hkn.1 hkn.2 ⟨rfl, rfl⟩
def f_L_law_tail_194 (L : Nat) (xs : Nat → Int32) (K18 : gS → Int32 → Option (Int32 × gS)) (s : gS) (x3 : Int32) (t0 : Int32) (t2 : Int32) (t3 : Int32) (t4 : Int32) (t5 : Int32) : Option (Int32 × gS) :=
  if inB (x3 + 5) L = true then
    if (xs (x3 + 5).toNatClampNeg) = 0 then
      f_L_law_tail_207 L xs K18 s x3 t0 t2 t3 t4 t5 0
    else
      f_L_law_tail_207 L xs K18 s x3 t0 t2 t3 t4 t5 1
  else none
set_option maxHeartbeats 4000000 in
set_option maxRecDepth 100000 in
theorem b_L_law_tail_194 (L : Nat) (xs : Nat → Int32) (K18 : gS → Int32 → Option (Int32 × gS)) (r : Int32 × gS) (nm : String) (k n : Nat) (hkn : k ≤ 600000 ∧ n ≤ 7302250) (hK18 : ∀ (s : gS) (x3 : Int32) , K18 s x3 = some r → Go (PX L xs) ⟨RL, nm, "([I)Z"⟩ cL_law 4 (some .boolean) 16 600000 7302250 (fun r9 w9 => r9 = some (.int r.1) ∧ w9 = wW r.2) k n (wW s) 18 [some (.ref 1001), some (.ref 0), some (.ref 23), some (.int x3)] []) : ∀ (s : gS) (x3 : Int32) (t0 : Int32) (t2 : Int32) (t3 : Int32) (t4 : Int32) (t5 : Int32) , f_L_law_tail_194 L xs K18 s x3 t0 t2 t3 t4 t5 = some r → Go (PX L xs) ⟨RL, nm, "([I)Z"⟩ cL_law 4 (some .boolean) 16 600000 7302250 (fun r9 w9 => r9 = some (.int r.1) ∧ w9 = wW r.2) k n (wW s) 194 [some (.ref 1001), some (.ref 0), some (.ref 23), some (.int x3)] [.int t5, .int t4, .int t3, .int t2, .ref 23, .int t0] := by
  intro s x3 t0 t2 t3 t4 t5 h
  rw [f_L_law_tail_194] at h
  refine go_aload_n (q := 195) dL_law_194 rfl rfl ?_
  refine go_iload_n (q := 196) dL_law_195 rfl rfl ?_
  refine go_iconst (v := 5) (q := 197) dL_law_196 (by decide) rfl ?_
  refine go_iadd (q := 198) dL_law_197 rfl ?_
  obtain ⟨g1, h⟩ := g_guard h
  refine go_xald (q := 199) dL_law_198 (inB_in g1) rfl ?_
  refine go_if_eq (tgt := 206) (q := 202) dL_law_199 (by decide) rfl (fun c2 => ?_) (fun c2 => ?_)
  · replace h := g_pos c2 h
    refine go_iconst (v := 0) (q := 207) dL_law_206 (by decide) rfl ?_
    refine go_ls (ls2 := [some (.ref 1001), some (.ref 0), some (.ref 23), some (.int x3)]) ⟨rfl, rfl, rfl, rfl, trivial⟩ ?_
    exact b_L_law_tail_207 L xs K18 r nm k n hkn hK18 s x3 t0 t2 t3 t4 t5 0 h
  · replace h := g_neg c2 h
    refine go_iconst (v := 1) (q := 203) dL_law_202 (by decide) rfl ?_
    refine go_goto (tgt := 207) dL_law_203 (by decide) ?_
    refine go_ls (ls2 := [some (.ref 1001), some (.ref 0), some (.ref 23), some (.int x3)]) ⟨rfl, rfl, rfl, rfl, trivial⟩ ?_
    exact b_L_law_tail_207 L xs K18 r nm k n hkn hK18 s x3 t0 t2 t3 t4 t5 1 h
def f_L_law_tail_162 (L : Nat) (xs : Nat → Int32) (K18 : gS → Int32 → Option (Int32 × gS)) (s : gS) (x3 : Int32) (t1 : Int32) (t2 : Int32) (t3 : Int32) (t4 : Int32) (t5 : Int32) : Option (Int32 × gS) :=
  (f_X8_game s t1 t2 t3 t4 t5).bind fun r1 =>
  if inB (x3 + 1) L = true then
    if inB (x3 + 2) L = true then
      if inB (x3 + 3) L = true then
        if inB (x3 + 4) L = true then
          if (xs (x3 + 4).toNatClampNeg) = 0 then
            f_L_law_tail_194 L xs K18 r1.2 x3 r1.1 (xs (x3 + 1).toNatClampNeg) (xs (x3 + 2).toNatClampNeg) (xs (x3 + 3).toNatClampNeg) 0
          else
            f_L_law_tail_194 L xs K18 r1.2 x3 r1.1 (xs (x3 + 1).toNatClampNeg) (xs (x3 + 2).toNatClampNeg) (xs (x3 + 3).toNatClampNeg) 1
        else none
      else none
    else none
  else none
set_option maxHeartbeats 4000000 in
set_option maxRecDepth 100000 in
theorem b_L_law_tail_162 (L : Nat) (xs : Nat → Int32) (K18 : gS → Int32 → Option (Int32 × gS)) (r : Int32 × gS) (nm : String) (k n : Nat) (hkn : k ≤ 600000 ∧ n ≤ 7302250) (hK18 : ∀ (s : gS) (x3 : Int32) , K18 s x3 = some r → Go (PX L xs) ⟨RL, nm, "([I)Z"⟩ cL_law 4 (some .boolean) 16 600000 7302250 (fun r9 w9 => r9 = some (.int r.1) ∧ w9 = wW r.2) k n (wW s) 18 [some (.ref 1001), some (.ref 0), some (.ref 23), some (.int x3)] []) : ∀ (s : gS) (x3 : Int32) (t1 : Int32) (t2 : Int32) (t3 : Int32) (t4 : Int32) (t5 : Int32) , f_L_law_tail_162 L xs K18 s x3 t1 t2 t3 t4 t5 = some r → Go (PX L xs) ⟨RL, nm, "([I)Z"⟩ cL_law 4 (some .boolean) 16 600000 7302250 (fun r9 w9 => r9 = some (.int r.1) ∧ w9 = wW r.2) k n (wW s) 162 [some (.ref 1001), some (.ref 0), some (.ref 23), some (.int x3)] [.int t5, .int t4, .int t3, .int t2, .int t1, .ref 0] := by
  intro s x3 t1 t2 t3 t4 t5 h
  rw [f_L_law_tail_162] at h
  obtain ⟨r1, e2, h⟩ := g_bind h
  refine go_callV0 (q := 165) (as := [.int t1, .int t2, .int t3, .int t4, .int t5]) (rest := []) (st2 := [.int r1.1]) (w2 := wW r1.2) dL_law_162 cL_13 (t_X8_game s t1 t2 t3 t4 t5 _ e2) (wg_0 _) rfl rfl rfl (Nat.le_of_ble_eq_true rfl) (by decide) hkn rfl rfl ?_
  refine go_aload_n (q := 166) dL_law_165 rfl rfl ?_
  refine go_aload_n (q := 167) dL_law_166 rfl rfl ?_
  refine go_iload_n (q := 168) dL_law_167 rfl rfl ?_
  refine go_iconst (v := 1) (q := 169) dL_law_168 (by decide) rfl ?_
  refine go_iadd (q := 170) dL_law_169 rfl ?_
  obtain ⟨g3, h⟩ := g_guard h
  refine go_xald (q := 171) dL_law_170 (inB_in g3) rfl ?_
  refine go_aload_n (q := 172) dL_law_171 rfl rfl ?_
  refine go_iload_n (q := 173) dL_law_172 rfl rfl ?_
  refine go_iconst (v := 2) (q := 174) dL_law_173 (by decide) rfl ?_
  refine go_iadd (q := 175) dL_law_174 rfl ?_
  obtain ⟨g4, h⟩ := g_guard h
  refine go_xald (q := 176) dL_law_175 (inB_in g4) rfl ?_
  refine go_aload_n (q := 177) dL_law_176 rfl rfl ?_
  refine go_iload_n (q := 178) dL_law_177 rfl rfl ?_
  refine go_iconst (v := 3) (q := 179) dL_law_178 (by decide) rfl ?_
  refine go_iadd (q := 180) dL_law_179 rfl ?_
  obtain ⟨g5, h⟩ := g_guard h
  refine go_xald (q := 181) dL_law_180 (inB_in g5) rfl ?_
  refine go_aload_n (q := 182) dL_law_181 rfl rfl ?_
  refine go_iload_n (q := 183) dL_law_182 rfl rfl ?_
  refine go_iconst (v := 4) (q := 184) dL_law_183 (by decide) rfl ?_
  refine go_iadd (q := 185) dL_law_184 rfl ?_
  obtain ⟨g6, h⟩ := g_guard h
  refine go_xald (q := 186) dL_law_185 (inB_in g6) rfl ?_
  refine go_if_eq (tgt := 193) (q := 189) dL_law_186 (by decide) rfl (fun c7 => ?_) (fun c7 => ?_)
  · replace h := g_pos c7 h
    refine go_iconst (v := 0) (q := 194) dL_law_193 (by decide) rfl ?_
    refine go_ls (ls2 := [some (.ref 1001), some (.ref 0), some (.ref 23), some (.int x3)]) ⟨rfl, rfl, rfl, rfl, trivial⟩ ?_
    exact b_L_law_tail_194 L xs K18 r nm k n hkn hK18 r1.2 x3 r1.1 (xs (x3 + 1).toNatClampNeg) (xs (x3 + 2).toNatClampNeg) (xs (x3 + 3).toNatClampNeg) 0 h
  · replace h := g_neg c7 h
    refine go_iconst (v := 1) (q := 190) dL_law_189 (by decide) rfl ?_
    refine go_goto (tgt := 194) dL_law_190 (by decide) ?_
    refine go_ls (ls2 := [some (.ref 1001), some (.ref 0), some (.ref 23), some (.int x3)]) ⟨rfl, rfl, rfl, rfl, trivial⟩ ?_
    exact b_L_law_tail_194 L xs K18 r nm k n hkn hK18 r1.2 x3 r1.1 (xs (x3 + 1).toNatClampNeg) (xs (x3 + 2).toNatClampNeg) (xs (x3 + 3).toNatClampNeg) 1 h
def f_L_law_tail_149 (L : Nat) (xs : Nat → Int32) (K18 : gS → Int32 → Option (Int32 × gS)) (s : gS) (x3 : Int32) (t1 : Int32) (t2 : Int32) (t3 : Int32) (t4 : Int32) : Option (Int32 × gS) :=
  if inB (x3 + 5) L = true then
    if (xs (x3 + 5).toNatClampNeg) = 0 then
      f_L_law_tail_162 L xs K18 s x3 t1 t2 t3 t4 0
    else
      f_L_law_tail_162 L xs K18 s x3 t1 t2 t3 t4 1
  else none
set_option maxHeartbeats 4000000 in
set_option maxRecDepth 100000 in
theorem b_L_law_tail_149 (L : Nat) (xs : Nat → Int32) (K18 : gS → Int32 → Option (Int32 × gS)) (r : Int32 × gS) (nm : String) (k n : Nat) (hkn : k ≤ 600000 ∧ n ≤ 7302250) (hK18 : ∀ (s : gS) (x3 : Int32) , K18 s x3 = some r → Go (PX L xs) ⟨RL, nm, "([I)Z"⟩ cL_law 4 (some .boolean) 16 600000 7302250 (fun r9 w9 => r9 = some (.int r.1) ∧ w9 = wW r.2) k n (wW s) 18 [some (.ref 1001), some (.ref 0), some (.ref 23), some (.int x3)] []) : ∀ (s : gS) (x3 : Int32) (t1 : Int32) (t2 : Int32) (t3 : Int32) (t4 : Int32) , f_L_law_tail_149 L xs K18 s x3 t1 t2 t3 t4 = some r → Go (PX L xs) ⟨RL, nm, "([I)Z"⟩ cL_law 4 (some .boolean) 16 600000 7302250 (fun r9 w9 => r9 = some (.int r.1) ∧ w9 = wW r.2) k n (wW s) 149 [some (.ref 1001), some (.ref 0), some (.ref 23), some (.int x3)] [.int t4, .int t3, .int t2, .int t1, .ref 0] := by
  intro s x3 t1 t2 t3 t4 h
  rw [f_L_law_tail_149] at h
  refine go_aload_n (q := 150) dL_law_149 rfl rfl ?_
  refine go_iload_n (q := 151) dL_law_150 rfl rfl ?_
  refine go_iconst (v := 5) (q := 152) dL_law_151 (by decide) rfl ?_
  refine go_iadd (q := 153) dL_law_152 rfl ?_
  obtain ⟨g1, h⟩ := g_guard h
  refine go_xald (q := 154) dL_law_153 (inB_in g1) rfl ?_
  refine go_if_eq (tgt := 161) (q := 157) dL_law_154 (by decide) rfl (fun c2 => ?_) (fun c2 => ?_)
  · replace h := g_pos c2 h
    refine go_iconst (v := 0) (q := 162) dL_law_161 (by decide) rfl ?_
    refine go_ls (ls2 := [some (.ref 1001), some (.ref 0), some (.ref 23), some (.int x3)]) ⟨rfl, rfl, rfl, rfl, trivial⟩ ?_
    exact b_L_law_tail_162 L xs K18 r nm k n hkn hK18 s x3 t1 t2 t3 t4 0 h
  · replace h := g_neg c2 h
    refine go_iconst (v := 1) (q := 158) dL_law_157 (by decide) rfl ?_
    refine go_goto (tgt := 162) dL_law_158 (by decide) ?_
    refine go_ls (ls2 := [some (.ref 1001), some (.ref 0), some (.ref 23), some (.int x3)]) ⟨rfl, rfl, rfl, rfl, trivial⟩ ?_
    exact b_L_law_tail_162 L xs K18 r nm k n hkn hK18 s x3 t1 t2 t3 t4 1 h
def f_L_law_tail (L : Nat) (xs : Nat → Int32) : Nat → gS → Int32 → Option (Int32 × gS)
  | 0, _, _ => none
  | φ + 1, s, x3 =>
    if ((Int32.ofNat L) - 6) < x3 then
      some (1, s)
    else
      if inB x3 L = true then
        if ((xs x3.toNatClampNeg) &&& 31) = 0 then
          if inB (x3 + 1) L = true then
            if inB (x3 + 2) L = true then
              if inB (x3 + 3) L = true then
                if inB (x3 + 4) L = true then
                  if (xs (x3 + 4).toNatClampNeg) = 0 then
                    f_L_law_tail_149 L xs (f_L_law_tail L xs φ) s x3 (xs (x3 + 1).toNatClampNeg) (xs (x3 + 2).toNatClampNeg) (xs (x3 + 3).toNatClampNeg) 0
                  else
                    f_L_law_tail_149 L xs (f_L_law_tail L xs φ) s x3 (xs (x3 + 1).toNatClampNeg) (xs (x3 + 2).toNatClampNeg) (xs (x3 + 3).toNatClampNeg) 1
                else none
              else none
            else none
          else none
        else
          if ((xs x3.toNatClampNeg) &&& 31) = 1 then
            if inB (x3 + 1) L = true then
              (f_X8_play s (xs (x3 + 1).toNatClampNeg)).bind fun r11 =>
              if inB (x3 + 1) L = true then
                (f_X9_play r11.2 (xs (x3 + 1).toNatClampNeg)).bind fun r14 =>
                if r11.1 = r14.1 then
                  f_L_law_tail_686 L xs (f_L_law_tail L xs φ) r14.2 x3
                else
                  some (0, r14.2)
              else none
            else none
          else
            if ((xs x3.toNatClampNeg) &&& 31) = 2 then
              (f_X8_back s).bind fun r18 =>
              (f_X9_back r18.2).bind fun r20 =>
              if r18.1 = r20.1 then
                f_L_law_tail_686 L xs (f_L_law_tail L xs φ) r20.2 x3
              else
                some (0, r20.2)
            else
              if ((xs x3.toNatClampNeg) &&& 31) = 3 then
                if inB (x3 + 1) L = true then
                  (f_X8_depth s (xs (x3 + 1).toNatClampNeg)).bind fun r25 =>
                  if inB (x3 + 1) L = true then
                    (f_X9_depth r25.2 (xs (x3 + 1).toNatClampNeg)).bind fun r28 =>
                    if r25.1 = r28.1 then
                      f_L_law_tail_686 L xs (f_L_law_tail L xs φ) r28.2 x3
                    else
                      some (0, r28.2)
                  else none
                else none
              else
                if ((xs x3.toNatClampNeg) &&& 31) = 4 then
                  if inB (x3 + 1) L = true then
                    if inB (x3 + 2) L = true then
                      (f_X8_weight s (xs (x3 + 1).toNatClampNeg) (xs (x3 + 2).toNatClampNeg)).bind fun r34 =>
                      if inB (x3 + 1) L = true then
                        if inB (x3 + 2) L = true then
                          (f_X9_weight r34.2 (xs (x3 + 1).toNatClampNeg) (xs (x3 + 2).toNatClampNeg)).bind fun r38 =>
                          if r34.1 = r38.1 then
                            f_L_law_tail_686 L xs (f_L_law_tail L xs φ) r38.2 x3
                          else
                            some (0, r38.2)
                        else none
                      else none
                    else none
                  else none
                else
                  if ((xs x3.toNatClampNeg) &&& 31) = 5 then
                    if inB (x3 + 1) L = true then
                      if inB (x3 + 2) L = true then
                        (f_X8_value s (xs (x3 + 1).toNatClampNeg) (xs (x3 + 2).toNatClampNeg)).bind fun r44 =>
                        if inB (x3 + 1) L = true then
                          if inB (x3 + 2) L = true then
                            (f_X9_value r44.2 (xs (x3 + 1).toNatClampNeg) (xs (x3 + 2).toNatClampNeg)).bind fun r48 =>
                            if r44.1 = r48.1 then
                              f_L_law_tail_686 L xs (f_L_law_tail L xs φ) r48.2 x3
                            else
                              some (0, r48.2)
                          else none
                        else none
                      else none
                    else none
                  else
                    if ((xs x3.toNatClampNeg) &&& 31) = 6 then
                      if inB (x3 + 1) L = true then
                        if inB (x3 + 2) L = true then
                          (f_X8_best s (xs (x3 + 1).toNatClampNeg) (xs (x3 + 2).toNatClampNeg)).bind fun r54 =>
                          if inB (x3 + 1) L = true then
                            if inB (x3 + 2) L = true then
                              (f_X9_best r54.2 (xs (x3 + 1).toNatClampNeg) (xs (x3 + 2).toNatClampNeg)).bind fun r58 =>
                              if r54.1 = r58.1 then
                                f_L_law_tail_686 L xs (f_L_law_tail L xs φ) r58.2 x3
                              else
                                some (0, r58.2)
                            else none
                          else none
                        else none
                      else none
                    else
                      if ((xs x3.toNatClampNeg) &&& 31) = 7 then
                        if inB (x3 + 1) L = true then
                          if inB (x3 + 2) L = true then
                            (f_X8_found s (xs (x3 + 1).toNatClampNeg) (xs (x3 + 2).toNatClampNeg)).bind fun r64 =>
                            if inB (x3 + 1) L = true then
                              if inB (x3 + 2) L = true then
                                (f_X9_found r64.2 (xs (x3 + 1).toNatClampNeg) (xs (x3 + 2).toNatClampNeg)).bind fun r68 =>
                                if r64.1 = r68.1 then
                                  f_L_law_tail_686 L xs (f_L_law_tail L xs φ) r68.2 x3
                                else
                                  some (0, r68.2)
                              else none
                            else none
                          else none
                        else none
                      else
                        if ((xs x3.toNatClampNeg) &&& 31) = 8 then
                          if inB (x3 + 1) L = true then
                            (f_X8_leader s (xs (x3 + 1).toNatClampNeg)).bind fun r73 =>
                            if inB (x3 + 1) L = true then
                              (f_X9_leader r73.2 (xs (x3 + 1).toNatClampNeg)).bind fun r76 =>
                              if r73.1 = r76.1 then
                                f_L_law_tail_686 L xs (f_L_law_tail L xs φ) r76.2 x3
                              else
                                some (0, r76.2)
                            else none
                          else none
                        else
                          if ((xs x3.toNatClampNeg) &&& 31) = 9 then
                            if inB (x3 + 1) L = true then
                              (f_X8_plan s (xs (x3 + 1).toNatClampNeg)).bind fun r81 =>
                              if inB (x3 + 1) L = true then
                                (f_X9_plan s (xs (x3 + 1).toNatClampNeg)).bind fun r84 =>
                                if r81 = r84.1 then
                                  f_L_law_tail_686 L xs (f_L_law_tail L xs φ) r84.2 x3
                                else
                                  some (0, r84.2)
                              else none
                            else none
                          else
                            if ((xs x3.toNatClampNeg) &&& 31) = 10 then
                              if inB (x3 + 1) L = true then
                                if inB (x3 + 2) L = true then
                                  (f_X8_words s (xs (x3 + 1).toNatClampNeg) (xs (x3 + 2).toNatClampNeg)).bind fun r90 =>
                                  if inB (x3 + 1) L = true then
                                    if inB (x3 + 2) L = true then
                                      (f_X9_words r90.2 (xs (x3 + 1).toNatClampNeg) (xs (x3 + 2).toNatClampNeg)).bind fun r94 =>
                                      if r90.1 = r94.1 then
                                        f_L_law_tail_686 L xs (f_L_law_tail L xs φ) r94.2 x3
                                      else
                                        some (0, r94.2)
                                    else none
                                  else none
                                else none
                              else none
                            else
                              if ((xs x3.toNatClampNeg) &&& 31) = 11 then
                                if inB (x3 + 1) L = true then
                                  (f_X8_tale s (xs (x3 + 1).toNatClampNeg)).bind fun r99 =>
                                  if inB (x3 + 1) L = true then
                                    (f_X9_tale r99.2 (xs (x3 + 1).toNatClampNeg)).bind fun r102 =>
                                    if r99.1 = r102.1 then
                                      f_L_law_tail_686 L xs (f_L_law_tail L xs φ) r102.2 x3
                                    else
                                      some (0, r102.2)
                                  else none
                                else none
                              else
                                if ((xs x3.toNatClampNeg) &&& 31) = 12 then
                                  if inB (x3 + 1) L = true then
                                    (f_X8_octet s (xs (x3 + 1).toNatClampNeg)).bind fun r107 =>
                                    if inB (x3 + 1) L = true then
                                      (f_X9_octet s (xs (x3 + 1).toNatClampNeg)).bind fun r110 =>
                                      if r107 = r110 then
                                        f_L_law_tail_686 L xs (f_L_law_tail L xs φ) s x3
                                      else
                                        some (0, s)
                                    else none
                                  else none
                                else
                                  if ((xs x3.toNatClampNeg) &&& 31) = 13 then
                                    if inB (x3 + 1) L = true then
                                      (f_X8_chosen s (xs (x3 + 1).toNatClampNeg)).bind fun r115 =>
                                      if inB (x3 + 1) L = true then
                                        (f_X9_chosen r115.2 (xs (x3 + 1).toNatClampNeg)).bind fun r118 =>
                                        if r115.1 = r118.1 then
                                          f_L_law_tail_686 L xs (f_L_law_tail L xs φ) r118.2 x3
                                        else
                                          some (0, r118.2)
                                      else none
                                    else none
                                  else
                                    if ((xs x3.toNatClampNeg) &&& 31) = 14 then
                                      if inB (x3 + 1) L = true then
                                        (f_X8_worth s (xs (x3 + 1).toNatClampNeg)).bind fun r123 =>
                                        if inB (x3 + 1) L = true then
                                          (f_X9_worth r123.2 (xs (x3 + 1).toNatClampNeg)).bind fun r126 =>
                                          if r123.1 = r126.1 then
                                            f_L_law_tail_686 L xs (f_L_law_tail L xs φ) r126.2 x3
                                          else
                                            some (0, r126.2)
                                        else none
                                      else none
                                    else
                                      if ((xs x3.toNatClampNeg) &&& 31) = 15 then
                                        if inB (x3 + 1) L = true then
                                          if inB (x3 + 2) L = true then
                                            if inB (x3 + 3) L = true then
                                              if inB (x3 + 4) L = true then
                                                if inB (x3 + 5) L = true then
                                                  (f_X8_feed s (xs (x3 + 1).toNatClampNeg) (xs (x3 + 2).toNatClampNeg) (xs (x3 + 3).toNatClampNeg) (xs (x3 + 4).toNatClampNeg) (xs (x3 + 5).toNatClampNeg)).bind fun r135 =>
                                                  if inB (x3 + 1) L = true then
                                                    if inB (x3 + 2) L = true then
                                                      if inB (x3 + 3) L = true then
                                                        if inB (x3 + 4) L = true then
                                                          if inB (x3 + 5) L = true then
                                                            (f_X9_feed r135.2 (xs (x3 + 1).toNatClampNeg) (xs (x3 + 2).toNatClampNeg) (xs (x3 + 3).toNatClampNeg) (xs (x3 + 4).toNatClampNeg) (xs (x3 + 5).toNatClampNeg)).bind fun r142 =>
                                                            if r135.1 = r142.1 then
                                                              f_L_law_tail_686 L xs (f_L_law_tail L xs φ) r142.2 x3
                                                            else
                                                              some (0, r142.2)
                                                          else none
                                                        else none
                                                      else none
                                                    else none
                                                  else none
                                                else none
                                              else none
                                            else none
                                          else none
                                        else none
                                      else
                                        if ((xs x3.toNatClampNeg) &&& 31) = 16 then
                                          if inB (x3 + 1) L = true then
                                            (f_X8_read s (xs (x3 + 1).toNatClampNeg)).bind fun r147 =>
                                            if inB (x3 + 1) L = true then
                                              (f_X9_read r147.2 (xs (x3 + 1).toNatClampNeg)).bind fun r150 =>
                                              if r147.1 = r150.1 then
                                                f_L_law_tail_686 L xs (f_L_law_tail L xs φ) r150.2 x3
                                              else
                                                some (0, r150.2)
                                            else none
                                          else none
                                        else
                                          if ((xs x3.toNatClampNeg) &&& 31) = 17 then
                                            if inB (x3 + 1) L = true then
                                              (f_X8_look s (xs (x3 + 1).toNatClampNeg)).bind fun r155 =>
                                              if inB (x3 + 1) L = true then
                                                (f_X9_look s (xs (x3 + 1).toNatClampNeg)).bind fun r158 =>
                                                if r155 = r158.1 then
                                                  f_L_law_tail_686 L xs (f_L_law_tail L xs φ) r158.2 x3
                                                else
                                                  some (0, r158.2)
                                              else none
                                            else none
                                          else
                                            f_L_law_tail_686 L xs (f_L_law_tail L xs φ) s x3
      else none
set_option maxHeartbeats 4000000 in
set_option maxRecDepth 100000 in
theorem b_L_law_tail (L : Nat) (xs : Nat → Int32) (r : Int32 × gS) (nm : String) (k n : Nat) (hkn : k ≤ 600000 ∧ n ≤ 7302250) : ∀ (φ : Nat) (s : gS) (x3 : Int32) , f_L_law_tail L xs φ s x3 = some r → Go (PX L xs) ⟨RL, nm, "([I)Z"⟩ cL_law 4 (some .boolean) 16 600000 7302250 (fun r9 w9 => r9 = some (.int r.1) ∧ w9 = wW r.2) k n (wW s) 18 [some (.ref 1001), some (.ref 0), some (.ref 23), some (.int x3)] [] := by
  intro φ
  induction φ with
  | zero =>
    intro s x3 h
    exact absurd h (by intro h0; cases h0)
  | succ φ ih =>
    intro s x3 h
    rw [f_L_law_tail] at h
    refine go_iload_n (q := 19) dL_law_18 rfl rfl ?_
    refine go_aload_n (q := 20) dL_law_19 rfl rfl ?_
    refine go_xlen (v := Int32.ofNat L) (q := 21) dL_law_20 rfl rfl ?_
    refine go_bipush (v := 6) (q := 23) dL_law_21 (by decide) rfl ?_
    refine go_isub (q := 24) dL_law_23 rfl ?_
    refine go_icmp_gt (tgt := 692) (q := 27) dL_law_24 (by decide) rfl (fun c1 => ?_) (fun c1 => ?_)
    · replace h := g_pos c1 h
      refine go_iconst (v := 1) (q := 693) dL_law_692 (by decide) rfl ?_
      cases h
      exact go_iret dL_law_693 rfl rfl hkn.1 hkn.2 ⟨rfl, rfl⟩
    · replace h := g_neg c1 h
      refine go_aload_n (q := 28) dL_law_27 rfl rfl ?_
      refine go_iload_n (q := 29) dL_law_28 rfl rfl ?_
      obtain ⟨g2, h⟩ := g_guard h
      refine go_xald (q := 30) dL_law_29 (inB_in g2) rfl ?_
      refine go_bipush (v := 31) (q := 32) dL_law_30 (by decide) rfl ?_
      refine go_iand (q := 33) dL_law_32 rfl ?_
      by_cases c3 : ((xs x3.toNatClampNeg) &&& 31) = 0
      · replace h := g_pos c3 h
        refine go_tblIn (off := 87) (tgt := 120) dL_law_33 (by rw [c3]; decide) (by rw [c3]; decide) (by rw [c3]; rfl) (by decide) ?_
        refine go_aload_n (q := 121) dL_law_120 rfl rfl ?_
        refine go_aload_n (q := 122) dL_law_121 rfl rfl ?_
        refine go_iload_n (q := 123) dL_law_122 rfl rfl ?_
        refine go_iconst (v := 1) (q := 124) dL_law_123 (by decide) rfl ?_
        refine go_iadd (q := 125) dL_law_124 rfl ?_
        obtain ⟨g4, h⟩ := g_guard h
        refine go_xald (q := 126) dL_law_125 (inB_in g4) rfl ?_
        refine go_aload_n (q := 127) dL_law_126 rfl rfl ?_
        refine go_iload_n (q := 128) dL_law_127 rfl rfl ?_
        refine go_iconst (v := 2) (q := 129) dL_law_128 (by decide) rfl ?_
        refine go_iadd (q := 130) dL_law_129 rfl ?_
        obtain ⟨g5, h⟩ := g_guard h
        refine go_xald (q := 131) dL_law_130 (inB_in g5) rfl ?_
        refine go_aload_n (q := 132) dL_law_131 rfl rfl ?_
        refine go_iload_n (q := 133) dL_law_132 rfl rfl ?_
        refine go_iconst (v := 3) (q := 134) dL_law_133 (by decide) rfl ?_
        refine go_iadd (q := 135) dL_law_134 rfl ?_
        obtain ⟨g6, h⟩ := g_guard h
        refine go_xald (q := 136) dL_law_135 (inB_in g6) rfl ?_
        refine go_aload_n (q := 137) dL_law_136 rfl rfl ?_
        refine go_iload_n (q := 138) dL_law_137 rfl rfl ?_
        refine go_iconst (v := 4) (q := 139) dL_law_138 (by decide) rfl ?_
        refine go_iadd (q := 140) dL_law_139 rfl ?_
        obtain ⟨g7, h⟩ := g_guard h
        refine go_xald (q := 141) dL_law_140 (inB_in g7) rfl ?_
        refine go_if_eq (tgt := 148) (q := 144) dL_law_141 (by decide) rfl (fun c8 => ?_) (fun c8 => ?_)
        · replace h := g_pos c8 h
          refine go_iconst (v := 0) (q := 149) dL_law_148 (by decide) rfl ?_
          refine go_ls (ls2 := [some (.ref 1001), some (.ref 0), some (.ref 23), some (.int x3)]) ⟨rfl, rfl, rfl, rfl, trivial⟩ ?_
          exact b_L_law_tail_149 L xs (f_L_law_tail L xs φ) r nm k n hkn (fun s x3 h => ih s x3 h) s x3 (xs (x3 + 1).toNatClampNeg) (xs (x3 + 2).toNatClampNeg) (xs (x3 + 3).toNatClampNeg) 0 h
        · replace h := g_neg c8 h
          refine go_iconst (v := 1) (q := 145) dL_law_144 (by decide) rfl ?_
          refine go_goto (tgt := 149) dL_law_145 (by decide) ?_
          refine go_ls (ls2 := [some (.ref 1001), some (.ref 0), some (.ref 23), some (.int x3)]) ⟨rfl, rfl, rfl, rfl, trivial⟩ ?_
          exact b_L_law_tail_149 L xs (f_L_law_tail L xs φ) r nm k n hkn (fun s x3 h => ih s x3 h) s x3 (xs (x3 + 1).toNatClampNeg) (xs (x3 + 2).toNatClampNeg) (xs (x3 + 3).toNatClampNeg) 1 h
      replace h := g_neg c3 h
      by_cases c9 : ((xs x3.toNatClampNeg) &&& 31) = 1
      · replace h := g_pos c9 h
        refine go_tblIn (off := 182) (tgt := 215) dL_law_33 (by rw [c9]; decide) (by rw [c9]; decide) (by rw [c9]; rfl) (by decide) ?_
        refine go_aload_n (q := 216) dL_law_215 rfl rfl ?_
        refine go_aload_n (q := 217) dL_law_216 rfl rfl ?_
        refine go_iload_n (q := 218) dL_law_217 rfl rfl ?_
        refine go_iconst (v := 1) (q := 219) dL_law_218 (by decide) rfl ?_
        refine go_iadd (q := 220) dL_law_219 rfl ?_
        obtain ⟨g10, h⟩ := g_guard h
        refine go_xald (q := 221) dL_law_220 (inB_in g10) rfl ?_
        obtain ⟨r11, e12, h⟩ := g_bind h
        refine go_callV0 (q := 224) (as := [.int (xs (x3 + 1).toNatClampNeg)]) (rest := []) (st2 := [.int r11.1]) (w2 := wW r11.2) dL_law_221 cL_18 (t_X8_play s (xs (x3 + 1).toNatClampNeg) _ e12) (wg_0 _) rfl rfl rfl (Nat.le_of_ble_eq_true rfl) (by decide) hkn rfl rfl ?_
        refine go_aload_n (q := 225) dL_law_224 rfl rfl ?_
        refine go_aload_n (q := 226) dL_law_225 rfl rfl ?_
        refine go_iload_n (q := 227) dL_law_226 rfl rfl ?_
        refine go_iconst (v := 1) (q := 228) dL_law_227 (by decide) rfl ?_
        refine go_iadd (q := 229) dL_law_228 rfl ?_
        obtain ⟨g13, h⟩ := g_guard h
        refine go_xald (q := 230) dL_law_229 (inB_in g13) rfl ?_
        obtain ⟨r14, e15, h⟩ := g_bind h
        refine go_callV0 (q := 233) (as := [.int (xs (x3 + 1).toNatClampNeg)]) (rest := [.int r11.1]) (st2 := [.int r14.1, .int r11.1]) (w2 := wW r14.2) dL_law_230 cL_22 (t_X9_play r11.2 (xs (x3 + 1).toNatClampNeg) _ e15) (wg_23 _) rfl rfl rfl (Nat.le_of_ble_eq_true rfl) (by decide) hkn rfl rfl ?_
        refine go_icmp_eq (tgt := 686) (q := 236) dL_law_233 (by decide) rfl (fun c16 => ?_) (fun c16 => ?_)
        · replace h := g_pos c16 h
          refine go_ls (ls2 := [some (.ref 1001), some (.ref 0), some (.ref 23), some (.int x3)]) ⟨rfl, rfl, rfl, rfl, trivial⟩ ?_
          exact b_L_law_tail_686 L xs (f_L_law_tail L xs φ) r nm k n hkn (fun s x3 h => ih s x3 h) r14.2 x3 h
        · replace h := g_neg c16 h
          refine go_iconst (v := 0) (q := 237) dL_law_236 (by decide) rfl ?_
          cases h
          exact go_iret dL_law_237 rfl rfl hkn.1 hkn.2 ⟨rfl, rfl⟩
      replace h := g_neg c9 h
      by_cases c17 : ((xs x3.toNatClampNeg) &&& 31) = 2
      · replace h := g_pos c17 h
        refine go_tblIn (off := 205) (tgt := 238) dL_law_33 (by rw [c17]; decide) (by rw [c17]; decide) (by rw [c17]; rfl) (by decide) ?_
        refine go_aload_n (q := 239) dL_law_238 rfl rfl ?_
        obtain ⟨r18, e19, h⟩ := g_bind h
        refine go_callV0 (q := 242) (as := []) (rest := []) (st2 := [.int r18.1]) (w2 := wW r18.2) dL_law_239 cL_23 (t_X8_back s _ e19) (wg_0 _) rfl rfl rfl (Nat.le_of_ble_eq_true rfl) (by decide) hkn rfl rfl ?_
        refine go_aload_n (q := 243) dL_law_242 rfl rfl ?_
        obtain ⟨r20, e21, h⟩ := g_bind h
        refine go_callV0 (q := 246) (as := []) (rest := [.int r18.1]) (st2 := [.int r20.1, .int r18.1]) (w2 := wW r20.2) dL_law_243 cL_27 (t_X9_back r18.2 _ e21) (wg_23 _) rfl rfl rfl (Nat.le_of_ble_eq_true rfl) (by decide) hkn rfl rfl ?_
        refine go_icmp_eq (tgt := 686) (q := 249) dL_law_246 (by decide) rfl (fun c22 => ?_) (fun c22 => ?_)
        · replace h := g_pos c22 h
          refine go_ls (ls2 := [some (.ref 1001), some (.ref 0), some (.ref 23), some (.int x3)]) ⟨rfl, rfl, rfl, rfl, trivial⟩ ?_
          exact b_L_law_tail_686 L xs (f_L_law_tail L xs φ) r nm k n hkn (fun s x3 h => ih s x3 h) r20.2 x3 h
        · replace h := g_neg c22 h
          refine go_iconst (v := 0) (q := 250) dL_law_249 (by decide) rfl ?_
          cases h
          exact go_iret dL_law_250 rfl rfl hkn.1 hkn.2 ⟨rfl, rfl⟩
      replace h := g_neg c17 h
      by_cases c23 : ((xs x3.toNatClampNeg) &&& 31) = 3
      · replace h := g_pos c23 h
        refine go_tblIn (off := 218) (tgt := 251) dL_law_33 (by rw [c23]; decide) (by rw [c23]; decide) (by rw [c23]; rfl) (by decide) ?_
        refine go_aload_n (q := 252) dL_law_251 rfl rfl ?_
        refine go_aload_n (q := 253) dL_law_252 rfl rfl ?_
        refine go_iload_n (q := 254) dL_law_253 rfl rfl ?_
        refine go_iconst (v := 1) (q := 255) dL_law_254 (by decide) rfl ?_
        refine go_iadd (q := 256) dL_law_255 rfl ?_
        obtain ⟨g24, h⟩ := g_guard h
        refine go_xald (q := 257) dL_law_256 (inB_in g24) rfl ?_
        obtain ⟨r25, e26, h⟩ := g_bind h
        refine go_callV0 (q := 260) (as := [.int (xs (x3 + 1).toNatClampNeg)]) (rest := []) (st2 := [.int r25.1]) (w2 := wW r25.2) dL_law_257 cL_28 (t_X8_depth s (xs (x3 + 1).toNatClampNeg) _ e26) (wg_0 _) rfl rfl rfl (Nat.le_of_ble_eq_true rfl) (by decide) hkn rfl rfl ?_
        refine go_aload_n (q := 261) dL_law_260 rfl rfl ?_
        refine go_aload_n (q := 262) dL_law_261 rfl rfl ?_
        refine go_iload_n (q := 263) dL_law_262 rfl rfl ?_
        refine go_iconst (v := 1) (q := 264) dL_law_263 (by decide) rfl ?_
        refine go_iadd (q := 265) dL_law_264 rfl ?_
        obtain ⟨g27, h⟩ := g_guard h
        refine go_xald (q := 266) dL_law_265 (inB_in g27) rfl ?_
        obtain ⟨r28, e29, h⟩ := g_bind h
        refine go_callV0 (q := 269) (as := [.int (xs (x3 + 1).toNatClampNeg)]) (rest := [.int r25.1]) (st2 := [.int r28.1, .int r25.1]) (w2 := wW r28.2) dL_law_266 cL_32 (t_X9_depth r25.2 (xs (x3 + 1).toNatClampNeg) _ e29) (wg_23 _) rfl rfl rfl (Nat.le_of_ble_eq_true rfl) (by decide) hkn rfl rfl ?_
        refine go_icmp_eq (tgt := 686) (q := 272) dL_law_269 (by decide) rfl (fun c30 => ?_) (fun c30 => ?_)
        · replace h := g_pos c30 h
          refine go_ls (ls2 := [some (.ref 1001), some (.ref 0), some (.ref 23), some (.int x3)]) ⟨rfl, rfl, rfl, rfl, trivial⟩ ?_
          exact b_L_law_tail_686 L xs (f_L_law_tail L xs φ) r nm k n hkn (fun s x3 h => ih s x3 h) r28.2 x3 h
        · replace h := g_neg c30 h
          refine go_iconst (v := 0) (q := 273) dL_law_272 (by decide) rfl ?_
          cases h
          exact go_iret dL_law_273 rfl rfl hkn.1 hkn.2 ⟨rfl, rfl⟩
      replace h := g_neg c23 h
      by_cases c31 : ((xs x3.toNatClampNeg) &&& 31) = 4
      · replace h := g_pos c31 h
        refine go_tblIn (off := 241) (tgt := 274) dL_law_33 (by rw [c31]; decide) (by rw [c31]; decide) (by rw [c31]; rfl) (by decide) ?_
        refine go_aload_n (q := 275) dL_law_274 rfl rfl ?_
        refine go_aload_n (q := 276) dL_law_275 rfl rfl ?_
        refine go_iload_n (q := 277) dL_law_276 rfl rfl ?_
        refine go_iconst (v := 1) (q := 278) dL_law_277 (by decide) rfl ?_
        refine go_iadd (q := 279) dL_law_278 rfl ?_
        obtain ⟨g32, h⟩ := g_guard h
        refine go_xald (q := 280) dL_law_279 (inB_in g32) rfl ?_
        refine go_aload_n (q := 281) dL_law_280 rfl rfl ?_
        refine go_iload_n (q := 282) dL_law_281 rfl rfl ?_
        refine go_iconst (v := 2) (q := 283) dL_law_282 (by decide) rfl ?_
        refine go_iadd (q := 284) dL_law_283 rfl ?_
        obtain ⟨g33, h⟩ := g_guard h
        refine go_xald (q := 285) dL_law_284 (inB_in g33) rfl ?_
        obtain ⟨r34, e35, h⟩ := g_bind h
        refine go_callV0 (q := 288) (as := [.int (xs (x3 + 1).toNatClampNeg), .int (xs (x3 + 2).toNatClampNeg)]) (rest := []) (st2 := [.int r34.1]) (w2 := wW r34.2) dL_law_285 cL_33 (t_X8_weight s (xs (x3 + 1).toNatClampNeg) (xs (x3 + 2).toNatClampNeg) _ e35) (wg_0 _) rfl rfl rfl (Nat.le_of_ble_eq_true rfl) (by decide) hkn rfl rfl ?_
        refine go_aload_n (q := 289) dL_law_288 rfl rfl ?_
        refine go_aload_n (q := 290) dL_law_289 rfl rfl ?_
        refine go_iload_n (q := 291) dL_law_290 rfl rfl ?_
        refine go_iconst (v := 1) (q := 292) dL_law_291 (by decide) rfl ?_
        refine go_iadd (q := 293) dL_law_292 rfl ?_
        obtain ⟨g36, h⟩ := g_guard h
        refine go_xald (q := 294) dL_law_293 (inB_in g36) rfl ?_
        refine go_aload_n (q := 295) dL_law_294 rfl rfl ?_
        refine go_iload_n (q := 296) dL_law_295 rfl rfl ?_
        refine go_iconst (v := 2) (q := 297) dL_law_296 (by decide) rfl ?_
        refine go_iadd (q := 298) dL_law_297 rfl ?_
        obtain ⟨g37, h⟩ := g_guard h
        refine go_xald (q := 299) dL_law_298 (inB_in g37) rfl ?_
        obtain ⟨r38, e39, h⟩ := g_bind h
        refine go_callV0 (q := 302) (as := [.int (xs (x3 + 1).toNatClampNeg), .int (xs (x3 + 2).toNatClampNeg)]) (rest := [.int r34.1]) (st2 := [.int r38.1, .int r34.1]) (w2 := wW r38.2) dL_law_299 cL_37 (t_X9_weight r34.2 (xs (x3 + 1).toNatClampNeg) (xs (x3 + 2).toNatClampNeg) _ e39) (wg_23 _) rfl rfl rfl (Nat.le_of_ble_eq_true rfl) (by decide) hkn rfl rfl ?_
        refine go_icmp_eq (tgt := 686) (q := 305) dL_law_302 (by decide) rfl (fun c40 => ?_) (fun c40 => ?_)
        · replace h := g_pos c40 h
          refine go_ls (ls2 := [some (.ref 1001), some (.ref 0), some (.ref 23), some (.int x3)]) ⟨rfl, rfl, rfl, rfl, trivial⟩ ?_
          exact b_L_law_tail_686 L xs (f_L_law_tail L xs φ) r nm k n hkn (fun s x3 h => ih s x3 h) r38.2 x3 h
        · replace h := g_neg c40 h
          refine go_iconst (v := 0) (q := 306) dL_law_305 (by decide) rfl ?_
          cases h
          exact go_iret dL_law_306 rfl rfl hkn.1 hkn.2 ⟨rfl, rfl⟩
      replace h := g_neg c31 h
      by_cases c41 : ((xs x3.toNatClampNeg) &&& 31) = 5
      · replace h := g_pos c41 h
        refine go_tblIn (off := 274) (tgt := 307) dL_law_33 (by rw [c41]; decide) (by rw [c41]; decide) (by rw [c41]; rfl) (by decide) ?_
        refine go_aload_n (q := 308) dL_law_307 rfl rfl ?_
        refine go_aload_n (q := 309) dL_law_308 rfl rfl ?_
        refine go_iload_n (q := 310) dL_law_309 rfl rfl ?_
        refine go_iconst (v := 1) (q := 311) dL_law_310 (by decide) rfl ?_
        refine go_iadd (q := 312) dL_law_311 rfl ?_
        obtain ⟨g42, h⟩ := g_guard h
        refine go_xald (q := 313) dL_law_312 (inB_in g42) rfl ?_
        refine go_aload_n (q := 314) dL_law_313 rfl rfl ?_
        refine go_iload_n (q := 315) dL_law_314 rfl rfl ?_
        refine go_iconst (v := 2) (q := 316) dL_law_315 (by decide) rfl ?_
        refine go_iadd (q := 317) dL_law_316 rfl ?_
        obtain ⟨g43, h⟩ := g_guard h
        refine go_xald (q := 318) dL_law_317 (inB_in g43) rfl ?_
        obtain ⟨r44, e45, h⟩ := g_bind h
        refine go_callV0 (q := 321) (as := [.int (xs (x3 + 1).toNatClampNeg), .int (xs (x3 + 2).toNatClampNeg)]) (rest := []) (st2 := [.int r44.1]) (w2 := wW r44.2) dL_law_318 cL_38 (t_X8_value s (xs (x3 + 1).toNatClampNeg) (xs (x3 + 2).toNatClampNeg) _ e45) (wg_0 _) rfl rfl rfl (Nat.le_of_ble_eq_true rfl) (by decide) hkn rfl rfl ?_
        refine go_aload_n (q := 322) dL_law_321 rfl rfl ?_
        refine go_aload_n (q := 323) dL_law_322 rfl rfl ?_
        refine go_iload_n (q := 324) dL_law_323 rfl rfl ?_
        refine go_iconst (v := 1) (q := 325) dL_law_324 (by decide) rfl ?_
        refine go_iadd (q := 326) dL_law_325 rfl ?_
        obtain ⟨g46, h⟩ := g_guard h
        refine go_xald (q := 327) dL_law_326 (inB_in g46) rfl ?_
        refine go_aload_n (q := 328) dL_law_327 rfl rfl ?_
        refine go_iload_n (q := 329) dL_law_328 rfl rfl ?_
        refine go_iconst (v := 2) (q := 330) dL_law_329 (by decide) rfl ?_
        refine go_iadd (q := 331) dL_law_330 rfl ?_
        obtain ⟨g47, h⟩ := g_guard h
        refine go_xald (q := 332) dL_law_331 (inB_in g47) rfl ?_
        obtain ⟨r48, e49, h⟩ := g_bind h
        refine go_callV0 (q := 335) (as := [.int (xs (x3 + 1).toNatClampNeg), .int (xs (x3 + 2).toNatClampNeg)]) (rest := [.int r44.1]) (st2 := [.int r48.1, .int r44.1]) (w2 := wW r48.2) dL_law_332 cL_42 (t_X9_value r44.2 (xs (x3 + 1).toNatClampNeg) (xs (x3 + 2).toNatClampNeg) _ e49) (wg_23 _) rfl rfl rfl (Nat.le_of_ble_eq_true rfl) (by decide) hkn rfl rfl ?_
        refine go_icmp_eq (tgt := 686) (q := 338) dL_law_335 (by decide) rfl (fun c50 => ?_) (fun c50 => ?_)
        · replace h := g_pos c50 h
          refine go_ls (ls2 := [some (.ref 1001), some (.ref 0), some (.ref 23), some (.int x3)]) ⟨rfl, rfl, rfl, rfl, trivial⟩ ?_
          exact b_L_law_tail_686 L xs (f_L_law_tail L xs φ) r nm k n hkn (fun s x3 h => ih s x3 h) r48.2 x3 h
        · replace h := g_neg c50 h
          refine go_iconst (v := 0) (q := 339) dL_law_338 (by decide) rfl ?_
          cases h
          exact go_iret dL_law_339 rfl rfl hkn.1 hkn.2 ⟨rfl, rfl⟩
      replace h := g_neg c41 h
      by_cases c51 : ((xs x3.toNatClampNeg) &&& 31) = 6
      · replace h := g_pos c51 h
        refine go_tblIn (off := 307) (tgt := 340) dL_law_33 (by rw [c51]; decide) (by rw [c51]; decide) (by rw [c51]; rfl) (by decide) ?_
        refine go_aload_n (q := 341) dL_law_340 rfl rfl ?_
        refine go_aload_n (q := 342) dL_law_341 rfl rfl ?_
        refine go_iload_n (q := 343) dL_law_342 rfl rfl ?_
        refine go_iconst (v := 1) (q := 344) dL_law_343 (by decide) rfl ?_
        refine go_iadd (q := 345) dL_law_344 rfl ?_
        obtain ⟨g52, h⟩ := g_guard h
        refine go_xald (q := 346) dL_law_345 (inB_in g52) rfl ?_
        refine go_aload_n (q := 347) dL_law_346 rfl rfl ?_
        refine go_iload_n (q := 348) dL_law_347 rfl rfl ?_
        refine go_iconst (v := 2) (q := 349) dL_law_348 (by decide) rfl ?_
        refine go_iadd (q := 350) dL_law_349 rfl ?_
        obtain ⟨g53, h⟩ := g_guard h
        refine go_xald (q := 351) dL_law_350 (inB_in g53) rfl ?_
        obtain ⟨r54, e55, h⟩ := g_bind h
        refine go_callV0 (q := 354) (as := [.int (xs (x3 + 1).toNatClampNeg), .int (xs (x3 + 2).toNatClampNeg)]) (rest := []) (st2 := [.int r54.1]) (w2 := wW r54.2) dL_law_351 cL_43 (t_X8_best s (xs (x3 + 1).toNatClampNeg) (xs (x3 + 2).toNatClampNeg) _ e55) (wg_0 _) rfl rfl rfl (Nat.le_of_ble_eq_true rfl) (by decide) hkn rfl rfl ?_
        refine go_aload_n (q := 355) dL_law_354 rfl rfl ?_
        refine go_aload_n (q := 356) dL_law_355 rfl rfl ?_
        refine go_iload_n (q := 357) dL_law_356 rfl rfl ?_
        refine go_iconst (v := 1) (q := 358) dL_law_357 (by decide) rfl ?_
        refine go_iadd (q := 359) dL_law_358 rfl ?_
        obtain ⟨g56, h⟩ := g_guard h
        refine go_xald (q := 360) dL_law_359 (inB_in g56) rfl ?_
        refine go_aload_n (q := 361) dL_law_360 rfl rfl ?_
        refine go_iload_n (q := 362) dL_law_361 rfl rfl ?_
        refine go_iconst (v := 2) (q := 363) dL_law_362 (by decide) rfl ?_
        refine go_iadd (q := 364) dL_law_363 rfl ?_
        obtain ⟨g57, h⟩ := g_guard h
        refine go_xald (q := 365) dL_law_364 (inB_in g57) rfl ?_
        obtain ⟨r58, e59, h⟩ := g_bind h
        refine go_callV0 (q := 368) (as := [.int (xs (x3 + 1).toNatClampNeg), .int (xs (x3 + 2).toNatClampNeg)]) (rest := [.int r54.1]) (st2 := [.int r58.1, .int r54.1]) (w2 := wW r58.2) dL_law_365 cL_46 (t_X9_best r54.2 (xs (x3 + 1).toNatClampNeg) (xs (x3 + 2).toNatClampNeg) _ e59) (wg_23 _) rfl rfl rfl (Nat.le_of_ble_eq_true rfl) (by decide) hkn rfl rfl ?_
        refine go_icmp_eq (tgt := 686) (q := 371) dL_law_368 (by decide) rfl (fun c60 => ?_) (fun c60 => ?_)
        · replace h := g_pos c60 h
          refine go_ls (ls2 := [some (.ref 1001), some (.ref 0), some (.ref 23), some (.int x3)]) ⟨rfl, rfl, rfl, rfl, trivial⟩ ?_
          exact b_L_law_tail_686 L xs (f_L_law_tail L xs φ) r nm k n hkn (fun s x3 h => ih s x3 h) r58.2 x3 h
        · replace h := g_neg c60 h
          refine go_iconst (v := 0) (q := 372) dL_law_371 (by decide) rfl ?_
          cases h
          exact go_iret dL_law_372 rfl rfl hkn.1 hkn.2 ⟨rfl, rfl⟩
      replace h := g_neg c51 h
      by_cases c61 : ((xs x3.toNatClampNeg) &&& 31) = 7
      · replace h := g_pos c61 h
        refine go_tblIn (off := 340) (tgt := 373) dL_law_33 (by rw [c61]; decide) (by rw [c61]; decide) (by rw [c61]; rfl) (by decide) ?_
        refine go_aload_n (q := 374) dL_law_373 rfl rfl ?_
        refine go_aload_n (q := 375) dL_law_374 rfl rfl ?_
        refine go_iload_n (q := 376) dL_law_375 rfl rfl ?_
        refine go_iconst (v := 1) (q := 377) dL_law_376 (by decide) rfl ?_
        refine go_iadd (q := 378) dL_law_377 rfl ?_
        obtain ⟨g62, h⟩ := g_guard h
        refine go_xald (q := 379) dL_law_378 (inB_in g62) rfl ?_
        refine go_aload_n (q := 380) dL_law_379 rfl rfl ?_
        refine go_iload_n (q := 381) dL_law_380 rfl rfl ?_
        refine go_iconst (v := 2) (q := 382) dL_law_381 (by decide) rfl ?_
        refine go_iadd (q := 383) dL_law_382 rfl ?_
        obtain ⟨g63, h⟩ := g_guard h
        refine go_xald (q := 384) dL_law_383 (inB_in g63) rfl ?_
        obtain ⟨r64, e65, h⟩ := g_bind h
        refine go_callV0 (q := 387) (as := [.int (xs (x3 + 1).toNatClampNeg), .int (xs (x3 + 2).toNatClampNeg)]) (rest := []) (st2 := [.int r64.1]) (w2 := wW r64.2) dL_law_384 cL_47 (t_X8_found s (xs (x3 + 1).toNatClampNeg) (xs (x3 + 2).toNatClampNeg) _ e65) (wg_0 _) rfl rfl rfl (Nat.le_of_ble_eq_true rfl) (by decide) hkn rfl rfl ?_
        refine go_aload_n (q := 388) dL_law_387 rfl rfl ?_
        refine go_aload_n (q := 389) dL_law_388 rfl rfl ?_
        refine go_iload_n (q := 390) dL_law_389 rfl rfl ?_
        refine go_iconst (v := 1) (q := 391) dL_law_390 (by decide) rfl ?_
        refine go_iadd (q := 392) dL_law_391 rfl ?_
        obtain ⟨g66, h⟩ := g_guard h
        refine go_xald (q := 393) dL_law_392 (inB_in g66) rfl ?_
        refine go_aload_n (q := 394) dL_law_393 rfl rfl ?_
        refine go_iload_n (q := 395) dL_law_394 rfl rfl ?_
        refine go_iconst (v := 2) (q := 396) dL_law_395 (by decide) rfl ?_
        refine go_iadd (q := 397) dL_law_396 rfl ?_
        obtain ⟨g67, h⟩ := g_guard h
        refine go_xald (q := 398) dL_law_397 (inB_in g67) rfl ?_
        obtain ⟨r68, e69, h⟩ := g_bind h
        refine go_callV0 (q := 401) (as := [.int (xs (x3 + 1).toNatClampNeg), .int (xs (x3 + 2).toNatClampNeg)]) (rest := [.int r64.1]) (st2 := [.int r68.1, .int r64.1]) (w2 := wW r68.2) dL_law_398 cL_50 (t_X9_found r64.2 (xs (x3 + 1).toNatClampNeg) (xs (x3 + 2).toNatClampNeg) _ e69) (wg_23 _) rfl rfl rfl (Nat.le_of_ble_eq_true rfl) (by decide) hkn rfl rfl ?_
        refine go_icmp_eq (tgt := 686) (q := 404) dL_law_401 (by decide) rfl (fun c70 => ?_) (fun c70 => ?_)
        · replace h := g_pos c70 h
          refine go_ls (ls2 := [some (.ref 1001), some (.ref 0), some (.ref 23), some (.int x3)]) ⟨rfl, rfl, rfl, rfl, trivial⟩ ?_
          exact b_L_law_tail_686 L xs (f_L_law_tail L xs φ) r nm k n hkn (fun s x3 h => ih s x3 h) r68.2 x3 h
        · replace h := g_neg c70 h
          refine go_iconst (v := 0) (q := 405) dL_law_404 (by decide) rfl ?_
          cases h
          exact go_iret dL_law_405 rfl rfl hkn.1 hkn.2 ⟨rfl, rfl⟩
      replace h := g_neg c61 h
      by_cases c71 : ((xs x3.toNatClampNeg) &&& 31) = 8
      · replace h := g_pos c71 h
        refine go_tblIn (off := 373) (tgt := 406) dL_law_33 (by rw [c71]; decide) (by rw [c71]; decide) (by rw [c71]; rfl) (by decide) ?_
        refine go_aload_n (q := 407) dL_law_406 rfl rfl ?_
        refine go_aload_n (q := 408) dL_law_407 rfl rfl ?_
        refine go_iload_n (q := 409) dL_law_408 rfl rfl ?_
        refine go_iconst (v := 1) (q := 410) dL_law_409 (by decide) rfl ?_
        refine go_iadd (q := 411) dL_law_410 rfl ?_
        obtain ⟨g72, h⟩ := g_guard h
        refine go_xald (q := 412) dL_law_411 (inB_in g72) rfl ?_
        obtain ⟨r73, e74, h⟩ := g_bind h
        refine go_callV0 (q := 415) (as := [.int (xs (x3 + 1).toNatClampNeg)]) (rest := []) (st2 := [.int r73.1]) (w2 := wW r73.2) dL_law_412 cL_51 (t_X8_leader s (xs (x3 + 1).toNatClampNeg) _ e74) (wg_0 _) rfl rfl rfl (Nat.le_of_ble_eq_true rfl) (by decide) hkn rfl rfl ?_
        refine go_aload_n (q := 416) dL_law_415 rfl rfl ?_
        refine go_aload_n (q := 417) dL_law_416 rfl rfl ?_
        refine go_iload_n (q := 418) dL_law_417 rfl rfl ?_
        refine go_iconst (v := 1) (q := 419) dL_law_418 (by decide) rfl ?_
        refine go_iadd (q := 420) dL_law_419 rfl ?_
        obtain ⟨g75, h⟩ := g_guard h
        refine go_xald (q := 421) dL_law_420 (inB_in g75) rfl ?_
        obtain ⟨r76, e77, h⟩ := g_bind h
        refine go_callV0 (q := 424) (as := [.int (xs (x3 + 1).toNatClampNeg)]) (rest := [.int r73.1]) (st2 := [.int r76.1, .int r73.1]) (w2 := wW r76.2) dL_law_421 cL_54 (t_X9_leader r73.2 (xs (x3 + 1).toNatClampNeg) _ e77) (wg_23 _) rfl rfl rfl (Nat.le_of_ble_eq_true rfl) (by decide) hkn rfl rfl ?_
        refine go_icmp_eq (tgt := 686) (q := 427) dL_law_424 (by decide) rfl (fun c78 => ?_) (fun c78 => ?_)
        · replace h := g_pos c78 h
          refine go_ls (ls2 := [some (.ref 1001), some (.ref 0), some (.ref 23), some (.int x3)]) ⟨rfl, rfl, rfl, rfl, trivial⟩ ?_
          exact b_L_law_tail_686 L xs (f_L_law_tail L xs φ) r nm k n hkn (fun s x3 h => ih s x3 h) r76.2 x3 h
        · replace h := g_neg c78 h
          refine go_iconst (v := 0) (q := 428) dL_law_427 (by decide) rfl ?_
          cases h
          exact go_iret dL_law_428 rfl rfl hkn.1 hkn.2 ⟨rfl, rfl⟩
      replace h := g_neg c71 h
      by_cases c79 : ((xs x3.toNatClampNeg) &&& 31) = 9
      · replace h := g_pos c79 h
        refine go_tblIn (off := 396) (tgt := 429) dL_law_33 (by rw [c79]; decide) (by rw [c79]; decide) (by rw [c79]; rfl) (by decide) ?_
        refine go_aload_n (q := 430) dL_law_429 rfl rfl ?_
        refine go_aload_n (q := 431) dL_law_430 rfl rfl ?_
        refine go_iload_n (q := 432) dL_law_431 rfl rfl ?_
        refine go_iconst (v := 1) (q := 433) dL_law_432 (by decide) rfl ?_
        refine go_iadd (q := 434) dL_law_433 rfl ?_
        obtain ⟨g80, h⟩ := g_guard h
        refine go_xald (q := 435) dL_law_434 (inB_in g80) rfl ?_
        obtain ⟨r81, e82, h⟩ := g_bind h
        refine go_callV0 (q := 438) (as := [.int (xs (x3 + 1).toNatClampNeg)]) (rest := []) (st2 := [.int r81]) (w2 := wW s) dL_law_435 cL_55 (t_X8_plan s (xs (x3 + 1).toNatClampNeg) _ e82) (wg_0 _) rfl rfl rfl (Nat.le_of_ble_eq_true rfl) (by decide) hkn rfl rfl ?_
        refine go_aload_n (q := 439) dL_law_438 rfl rfl ?_
        refine go_aload_n (q := 440) dL_law_439 rfl rfl ?_
        refine go_iload_n (q := 441) dL_law_440 rfl rfl ?_
        refine go_iconst (v := 1) (q := 442) dL_law_441 (by decide) rfl ?_
        refine go_iadd (q := 443) dL_law_442 rfl ?_
        obtain ⟨g83, h⟩ := g_guard h
        refine go_xald (q := 444) dL_law_443 (inB_in g83) rfl ?_
        obtain ⟨r84, e85, h⟩ := g_bind h
        refine go_callV0 (q := 447) (as := [.int (xs (x3 + 1).toNatClampNeg)]) (rest := [.int r81]) (st2 := [.int r84.1, .int r81]) (w2 := wW r84.2) dL_law_444 cL_58 (t_X9_plan s (xs (x3 + 1).toNatClampNeg) _ e85) (wg_23 _) rfl rfl rfl (Nat.le_of_ble_eq_true rfl) (by decide) hkn rfl rfl ?_
        refine go_icmp_eq (tgt := 686) (q := 450) dL_law_447 (by decide) rfl (fun c86 => ?_) (fun c86 => ?_)
        · replace h := g_pos c86 h
          refine go_ls (ls2 := [some (.ref 1001), some (.ref 0), some (.ref 23), some (.int x3)]) ⟨rfl, rfl, rfl, rfl, trivial⟩ ?_
          exact b_L_law_tail_686 L xs (f_L_law_tail L xs φ) r nm k n hkn (fun s x3 h => ih s x3 h) r84.2 x3 h
        · replace h := g_neg c86 h
          refine go_iconst (v := 0) (q := 451) dL_law_450 (by decide) rfl ?_
          cases h
          exact go_iret dL_law_451 rfl rfl hkn.1 hkn.2 ⟨rfl, rfl⟩
      replace h := g_neg c79 h
      by_cases c87 : ((xs x3.toNatClampNeg) &&& 31) = 10
      · replace h := g_pos c87 h
        refine go_tblIn (off := 419) (tgt := 452) dL_law_33 (by rw [c87]; decide) (by rw [c87]; decide) (by rw [c87]; rfl) (by decide) ?_
        refine go_aload_n (q := 453) dL_law_452 rfl rfl ?_
        refine go_aload_n (q := 454) dL_law_453 rfl rfl ?_
        refine go_iload_n (q := 455) dL_law_454 rfl rfl ?_
        refine go_iconst (v := 1) (q := 456) dL_law_455 (by decide) rfl ?_
        refine go_iadd (q := 457) dL_law_456 rfl ?_
        obtain ⟨g88, h⟩ := g_guard h
        refine go_xald (q := 458) dL_law_457 (inB_in g88) rfl ?_
        refine go_aload_n (q := 459) dL_law_458 rfl rfl ?_
        refine go_iload_n (q := 460) dL_law_459 rfl rfl ?_
        refine go_iconst (v := 2) (q := 461) dL_law_460 (by decide) rfl ?_
        refine go_iadd (q := 462) dL_law_461 rfl ?_
        obtain ⟨g89, h⟩ := g_guard h
        refine go_xald (q := 463) dL_law_462 (inB_in g89) rfl ?_
        obtain ⟨r90, e91, h⟩ := g_bind h
        refine go_callV0 (q := 466) (as := [.int (xs (x3 + 1).toNatClampNeg), .int (xs (x3 + 2).toNatClampNeg)]) (rest := []) (st2 := [.int r90.1]) (w2 := wW r90.2) dL_law_463 cL_59 (t_X8_words s (xs (x3 + 1).toNatClampNeg) (xs (x3 + 2).toNatClampNeg) _ e91) (wg_0 _) rfl rfl rfl (Nat.le_of_ble_eq_true rfl) (by decide) hkn rfl rfl ?_
        refine go_aload_n (q := 467) dL_law_466 rfl rfl ?_
        refine go_aload_n (q := 468) dL_law_467 rfl rfl ?_
        refine go_iload_n (q := 469) dL_law_468 rfl rfl ?_
        refine go_iconst (v := 1) (q := 470) dL_law_469 (by decide) rfl ?_
        refine go_iadd (q := 471) dL_law_470 rfl ?_
        obtain ⟨g92, h⟩ := g_guard h
        refine go_xald (q := 472) dL_law_471 (inB_in g92) rfl ?_
        refine go_aload_n (q := 473) dL_law_472 rfl rfl ?_
        refine go_iload_n (q := 474) dL_law_473 rfl rfl ?_
        refine go_iconst (v := 2) (q := 475) dL_law_474 (by decide) rfl ?_
        refine go_iadd (q := 476) dL_law_475 rfl ?_
        obtain ⟨g93, h⟩ := g_guard h
        refine go_xald (q := 477) dL_law_476 (inB_in g93) rfl ?_
        obtain ⟨r94, e95, h⟩ := g_bind h
        refine go_callV0 (q := 480) (as := [.int (xs (x3 + 1).toNatClampNeg), .int (xs (x3 + 2).toNatClampNeg)]) (rest := [.int r90.1]) (st2 := [.int r94.1, .int r90.1]) (w2 := wW r94.2) dL_law_477 cL_62 (t_X9_words r90.2 (xs (x3 + 1).toNatClampNeg) (xs (x3 + 2).toNatClampNeg) _ e95) (wg_23 _) rfl rfl rfl (Nat.le_of_ble_eq_true rfl) (by decide) hkn rfl rfl ?_
        refine go_icmp_eq (tgt := 686) (q := 483) dL_law_480 (by decide) rfl (fun c96 => ?_) (fun c96 => ?_)
        · replace h := g_pos c96 h
          refine go_ls (ls2 := [some (.ref 1001), some (.ref 0), some (.ref 23), some (.int x3)]) ⟨rfl, rfl, rfl, rfl, trivial⟩ ?_
          exact b_L_law_tail_686 L xs (f_L_law_tail L xs φ) r nm k n hkn (fun s x3 h => ih s x3 h) r94.2 x3 h
        · replace h := g_neg c96 h
          refine go_iconst (v := 0) (q := 484) dL_law_483 (by decide) rfl ?_
          cases h
          exact go_iret dL_law_484 rfl rfl hkn.1 hkn.2 ⟨rfl, rfl⟩
      replace h := g_neg c87 h
      by_cases c97 : ((xs x3.toNatClampNeg) &&& 31) = 11
      · replace h := g_pos c97 h
        refine go_tblIn (off := 452) (tgt := 485) dL_law_33 (by rw [c97]; decide) (by rw [c97]; decide) (by rw [c97]; rfl) (by decide) ?_
        refine go_aload_n (q := 486) dL_law_485 rfl rfl ?_
        refine go_aload_n (q := 487) dL_law_486 rfl rfl ?_
        refine go_iload_n (q := 488) dL_law_487 rfl rfl ?_
        refine go_iconst (v := 1) (q := 489) dL_law_488 (by decide) rfl ?_
        refine go_iadd (q := 490) dL_law_489 rfl ?_
        obtain ⟨g98, h⟩ := g_guard h
        refine go_xald (q := 491) dL_law_490 (inB_in g98) rfl ?_
        obtain ⟨r99, e100, h⟩ := g_bind h
        refine go_callV0 (q := 494) (as := [.int (xs (x3 + 1).toNatClampNeg)]) (rest := []) (st2 := [.int r99.1]) (w2 := wW r99.2) dL_law_491 cL_63 (t_X8_tale s (xs (x3 + 1).toNatClampNeg) _ e100) (wg_0 _) rfl rfl rfl (Nat.le_of_ble_eq_true rfl) (by decide) hkn rfl rfl ?_
        refine go_aload_n (q := 495) dL_law_494 rfl rfl ?_
        refine go_aload_n (q := 496) dL_law_495 rfl rfl ?_
        refine go_iload_n (q := 497) dL_law_496 rfl rfl ?_
        refine go_iconst (v := 1) (q := 498) dL_law_497 (by decide) rfl ?_
        refine go_iadd (q := 499) dL_law_498 rfl ?_
        obtain ⟨g101, h⟩ := g_guard h
        refine go_xald (q := 500) dL_law_499 (inB_in g101) rfl ?_
        obtain ⟨r102, e103, h⟩ := g_bind h
        refine go_callV0 (q := 503) (as := [.int (xs (x3 + 1).toNatClampNeg)]) (rest := [.int r99.1]) (st2 := [.int r102.1, .int r99.1]) (w2 := wW r102.2) dL_law_500 cL_66 (t_X9_tale r99.2 (xs (x3 + 1).toNatClampNeg) _ e103) (wg_23 _) rfl rfl rfl (Nat.le_of_ble_eq_true rfl) (by decide) hkn rfl rfl ?_
        refine go_icmp_eq (tgt := 686) (q := 506) dL_law_503 (by decide) rfl (fun c104 => ?_) (fun c104 => ?_)
        · replace h := g_pos c104 h
          refine go_ls (ls2 := [some (.ref 1001), some (.ref 0), some (.ref 23), some (.int x3)]) ⟨rfl, rfl, rfl, rfl, trivial⟩ ?_
          exact b_L_law_tail_686 L xs (f_L_law_tail L xs φ) r nm k n hkn (fun s x3 h => ih s x3 h) r102.2 x3 h
        · replace h := g_neg c104 h
          refine go_iconst (v := 0) (q := 507) dL_law_506 (by decide) rfl ?_
          cases h
          exact go_iret dL_law_507 rfl rfl hkn.1 hkn.2 ⟨rfl, rfl⟩
      replace h := g_neg c97 h
      by_cases c105 : ((xs x3.toNatClampNeg) &&& 31) = 12
      · replace h := g_pos c105 h
        refine go_tblIn (off := 475) (tgt := 508) dL_law_33 (by rw [c105]; decide) (by rw [c105]; decide) (by rw [c105]; rfl) (by decide) ?_
        refine go_aload_n (q := 509) dL_law_508 rfl rfl ?_
        refine go_aload_n (q := 510) dL_law_509 rfl rfl ?_
        refine go_iload_n (q := 511) dL_law_510 rfl rfl ?_
        refine go_iconst (v := 1) (q := 512) dL_law_511 (by decide) rfl ?_
        refine go_iadd (q := 513) dL_law_512 rfl ?_
        obtain ⟨g106, h⟩ := g_guard h
        refine go_xald (q := 514) dL_law_513 (inB_in g106) rfl ?_
        obtain ⟨r107, e108, h⟩ := g_bind h
        refine go_callV0 (q := 517) (as := [.int (xs (x3 + 1).toNatClampNeg)]) (rest := []) (st2 := [.int r107]) (w2 := wW s) dL_law_514 cL_67 (t_X8_octet s (xs (x3 + 1).toNatClampNeg) _ e108) (wg_0 _) rfl rfl rfl (Nat.le_of_ble_eq_true rfl) (by decide) hkn rfl rfl ?_
        refine go_aload_n (q := 518) dL_law_517 rfl rfl ?_
        refine go_aload_n (q := 519) dL_law_518 rfl rfl ?_
        refine go_iload_n (q := 520) dL_law_519 rfl rfl ?_
        refine go_iconst (v := 1) (q := 521) dL_law_520 (by decide) rfl ?_
        refine go_iadd (q := 522) dL_law_521 rfl ?_
        obtain ⟨g109, h⟩ := g_guard h
        refine go_xald (q := 523) dL_law_522 (inB_in g109) rfl ?_
        obtain ⟨r110, e111, h⟩ := g_bind h
        refine go_callV0 (q := 526) (as := [.int (xs (x3 + 1).toNatClampNeg)]) (rest := [.int r107]) (st2 := [.int r110, .int r107]) (w2 := wW s) dL_law_523 cL_70 (t_X9_octet s (xs (x3 + 1).toNatClampNeg) _ e111) (wg_23 _) rfl rfl rfl (Nat.le_of_ble_eq_true rfl) (by decide) hkn rfl rfl ?_
        refine go_icmp_eq (tgt := 686) (q := 529) dL_law_526 (by decide) rfl (fun c112 => ?_) (fun c112 => ?_)
        · replace h := g_pos c112 h
          refine go_ls (ls2 := [some (.ref 1001), some (.ref 0), some (.ref 23), some (.int x3)]) ⟨rfl, rfl, rfl, rfl, trivial⟩ ?_
          exact b_L_law_tail_686 L xs (f_L_law_tail L xs φ) r nm k n hkn (fun s x3 h => ih s x3 h) s x3 h
        · replace h := g_neg c112 h
          refine go_iconst (v := 0) (q := 530) dL_law_529 (by decide) rfl ?_
          cases h
          exact go_iret dL_law_530 rfl rfl hkn.1 hkn.2 ⟨rfl, rfl⟩
      replace h := g_neg c105 h
      by_cases c113 : ((xs x3.toNatClampNeg) &&& 31) = 13
      · replace h := g_pos c113 h
        refine go_tblIn (off := 498) (tgt := 531) dL_law_33 (by rw [c113]; decide) (by rw [c113]; decide) (by rw [c113]; rfl) (by decide) ?_
        refine go_aload_n (q := 532) dL_law_531 rfl rfl ?_
        refine go_aload_n (q := 533) dL_law_532 rfl rfl ?_
        refine go_iload_n (q := 534) dL_law_533 rfl rfl ?_
        refine go_iconst (v := 1) (q := 535) dL_law_534 (by decide) rfl ?_
        refine go_iadd (q := 536) dL_law_535 rfl ?_
        obtain ⟨g114, h⟩ := g_guard h
        refine go_xald (q := 537) dL_law_536 (inB_in g114) rfl ?_
        obtain ⟨r115, e116, h⟩ := g_bind h
        refine go_callV0 (q := 540) (as := [.int (xs (x3 + 1).toNatClampNeg)]) (rest := []) (st2 := [.int r115.1]) (w2 := wW r115.2) dL_law_537 cL_71 (t_X8_chosen s (xs (x3 + 1).toNatClampNeg) _ e116) (wg_0 _) rfl rfl rfl (Nat.le_of_ble_eq_true rfl) (by decide) hkn rfl rfl ?_
        refine go_aload_n (q := 541) dL_law_540 rfl rfl ?_
        refine go_aload_n (q := 542) dL_law_541 rfl rfl ?_
        refine go_iload_n (q := 543) dL_law_542 rfl rfl ?_
        refine go_iconst (v := 1) (q := 544) dL_law_543 (by decide) rfl ?_
        refine go_iadd (q := 545) dL_law_544 rfl ?_
        obtain ⟨g117, h⟩ := g_guard h
        refine go_xald (q := 546) dL_law_545 (inB_in g117) rfl ?_
        obtain ⟨r118, e119, h⟩ := g_bind h
        refine go_callV0 (q := 549) (as := [.int (xs (x3 + 1).toNatClampNeg)]) (rest := [.int r115.1]) (st2 := [.int r118.1, .int r115.1]) (w2 := wW r118.2) dL_law_546 cL_74 (t_X9_chosen r115.2 (xs (x3 + 1).toNatClampNeg) _ e119) (wg_23 _) rfl rfl rfl (Nat.le_of_ble_eq_true rfl) (by decide) hkn rfl rfl ?_
        refine go_icmp_eq (tgt := 686) (q := 552) dL_law_549 (by decide) rfl (fun c120 => ?_) (fun c120 => ?_)
        · replace h := g_pos c120 h
          refine go_ls (ls2 := [some (.ref 1001), some (.ref 0), some (.ref 23), some (.int x3)]) ⟨rfl, rfl, rfl, rfl, trivial⟩ ?_
          exact b_L_law_tail_686 L xs (f_L_law_tail L xs φ) r nm k n hkn (fun s x3 h => ih s x3 h) r118.2 x3 h
        · replace h := g_neg c120 h
          refine go_iconst (v := 0) (q := 553) dL_law_552 (by decide) rfl ?_
          cases h
          exact go_iret dL_law_553 rfl rfl hkn.1 hkn.2 ⟨rfl, rfl⟩
      replace h := g_neg c113 h
      by_cases c121 : ((xs x3.toNatClampNeg) &&& 31) = 14
      · replace h := g_pos c121 h
        refine go_tblIn (off := 521) (tgt := 554) dL_law_33 (by rw [c121]; decide) (by rw [c121]; decide) (by rw [c121]; rfl) (by decide) ?_
        refine go_aload_n (q := 555) dL_law_554 rfl rfl ?_
        refine go_aload_n (q := 556) dL_law_555 rfl rfl ?_
        refine go_iload_n (q := 557) dL_law_556 rfl rfl ?_
        refine go_iconst (v := 1) (q := 558) dL_law_557 (by decide) rfl ?_
        refine go_iadd (q := 559) dL_law_558 rfl ?_
        obtain ⟨g122, h⟩ := g_guard h
        refine go_xald (q := 560) dL_law_559 (inB_in g122) rfl ?_
        obtain ⟨r123, e124, h⟩ := g_bind h
        refine go_callV0 (q := 563) (as := [.int (xs (x3 + 1).toNatClampNeg)]) (rest := []) (st2 := [.int r123.1]) (w2 := wW r123.2) dL_law_560 cL_75 (t_X8_worth s (xs (x3 + 1).toNatClampNeg) _ e124) (wg_0 _) rfl rfl rfl (Nat.le_of_ble_eq_true rfl) (by decide) hkn rfl rfl ?_
        refine go_aload_n (q := 564) dL_law_563 rfl rfl ?_
        refine go_aload_n (q := 565) dL_law_564 rfl rfl ?_
        refine go_iload_n (q := 566) dL_law_565 rfl rfl ?_
        refine go_iconst (v := 1) (q := 567) dL_law_566 (by decide) rfl ?_
        refine go_iadd (q := 568) dL_law_567 rfl ?_
        obtain ⟨g125, h⟩ := g_guard h
        refine go_xald (q := 569) dL_law_568 (inB_in g125) rfl ?_
        obtain ⟨r126, e127, h⟩ := g_bind h
        refine go_callV0 (q := 572) (as := [.int (xs (x3 + 1).toNatClampNeg)]) (rest := [.int r123.1]) (st2 := [.int r126.1, .int r123.1]) (w2 := wW r126.2) dL_law_569 cL_78 (t_X9_worth r123.2 (xs (x3 + 1).toNatClampNeg) _ e127) (wg_23 _) rfl rfl rfl (Nat.le_of_ble_eq_true rfl) (by decide) hkn rfl rfl ?_
        refine go_icmp_eq (tgt := 686) (q := 575) dL_law_572 (by decide) rfl (fun c128 => ?_) (fun c128 => ?_)
        · replace h := g_pos c128 h
          refine go_ls (ls2 := [some (.ref 1001), some (.ref 0), some (.ref 23), some (.int x3)]) ⟨rfl, rfl, rfl, rfl, trivial⟩ ?_
          exact b_L_law_tail_686 L xs (f_L_law_tail L xs φ) r nm k n hkn (fun s x3 h => ih s x3 h) r126.2 x3 h
        · replace h := g_neg c128 h
          refine go_iconst (v := 0) (q := 576) dL_law_575 (by decide) rfl ?_
          cases h
          exact go_iret dL_law_576 rfl rfl hkn.1 hkn.2 ⟨rfl, rfl⟩
      replace h := g_neg c121 h
      by_cases c129 : ((xs x3.toNatClampNeg) &&& 31) = 15
      · replace h := g_pos c129 h
        refine go_tblIn (off := 544) (tgt := 577) dL_law_33 (by rw [c129]; decide) (by rw [c129]; decide) (by rw [c129]; rfl) (by decide) ?_
        refine go_aload_n (q := 578) dL_law_577 rfl rfl ?_
        refine go_aload_n (q := 579) dL_law_578 rfl rfl ?_
        refine go_iload_n (q := 580) dL_law_579 rfl rfl ?_
        refine go_iconst (v := 1) (q := 581) dL_law_580 (by decide) rfl ?_
        refine go_iadd (q := 582) dL_law_581 rfl ?_
        obtain ⟨g130, h⟩ := g_guard h
        refine go_xald (q := 583) dL_law_582 (inB_in g130) rfl ?_
        refine go_aload_n (q := 584) dL_law_583 rfl rfl ?_
        refine go_iload_n (q := 585) dL_law_584 rfl rfl ?_
        refine go_iconst (v := 2) (q := 586) dL_law_585 (by decide) rfl ?_
        refine go_iadd (q := 587) dL_law_586 rfl ?_
        obtain ⟨g131, h⟩ := g_guard h
        refine go_xald (q := 588) dL_law_587 (inB_in g131) rfl ?_
        refine go_aload_n (q := 589) dL_law_588 rfl rfl ?_
        refine go_iload_n (q := 590) dL_law_589 rfl rfl ?_
        refine go_iconst (v := 3) (q := 591) dL_law_590 (by decide) rfl ?_
        refine go_iadd (q := 592) dL_law_591 rfl ?_
        obtain ⟨g132, h⟩ := g_guard h
        refine go_xald (q := 593) dL_law_592 (inB_in g132) rfl ?_
        refine go_aload_n (q := 594) dL_law_593 rfl rfl ?_
        refine go_iload_n (q := 595) dL_law_594 rfl rfl ?_
        refine go_iconst (v := 4) (q := 596) dL_law_595 (by decide) rfl ?_
        refine go_iadd (q := 597) dL_law_596 rfl ?_
        obtain ⟨g133, h⟩ := g_guard h
        refine go_xald (q := 598) dL_law_597 (inB_in g133) rfl ?_
        refine go_aload_n (q := 599) dL_law_598 rfl rfl ?_
        refine go_iload_n (q := 600) dL_law_599 rfl rfl ?_
        refine go_iconst (v := 5) (q := 601) dL_law_600 (by decide) rfl ?_
        refine go_iadd (q := 602) dL_law_601 rfl ?_
        obtain ⟨g134, h⟩ := g_guard h
        refine go_xald (q := 603) dL_law_602 (inB_in g134) rfl ?_
        obtain ⟨r135, e136, h⟩ := g_bind h
        refine go_callV0 (q := 606) (as := [.int (xs (x3 + 1).toNatClampNeg), .int (xs (x3 + 2).toNatClampNeg), .int (xs (x3 + 3).toNatClampNeg), .int (xs (x3 + 4).toNatClampNeg), .int (xs (x3 + 5).toNatClampNeg)]) (rest := []) (st2 := [.int r135.1]) (w2 := wW r135.2) dL_law_603 cL_79 (t_X8_feed s (xs (x3 + 1).toNatClampNeg) (xs (x3 + 2).toNatClampNeg) (xs (x3 + 3).toNatClampNeg) (xs (x3 + 4).toNatClampNeg) (xs (x3 + 5).toNatClampNeg) _ e136) (wg_0 _) rfl rfl rfl (Nat.le_of_ble_eq_true rfl) (by decide) hkn rfl rfl ?_
        refine go_aload_n (q := 607) dL_law_606 rfl rfl ?_
        refine go_aload_n (q := 608) dL_law_607 rfl rfl ?_
        refine go_iload_n (q := 609) dL_law_608 rfl rfl ?_
        refine go_iconst (v := 1) (q := 610) dL_law_609 (by decide) rfl ?_
        refine go_iadd (q := 611) dL_law_610 rfl ?_
        obtain ⟨g137, h⟩ := g_guard h
        refine go_xald (q := 612) dL_law_611 (inB_in g137) rfl ?_
        refine go_aload_n (q := 613) dL_law_612 rfl rfl ?_
        refine go_iload_n (q := 614) dL_law_613 rfl rfl ?_
        refine go_iconst (v := 2) (q := 615) dL_law_614 (by decide) rfl ?_
        refine go_iadd (q := 616) dL_law_615 rfl ?_
        obtain ⟨g138, h⟩ := g_guard h
        refine go_xald (q := 617) dL_law_616 (inB_in g138) rfl ?_
        refine go_aload_n (q := 618) dL_law_617 rfl rfl ?_
        refine go_iload_n (q := 619) dL_law_618 rfl rfl ?_
        refine go_iconst (v := 3) (q := 620) dL_law_619 (by decide) rfl ?_
        refine go_iadd (q := 621) dL_law_620 rfl ?_
        obtain ⟨g139, h⟩ := g_guard h
        refine go_xald (q := 622) dL_law_621 (inB_in g139) rfl ?_
        refine go_aload_n (q := 623) dL_law_622 rfl rfl ?_
        refine go_iload_n (q := 624) dL_law_623 rfl rfl ?_
        refine go_iconst (v := 4) (q := 625) dL_law_624 (by decide) rfl ?_
        refine go_iadd (q := 626) dL_law_625 rfl ?_
        obtain ⟨g140, h⟩ := g_guard h
        refine go_xald (q := 627) dL_law_626 (inB_in g140) rfl ?_
        refine go_aload_n (q := 628) dL_law_627 rfl rfl ?_
        refine go_iload_n (q := 629) dL_law_628 rfl rfl ?_
        refine go_iconst (v := 5) (q := 630) dL_law_629 (by decide) rfl ?_
        refine go_iadd (q := 631) dL_law_630 rfl ?_
        obtain ⟨g141, h⟩ := g_guard h
        refine go_xald (q := 632) dL_law_631 (inB_in g141) rfl ?_
        obtain ⟨r142, e143, h⟩ := g_bind h
        refine go_callV0 (q := 635) (as := [.int (xs (x3 + 1).toNatClampNeg), .int (xs (x3 + 2).toNatClampNeg), .int (xs (x3 + 3).toNatClampNeg), .int (xs (x3 + 4).toNatClampNeg), .int (xs (x3 + 5).toNatClampNeg)]) (rest := [.int r135.1]) (st2 := [.int r142.1, .int r135.1]) (w2 := wW r142.2) dL_law_632 cL_83 (t_X9_feed r135.2 (xs (x3 + 1).toNatClampNeg) (xs (x3 + 2).toNatClampNeg) (xs (x3 + 3).toNatClampNeg) (xs (x3 + 4).toNatClampNeg) (xs (x3 + 5).toNatClampNeg) _ e143) (wg_23 _) rfl rfl rfl (Nat.le_of_ble_eq_true rfl) (by decide) hkn rfl rfl ?_
        refine go_icmp_eq (tgt := 686) (q := 638) dL_law_635 (by decide) rfl (fun c144 => ?_) (fun c144 => ?_)
        · replace h := g_pos c144 h
          refine go_ls (ls2 := [some (.ref 1001), some (.ref 0), some (.ref 23), some (.int x3)]) ⟨rfl, rfl, rfl, rfl, trivial⟩ ?_
          exact b_L_law_tail_686 L xs (f_L_law_tail L xs φ) r nm k n hkn (fun s x3 h => ih s x3 h) r142.2 x3 h
        · replace h := g_neg c144 h
          refine go_iconst (v := 0) (q := 639) dL_law_638 (by decide) rfl ?_
          cases h
          exact go_iret dL_law_639 rfl rfl hkn.1 hkn.2 ⟨rfl, rfl⟩
      replace h := g_neg c129 h
      by_cases c145 : ((xs x3.toNatClampNeg) &&& 31) = 16
      · replace h := g_pos c145 h
        refine go_tblIn (off := 607) (tgt := 640) dL_law_33 (by rw [c145]; decide) (by rw [c145]; decide) (by rw [c145]; rfl) (by decide) ?_
        refine go_aload_n (q := 641) dL_law_640 rfl rfl ?_
        refine go_aload_n (q := 642) dL_law_641 rfl rfl ?_
        refine go_iload_n (q := 643) dL_law_642 rfl rfl ?_
        refine go_iconst (v := 1) (q := 644) dL_law_643 (by decide) rfl ?_
        refine go_iadd (q := 645) dL_law_644 rfl ?_
        obtain ⟨g146, h⟩ := g_guard h
        refine go_xald (q := 646) dL_law_645 (inB_in g146) rfl ?_
        obtain ⟨r147, e148, h⟩ := g_bind h
        refine go_callV0 (q := 649) (as := [.int (xs (x3 + 1).toNatClampNeg)]) (rest := []) (st2 := [.int r147.1]) (w2 := wW r147.2) dL_law_646 cL_84 (t_X8_read s (xs (x3 + 1).toNatClampNeg) _ e148) (wg_0 _) rfl rfl rfl (Nat.le_of_ble_eq_true rfl) (by decide) hkn rfl rfl ?_
        refine go_aload_n (q := 650) dL_law_649 rfl rfl ?_
        refine go_aload_n (q := 651) dL_law_650 rfl rfl ?_
        refine go_iload_n (q := 652) dL_law_651 rfl rfl ?_
        refine go_iconst (v := 1) (q := 653) dL_law_652 (by decide) rfl ?_
        refine go_iadd (q := 654) dL_law_653 rfl ?_
        obtain ⟨g149, h⟩ := g_guard h
        refine go_xald (q := 655) dL_law_654 (inB_in g149) rfl ?_
        obtain ⟨r150, e151, h⟩ := g_bind h
        refine go_callV0 (q := 658) (as := [.int (xs (x3 + 1).toNatClampNeg)]) (rest := [.int r147.1]) (st2 := [.int r150.1, .int r147.1]) (w2 := wW r150.2) dL_law_655 cL_87 (t_X9_read r147.2 (xs (x3 + 1).toNatClampNeg) _ e151) (wg_23 _) rfl rfl rfl (Nat.le_of_ble_eq_true rfl) (by decide) hkn rfl rfl ?_
        refine go_icmp_eq (tgt := 686) (q := 661) dL_law_658 (by decide) rfl (fun c152 => ?_) (fun c152 => ?_)
        · replace h := g_pos c152 h
          refine go_ls (ls2 := [some (.ref 1001), some (.ref 0), some (.ref 23), some (.int x3)]) ⟨rfl, rfl, rfl, rfl, trivial⟩ ?_
          exact b_L_law_tail_686 L xs (f_L_law_tail L xs φ) r nm k n hkn (fun s x3 h => ih s x3 h) r150.2 x3 h
        · replace h := g_neg c152 h
          refine go_iconst (v := 0) (q := 662) dL_law_661 (by decide) rfl ?_
          cases h
          exact go_iret dL_law_662 rfl rfl hkn.1 hkn.2 ⟨rfl, rfl⟩
      replace h := g_neg c145 h
      by_cases c153 : ((xs x3.toNatClampNeg) &&& 31) = 17
      · replace h := g_pos c153 h
        refine go_tblIn (off := 630) (tgt := 663) dL_law_33 (by rw [c153]; decide) (by rw [c153]; decide) (by rw [c153]; rfl) (by decide) ?_
        refine go_aload_n (q := 664) dL_law_663 rfl rfl ?_
        refine go_aload_n (q := 665) dL_law_664 rfl rfl ?_
        refine go_iload_n (q := 666) dL_law_665 rfl rfl ?_
        refine go_iconst (v := 1) (q := 667) dL_law_666 (by decide) rfl ?_
        refine go_iadd (q := 668) dL_law_667 rfl ?_
        obtain ⟨g154, h⟩ := g_guard h
        refine go_xald (q := 669) dL_law_668 (inB_in g154) rfl ?_
        obtain ⟨r155, e156, h⟩ := g_bind h
        refine go_callV0 (q := 672) (as := [.int (xs (x3 + 1).toNatClampNeg)]) (rest := []) (st2 := [.int r155]) (w2 := wW s) dL_law_669 cL_88 (t_X8_look s (xs (x3 + 1).toNatClampNeg) _ e156) (wg_0 _) rfl rfl rfl (Nat.le_of_ble_eq_true rfl) (by decide) hkn rfl rfl ?_
        refine go_aload_n (q := 673) dL_law_672 rfl rfl ?_
        refine go_aload_n (q := 674) dL_law_673 rfl rfl ?_
        refine go_iload_n (q := 675) dL_law_674 rfl rfl ?_
        refine go_iconst (v := 1) (q := 676) dL_law_675 (by decide) rfl ?_
        refine go_iadd (q := 677) dL_law_676 rfl ?_
        obtain ⟨g157, h⟩ := g_guard h
        refine go_xald (q := 678) dL_law_677 (inB_in g157) rfl ?_
        obtain ⟨r158, e159, h⟩ := g_bind h
        refine go_callV0 (q := 681) (as := [.int (xs (x3 + 1).toNatClampNeg)]) (rest := [.int r155]) (st2 := [.int r158.1, .int r155]) (w2 := wW r158.2) dL_law_678 cL_91 (t_X9_look s (xs (x3 + 1).toNatClampNeg) _ e159) (wg_23 _) rfl rfl rfl (Nat.le_of_ble_eq_true rfl) (by decide) hkn rfl rfl ?_
        refine go_icmp_eq (tgt := 686) (q := 684) dL_law_681 (by decide) rfl (fun c160 => ?_) (fun c160 => ?_)
        · replace h := g_pos c160 h
          refine go_ls (ls2 := [some (.ref 1001), some (.ref 0), some (.ref 23), some (.int x3)]) ⟨rfl, rfl, rfl, rfl, trivial⟩ ?_
          exact b_L_law_tail_686 L xs (f_L_law_tail L xs φ) r nm k n hkn (fun s x3 h => ih s x3 h) r158.2 x3 h
        · replace h := g_neg c160 h
          refine go_iconst (v := 0) (q := 685) dL_law_684 (by decide) rfl ?_
          cases h
          exact go_iret dL_law_685 rfl rfl hkn.1 hkn.2 ⟨rfl, rfl⟩
      replace h := g_neg c153 h
      refine go_tblOut (tgt := 686) dL_law_33 (by have e_c3 := lv_neT c3 (a := 0) rfl; have e_c9 := lv_neT c9 (a := 1) rfl; have e_c17 := lv_neT c17 (a := 2) rfl; have e_c23 := lv_neT c23 (a := 3) rfl; have e_c31 := lv_neT c31 (a := 4) rfl; have e_c41 := lv_neT c41 (a := 5) rfl; have e_c51 := lv_neT c51 (a := 6) rfl; have e_c61 := lv_neT c61 (a := 7) rfl; have e_c71 := lv_neT c71 (a := 8) rfl; have e_c79 := lv_neT c79 (a := 9) rfl; have e_c87 := lv_neT c87 (a := 10) rfl; have e_c97 := lv_neT c97 (a := 11) rfl; have e_c105 := lv_neT c105 (a := 12) rfl; have e_c113 := lv_neT c113 (a := 13) rfl; have e_c121 := lv_neT c121 (a := 14) rfl; have e_c129 := lv_neT c129 (a := 15) rfl; have e_c145 := lv_neT c145 (a := 16) rfl; have e_c153 := lv_neT c153 (a := 17) rfl; omega) (by decide) ?_
      refine go_ls (ls2 := [some (.ref 1001), some (.ref 0), some (.ref 23), some (.int x3)]) ⟨rfl, rfl, rfl, rfl, trivial⟩ ?_
      exact b_L_law_tail_686 L xs (f_L_law_tail L xs φ) r nm k n hkn (fun s x3 h => ih s x3 h) s x3 h
set_option maxHeartbeats 4000000 in
set_option maxRecDepth 100000 in
/-- the law from its entry, once its loop answers 1 -/
theorem law_go (nm : String) (L : Nat) (xs : Nat → Int32) (r0 : gS) (h0 : f_X9_init_tail s00 = some r0) (r : Int32 × gS) (h : f_L_law_tail L xs gφ r0 0 = some r) : Go (PX L xs) ⟨RL, nm, "([I)Z"⟩ cL_law 4 (some .boolean) 16 600000 7302250 (fun r9 w9 => r9 = some (.int r.1) ∧ w9 = wW r.2) 0 0 [] 0 [some (.ref 1001), none, none, none] [] := by
  refine go_new (fs := [.null, .null, .null, .null, .null, .null, .null, .null]) (ty0 := tyX8) (lw := 0) (k2 := 1) (n2 := 8) (w2 := wk_1) (q := 3) dL_law_0 kw_0 kw_1 kw_2 (ci := 8) rfl inX8 tyX8_ok (fun j hj => by revert j; decide +kernel) (fun _ => rfl) rfl (by decide) ⟨rfl, rfl⟩ ⟨by decide, by decide⟩ rfl rfl ?_
  refine go_dup (q := 4) dL_law_3 rfl rfl ?_
  refine go_callI2 (q := 7) (as := []) (rest := [.ref 0]) (k2 := 23) (n2 := 1581) dL_law_4 cL_9 mk_X8_init_0 rfl rfl rfl (Nat.le_of_ble_eq_true rfl) (by decide) ⟨rfl, rfl⟩ ⟨by decide, by decide⟩ rfl ?_
  refine go_astore_n (ls2 := [some (.ref 1001), some (.ref 0), none, none]) (q := 8) dL_law_7 (by decide) rfl rfl ?_
  refine go_new (fs := [.int 0, .int 0, .int 0, .int 0, .int 0, .int 0, .int 0, .null, .null, .null, .int 0, .int 0, .null, .null, .null, .null, .null, .null, .int 0, .null, .null, .null, .int 0, .null, .int 0, .int 0, .int 0, .int 0]) (ty0 := tyX9) (lw := 23) (k2 := 24) (n2 := 1609) (w2 := wk_64) (q := 11) dL_law_8 kw_39 kw_40 kw_41 (ci := 9) rfl inX9 tyX9_ok (fun j hj => by revert j; decide +kernel) (fun _ => rfl) rfl (by decide) ⟨rfl, rfl⟩ ⟨by decide, by decide⟩ rfl rfl ?_
  refine go_dup (q := 12) dL_law_11 rfl rfl ?_
  refine go_callI2 (q := 15) (as := []) (rest := [.ref 23]) (k2 := 37) (n2 := 2455) dL_law_12 cL_12 (mk_X9_init r0 h0) rfl rfl rfl (Nat.le_of_ble_eq_true rfl) (by decide) ⟨rfl, rfl⟩ ⟨by decide, by decide⟩ rfl ?_
  refine go_astore_n (ls2 := [some (.ref 1001), some (.ref 0), some (.ref 23), none]) (q := 16) dL_law_15 (by decide) rfl rfl ?_
  refine go_iconst (v := 0) (q := 17) dL_law_16 (by decide) rfl ?_
  refine go_istore_n (ls2 := [some (.ref 1001), some (.ref 0), some (.ref 23), some (.int 0)]) (q := 18) dL_law_17 (by decide) rfl rfl ?_
  exact b_L_law_tail L xs r nm 37 2455 ⟨by decide, by decide⟩ gφ r0 0 h
