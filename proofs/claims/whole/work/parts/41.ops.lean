noncomputable def r_L_op_0 (x4 : Int32) (m : Mem) : Option Mem :=
  if inb (x4 + 1) (m 100 1 0).toNatClampNeg = true then (if inb (x4 + 2) (m 100 1 0).toNatClampNeg = true then (if inb (x4 + 3) (m 100 1 0).toNatClampNeg = true then (if inb (x4 + 4) (m 100 1 0).toNatClampNeg = true then (if inb (x4 + 5) (m 100 1 0).toNatClampNeg = true then (bd2 (r_X11_feed (m 100 0 ((x4 + 1).toNatClampNeg)) (m 100 0 ((x4 + 2).toNatClampNeg)) (m 100 0 ((x4 + 3).toNatClampNeg)) (m 100 0 ((x4 + 4).toNatClampNeg)) (m 100 0 ((x4 + 5).toNatClampNeg)) m) fun z8 m7 => (if inb (x4 + 1) (m7 100 1 0).toNatClampNeg = true then (if inb (x4 + 2) (m7 100 1 0).toNatClampNeg = true then (if inb (x4 + 3) (m7 100 1 0).toNatClampNeg = true then (if inb (x4 + 4) (m7 100 1 0).toNatClampNeg = true then (if inb (x4 + 5) (m7 100 1 0).toNatClampNeg = true then (bd2 (r_X12_feed (m7 100 0 ((x4 + 1).toNatClampNeg)) (m7 100 0 ((x4 + 2).toNatClampNeg)) (m7 100 0 ((x4 + 3).toNatClampNeg)) (m7 100 0 ((x4 + 4).toNatClampNeg)) (m7 100 0 ((x4 + 5).toNatClampNeg)) m7) fun z16 m15 => (if z8 = z16 then (some m15) else (none))) else none) else none) else none) else none) else none)) else none) else none) else none) else none) else none
set_option maxHeartbeats 4000000 in
set_option maxRecDepth 20000 in
theorem ok_L_op_0 (x4 : Int32) (m : Mem) {m1 : Mem} (h : r_L_op_0 x4 m = some m1) {u v : Nat} (hu : u + 120 ≤ 601024) (hv : v + 3000 ≤ 7293034) {o : Ou} {M' : Mem} (kb : Xj RL cL_law_ 8 (some .boolean) 2048 84000 601024 7293034 (u + 120) (v + 3000) 23 [(0, vR 100 0), (1, vR 11 0), (2, vR 12 0), (3, vR 92 0), (4, vI (x4 + 10))] [] m1 o M') : Xj RL cL_law_ 8 (some .boolean) 2048 84000 601024 7293034 u v 204 [(0, vR 100 0), (1, vR 11 0), (2, vR 12 0), (3, vR 92 0), (4, vI x4)] [] m o M' := by
  unfold r_L_op_0 at h
  refine xj_aload_n 1 dL_law__204 rfl ?_
  refine xj_aload_n 0 dL_law__205 rfl ?_
  refine xj_iload 4 dL_law__206 rfl ?_
  refine xj_iconst (z := 1) dL_law__208 (by decide) ?_
  refine xj_iadd dL_law__209 ?_
  by_cases c1 : inb (x4 + 1) (m 100 1 0).toNatClampNeg = true
  case neg => rw [if_neg c1] at h; cases h
  rw [if_pos c1] at h
  refine xg_ialdS (z := (m 100 0 ((x4 + 1).toNatClampNeg))) (n := (x4 + 1).toNatClampNeg) dL_law__210 (inb_in c1) rfl rfl ?_
  refine xj_aload_n 0 dL_law__211 rfl ?_
  refine xj_iload 4 dL_law__212 rfl ?_
  refine xj_iconst (z := 2) dL_law__214 (by decide) ?_
  refine xj_iadd dL_law__215 ?_
  by_cases c2 : inb (x4 + 2) (m 100 1 0).toNatClampNeg = true
  case neg => rw [if_neg c2] at h; cases h
  rw [if_pos c2] at h
  refine xg_ialdS (z := (m 100 0 ((x4 + 2).toNatClampNeg))) (n := (x4 + 2).toNatClampNeg) dL_law__216 (inb_in c2) rfl rfl ?_
  refine xj_aload_n 0 dL_law__217 rfl ?_
  refine xj_iload 4 dL_law__218 rfl ?_
  refine xj_iconst (z := 3) dL_law__220 (by decide) ?_
  refine xj_iadd dL_law__221 ?_
  by_cases c3 : inb (x4 + 3) (m 100 1 0).toNatClampNeg = true
  case neg => rw [if_neg c3] at h; cases h
  rw [if_pos c3] at h
  refine xg_ialdS (z := (m 100 0 ((x4 + 3).toNatClampNeg))) (n := (x4 + 3).toNatClampNeg) dL_law__222 (inb_in c3) rfl rfl ?_
  refine xj_aload_n 0 dL_law__223 rfl ?_
  refine xj_iload 4 dL_law__224 rfl ?_
  refine xj_iconst (z := 4) dL_law__226 (by decide) ?_
  refine xj_iadd dL_law__227 ?_
  by_cases c4 : inb (x4 + 4) (m 100 1 0).toNatClampNeg = true
  case neg => rw [if_neg c4] at h; cases h
  rw [if_pos c4] at h
  refine xg_ialdS (z := (m 100 0 ((x4 + 4).toNatClampNeg))) (n := (x4 + 4).toNatClampNeg) dL_law__228 (inb_in c4) rfl rfl ?_
  refine xj_aload_n 0 dL_law__229 rfl ?_
  refine xj_iload 4 dL_law__230 rfl ?_
  refine xj_iconst (z := 5) dL_law__232 (by decide) ?_
  refine xj_iadd dL_law__233 ?_
  by_cases c5 : inb (x4 + 5) (m 100 1 0).toNatClampNeg = true
  case neg => rw [if_neg c5] at h; cases h
  rw [if_pos c5] at h
  refine xg_ialdS (z := (m 100 0 ((x4 + 5).toNatClampNeg))) (n := (x4 + 5).toNatClampNeg) dL_law__234 (inb_in c5) rfl rfl ?_
  obtain ⟨z8, m7, e6, h⟩ := bd2_some h
  refine xc_Vi0 (st := []) (ok_X11_feed (m 100 0 ((x4 + 1).toNatClampNeg)) (m 100 0 ((x4 + 2).toNatClampNeg)) (m 100 0 ((x4 + 3).toNatClampNeg)) (m 100 0 ((x4 + 4).toNatClampNeg)) (m 100 0 ((x4 + 5).toNatClampNeg)) m e6) dL_law__235 cv_L_105 rfl rfl (Nat.le_of_ble_eq_true rfl) (by decide) (by decide) (by omega) (by omega) ?_
  refine xj_aload_n 2 dL_law__238 rfl ?_
  refine xj_aload_n 0 dL_law__239 rfl ?_
  refine xj_iload 4 dL_law__240 rfl ?_
  refine xj_iconst (z := 1) dL_law__242 (by decide) ?_
  refine xj_iadd dL_law__243 ?_
  by_cases c9 : inb (x4 + 1) (m7 100 1 0).toNatClampNeg = true
  case neg => rw [if_neg c9] at h; cases h
  rw [if_pos c9] at h
  refine xg_ialdS (z := (m7 100 0 ((x4 + 1).toNatClampNeg))) (n := (x4 + 1).toNatClampNeg) dL_law__244 (inb_in c9) rfl rfl ?_
  refine xj_aload_n 0 dL_law__245 rfl ?_
  refine xj_iload 4 dL_law__246 rfl ?_
  refine xj_iconst (z := 2) dL_law__248 (by decide) ?_
  refine xj_iadd dL_law__249 ?_
  by_cases c10 : inb (x4 + 2) (m7 100 1 0).toNatClampNeg = true
  case neg => rw [if_neg c10] at h; cases h
  rw [if_pos c10] at h
  refine xg_ialdS (z := (m7 100 0 ((x4 + 2).toNatClampNeg))) (n := (x4 + 2).toNatClampNeg) dL_law__250 (inb_in c10) rfl rfl ?_
  refine xj_aload_n 0 dL_law__251 rfl ?_
  refine xj_iload 4 dL_law__252 rfl ?_
  refine xj_iconst (z := 3) dL_law__254 (by decide) ?_
  refine xj_iadd dL_law__255 ?_
  by_cases c11 : inb (x4 + 3) (m7 100 1 0).toNatClampNeg = true
  case neg => rw [if_neg c11] at h; cases h
  rw [if_pos c11] at h
  refine xg_ialdS (z := (m7 100 0 ((x4 + 3).toNatClampNeg))) (n := (x4 + 3).toNatClampNeg) dL_law__256 (inb_in c11) rfl rfl ?_
  refine xj_aload_n 0 dL_law__257 rfl ?_
  refine xj_iload 4 dL_law__258 rfl ?_
  refine xj_iconst (z := 4) dL_law__260 (by decide) ?_
  refine xj_iadd dL_law__261 ?_
  by_cases c12 : inb (x4 + 4) (m7 100 1 0).toNatClampNeg = true
  case neg => rw [if_neg c12] at h; cases h
  rw [if_pos c12] at h
  refine xg_ialdS (z := (m7 100 0 ((x4 + 4).toNatClampNeg))) (n := (x4 + 4).toNatClampNeg) dL_law__262 (inb_in c12) rfl rfl ?_
  refine xj_aload_n 0 dL_law__263 rfl ?_
  refine xj_iload 4 dL_law__264 rfl ?_
  refine xj_iconst (z := 5) dL_law__266 (by decide) ?_
  refine xj_iadd dL_law__267 ?_
  by_cases c13 : inb (x4 + 5) (m7 100 1 0).toNatClampNeg = true
  case neg => rw [if_neg c13] at h; cases h
  rw [if_pos c13] at h
  refine xg_ialdS (z := (m7 100 0 ((x4 + 5).toNatClampNeg))) (n := (x4 + 5).toNatClampNeg) dL_law__268 (inb_in c13) rfl rfl ?_
  obtain ⟨z16, m15, e14, h⟩ := bd2_some h
  refine xc_Vi0 (st := [vI z8]) (ok_X12_feed (m7 100 0 ((x4 + 1).toNatClampNeg)) (m7 100 0 ((x4 + 2).toNatClampNeg)) (m7 100 0 ((x4 + 3).toNatClampNeg)) (m7 100 0 ((x4 + 4).toNatClampNeg)) (m7 100 0 ((x4 + 5).toNatClampNeg)) m7 e14) dL_law__269 cv_L_109 rfl rfl (Nat.le_of_ble_eq_true rfl) (by decide) (by decide) (by omega) (by omega) ?_
  refine xj_icmp_eq (tgt := 2347) dL_law__272 (by decide) (fun c17 => ?_) (fun c17 => ?_)
  · rw [if_pos c17] at h
    refine xj_iinc (z := x4 + 10) (ls' := [(4, vI (x4 + 10)), (0, vR 100 0), (1, vR 11 0), (2, vR 12 0), (3, vR 92 0)]) 4 dL_law__2347 rfl rfl (by decide) rfl ?_
    refine xj_goto (tgt := 23) dL_law__2350 (by decide) ?_
    cases h
    refine xj_widen (u2 := u + 120) (v2 := v + 3000) (by omega) (by omega) ?_
    refine xj_pick (ls' := [(0, vR 100 0), (1, vR 11 0), (2, vR 12 0), (3, vR 92 0), (4, vI (x4 + 10))]) [1, 2, 3, 4, 0] rfl ?_
    exact kb
  · rw [if_neg c17] at h
    cases h
noncomputable def r_L_op_1 (x4 : Int32) (m : Mem) : Option Mem :=
  if inb (x4 + 1) (m 100 1 0).toNatClampNeg = true then (bd2 (r_L_land (m 100 0 ((x4 + 1).toNatClampNeg)) m) fun z2 m3 => (if inb (x4 + 1) (m3 100 1 0).toNatClampNeg = true then (bd2 (r_X12_land (m3 100 0 ((x4 + 1).toNatClampNeg)) m3) fun z8 m7 => (if (r_X12_thrown m7) = z2 then (if z2 = 0 then (if (lg_cmp (jL (m7 92 0 0) (m7 92 0 1)) z8.toInt64) = 0 then (some m7) else (none)) else (some m7)) else (none))) else none)) else none
set_option maxHeartbeats 4000000 in
set_option maxRecDepth 20000 in
theorem ok_L_op_1 (x4 : Int32) (m : Mem) {m1 : Mem} (h : r_L_op_1 x4 m = some m1) {u v : Nat} (hu : u + 120 ≤ 601024) (hv : v + 3000 ≤ 7293034) {o : Ou} {M' : Mem} (kb : Xj RL cL_law_ 8 (some .boolean) 2048 84000 601024 7293034 (u + 120) (v + 3000) 23 [(0, vR 100 0), (1, vR 11 0), (2, vR 12 0), (3, vR 92 0), (4, vI (x4 + 10))] [] m1 o M') : Xj RL cL_law_ 8 (some .boolean) 2048 84000 601024 7293034 u v 277 [(0, vR 100 0), (1, vR 11 0), (2, vR 12 0), (3, vR 92 0), (4, vI x4)] [] m o M' := by
  unfold r_L_op_1 at h
  refine xj_aload_n 1 dL_law__277 rfl ?_
  refine xj_aload_n 0 dL_law__278 rfl ?_
  refine xj_iload 4 dL_law__279 rfl ?_
  refine xj_iconst (z := 1) dL_law__281 (by decide) ?_
  refine xj_iadd dL_law__282 ?_
  by_cases c1 : inb (x4 + 1) (m 100 1 0).toNatClampNeg = true
  case neg => rw [if_neg c1] at h; cases h
  rw [if_pos c1] at h
  refine xg_ialdS (z := (m 100 0 ((x4 + 1).toNatClampNeg))) (n := (x4 + 1).toNatClampNeg) dL_law__283 (inb_in c1) rfl rfl ?_
  refine xj_aload_n 3 dL_law__284 rfl ?_
  obtain ⟨z2, m3, e4, h⟩ := bd2_some h
  refine xc_Hi (st := []) (ok_L_land (m 100 0 ((x4 + 1).toNatClampNeg)) m e4) dL_law__285 ch_110 rfl rfl (Nat.le_of_ble_eq_true rfl) (by decide) (by decide) (by omega) (by omega) ?_
  refine xj_istore (ls' := [(5, vI z2), (0, vR 100 0), (1, vR 11 0), (2, vR 12 0), (3, vR 92 0), (4, vI x4)]) dL_law__288 (by decide) rfl ?_
  refine xj_aload_n 3 dL_law__290 rfl ?_
  refine xj_aload_n 1 dL_law__291 rfl ?_
  refine xj_iload 5 dL_law__292 rfl ?_
  refine xj_iconst (z := 1) dL_law__294 (by decide) ?_
  refine xj_iadd dL_law__295 ?_
  by_cases c5 : inb (x4 + 1) (m3 100 1 0).toNatClampNeg = true
  case neg => rw [if_neg c5] at h; cases h
  rw [if_pos c5] at h
  refine xg_ialdS (z := (m3 100 0 ((x4 + 1).toNatClampNeg))) (n := (x4 + 1).toNatClampNeg) dL_law__296 (inb_in c5) rfl rfl ?_
  obtain ⟨z8, m7, e6, h⟩ := bd2_some h
  refine xc_Vi0 (st := []) (ok_X12_land (m3 100 0 ((x4 + 1).toNatClampNeg)) m3 e6) dL_law__297 cv_L_115 rfl rfl (Nat.le_of_ble_eq_true rfl) (by decide) (by decide) (by omega) (by omega) ?_
  refine xj_istore (ls' := [(6, vI z8), (5, vI z2), (0, vR 100 0), (1, vR 11 0), (2, vR 12 0), (3, vR 92 0), (4, vI x4)]) dL_law__300 (by decide) rfl ?_
  refine xj_aload_n 4 dL_law__302 rfl ?_
  refine xc_Vi0 (st := []) (ok_X12_thrown m7 rfl) dL_law__303 cv_L_116 rfl rfl (Nat.le_of_ble_eq_true rfl) (by decide) (by decide) (by omega) (by omega) ?_
  refine xj_iload 1 dL_law__306 rfl ?_
  refine xj_icmp_eq (tgt := 313) dL_law__308 (by decide) (fun c9 => ?_) (fun c9 => ?_)
  · rw [if_pos c9] at h
    refine xj_iload 1 dL_law__313 rfl ?_
    refine xj_if_ne (tgt := 330) dL_law__315 (by decide) (fun c10 => ?_) (fun c10 => ?_)
    · rw [if_neg c10] at h
      refine xj_goto (tgt := 2347) dL_law__330 (by decide) ?_
      refine xj_iinc (z := x4 + 10) (ls' := [(4, vI (x4 + 10)), (6, vI z8), (5, vI z2), (0, vR 100 0), (1, vR 11 0), (2, vR 12 0), (3, vR 92 0)]) 6 dL_law__2347 rfl rfl (by decide) rfl ?_
      refine xj_goto (tgt := 23) dL_law__2350 (by decide) ?_
      cases h
      refine xj_widen (u2 := u + 120) (v2 := v + 3000) (by omega) (by omega) ?_
      refine xj_pick (ls' := [(0, vR 100 0), (1, vR 11 0), (2, vR 12 0), (3, vR 92 0), (4, vI (x4 + 10))]) [3, 4, 5, 6, 0] rfl ?_
      exact kb
    · rw [if_pos c10] at h
      refine xj_aload_n 5 dL_law__318 rfl ?_
      refine xj_iconst (z := 0) dL_law__319 (by decide) ?_
      refine xj_lald0 (z := (jL (m7 92 0 0) (m7 92 0 1))) dL_law__320 rfl ?_
      refine xj_iload 0 dL_law__321 rfl ?_
      refine xj_i2l dL_law__323 ?_
      refine xj_lcmp dL_law__324 ?_
      refine xj_if_eq (tgt := 330) dL_law__325 (by decide) (fun c11 => ?_) (fun c11 => ?_)
      · rw [if_pos c11] at h
        refine xj_goto (tgt := 2347) dL_law__330 (by decide) ?_
        refine xj_iinc (z := x4 + 10) (ls' := [(4, vI (x4 + 10)), (6, vI z8), (5, vI z2), (0, vR 100 0), (1, vR 11 0), (2, vR 12 0), (3, vR 92 0)]) 6 dL_law__2347 rfl rfl (by decide) rfl ?_
        refine xj_goto (tgt := 23) dL_law__2350 (by decide) ?_
        cases h
        refine xj_widen (u2 := u + 120) (v2 := v + 3000) (by omega) (by omega) ?_
        refine xj_pick (ls' := [(0, vR 100 0), (1, vR 11 0), (2, vR 12 0), (3, vR 92 0), (4, vI (x4 + 10))]) [3, 4, 5, 6, 0] rfl ?_
        exact kb
      · rw [if_neg c11] at h
        cases h
  · rw [if_neg c9] at h
    cases h
noncomputable def r_L_op_2 (x4 : Int32) (m : Mem) : Option Mem :=
  if inb (x4 + 1) (m 100 1 0).toNatClampNeg = true then (bd2 (r_L_law (m 100 0 ((x4 + 1).toNatClampNeg)) m) fun z2 m3 => (if inb (x4 + 1) (m3 100 1 0).toNatClampNeg = true then (bd2 (r_X12_law (m3 100 0 ((x4 + 1).toNatClampNeg)) m3) fun z8 m7 => (if (r_X12_thrown m7) = z2 then (if z2 = 0 then (if (lg_cmp (jL (m7 92 0 0) (m7 92 0 1)) z8.toInt64) = 0 then (some m7) else (none)) else (some m7)) else (none))) else none)) else none
set_option maxHeartbeats 4000000 in
set_option maxRecDepth 20000 in
theorem ok_L_op_2 (x4 : Int32) (m : Mem) {m1 : Mem} (h : r_L_op_2 x4 m = some m1) {u v : Nat} (hu : u + 120 ≤ 601024) (hv : v + 3000 ≤ 7293034) {o : Ou} {M' : Mem} (kb : Xj RL cL_law_ 8 (some .boolean) 2048 84000 601024 7293034 (u + 120) (v + 3000) 23 [(0, vR 100 0), (1, vR 11 0), (2, vR 12 0), (3, vR 92 0), (4, vI (x4 + 10))] [] m1 o M') : Xj RL cL_law_ 8 (some .boolean) 2048 84000 601024 7293034 u v 333 [(0, vR 100 0), (1, vR 11 0), (2, vR 12 0), (3, vR 92 0), (4, vI x4)] [] m o M' := by
  unfold r_L_op_2 at h
  refine xj_aload_n 1 dL_law__333 rfl ?_
  refine xj_aload_n 0 dL_law__334 rfl ?_
  refine xj_iload 4 dL_law__335 rfl ?_
  refine xj_iconst (z := 1) dL_law__337 (by decide) ?_
  refine xj_iadd dL_law__338 ?_
  by_cases c1 : inb (x4 + 1) (m 100 1 0).toNatClampNeg = true
  case neg => rw [if_neg c1] at h; cases h
  rw [if_pos c1] at h
  refine xg_ialdS (z := (m 100 0 ((x4 + 1).toNatClampNeg))) (n := (x4 + 1).toNatClampNeg) dL_law__339 (inb_in c1) rfl rfl ?_
  refine xj_aload_n 3 dL_law__340 rfl ?_
  obtain ⟨z2, m3, e4, h⟩ := bd2_some h
  refine xc_Hi (st := []) (ok_L_law (m 100 0 ((x4 + 1).toNatClampNeg)) m e4) dL_law__341 ch_120 rfl rfl (Nat.le_of_ble_eq_true rfl) (by decide) (by decide) (by omega) (by omega) ?_
  refine xj_istore (ls' := [(5, vI z2), (0, vR 100 0), (1, vR 11 0), (2, vR 12 0), (3, vR 92 0), (4, vI x4)]) dL_law__344 (by decide) rfl ?_
  refine xj_aload_n 3 dL_law__346 rfl ?_
  refine xj_aload_n 1 dL_law__347 rfl ?_
  refine xj_iload 5 dL_law__348 rfl ?_
  refine xj_iconst (z := 1) dL_law__350 (by decide) ?_
  refine xj_iadd dL_law__351 ?_
  by_cases c5 : inb (x4 + 1) (m3 100 1 0).toNatClampNeg = true
  case neg => rw [if_neg c5] at h; cases h
  rw [if_pos c5] at h
  refine xg_ialdS (z := (m3 100 0 ((x4 + 1).toNatClampNeg))) (n := (x4 + 1).toNatClampNeg) dL_law__352 (inb_in c5) rfl rfl ?_
  obtain ⟨z8, m7, e6, h⟩ := bd2_some h
  refine xc_Vi0 (st := []) (ok_X12_law (m3 100 0 ((x4 + 1).toNatClampNeg)) m3 e6) dL_law__353 cv_L_122 rfl rfl (Nat.le_of_ble_eq_true rfl) (by decide) (by decide) (by omega) (by omega) ?_
  refine xj_istore (ls' := [(6, vI z8), (5, vI z2), (0, vR 100 0), (1, vR 11 0), (2, vR 12 0), (3, vR 92 0), (4, vI x4)]) dL_law__356 (by decide) rfl ?_
  refine xj_aload_n 4 dL_law__358 rfl ?_
  refine xc_Vi0 (st := []) (ok_X12_thrown m7 rfl) dL_law__359 cv_L_116 rfl rfl (Nat.le_of_ble_eq_true rfl) (by decide) (by decide) (by omega) (by omega) ?_
  refine xj_iload 1 dL_law__362 rfl ?_
  refine xj_icmp_eq (tgt := 369) dL_law__364 (by decide) (fun c9 => ?_) (fun c9 => ?_)
  · rw [if_pos c9] at h
    refine xj_iload 1 dL_law__369 rfl ?_
    refine xj_if_ne (tgt := 386) dL_law__371 (by decide) (fun c10 => ?_) (fun c10 => ?_)
    · rw [if_neg c10] at h
      refine xj_goto (tgt := 2347) dL_law__386 (by decide) ?_
      refine xj_iinc (z := x4 + 10) (ls' := [(4, vI (x4 + 10)), (6, vI z8), (5, vI z2), (0, vR 100 0), (1, vR 11 0), (2, vR 12 0), (3, vR 92 0)]) 6 dL_law__2347 rfl rfl (by decide) rfl ?_
      refine xj_goto (tgt := 23) dL_law__2350 (by decide) ?_
      cases h
      refine xj_widen (u2 := u + 120) (v2 := v + 3000) (by omega) (by omega) ?_
      refine xj_pick (ls' := [(0, vR 100 0), (1, vR 11 0), (2, vR 12 0), (3, vR 92 0), (4, vI (x4 + 10))]) [3, 4, 5, 6, 0] rfl ?_
      exact kb
    · rw [if_pos c10] at h
      refine xj_aload_n 5 dL_law__374 rfl ?_
      refine xj_iconst (z := 0) dL_law__375 (by decide) ?_
      refine xj_lald0 (z := (jL (m7 92 0 0) (m7 92 0 1))) dL_law__376 rfl ?_
      refine xj_iload 0 dL_law__377 rfl ?_
      refine xj_i2l dL_law__379 ?_
      refine xj_lcmp dL_law__380 ?_
      refine xj_if_eq (tgt := 386) dL_law__381 (by decide) (fun c11 => ?_) (fun c11 => ?_)
      · rw [if_pos c11] at h
        refine xj_goto (tgt := 2347) dL_law__386 (by decide) ?_
        refine xj_iinc (z := x4 + 10) (ls' := [(4, vI (x4 + 10)), (6, vI z8), (5, vI z2), (0, vR 100 0), (1, vR 11 0), (2, vR 12 0), (3, vR 92 0)]) 6 dL_law__2347 rfl rfl (by decide) rfl ?_
        refine xj_goto (tgt := 23) dL_law__2350 (by decide) ?_
        cases h
        refine xj_widen (u2 := u + 120) (v2 := v + 3000) (by omega) (by omega) ?_
        refine xj_pick (ls' := [(0, vR 100 0), (1, vR 11 0), (2, vR 12 0), (3, vR 92 0), (4, vI (x4 + 10))]) [3, 4, 5, 6, 0] rfl ?_
        exact kb
      · rw [if_neg c11] at h
        cases h
  · rw [if_neg c9] at h
    cases h
noncomputable def r_L_op_3 (x4 : Int32) (m : Mem) : Option Mem :=
  if inb (x4 + 1) (m 100 1 0).toNatClampNeg = true then (bd2 (r_L_work (m 100 0 ((x4 + 1).toNatClampNeg)) m) fun z2 m3 => (if inb (x4 + 1) (m3 100 1 0).toNatClampNeg = true then (bd2 (r_X12_work (m3 100 0 ((x4 + 1).toNatClampNeg)) m3) fun z8 m7 => (if (r_X12_thrown m7) = z2 then (if z2 = 0 then (if (lg_cmp (jL (m7 92 0 0) (m7 92 0 1)) z8.toInt64) = 0 then (some m7) else (none)) else (some m7)) else (none))) else none)) else none
set_option maxHeartbeats 4000000 in
set_option maxRecDepth 20000 in
theorem ok_L_op_3 (x4 : Int32) (m : Mem) {m1 : Mem} (h : r_L_op_3 x4 m = some m1) {u v : Nat} (hu : u + 120 ≤ 601024) (hv : v + 3000 ≤ 7293034) {o : Ou} {M' : Mem} (kb : Xj RL cL_law_ 8 (some .boolean) 2048 84000 601024 7293034 (u + 120) (v + 3000) 23 [(0, vR 100 0), (1, vR 11 0), (2, vR 12 0), (3, vR 92 0), (4, vI (x4 + 10))] [] m1 o M') : Xj RL cL_law_ 8 (some .boolean) 2048 84000 601024 7293034 u v 389 [(0, vR 100 0), (1, vR 11 0), (2, vR 12 0), (3, vR 92 0), (4, vI x4)] [] m o M' := by
  unfold r_L_op_3 at h
  refine xj_aload_n 1 dL_law__389 rfl ?_
  refine xj_aload_n 0 dL_law__390 rfl ?_
  refine xj_iload 4 dL_law__391 rfl ?_
  refine xj_iconst (z := 1) dL_law__393 (by decide) ?_
  refine xj_iadd dL_law__394 ?_
  by_cases c1 : inb (x4 + 1) (m 100 1 0).toNatClampNeg = true
  case neg => rw [if_neg c1] at h; cases h
  rw [if_pos c1] at h
  refine xg_ialdS (z := (m 100 0 ((x4 + 1).toNatClampNeg))) (n := (x4 + 1).toNatClampNeg) dL_law__395 (inb_in c1) rfl rfl ?_
  refine xj_aload_n 3 dL_law__396 rfl ?_
  obtain ⟨z2, m3, e4, h⟩ := bd2_some h
  refine xc_Hi (st := []) (ok_L_work (m 100 0 ((x4 + 1).toNatClampNeg)) m e4) dL_law__397 ch_123 rfl rfl (Nat.le_of_ble_eq_true rfl) (by decide) (by decide) (by omega) (by omega) ?_
  refine xj_istore (ls' := [(5, vI z2), (0, vR 100 0), (1, vR 11 0), (2, vR 12 0), (3, vR 92 0), (4, vI x4)]) dL_law__400 (by decide) rfl ?_
  refine xj_aload_n 3 dL_law__402 rfl ?_
  refine xj_aload_n 1 dL_law__403 rfl ?_
  refine xj_iload 5 dL_law__404 rfl ?_
  refine xj_iconst (z := 1) dL_law__406 (by decide) ?_
  refine xj_iadd dL_law__407 ?_
  by_cases c5 : inb (x4 + 1) (m3 100 1 0).toNatClampNeg = true
  case neg => rw [if_neg c5] at h; cases h
  rw [if_pos c5] at h
  refine xg_ialdS (z := (m3 100 0 ((x4 + 1).toNatClampNeg))) (n := (x4 + 1).toNatClampNeg) dL_law__408 (inb_in c5) rfl rfl ?_
  obtain ⟨z8, m7, e6, h⟩ := bd2_some h
  refine xc_Vi0 (st := []) (ok_X12_work (m3 100 0 ((x4 + 1).toNatClampNeg)) m3 e6) dL_law__409 cv_L_125 rfl rfl (Nat.le_of_ble_eq_true rfl) (by decide) (by decide) (by omega) (by omega) ?_
  refine xj_istore (ls' := [(6, vI z8), (5, vI z2), (0, vR 100 0), (1, vR 11 0), (2, vR 12 0), (3, vR 92 0), (4, vI x4)]) dL_law__412 (by decide) rfl ?_
  refine xj_aload_n 4 dL_law__414 rfl ?_
  refine xc_Vi0 (st := []) (ok_X12_thrown m7 rfl) dL_law__415 cv_L_116 rfl rfl (Nat.le_of_ble_eq_true rfl) (by decide) (by decide) (by omega) (by omega) ?_
  refine xj_iload 1 dL_law__418 rfl ?_
  refine xj_icmp_eq (tgt := 425) dL_law__420 (by decide) (fun c9 => ?_) (fun c9 => ?_)
  · rw [if_pos c9] at h
    refine xj_iload 1 dL_law__425 rfl ?_
    refine xj_if_ne (tgt := 442) dL_law__427 (by decide) (fun c10 => ?_) (fun c10 => ?_)
    · rw [if_neg c10] at h
      refine xj_goto (tgt := 2347) dL_law__442 (by decide) ?_
      refine xj_iinc (z := x4 + 10) (ls' := [(4, vI (x4 + 10)), (6, vI z8), (5, vI z2), (0, vR 100 0), (1, vR 11 0), (2, vR 12 0), (3, vR 92 0)]) 6 dL_law__2347 rfl rfl (by decide) rfl ?_
      refine xj_goto (tgt := 23) dL_law__2350 (by decide) ?_
      cases h
      refine xj_widen (u2 := u + 120) (v2 := v + 3000) (by omega) (by omega) ?_
      refine xj_pick (ls' := [(0, vR 100 0), (1, vR 11 0), (2, vR 12 0), (3, vR 92 0), (4, vI (x4 + 10))]) [3, 4, 5, 6, 0] rfl ?_
      exact kb
    · rw [if_pos c10] at h
      refine xj_aload_n 5 dL_law__430 rfl ?_
      refine xj_iconst (z := 0) dL_law__431 (by decide) ?_
      refine xj_lald0 (z := (jL (m7 92 0 0) (m7 92 0 1))) dL_law__432 rfl ?_
      refine xj_iload 0 dL_law__433 rfl ?_
      refine xj_i2l dL_law__435 ?_
      refine xj_lcmp dL_law__436 ?_
      refine xj_if_eq (tgt := 442) dL_law__437 (by decide) (fun c11 => ?_) (fun c11 => ?_)
      · rw [if_pos c11] at h
        refine xj_goto (tgt := 2347) dL_law__442 (by decide) ?_
        refine xj_iinc (z := x4 + 10) (ls' := [(4, vI (x4 + 10)), (6, vI z8), (5, vI z2), (0, vR 100 0), (1, vR 11 0), (2, vR 12 0), (3, vR 92 0)]) 6 dL_law__2347 rfl rfl (by decide) rfl ?_
        refine xj_goto (tgt := 23) dL_law__2350 (by decide) ?_
        cases h
        refine xj_widen (u2 := u + 120) (v2 := v + 3000) (by omega) (by omega) ?_
        refine xj_pick (ls' := [(0, vR 100 0), (1, vR 11 0), (2, vR 12 0), (3, vR 92 0), (4, vI (x4 + 10))]) [3, 4, 5, 6, 0] rfl ?_
        exact kb
      · rw [if_neg c11] at h
        cases h
  · rw [if_neg c9] at h
    cases h
noncomputable def r_L_op_4 (x4 : Int32) (m : Mem) : Option Mem :=
  if inb (x4 + 1) (m 100 1 0).toNatClampNeg = true then (bd2 (r_L_book (m 100 0 ((x4 + 1).toNatClampNeg)) m) fun z2 m3 => (if inb (x4 + 1) (m3 100 1 0).toNatClampNeg = true then (bd2 (r_X12_book (m3 100 0 ((x4 + 1).toNatClampNeg)) m3) fun z8 m7 => (if (r_X12_thrown m7) = z2 then (if z2 = 0 then (if (lg_cmp (jL (m7 92 0 0) (m7 92 0 1)) z8.toInt64) = 0 then (some m7) else (none)) else (some m7)) else (none))) else none)) else none
set_option maxHeartbeats 4000000 in
set_option maxRecDepth 20000 in
theorem ok_L_op_4 (x4 : Int32) (m : Mem) {m1 : Mem} (h : r_L_op_4 x4 m = some m1) {u v : Nat} (hu : u + 120 ≤ 601024) (hv : v + 3000 ≤ 7293034) {o : Ou} {M' : Mem} (kb : Xj RL cL_law_ 8 (some .boolean) 2048 84000 601024 7293034 (u + 120) (v + 3000) 23 [(0, vR 100 0), (1, vR 11 0), (2, vR 12 0), (3, vR 92 0), (4, vI (x4 + 10))] [] m1 o M') : Xj RL cL_law_ 8 (some .boolean) 2048 84000 601024 7293034 u v 445 [(0, vR 100 0), (1, vR 11 0), (2, vR 12 0), (3, vR 92 0), (4, vI x4)] [] m o M' := by
  unfold r_L_op_4 at h
  refine xj_aload_n 1 dL_law__445 rfl ?_
  refine xj_aload_n 0 dL_law__446 rfl ?_
  refine xj_iload 4 dL_law__447 rfl ?_
  refine xj_iconst (z := 1) dL_law__449 (by decide) ?_
  refine xj_iadd dL_law__450 ?_
  by_cases c1 : inb (x4 + 1) (m 100 1 0).toNatClampNeg = true
  case neg => rw [if_neg c1] at h; cases h
  rw [if_pos c1] at h
  refine xg_ialdS (z := (m 100 0 ((x4 + 1).toNatClampNeg))) (n := (x4 + 1).toNatClampNeg) dL_law__451 (inb_in c1) rfl rfl ?_
  refine xj_aload_n 3 dL_law__452 rfl ?_
  obtain ⟨z2, m3, e4, h⟩ := bd2_some h
  refine xc_Hi (st := []) (ok_L_book (m 100 0 ((x4 + 1).toNatClampNeg)) m e4) dL_law__453 ch_126 rfl rfl (Nat.le_of_ble_eq_true rfl) (by decide) (by decide) (by omega) (by omega) ?_
  refine xj_istore (ls' := [(5, vI z2), (0, vR 100 0), (1, vR 11 0), (2, vR 12 0), (3, vR 92 0), (4, vI x4)]) dL_law__456 (by decide) rfl ?_
  refine xj_aload_n 3 dL_law__458 rfl ?_
  refine xj_aload_n 1 dL_law__459 rfl ?_
  refine xj_iload 5 dL_law__460 rfl ?_
  refine xj_iconst (z := 1) dL_law__462 (by decide) ?_
  refine xj_iadd dL_law__463 ?_
  by_cases c5 : inb (x4 + 1) (m3 100 1 0).toNatClampNeg = true
  case neg => rw [if_neg c5] at h; cases h
  rw [if_pos c5] at h
  refine xg_ialdS (z := (m3 100 0 ((x4 + 1).toNatClampNeg))) (n := (x4 + 1).toNatClampNeg) dL_law__464 (inb_in c5) rfl rfl ?_
  obtain ⟨z8, m7, e6, h⟩ := bd2_some h
  refine xc_Vi0 (st := []) (ok_X12_book (m3 100 0 ((x4 + 1).toNatClampNeg)) m3 e6) dL_law__465 cv_L_128 rfl rfl (Nat.le_of_ble_eq_true rfl) (by decide) (by decide) (by omega) (by omega) ?_
  refine xj_istore (ls' := [(6, vI z8), (5, vI z2), (0, vR 100 0), (1, vR 11 0), (2, vR 12 0), (3, vR 92 0), (4, vI x4)]) dL_law__468 (by decide) rfl ?_
  refine xj_aload_n 4 dL_law__470 rfl ?_
  refine xc_Vi0 (st := []) (ok_X12_thrown m7 rfl) dL_law__471 cv_L_116 rfl rfl (Nat.le_of_ble_eq_true rfl) (by decide) (by decide) (by omega) (by omega) ?_
  refine xj_iload 1 dL_law__474 rfl ?_
  refine xj_icmp_eq (tgt := 481) dL_law__476 (by decide) (fun c9 => ?_) (fun c9 => ?_)
  · rw [if_pos c9] at h
    refine xj_iload 1 dL_law__481 rfl ?_
    refine xj_if_ne (tgt := 498) dL_law__483 (by decide) (fun c10 => ?_) (fun c10 => ?_)
    · rw [if_neg c10] at h
      refine xj_goto (tgt := 2347) dL_law__498 (by decide) ?_
      refine xj_iinc (z := x4 + 10) (ls' := [(4, vI (x4 + 10)), (6, vI z8), (5, vI z2), (0, vR 100 0), (1, vR 11 0), (2, vR 12 0), (3, vR 92 0)]) 6 dL_law__2347 rfl rfl (by decide) rfl ?_
      refine xj_goto (tgt := 23) dL_law__2350 (by decide) ?_
      cases h
      refine xj_widen (u2 := u + 120) (v2 := v + 3000) (by omega) (by omega) ?_
      refine xj_pick (ls' := [(0, vR 100 0), (1, vR 11 0), (2, vR 12 0), (3, vR 92 0), (4, vI (x4 + 10))]) [3, 4, 5, 6, 0] rfl ?_
      exact kb
    · rw [if_pos c10] at h
      refine xj_aload_n 5 dL_law__486 rfl ?_
      refine xj_iconst (z := 0) dL_law__487 (by decide) ?_
      refine xj_lald0 (z := (jL (m7 92 0 0) (m7 92 0 1))) dL_law__488 rfl ?_
      refine xj_iload 0 dL_law__489 rfl ?_
      refine xj_i2l dL_law__491 ?_
      refine xj_lcmp dL_law__492 ?_
      refine xj_if_eq (tgt := 498) dL_law__493 (by decide) (fun c11 => ?_) (fun c11 => ?_)
      · rw [if_pos c11] at h
        refine xj_goto (tgt := 2347) dL_law__498 (by decide) ?_
        refine xj_iinc (z := x4 + 10) (ls' := [(4, vI (x4 + 10)), (6, vI z8), (5, vI z2), (0, vR 100 0), (1, vR 11 0), (2, vR 12 0), (3, vR 92 0)]) 6 dL_law__2347 rfl rfl (by decide) rfl ?_
        refine xj_goto (tgt := 23) dL_law__2350 (by decide) ?_
        cases h
        refine xj_widen (u2 := u + 120) (v2 := v + 3000) (by omega) (by omega) ?_
        refine xj_pick (ls' := [(0, vR 100 0), (1, vR 11 0), (2, vR 12 0), (3, vR 92 0), (4, vI (x4 + 10))]) [3, 4, 5, 6, 0] rfl ?_
        exact kb
      · rw [if_neg c11] at h
        cases h
  · rw [if_neg c9] at h
    cases h
noncomputable def r_L_op_5 (x4 : Int32) (m : Mem) : Option Mem :=
  bd2 (r_X12_fault m) fun z3 m2 => (if (r_X11_fault m) = z3 then (some m2) else (none))
set_option maxHeartbeats 4000000 in
set_option maxRecDepth 20000 in
theorem ok_L_op_5 (x4 : Int32) (m : Mem) {m1 : Mem} (h : r_L_op_5 x4 m = some m1) {u v : Nat} (hu : u + 120 ≤ 601024) (hv : v + 3000 ≤ 7293034) {o : Ou} {M' : Mem} (kb : Xj RL cL_law_ 8 (some .boolean) 2048 84000 601024 7293034 (u + 120) (v + 3000) 23 [(0, vR 100 0), (1, vR 11 0), (2, vR 12 0), (3, vR 92 0), (4, vI (x4 + 10))] [] m1 o M') : Xj RL cL_law_ 8 (some .boolean) 2048 84000 601024 7293034 u v 501 [(0, vR 100 0), (1, vR 11 0), (2, vR 12 0), (3, vR 92 0), (4, vI x4)] [] m o M' := by
  unfold r_L_op_5 at h
  refine xj_aload_n 1 dL_law__501 rfl ?_
  refine xc_Vi0 (st := []) (ok_X11_fault m rfl) dL_law__502 cv_L_129 rfl rfl (Nat.le_of_ble_eq_true rfl) (by decide) (by decide) (by omega) (by omega) ?_
  refine xj_aload_n 2 dL_law__505 rfl ?_
  obtain ⟨z3, m2, e1, h⟩ := bd2_some h
  refine xc_Vi0 (st := [vI (r_X11_fault m)]) (ok_X12_fault m e1) dL_law__506 cv_L_132 rfl rfl (Nat.le_of_ble_eq_true rfl) (by decide) (by decide) (by omega) (by omega) ?_
  refine xj_icmp_eq (tgt := 2347) dL_law__509 (by decide) (fun c4 => ?_) (fun c4 => ?_)
  · rw [if_pos c4] at h
    refine xj_iinc (z := x4 + 10) (ls' := [(4, vI (x4 + 10)), (0, vR 100 0), (1, vR 11 0), (2, vR 12 0), (3, vR 92 0)]) 4 dL_law__2347 rfl rfl (by decide) rfl ?_
    refine xj_goto (tgt := 23) dL_law__2350 (by decide) ?_
    cases h
    refine xj_widen (u2 := u + 120) (v2 := v + 3000) (by omega) (by omega) ?_
    refine xj_pick (ls' := [(0, vR 100 0), (1, vR 11 0), (2, vR 12 0), (3, vR 92 0), (4, vI (x4 + 10))]) [1, 2, 3, 4, 0] rfl ?_
    exact kb
  · rw [if_neg c4] at h
    cases h
noncomputable def r_L_op_6 (x4 : Int32) (m : Mem) : Option Mem :=
  bd2 (r_X11_undo m) fun z3 m2 => (bd2 (r_X12_undo m2) fun z6 m5 => (if z3 = z6 then (some m5) else (none)))
set_option maxHeartbeats 4000000 in
set_option maxRecDepth 20000 in
theorem ok_L_op_6 (x4 : Int32) (m : Mem) {m1 : Mem} (h : r_L_op_6 x4 m = some m1) {u v : Nat} (hu : u + 120 ≤ 601024) (hv : v + 3000 ≤ 7293034) {o : Ou} {M' : Mem} (kb : Xj RL cL_law_ 8 (some .boolean) 2048 84000 601024 7293034 (u + 120) (v + 3000) 23 [(0, vR 100 0), (1, vR 11 0), (2, vR 12 0), (3, vR 92 0), (4, vI (x4 + 10))] [] m1 o M') : Xj RL cL_law_ 8 (some .boolean) 2048 84000 601024 7293034 u v 514 [(0, vR 100 0), (1, vR 11 0), (2, vR 12 0), (3, vR 92 0), (4, vI x4)] [] m o M' := by
  unfold r_L_op_6 at h
  refine xj_aload_n 1 dL_law__514 rfl ?_
  obtain ⟨z3, m2, e1, h⟩ := bd2_some h
  refine xc_Vi0 (st := []) (ok_X11_undo m e1) dL_law__515 cv_L_133 rfl rfl (Nat.le_of_ble_eq_true rfl) (by decide) (by decide) (by omega) (by omega) ?_
  refine xj_aload_n 2 dL_law__518 rfl ?_
  obtain ⟨z6, m5, e4, h⟩ := bd2_some h
  refine xc_Vi0 (st := [vI z3]) (ok_X12_undo m2 e4) dL_law__519 cv_L_136 rfl rfl (Nat.le_of_ble_eq_true rfl) (by decide) (by decide) (by omega) (by omega) ?_
  refine xj_icmp_eq (tgt := 2347) dL_law__522 (by decide) (fun c7 => ?_) (fun c7 => ?_)
  · rw [if_pos c7] at h
    refine xj_iinc (z := x4 + 10) (ls' := [(4, vI (x4 + 10)), (0, vR 100 0), (1, vR 11 0), (2, vR 12 0), (3, vR 92 0)]) 4 dL_law__2347 rfl rfl (by decide) rfl ?_
    refine xj_goto (tgt := 23) dL_law__2350 (by decide) ?_
    cases h
    refine xj_widen (u2 := u + 120) (v2 := v + 3000) (by omega) (by omega) ?_
    refine xj_pick (ls' := [(0, vR 100 0), (1, vR 11 0), (2, vR 12 0), (3, vR 92 0), (4, vI (x4 + 10))]) [1, 2, 3, 4, 0] rfl ?_
    exact kb
  · rw [if_neg c7] at h
    cases h
noncomputable def r_L_op_7 (x4 : Int32) (m : Mem) : Option Mem :=
  if inb (x4 + 1) (m 100 1 0).toNatClampNeg = true then (bd2 (r_L_told (m 100 0 ((x4 + 1).toNatClampNeg)) m) fun z2 m3 => (if inb (x4 + 1) (m3 100 1 0).toNatClampNeg = true then (bd2 (r_X12_told (m3 100 0 ((x4 + 1).toNatClampNeg)) m3) fun z8 m7 => (if (r_X12_thrown m7) = z2 then (if z2 = 0 then (if (lg_cmp (jL (m7 92 0 0) (m7 92 0 1)) z8.toInt64) = 0 then (some m7) else (none)) else (some m7)) else (none))) else none)) else none
set_option maxHeartbeats 4000000 in
set_option maxRecDepth 20000 in
theorem ok_L_op_7 (x4 : Int32) (m : Mem) {m1 : Mem} (h : r_L_op_7 x4 m = some m1) {u v : Nat} (hu : u + 120 ≤ 601024) (hv : v + 3000 ≤ 7293034) {o : Ou} {M' : Mem} (kb : Xj RL cL_law_ 8 (some .boolean) 2048 84000 601024 7293034 (u + 120) (v + 3000) 23 [(0, vR 100 0), (1, vR 11 0), (2, vR 12 0), (3, vR 92 0), (4, vI (x4 + 10))] [] m1 o M') : Xj RL cL_law_ 8 (some .boolean) 2048 84000 601024 7293034 u v 527 [(0, vR 100 0), (1, vR 11 0), (2, vR 12 0), (3, vR 92 0), (4, vI x4)] [] m o M' := by
  unfold r_L_op_7 at h
  refine xj_aload_n 1 dL_law__527 rfl ?_
  refine xj_aload_n 0 dL_law__528 rfl ?_
  refine xj_iload 4 dL_law__529 rfl ?_
  refine xj_iconst (z := 1) dL_law__531 (by decide) ?_
  refine xj_iadd dL_law__532 ?_
  by_cases c1 : inb (x4 + 1) (m 100 1 0).toNatClampNeg = true
  case neg => rw [if_neg c1] at h; cases h
  rw [if_pos c1] at h
  refine xg_ialdS (z := (m 100 0 ((x4 + 1).toNatClampNeg))) (n := (x4 + 1).toNatClampNeg) dL_law__533 (inb_in c1) rfl rfl ?_
  refine xj_aload_n 3 dL_law__534 rfl ?_
  obtain ⟨z2, m3, e4, h⟩ := bd2_some h
  refine xc_Hi (st := []) (ok_L_told (m 100 0 ((x4 + 1).toNatClampNeg)) m e4) dL_law__535 ch_137 rfl rfl (Nat.le_of_ble_eq_true rfl) (by decide) (by decide) (by omega) (by omega) ?_
  refine xj_istore (ls' := [(5, vI z2), (0, vR 100 0), (1, vR 11 0), (2, vR 12 0), (3, vR 92 0), (4, vI x4)]) dL_law__538 (by decide) rfl ?_
  refine xj_aload_n 3 dL_law__540 rfl ?_
  refine xj_aload_n 1 dL_law__541 rfl ?_
  refine xj_iload 5 dL_law__542 rfl ?_
  refine xj_iconst (z := 1) dL_law__544 (by decide) ?_
  refine xj_iadd dL_law__545 ?_
  by_cases c5 : inb (x4 + 1) (m3 100 1 0).toNatClampNeg = true
  case neg => rw [if_neg c5] at h; cases h
  rw [if_pos c5] at h
  refine xg_ialdS (z := (m3 100 0 ((x4 + 1).toNatClampNeg))) (n := (x4 + 1).toNatClampNeg) dL_law__546 (inb_in c5) rfl rfl ?_
  obtain ⟨z8, m7, e6, h⟩ := bd2_some h
  refine xc_Vi0 (st := []) (ok_X12_told (m3 100 0 ((x4 + 1).toNatClampNeg)) m3 e6) dL_law__547 cv_L_139 rfl rfl (Nat.le_of_ble_eq_true rfl) (by decide) (by decide) (by omega) (by omega) ?_
  refine xj_istore (ls' := [(6, vI z8), (5, vI z2), (0, vR 100 0), (1, vR 11 0), (2, vR 12 0), (3, vR 92 0), (4, vI x4)]) dL_law__550 (by decide) rfl ?_
  refine xj_aload_n 4 dL_law__552 rfl ?_
  refine xc_Vi0 (st := []) (ok_X12_thrown m7 rfl) dL_law__553 cv_L_116 rfl rfl (Nat.le_of_ble_eq_true rfl) (by decide) (by decide) (by omega) (by omega) ?_
  refine xj_iload 1 dL_law__556 rfl ?_
  refine xj_icmp_eq (tgt := 563) dL_law__558 (by decide) (fun c9 => ?_) (fun c9 => ?_)
  · rw [if_pos c9] at h
    refine xj_iload 1 dL_law__563 rfl ?_
    refine xj_if_ne (tgt := 580) dL_law__565 (by decide) (fun c10 => ?_) (fun c10 => ?_)
    · rw [if_neg c10] at h
      refine xj_goto (tgt := 2347) dL_law__580 (by decide) ?_
      refine xj_iinc (z := x4 + 10) (ls' := [(4, vI (x4 + 10)), (6, vI z8), (5, vI z2), (0, vR 100 0), (1, vR 11 0), (2, vR 12 0), (3, vR 92 0)]) 6 dL_law__2347 rfl rfl (by decide) rfl ?_
      refine xj_goto (tgt := 23) dL_law__2350 (by decide) ?_
      cases h
      refine xj_widen (u2 := u + 120) (v2 := v + 3000) (by omega) (by omega) ?_
      refine xj_pick (ls' := [(0, vR 100 0), (1, vR 11 0), (2, vR 12 0), (3, vR 92 0), (4, vI (x4 + 10))]) [3, 4, 5, 6, 0] rfl ?_
      exact kb
    · rw [if_pos c10] at h
      refine xj_aload_n 5 dL_law__568 rfl ?_
      refine xj_iconst (z := 0) dL_law__569 (by decide) ?_
      refine xj_lald0 (z := (jL (m7 92 0 0) (m7 92 0 1))) dL_law__570 rfl ?_
      refine xj_iload 0 dL_law__571 rfl ?_
      refine xj_i2l dL_law__573 ?_
      refine xj_lcmp dL_law__574 ?_
      refine xj_if_eq (tgt := 580) dL_law__575 (by decide) (fun c11 => ?_) (fun c11 => ?_)
      · rw [if_pos c11] at h
        refine xj_goto (tgt := 2347) dL_law__580 (by decide) ?_
        refine xj_iinc (z := x4 + 10) (ls' := [(4, vI (x4 + 10)), (6, vI z8), (5, vI z2), (0, vR 100 0), (1, vR 11 0), (2, vR 12 0), (3, vR 92 0)]) 6 dL_law__2347 rfl rfl (by decide) rfl ?_
        refine xj_goto (tgt := 23) dL_law__2350 (by decide) ?_
        cases h
        refine xj_widen (u2 := u + 120) (v2 := v + 3000) (by omega) (by omega) ?_
        refine xj_pick (ls' := [(0, vR 100 0), (1, vR 11 0), (2, vR 12 0), (3, vR 92 0), (4, vI (x4 + 10))]) [3, 4, 5, 6, 0] rfl ?_
        exact kb
      · rw [if_neg c11] at h
        cases h
  · rw [if_neg c9] at h
    cases h
noncomputable def r_L_op_8 (x4 : Int32) (m : Mem) : Option Mem :=
  if inb (x4 + 1) (m 100 1 0).toNatClampNeg = true then (if inb (x4 + 2) (m 100 1 0).toNatClampNeg = true then (bd2 (r_L_place (m 100 0 ((x4 + 1).toNatClampNeg)) (m 100 0 ((x4 + 2).toNatClampNeg)) m) fun z3 m4 => (if inb (x4 + 1) (m4 100 1 0).toNatClampNeg = true then (if inb (x4 + 2) (m4 100 1 0).toNatClampNeg = true then (bd2 (r_X12_place (m4 100 0 ((x4 + 1).toNatClampNeg)) (m4 100 0 ((x4 + 2).toNatClampNeg)) m4) fun z10 m9 => (if (r_X12_thrown m9) = z3 then (if z3 = 0 then (if (lg_cmp (jL (m9 92 0 0) (m9 92 0 1)) z10.toInt64) = 0 then (some m9) else (none)) else (some m9)) else (none))) else none) else none)) else none) else none
set_option maxHeartbeats 4000000 in
set_option maxRecDepth 20000 in
theorem ok_L_op_8 (x4 : Int32) (m : Mem) {m1 : Mem} (h : r_L_op_8 x4 m = some m1) {u v : Nat} (hu : u + 120 ≤ 601024) (hv : v + 3000 ≤ 7293034) {o : Ou} {M' : Mem} (kb : Xj RL cL_law_ 8 (some .boolean) 2048 84000 601024 7293034 (u + 120) (v + 3000) 23 [(0, vR 100 0), (1, vR 11 0), (2, vR 12 0), (3, vR 92 0), (4, vI (x4 + 10))] [] m1 o M') : Xj RL cL_law_ 8 (some .boolean) 2048 84000 601024 7293034 u v 583 [(0, vR 100 0), (1, vR 11 0), (2, vR 12 0), (3, vR 92 0), (4, vI x4)] [] m o M' := by
  unfold r_L_op_8 at h
  refine xj_aload_n 1 dL_law__583 rfl ?_
  refine xj_aload_n 0 dL_law__584 rfl ?_
  refine xj_iload 4 dL_law__585 rfl ?_
  refine xj_iconst (z := 1) dL_law__587 (by decide) ?_
  refine xj_iadd dL_law__588 ?_
  by_cases c1 : inb (x4 + 1) (m 100 1 0).toNatClampNeg = true
  case neg => rw [if_neg c1] at h; cases h
  rw [if_pos c1] at h
  refine xg_ialdS (z := (m 100 0 ((x4 + 1).toNatClampNeg))) (n := (x4 + 1).toNatClampNeg) dL_law__589 (inb_in c1) rfl rfl ?_
  refine xj_aload_n 0 dL_law__590 rfl ?_
  refine xj_iload 4 dL_law__591 rfl ?_
  refine xj_iconst (z := 2) dL_law__593 (by decide) ?_
  refine xj_iadd dL_law__594 ?_
  by_cases c2 : inb (x4 + 2) (m 100 1 0).toNatClampNeg = true
  case neg => rw [if_neg c2] at h; cases h
  rw [if_pos c2] at h
  refine xg_ialdS (z := (m 100 0 ((x4 + 2).toNatClampNeg))) (n := (x4 + 2).toNatClampNeg) dL_law__595 (inb_in c2) rfl rfl ?_
  refine xj_aload_n 3 dL_law__596 rfl ?_
  obtain ⟨z3, m4, e5, h⟩ := bd2_some h
  refine xc_Hi (st := []) (ok_L_place (m 100 0 ((x4 + 1).toNatClampNeg)) (m 100 0 ((x4 + 2).toNatClampNeg)) m e5) dL_law__597 ch_140 rfl rfl (Nat.le_of_ble_eq_true rfl) (by decide) (by decide) (by omega) (by omega) ?_
  refine xj_istore (ls' := [(5, vI z3), (0, vR 100 0), (1, vR 11 0), (2, vR 12 0), (3, vR 92 0), (4, vI x4)]) dL_law__600 (by decide) rfl ?_
  refine xj_aload_n 3 dL_law__602 rfl ?_
  refine xj_aload_n 1 dL_law__603 rfl ?_
  refine xj_iload 5 dL_law__604 rfl ?_
  refine xj_iconst (z := 1) dL_law__606 (by decide) ?_
  refine xj_iadd dL_law__607 ?_
  by_cases c6 : inb (x4 + 1) (m4 100 1 0).toNatClampNeg = true
  case neg => rw [if_neg c6] at h; cases h
  rw [if_pos c6] at h
  refine xg_ialdS (z := (m4 100 0 ((x4 + 1).toNatClampNeg))) (n := (x4 + 1).toNatClampNeg) dL_law__608 (inb_in c6) rfl rfl ?_
  refine xj_aload_n 1 dL_law__609 rfl ?_
  refine xj_iload 5 dL_law__610 rfl ?_
  refine xj_iconst (z := 2) dL_law__612 (by decide) ?_
  refine xj_iadd dL_law__613 ?_
  by_cases c7 : inb (x4 + 2) (m4 100 1 0).toNatClampNeg = true
  case neg => rw [if_neg c7] at h; cases h
  rw [if_pos c7] at h
  refine xg_ialdS (z := (m4 100 0 ((x4 + 2).toNatClampNeg))) (n := (x4 + 2).toNatClampNeg) dL_law__614 (inb_in c7) rfl rfl ?_
  obtain ⟨z10, m9, e8, h⟩ := bd2_some h
  refine xc_Vi0 (st := []) (ok_X12_place (m4 100 0 ((x4 + 1).toNatClampNeg)) (m4 100 0 ((x4 + 2).toNatClampNeg)) m4 e8) dL_law__615 cv_L_143 rfl rfl (Nat.le_of_ble_eq_true rfl) (by decide) (by decide) (by omega) (by omega) ?_
  refine xj_istore (ls' := [(6, vI z10), (5, vI z3), (0, vR 100 0), (1, vR 11 0), (2, vR 12 0), (3, vR 92 0), (4, vI x4)]) dL_law__618 (by decide) rfl ?_
  refine xj_aload_n 4 dL_law__620 rfl ?_
  refine xc_Vi0 (st := []) (ok_X12_thrown m9 rfl) dL_law__621 cv_L_116 rfl rfl (Nat.le_of_ble_eq_true rfl) (by decide) (by decide) (by omega) (by omega) ?_
  refine xj_iload 1 dL_law__624 rfl ?_
  refine xj_icmp_eq (tgt := 631) dL_law__626 (by decide) (fun c11 => ?_) (fun c11 => ?_)
  · rw [if_pos c11] at h
    refine xj_iload 1 dL_law__631 rfl ?_
    refine xj_if_ne (tgt := 648) dL_law__633 (by decide) (fun c12 => ?_) (fun c12 => ?_)
    · rw [if_neg c12] at h
      refine xj_goto (tgt := 2347) dL_law__648 (by decide) ?_
      refine xj_iinc (z := x4 + 10) (ls' := [(4, vI (x4 + 10)), (6, vI z10), (5, vI z3), (0, vR 100 0), (1, vR 11 0), (2, vR 12 0), (3, vR 92 0)]) 6 dL_law__2347 rfl rfl (by decide) rfl ?_
      refine xj_goto (tgt := 23) dL_law__2350 (by decide) ?_
      cases h
      refine xj_widen (u2 := u + 120) (v2 := v + 3000) (by omega) (by omega) ?_
      refine xj_pick (ls' := [(0, vR 100 0), (1, vR 11 0), (2, vR 12 0), (3, vR 92 0), (4, vI (x4 + 10))]) [3, 4, 5, 6, 0] rfl ?_
      exact kb
    · rw [if_pos c12] at h
      refine xj_aload_n 5 dL_law__636 rfl ?_
      refine xj_iconst (z := 0) dL_law__637 (by decide) ?_
      refine xj_lald0 (z := (jL (m9 92 0 0) (m9 92 0 1))) dL_law__638 rfl ?_
      refine xj_iload 0 dL_law__639 rfl ?_
      refine xj_i2l dL_law__641 ?_
      refine xj_lcmp dL_law__642 ?_
      refine xj_if_eq (tgt := 648) dL_law__643 (by decide) (fun c13 => ?_) (fun c13 => ?_)
      · rw [if_pos c13] at h
        refine xj_goto (tgt := 2347) dL_law__648 (by decide) ?_
        refine xj_iinc (z := x4 + 10) (ls' := [(4, vI (x4 + 10)), (6, vI z10), (5, vI z3), (0, vR 100 0), (1, vR 11 0), (2, vR 12 0), (3, vR 92 0)]) 6 dL_law__2347 rfl rfl (by decide) rfl ?_
        refine xj_goto (tgt := 23) dL_law__2350 (by decide) ?_
        cases h
        refine xj_widen (u2 := u + 120) (v2 := v + 3000) (by omega) (by omega) ?_
        refine xj_pick (ls' := [(0, vR 100 0), (1, vR 11 0), (2, vR 12 0), (3, vR 92 0), (4, vI (x4 + 10))]) [3, 4, 5, 6, 0] rfl ?_
        exact kb
      · rw [if_neg c13] at h
        cases h
  · rw [if_neg c11] at h
    cases h
noncomputable def r_L_op_9 (x4 : Int32) (m : Mem) : Option Mem :=
  if inb (x4 + 1) (m 100 1 0).toNatClampNeg = true then (if inb (x4 + 2) (m 100 1 0).toNatClampNeg = true then (bd2 (r_L_ditch (m 100 0 ((x4 + 1).toNatClampNeg)) (m 100 0 ((x4 + 2).toNatClampNeg)) m) fun z3 m4 => (if inb (x4 + 1) (m4 100 1 0).toNatClampNeg = true then (if inb (x4 + 2) (m4 100 1 0).toNatClampNeg = true then (bd2 (r_X12_ditch (m4 100 0 ((x4 + 1).toNatClampNeg)) (m4 100 0 ((x4 + 2).toNatClampNeg)) m4) fun z10 m9 => (if (r_X12_thrown m9) = z3 then (if z3 = 0 then (if (lg_cmp (jL (m9 92 0 0) (m9 92 0 1)) z10.toInt64) = 0 then (some m9) else (none)) else (some m9)) else (none))) else none) else none)) else none) else none
set_option maxHeartbeats 4000000 in
set_option maxRecDepth 20000 in
theorem ok_L_op_9 (x4 : Int32) (m : Mem) {m1 : Mem} (h : r_L_op_9 x4 m = some m1) {u v : Nat} (hu : u + 120 ≤ 601024) (hv : v + 3000 ≤ 7293034) {o : Ou} {M' : Mem} (kb : Xj RL cL_law_ 8 (some .boolean) 2048 84000 601024 7293034 (u + 120) (v + 3000) 23 [(0, vR 100 0), (1, vR 11 0), (2, vR 12 0), (3, vR 92 0), (4, vI (x4 + 10))] [] m1 o M') : Xj RL cL_law_ 8 (some .boolean) 2048 84000 601024 7293034 u v 651 [(0, vR 100 0), (1, vR 11 0), (2, vR 12 0), (3, vR 92 0), (4, vI x4)] [] m o M' := by
  unfold r_L_op_9 at h
  refine xj_aload_n 1 dL_law__651 rfl ?_
  refine xj_aload_n 0 dL_law__652 rfl ?_
  refine xj_iload 4 dL_law__653 rfl ?_
  refine xj_iconst (z := 1) dL_law__655 (by decide) ?_
  refine xj_iadd dL_law__656 ?_
  by_cases c1 : inb (x4 + 1) (m 100 1 0).toNatClampNeg = true
  case neg => rw [if_neg c1] at h; cases h
  rw [if_pos c1] at h
  refine xg_ialdS (z := (m 100 0 ((x4 + 1).toNatClampNeg))) (n := (x4 + 1).toNatClampNeg) dL_law__657 (inb_in c1) rfl rfl ?_
  refine xj_aload_n 0 dL_law__658 rfl ?_
  refine xj_iload 4 dL_law__659 rfl ?_
  refine xj_iconst (z := 2) dL_law__661 (by decide) ?_
  refine xj_iadd dL_law__662 ?_
  by_cases c2 : inb (x4 + 2) (m 100 1 0).toNatClampNeg = true
  case neg => rw [if_neg c2] at h; cases h
  rw [if_pos c2] at h
  refine xg_ialdS (z := (m 100 0 ((x4 + 2).toNatClampNeg))) (n := (x4 + 2).toNatClampNeg) dL_law__663 (inb_in c2) rfl rfl ?_
  refine xj_aload_n 3 dL_law__664 rfl ?_
  obtain ⟨z3, m4, e5, h⟩ := bd2_some h
  refine xc_Hi (st := []) (ok_L_ditch (m 100 0 ((x4 + 1).toNatClampNeg)) (m 100 0 ((x4 + 2).toNatClampNeg)) m e5) dL_law__665 ch_144 rfl rfl (Nat.le_of_ble_eq_true rfl) (by decide) (by decide) (by omega) (by omega) ?_
  refine xj_istore (ls' := [(5, vI z3), (0, vR 100 0), (1, vR 11 0), (2, vR 12 0), (3, vR 92 0), (4, vI x4)]) dL_law__668 (by decide) rfl ?_
  refine xj_aload_n 3 dL_law__670 rfl ?_
  refine xj_aload_n 1 dL_law__671 rfl ?_
  refine xj_iload 5 dL_law__672 rfl ?_
  refine xj_iconst (z := 1) dL_law__674 (by decide) ?_
  refine xj_iadd dL_law__675 ?_
  by_cases c6 : inb (x4 + 1) (m4 100 1 0).toNatClampNeg = true
  case neg => rw [if_neg c6] at h; cases h
  rw [if_pos c6] at h
  refine xg_ialdS (z := (m4 100 0 ((x4 + 1).toNatClampNeg))) (n := (x4 + 1).toNatClampNeg) dL_law__676 (inb_in c6) rfl rfl ?_
  refine xj_aload_n 1 dL_law__677 rfl ?_
  refine xj_iload 5 dL_law__678 rfl ?_
  refine xj_iconst (z := 2) dL_law__680 (by decide) ?_
  refine xj_iadd dL_law__681 ?_
  by_cases c7 : inb (x4 + 2) (m4 100 1 0).toNatClampNeg = true
  case neg => rw [if_neg c7] at h; cases h
  rw [if_pos c7] at h
  refine xg_ialdS (z := (m4 100 0 ((x4 + 2).toNatClampNeg))) (n := (x4 + 2).toNatClampNeg) dL_law__682 (inb_in c7) rfl rfl ?_
  obtain ⟨z10, m9, e8, h⟩ := bd2_some h
  refine xc_Vi0 (st := []) (ok_X12_ditch (m4 100 0 ((x4 + 1).toNatClampNeg)) (m4 100 0 ((x4 + 2).toNatClampNeg)) m4 e8) dL_law__683 cv_L_146 rfl rfl (Nat.le_of_ble_eq_true rfl) (by decide) (by decide) (by omega) (by omega) ?_
  refine xj_istore (ls' := [(6, vI z10), (5, vI z3), (0, vR 100 0), (1, vR 11 0), (2, vR 12 0), (3, vR 92 0), (4, vI x4)]) dL_law__686 (by decide) rfl ?_
  refine xj_aload_n 4 dL_law__688 rfl ?_
  refine xc_Vi0 (st := []) (ok_X12_thrown m9 rfl) dL_law__689 cv_L_116 rfl rfl (Nat.le_of_ble_eq_true rfl) (by decide) (by decide) (by omega) (by omega) ?_
  refine xj_iload 1 dL_law__692 rfl ?_
  refine xj_icmp_eq (tgt := 699) dL_law__694 (by decide) (fun c11 => ?_) (fun c11 => ?_)
  · rw [if_pos c11] at h
    refine xj_iload 1 dL_law__699 rfl ?_
    refine xj_if_ne (tgt := 716) dL_law__701 (by decide) (fun c12 => ?_) (fun c12 => ?_)
    · rw [if_neg c12] at h
      refine xj_goto (tgt := 2347) dL_law__716 (by decide) ?_
      refine xj_iinc (z := x4 + 10) (ls' := [(4, vI (x4 + 10)), (6, vI z10), (5, vI z3), (0, vR 100 0), (1, vR 11 0), (2, vR 12 0), (3, vR 92 0)]) 6 dL_law__2347 rfl rfl (by decide) rfl ?_
      refine xj_goto (tgt := 23) dL_law__2350 (by decide) ?_
      cases h
      refine xj_widen (u2 := u + 120) (v2 := v + 3000) (by omega) (by omega) ?_
      refine xj_pick (ls' := [(0, vR 100 0), (1, vR 11 0), (2, vR 12 0), (3, vR 92 0), (4, vI (x4 + 10))]) [3, 4, 5, 6, 0] rfl ?_
      exact kb
    · rw [if_pos c12] at h
      refine xj_aload_n 5 dL_law__704 rfl ?_
      refine xj_iconst (z := 0) dL_law__705 (by decide) ?_
      refine xj_lald0 (z := (jL (m9 92 0 0) (m9 92 0 1))) dL_law__706 rfl ?_
      refine xj_iload 0 dL_law__707 rfl ?_
      refine xj_i2l dL_law__709 ?_
      refine xj_lcmp dL_law__710 ?_
      refine xj_if_eq (tgt := 716) dL_law__711 (by decide) (fun c13 => ?_) (fun c13 => ?_)
      · rw [if_pos c13] at h
        refine xj_goto (tgt := 2347) dL_law__716 (by decide) ?_
        refine xj_iinc (z := x4 + 10) (ls' := [(4, vI (x4 + 10)), (6, vI z10), (5, vI z3), (0, vR 100 0), (1, vR 11 0), (2, vR 12 0), (3, vR 92 0)]) 6 dL_law__2347 rfl rfl (by decide) rfl ?_
        refine xj_goto (tgt := 23) dL_law__2350 (by decide) ?_
        cases h
        refine xj_widen (u2 := u + 120) (v2 := v + 3000) (by omega) (by omega) ?_
        refine xj_pick (ls' := [(0, vR 100 0), (1, vR 11 0), (2, vR 12 0), (3, vR 92 0), (4, vI (x4 + 10))]) [3, 4, 5, 6, 0] rfl ?_
        exact kb
      · rw [if_neg c13] at h
        cases h
  · rw [if_neg c11] at h
    cases h
noncomputable def r_L_op_10 (x4 : Int32) (m : Mem) : Option Mem :=
  if inb (x4 + 1) (m 100 1 0).toNatClampNeg = true then (if inb (x4 + 2) (m 100 1 0).toNatClampNeg = true then (bd2 (r_L_person (m 100 0 ((x4 + 1).toNatClampNeg)) (m 100 0 ((x4 + 2).toNatClampNeg)) m) fun z3 m4 => (if inb (x4 + 1) (m4 100 1 0).toNatClampNeg = true then (if inb (x4 + 2) (m4 100 1 0).toNatClampNeg = true then (bd2 (r_X12_person (m4 100 0 ((x4 + 1).toNatClampNeg)) (m4 100 0 ((x4 + 2).toNatClampNeg)) m4) fun z10 m9 => (if (r_X12_thrown m9) = z3 then (if z3 = 0 then (if (lg_cmp (jL (m9 92 0 0) (m9 92 0 1)) z10.toInt64) = 0 then (some m9) else (none)) else (some m9)) else (none))) else none) else none)) else none) else none
set_option maxHeartbeats 4000000 in
set_option maxRecDepth 20000 in
theorem ok_L_op_10 (x4 : Int32) (m : Mem) {m1 : Mem} (h : r_L_op_10 x4 m = some m1) {u v : Nat} (hu : u + 120 ≤ 601024) (hv : v + 3000 ≤ 7293034) {o : Ou} {M' : Mem} (kb : Xj RL cL_law_ 8 (some .boolean) 2048 84000 601024 7293034 (u + 120) (v + 3000) 23 [(0, vR 100 0), (1, vR 11 0), (2, vR 12 0), (3, vR 92 0), (4, vI (x4 + 10))] [] m1 o M') : Xj RL cL_law_ 8 (some .boolean) 2048 84000 601024 7293034 u v 719 [(0, vR 100 0), (1, vR 11 0), (2, vR 12 0), (3, vR 92 0), (4, vI x4)] [] m o M' := by
  unfold r_L_op_10 at h
  refine xj_aload_n 1 dL_law__719 rfl ?_
  refine xj_aload_n 0 dL_law__720 rfl ?_
  refine xj_iload 4 dL_law__721 rfl ?_
  refine xj_iconst (z := 1) dL_law__723 (by decide) ?_
  refine xj_iadd dL_law__724 ?_
  by_cases c1 : inb (x4 + 1) (m 100 1 0).toNatClampNeg = true
  case neg => rw [if_neg c1] at h; cases h
  rw [if_pos c1] at h
  refine xg_ialdS (z := (m 100 0 ((x4 + 1).toNatClampNeg))) (n := (x4 + 1).toNatClampNeg) dL_law__725 (inb_in c1) rfl rfl ?_
  refine xj_aload_n 0 dL_law__726 rfl ?_
  refine xj_iload 4 dL_law__727 rfl ?_
  refine xj_iconst (z := 2) dL_law__729 (by decide) ?_
  refine xj_iadd dL_law__730 ?_
  by_cases c2 : inb (x4 + 2) (m 100 1 0).toNatClampNeg = true
  case neg => rw [if_neg c2] at h; cases h
  rw [if_pos c2] at h
  refine xg_ialdS (z := (m 100 0 ((x4 + 2).toNatClampNeg))) (n := (x4 + 2).toNatClampNeg) dL_law__731 (inb_in c2) rfl rfl ?_
  refine xj_aload_n 3 dL_law__732 rfl ?_
  obtain ⟨z3, m4, e5, h⟩ := bd2_some h
  refine xc_Hi (st := []) (ok_L_person (m 100 0 ((x4 + 1).toNatClampNeg)) (m 100 0 ((x4 + 2).toNatClampNeg)) m e5) dL_law__733 ch_147 rfl rfl (Nat.le_of_ble_eq_true rfl) (by decide) (by decide) (by omega) (by omega) ?_
  refine xj_istore (ls' := [(5, vI z3), (0, vR 100 0), (1, vR 11 0), (2, vR 12 0), (3, vR 92 0), (4, vI x4)]) dL_law__736 (by decide) rfl ?_
  refine xj_aload_n 3 dL_law__738 rfl ?_
  refine xj_aload_n 1 dL_law__739 rfl ?_
  refine xj_iload 5 dL_law__740 rfl ?_
  refine xj_iconst (z := 1) dL_law__742 (by decide) ?_
  refine xj_iadd dL_law__743 ?_
  by_cases c6 : inb (x4 + 1) (m4 100 1 0).toNatClampNeg = true
  case neg => rw [if_neg c6] at h; cases h
  rw [if_pos c6] at h
  refine xg_ialdS (z := (m4 100 0 ((x4 + 1).toNatClampNeg))) (n := (x4 + 1).toNatClampNeg) dL_law__744 (inb_in c6) rfl rfl ?_
  refine xj_aload_n 1 dL_law__745 rfl ?_
  refine xj_iload 5 dL_law__746 rfl ?_
  refine xj_iconst (z := 2) dL_law__748 (by decide) ?_
  refine xj_iadd dL_law__749 ?_
  by_cases c7 : inb (x4 + 2) (m4 100 1 0).toNatClampNeg = true
  case neg => rw [if_neg c7] at h; cases h
  rw [if_pos c7] at h
  refine xg_ialdS (z := (m4 100 0 ((x4 + 2).toNatClampNeg))) (n := (x4 + 2).toNatClampNeg) dL_law__750 (inb_in c7) rfl rfl ?_
  obtain ⟨z10, m9, e8, h⟩ := bd2_some h
  refine xc_Vi0 (st := []) (ok_X12_person (m4 100 0 ((x4 + 1).toNatClampNeg)) (m4 100 0 ((x4 + 2).toNatClampNeg)) m4 e8) dL_law__751 cv_L_149 rfl rfl (Nat.le_of_ble_eq_true rfl) (by decide) (by decide) (by omega) (by omega) ?_
  refine xj_istore (ls' := [(6, vI z10), (5, vI z3), (0, vR 100 0), (1, vR 11 0), (2, vR 12 0), (3, vR 92 0), (4, vI x4)]) dL_law__754 (by decide) rfl ?_
  refine xj_aload_n 4 dL_law__756 rfl ?_
  refine xc_Vi0 (st := []) (ok_X12_thrown m9 rfl) dL_law__757 cv_L_116 rfl rfl (Nat.le_of_ble_eq_true rfl) (by decide) (by decide) (by omega) (by omega) ?_
  refine xj_iload 1 dL_law__760 rfl ?_
  refine xj_icmp_eq (tgt := 767) dL_law__762 (by decide) (fun c11 => ?_) (fun c11 => ?_)
  · rw [if_pos c11] at h
    refine xj_iload 1 dL_law__767 rfl ?_
    refine xj_if_ne (tgt := 784) dL_law__769 (by decide) (fun c12 => ?_) (fun c12 => ?_)
    · rw [if_neg c12] at h
      refine xj_goto (tgt := 2347) dL_law__784 (by decide) ?_
      refine xj_iinc (z := x4 + 10) (ls' := [(4, vI (x4 + 10)), (6, vI z10), (5, vI z3), (0, vR 100 0), (1, vR 11 0), (2, vR 12 0), (3, vR 92 0)]) 6 dL_law__2347 rfl rfl (by decide) rfl ?_
      refine xj_goto (tgt := 23) dL_law__2350 (by decide) ?_
      cases h
      refine xj_widen (u2 := u + 120) (v2 := v + 3000) (by omega) (by omega) ?_
      refine xj_pick (ls' := [(0, vR 100 0), (1, vR 11 0), (2, vR 12 0), (3, vR 92 0), (4, vI (x4 + 10))]) [3, 4, 5, 6, 0] rfl ?_
      exact kb
    · rw [if_pos c12] at h
      refine xj_aload_n 5 dL_law__772 rfl ?_
      refine xj_iconst (z := 0) dL_law__773 (by decide) ?_
      refine xj_lald0 (z := (jL (m9 92 0 0) (m9 92 0 1))) dL_law__774 rfl ?_
      refine xj_iload 0 dL_law__775 rfl ?_
      refine xj_i2l dL_law__777 ?_
      refine xj_lcmp dL_law__778 ?_
      refine xj_if_eq (tgt := 784) dL_law__779 (by decide) (fun c13 => ?_) (fun c13 => ?_)
      · rw [if_pos c13] at h
        refine xj_goto (tgt := 2347) dL_law__784 (by decide) ?_
        refine xj_iinc (z := x4 + 10) (ls' := [(4, vI (x4 + 10)), (6, vI z10), (5, vI z3), (0, vR 100 0), (1, vR 11 0), (2, vR 12 0), (3, vR 92 0)]) 6 dL_law__2347 rfl rfl (by decide) rfl ?_
        refine xj_goto (tgt := 23) dL_law__2350 (by decide) ?_
        cases h
        refine xj_widen (u2 := u + 120) (v2 := v + 3000) (by omega) (by omega) ?_
        refine xj_pick (ls' := [(0, vR 100 0), (1, vR 11 0), (2, vR 12 0), (3, vR 92 0), (4, vI (x4 + 10))]) [3, 4, 5, 6, 0] rfl ?_
        exact kb
      · rw [if_neg c13] at h
        cases h
  · rw [if_neg c11] at h
    cases h
noncomputable def r_L_op_11 (x4 : Int32) (m : Mem) : Option Mem :=
  if inb (x4 + 1) (m 100 1 0).toNatClampNeg = true then (if inb (x4 + 2) (m 100 1 0).toNatClampNeg = true then (bd2 (r_L_belief (m 100 0 ((x4 + 1).toNatClampNeg)) (m 100 0 ((x4 + 2).toNatClampNeg)) m) fun z3 m4 => (if inb (x4 + 1) (m4 100 1 0).toNatClampNeg = true then (if inb (x4 + 2) (m4 100 1 0).toNatClampNeg = true then (bd2 (r_X12_belief (m4 100 0 ((x4 + 1).toNatClampNeg)) (m4 100 0 ((x4 + 2).toNatClampNeg)) m4) fun z10 m9 => (if (r_X12_thrown m9) = z3 then (if z3 = 0 then (if (lg_cmp (jL (m9 92 0 0) (m9 92 0 1)) z10.toInt64) = 0 then (some m9) else (none)) else (some m9)) else (none))) else none) else none)) else none) else none
set_option maxHeartbeats 4000000 in
set_option maxRecDepth 20000 in
theorem ok_L_op_11 (x4 : Int32) (m : Mem) {m1 : Mem} (h : r_L_op_11 x4 m = some m1) {u v : Nat} (hu : u + 120 ≤ 601024) (hv : v + 3000 ≤ 7293034) {o : Ou} {M' : Mem} (kb : Xj RL cL_law_ 8 (some .boolean) 2048 84000 601024 7293034 (u + 120) (v + 3000) 23 [(0, vR 100 0), (1, vR 11 0), (2, vR 12 0), (3, vR 92 0), (4, vI (x4 + 10))] [] m1 o M') : Xj RL cL_law_ 8 (some .boolean) 2048 84000 601024 7293034 u v 787 [(0, vR 100 0), (1, vR 11 0), (2, vR 12 0), (3, vR 92 0), (4, vI x4)] [] m o M' := by
  unfold r_L_op_11 at h
  refine xj_aload_n 1 dL_law__787 rfl ?_
  refine xj_aload_n 0 dL_law__788 rfl ?_
  refine xj_iload 4 dL_law__789 rfl ?_
  refine xj_iconst (z := 1) dL_law__791 (by decide) ?_
  refine xj_iadd dL_law__792 ?_
  by_cases c1 : inb (x4 + 1) (m 100 1 0).toNatClampNeg = true
  case neg => rw [if_neg c1] at h; cases h
  rw [if_pos c1] at h
  refine xg_ialdS (z := (m 100 0 ((x4 + 1).toNatClampNeg))) (n := (x4 + 1).toNatClampNeg) dL_law__793 (inb_in c1) rfl rfl ?_
  refine xj_aload_n 0 dL_law__794 rfl ?_
  refine xj_iload 4 dL_law__795 rfl ?_
  refine xj_iconst (z := 2) dL_law__797 (by decide) ?_
  refine xj_iadd dL_law__798 ?_
  by_cases c2 : inb (x4 + 2) (m 100 1 0).toNatClampNeg = true
  case neg => rw [if_neg c2] at h; cases h
  rw [if_pos c2] at h
  refine xg_ialdS (z := (m 100 0 ((x4 + 2).toNatClampNeg))) (n := (x4 + 2).toNatClampNeg) dL_law__799 (inb_in c2) rfl rfl ?_
  refine xj_aload_n 3 dL_law__800 rfl ?_
  obtain ⟨z3, m4, e5, h⟩ := bd2_some h
  refine xc_Hi (st := []) (ok_L_belief (m 100 0 ((x4 + 1).toNatClampNeg)) (m 100 0 ((x4 + 2).toNatClampNeg)) m e5) dL_law__801 ch_150 rfl rfl (Nat.le_of_ble_eq_true rfl) (by decide) (by decide) (by omega) (by omega) ?_
  refine xj_istore (ls' := [(5, vI z3), (0, vR 100 0), (1, vR 11 0), (2, vR 12 0), (3, vR 92 0), (4, vI x4)]) dL_law__804 (by decide) rfl ?_
  refine xj_aload_n 3 dL_law__806 rfl ?_
  refine xj_aload_n 1 dL_law__807 rfl ?_
  refine xj_iload 5 dL_law__808 rfl ?_
  refine xj_iconst (z := 1) dL_law__810 (by decide) ?_
  refine xj_iadd dL_law__811 ?_
  by_cases c6 : inb (x4 + 1) (m4 100 1 0).toNatClampNeg = true
  case neg => rw [if_neg c6] at h; cases h
  rw [if_pos c6] at h
  refine xg_ialdS (z := (m4 100 0 ((x4 + 1).toNatClampNeg))) (n := (x4 + 1).toNatClampNeg) dL_law__812 (inb_in c6) rfl rfl ?_
  refine xj_aload_n 1 dL_law__813 rfl ?_
  refine xj_iload 5 dL_law__814 rfl ?_
  refine xj_iconst (z := 2) dL_law__816 (by decide) ?_
  refine xj_iadd dL_law__817 ?_
  by_cases c7 : inb (x4 + 2) (m4 100 1 0).toNatClampNeg = true
  case neg => rw [if_neg c7] at h; cases h
  rw [if_pos c7] at h
  refine xg_ialdS (z := (m4 100 0 ((x4 + 2).toNatClampNeg))) (n := (x4 + 2).toNatClampNeg) dL_law__818 (inb_in c7) rfl rfl ?_
  obtain ⟨z10, m9, e8, h⟩ := bd2_some h
  refine xc_Vi0 (st := []) (ok_X12_belief (m4 100 0 ((x4 + 1).toNatClampNeg)) (m4 100 0 ((x4 + 2).toNatClampNeg)) m4 e8) dL_law__819 cv_L_152 rfl rfl (Nat.le_of_ble_eq_true rfl) (by decide) (by decide) (by omega) (by omega) ?_
  refine xj_istore (ls' := [(6, vI z10), (5, vI z3), (0, vR 100 0), (1, vR 11 0), (2, vR 12 0), (3, vR 92 0), (4, vI x4)]) dL_law__822 (by decide) rfl ?_
  refine xj_aload_n 4 dL_law__824 rfl ?_
  refine xc_Vi0 (st := []) (ok_X12_thrown m9 rfl) dL_law__825 cv_L_116 rfl rfl (Nat.le_of_ble_eq_true rfl) (by decide) (by decide) (by omega) (by omega) ?_
  refine xj_iload 1 dL_law__828 rfl ?_
  refine xj_icmp_eq (tgt := 835) dL_law__830 (by decide) (fun c11 => ?_) (fun c11 => ?_)
  · rw [if_pos c11] at h
    refine xj_iload 1 dL_law__835 rfl ?_
    refine xj_if_ne (tgt := 852) dL_law__837 (by decide) (fun c12 => ?_) (fun c12 => ?_)
    · rw [if_neg c12] at h
      refine xj_goto (tgt := 2347) dL_law__852 (by decide) ?_
      refine xj_iinc (z := x4 + 10) (ls' := [(4, vI (x4 + 10)), (6, vI z10), (5, vI z3), (0, vR 100 0), (1, vR 11 0), (2, vR 12 0), (3, vR 92 0)]) 6 dL_law__2347 rfl rfl (by decide) rfl ?_
      refine xj_goto (tgt := 23) dL_law__2350 (by decide) ?_
      cases h
      refine xj_widen (u2 := u + 120) (v2 := v + 3000) (by omega) (by omega) ?_
      refine xj_pick (ls' := [(0, vR 100 0), (1, vR 11 0), (2, vR 12 0), (3, vR 92 0), (4, vI (x4 + 10))]) [3, 4, 5, 6, 0] rfl ?_
      exact kb
    · rw [if_pos c12] at h
      refine xj_aload_n 5 dL_law__840 rfl ?_
      refine xj_iconst (z := 0) dL_law__841 (by decide) ?_
      refine xj_lald0 (z := (jL (m9 92 0 0) (m9 92 0 1))) dL_law__842 rfl ?_
      refine xj_iload 0 dL_law__843 rfl ?_
      refine xj_i2l dL_law__845 ?_
      refine xj_lcmp dL_law__846 ?_
      refine xj_if_eq (tgt := 852) dL_law__847 (by decide) (fun c13 => ?_) (fun c13 => ?_)
      · rw [if_pos c13] at h
        refine xj_goto (tgt := 2347) dL_law__852 (by decide) ?_
        refine xj_iinc (z := x4 + 10) (ls' := [(4, vI (x4 + 10)), (6, vI z10), (5, vI z3), (0, vR 100 0), (1, vR 11 0), (2, vR 12 0), (3, vR 92 0)]) 6 dL_law__2347 rfl rfl (by decide) rfl ?_
        refine xj_goto (tgt := 23) dL_law__2350 (by decide) ?_
        cases h
        refine xj_widen (u2 := u + 120) (v2 := v + 3000) (by omega) (by omega) ?_
        refine xj_pick (ls' := [(0, vR 100 0), (1, vR 11 0), (2, vR 12 0), (3, vR 92 0), (4, vI (x4 + 10))]) [3, 4, 5, 6, 0] rfl ?_
        exact kb
      · rw [if_neg c13] at h
        cases h
  · rw [if_neg c11] at h
    cases h
noncomputable def r_L_op_12 (x4 : Int32) (m : Mem) : Option Mem :=
  if inb (x4 + 1) (m 100 1 0).toNatClampNeg = true then (if inb (x4 + 2) (m 100 1 0).toNatClampNeg = true then (bd2 (r_L_pull (m 100 0 ((x4 + 1).toNatClampNeg)) (m 100 0 ((x4 + 2).toNatClampNeg)) m) fun z3 m4 => (if inb (x4 + 1) (m4 100 1 0).toNatClampNeg = true then (if inb (x4 + 2) (m4 100 1 0).toNatClampNeg = true then (bd2 (r_X12_pull (m4 100 0 ((x4 + 1).toNatClampNeg)) (m4 100 0 ((x4 + 2).toNatClampNeg)) m4) fun z10 m9 => (if (r_X12_thrown m9) = z3 then (if z3 = 0 then (if (lg_cmp (jL (m9 92 0 0) (m9 92 0 1)) z10.toInt64) = 0 then (some m9) else (none)) else (some m9)) else (none))) else none) else none)) else none) else none
set_option maxHeartbeats 4000000 in
set_option maxRecDepth 20000 in
theorem ok_L_op_12 (x4 : Int32) (m : Mem) {m1 : Mem} (h : r_L_op_12 x4 m = some m1) {u v : Nat} (hu : u + 120 ≤ 601024) (hv : v + 3000 ≤ 7293034) {o : Ou} {M' : Mem} (kb : Xj RL cL_law_ 8 (some .boolean) 2048 84000 601024 7293034 (u + 120) (v + 3000) 23 [(0, vR 100 0), (1, vR 11 0), (2, vR 12 0), (3, vR 92 0), (4, vI (x4 + 10))] [] m1 o M') : Xj RL cL_law_ 8 (some .boolean) 2048 84000 601024 7293034 u v 855 [(0, vR 100 0), (1, vR 11 0), (2, vR 12 0), (3, vR 92 0), (4, vI x4)] [] m o M' := by
  unfold r_L_op_12 at h
  refine xj_aload_n 1 dL_law__855 rfl ?_
  refine xj_aload_n 0 dL_law__856 rfl ?_
  refine xj_iload 4 dL_law__857 rfl ?_
  refine xj_iconst (z := 1) dL_law__859 (by decide) ?_
  refine xj_iadd dL_law__860 ?_
  by_cases c1 : inb (x4 + 1) (m 100 1 0).toNatClampNeg = true
  case neg => rw [if_neg c1] at h; cases h
  rw [if_pos c1] at h
  refine xg_ialdS (z := (m 100 0 ((x4 + 1).toNatClampNeg))) (n := (x4 + 1).toNatClampNeg) dL_law__861 (inb_in c1) rfl rfl ?_
  refine xj_aload_n 0 dL_law__862 rfl ?_
  refine xj_iload 4 dL_law__863 rfl ?_
  refine xj_iconst (z := 2) dL_law__865 (by decide) ?_
  refine xj_iadd dL_law__866 ?_
  by_cases c2 : inb (x4 + 2) (m 100 1 0).toNatClampNeg = true
  case neg => rw [if_neg c2] at h; cases h
  rw [if_pos c2] at h
  refine xg_ialdS (z := (m 100 0 ((x4 + 2).toNatClampNeg))) (n := (x4 + 2).toNatClampNeg) dL_law__867 (inb_in c2) rfl rfl ?_
  refine xj_aload_n 3 dL_law__868 rfl ?_
  obtain ⟨z3, m4, e5, h⟩ := bd2_some h
  refine xc_Hi (st := []) (ok_L_pull (m 100 0 ((x4 + 1).toNatClampNeg)) (m 100 0 ((x4 + 2).toNatClampNeg)) m e5) dL_law__869 ch_153 rfl rfl (Nat.le_of_ble_eq_true rfl) (by decide) (by decide) (by omega) (by omega) ?_
  refine xj_istore (ls' := [(5, vI z3), (0, vR 100 0), (1, vR 11 0), (2, vR 12 0), (3, vR 92 0), (4, vI x4)]) dL_law__872 (by decide) rfl ?_
  refine xj_aload_n 3 dL_law__874 rfl ?_
  refine xj_aload_n 1 dL_law__875 rfl ?_
  refine xj_iload 5 dL_law__876 rfl ?_
  refine xj_iconst (z := 1) dL_law__878 (by decide) ?_
  refine xj_iadd dL_law__879 ?_
  by_cases c6 : inb (x4 + 1) (m4 100 1 0).toNatClampNeg = true
  case neg => rw [if_neg c6] at h; cases h
  rw [if_pos c6] at h
  refine xg_ialdS (z := (m4 100 0 ((x4 + 1).toNatClampNeg))) (n := (x4 + 1).toNatClampNeg) dL_law__880 (inb_in c6) rfl rfl ?_
  refine xj_aload_n 1 dL_law__881 rfl ?_
  refine xj_iload 5 dL_law__882 rfl ?_
  refine xj_iconst (z := 2) dL_law__884 (by decide) ?_
  refine xj_iadd dL_law__885 ?_
  by_cases c7 : inb (x4 + 2) (m4 100 1 0).toNatClampNeg = true
  case neg => rw [if_neg c7] at h; cases h
  rw [if_pos c7] at h
  refine xg_ialdS (z := (m4 100 0 ((x4 + 2).toNatClampNeg))) (n := (x4 + 2).toNatClampNeg) dL_law__886 (inb_in c7) rfl rfl ?_
  obtain ⟨z10, m9, e8, h⟩ := bd2_some h
  refine xc_Vi0 (st := []) (ok_X12_pull (m4 100 0 ((x4 + 1).toNatClampNeg)) (m4 100 0 ((x4 + 2).toNatClampNeg)) m4 e8) dL_law__887 cv_L_155 rfl rfl (Nat.le_of_ble_eq_true rfl) (by decide) (by decide) (by omega) (by omega) ?_
  refine xj_istore (ls' := [(6, vI z10), (5, vI z3), (0, vR 100 0), (1, vR 11 0), (2, vR 12 0), (3, vR 92 0), (4, vI x4)]) dL_law__890 (by decide) rfl ?_
  refine xj_aload_n 4 dL_law__892 rfl ?_
  refine xc_Vi0 (st := []) (ok_X12_thrown m9 rfl) dL_law__893 cv_L_116 rfl rfl (Nat.le_of_ble_eq_true rfl) (by decide) (by decide) (by omega) (by omega) ?_
  refine xj_iload 1 dL_law__896 rfl ?_
  refine xj_icmp_eq (tgt := 903) dL_law__898 (by decide) (fun c11 => ?_) (fun c11 => ?_)
  · rw [if_pos c11] at h
    refine xj_iload 1 dL_law__903 rfl ?_
    refine xj_if_ne (tgt := 920) dL_law__905 (by decide) (fun c12 => ?_) (fun c12 => ?_)
    · rw [if_neg c12] at h
      refine xj_goto (tgt := 2347) dL_law__920 (by decide) ?_
      refine xj_iinc (z := x4 + 10) (ls' := [(4, vI (x4 + 10)), (6, vI z10), (5, vI z3), (0, vR 100 0), (1, vR 11 0), (2, vR 12 0), (3, vR 92 0)]) 6 dL_law__2347 rfl rfl (by decide) rfl ?_
      refine xj_goto (tgt := 23) dL_law__2350 (by decide) ?_
      cases h
      refine xj_widen (u2 := u + 120) (v2 := v + 3000) (by omega) (by omega) ?_
      refine xj_pick (ls' := [(0, vR 100 0), (1, vR 11 0), (2, vR 12 0), (3, vR 92 0), (4, vI (x4 + 10))]) [3, 4, 5, 6, 0] rfl ?_
      exact kb
    · rw [if_pos c12] at h
      refine xj_aload_n 5 dL_law__908 rfl ?_
      refine xj_iconst (z := 0) dL_law__909 (by decide) ?_
      refine xj_lald0 (z := (jL (m9 92 0 0) (m9 92 0 1))) dL_law__910 rfl ?_
      refine xj_iload 0 dL_law__911 rfl ?_
      refine xj_i2l dL_law__913 ?_
      refine xj_lcmp dL_law__914 ?_
      refine xj_if_eq (tgt := 920) dL_law__915 (by decide) (fun c13 => ?_) (fun c13 => ?_)
      · rw [if_pos c13] at h
        refine xj_goto (tgt := 2347) dL_law__920 (by decide) ?_
        refine xj_iinc (z := x4 + 10) (ls' := [(4, vI (x4 + 10)), (6, vI z10), (5, vI z3), (0, vR 100 0), (1, vR 11 0), (2, vR 12 0), (3, vR 92 0)]) 6 dL_law__2347 rfl rfl (by decide) rfl ?_
        refine xj_goto (tgt := 23) dL_law__2350 (by decide) ?_
        cases h
        refine xj_widen (u2 := u + 120) (v2 := v + 3000) (by omega) (by omega) ?_
        refine xj_pick (ls' := [(0, vR 100 0), (1, vR 11 0), (2, vR 12 0), (3, vR 92 0), (4, vI (x4 + 10))]) [3, 4, 5, 6, 0] rfl ?_
        exact kb
      · rw [if_neg c13] at h
        cases h
  · rw [if_neg c11] at h
    cases h
noncomputable def r_L_op_13 (x4 : Int32) (m : Mem) : Option Mem :=
  if inb (x4 + 1) (m 100 1 0).toNatClampNeg = true then (if inb (x4 + 2) (m 100 1 0).toNatClampNeg = true then (if inb (x4 + 3) (m 100 1 0).toNatClampNeg = true then (if inb (x4 + 4) (m 100 1 0).toNatClampNeg = true then (if inb (x4 + 5) (m 100 1 0).toNatClampNeg = true then (if inb (x4 + 6) (m 100 1 0).toNatClampNeg = true then (if inb (x4 + 7) (m 100 1 0).toNatClampNeg = true then (if inb (x4 + 8) (m 100 1 0).toNatClampNeg = true then (if inb (x4 + 9) (m 100 1 0).toNatClampNeg = true then (bd2 (r_L_would (m 100 0 ((x4 + 1).toNatClampNeg)) (m 100 0 ((x4 + 2).toNatClampNeg)) (m 100 0 ((x4 + 3).toNatClampNeg)) (m 100 0 ((x4 + 4).toNatClampNeg)) (m 100 0 ((x4 + 5).toNatClampNeg)) (m 100 0 ((x4 + 6).toNatClampNeg)) (m 100 0 ((x4 + 7).toNatClampNeg)) (m 100 0 ((x4 + 8).toNatClampNeg)) (m 100 0 ((x4 + 9).toNatClampNeg)) m) fun z10 m11 => (if inb (x4 + 1) (m11 100 1 0).toNatClampNeg = true then (if inb (x4 + 2) (m11 100 1 0).toNatClampNeg = true then (if inb (x4 + 3) (m11 100 1 0).toNatClampNeg = true then (if inb (x4 + 4) (m11 100 1 0).toNatClampNeg = true then (if inb (x4 + 5) (m11 100 1 0).toNatClampNeg = true then (if inb (x4 + 6) (m11 100 1 0).toNatClampNeg = true then (if inb (x4 + 7) (m11 100 1 0).toNatClampNeg = true then (if inb (x4 + 8) (m11 100 1 0).toNatClampNeg = true then (if inb (x4 + 9) (m11 100 1 0).toNatClampNeg = true then (bd2 (r_X12_would (m11 100 0 ((x4 + 1).toNatClampNeg)) (m11 100 0 ((x4 + 2).toNatClampNeg)) (m11 100 0 ((x4 + 3).toNatClampNeg)) (m11 100 0 ((x4 + 4).toNatClampNeg)) (m11 100 0 ((x4 + 5).toNatClampNeg)) (m11 100 0 ((x4 + 6).toNatClampNeg)) (m11 100 0 ((x4 + 7).toNatClampNeg)) (m11 100 0 ((x4 + 8).toNatClampNeg)) (m11 100 0 ((x4 + 9).toNatClampNeg)) m11) fun z24 m23 => (if (r_X12_thrown m23) = z10 then (if z10 = 0 then (if (lg_cmp (jL (m23 92 0 0) (m23 92 0 1)) z24.toInt64) = 0 then (some m23) else (none)) else (some m23)) else (none))) else none) else none) else none) else none) else none) else none) else none) else none) else none)) else none) else none) else none) else none) else none) else none) else none) else none) else none
set_option maxHeartbeats 4000000 in
set_option maxRecDepth 20000 in
theorem ok_L_op_13 (x4 : Int32) (m : Mem) {m1 : Mem} (h : r_L_op_13 x4 m = some m1) {u v : Nat} (hu : u + 120 ≤ 601024) (hv : v + 3000 ≤ 7293034) {o : Ou} {M' : Mem} (kb : Xj RL cL_law_ 8 (some .boolean) 2048 84000 601024 7293034 (u + 120) (v + 3000) 23 [(0, vR 100 0), (1, vR 11 0), (2, vR 12 0), (3, vR 92 0), (4, vI (x4 + 10))] [] m1 o M') : Xj RL cL_law_ 8 (some .boolean) 2048 84000 601024 7293034 u v 923 [(0, vR 100 0), (1, vR 11 0), (2, vR 12 0), (3, vR 92 0), (4, vI x4)] [] m o M' := by
  unfold r_L_op_13 at h
  refine xj_aload_n 1 dL_law__923 rfl ?_
  refine xj_aload_n 0 dL_law__924 rfl ?_
  refine xj_iload 4 dL_law__925 rfl ?_
  refine xj_iconst (z := 1) dL_law__927 (by decide) ?_
  refine xj_iadd dL_law__928 ?_
  by_cases c1 : inb (x4 + 1) (m 100 1 0).toNatClampNeg = true
  case neg => rw [if_neg c1] at h; cases h
  rw [if_pos c1] at h
  refine xg_ialdS (z := (m 100 0 ((x4 + 1).toNatClampNeg))) (n := (x4 + 1).toNatClampNeg) dL_law__929 (inb_in c1) rfl rfl ?_
  refine xj_aload_n 0 dL_law__930 rfl ?_
  refine xj_iload 4 dL_law__931 rfl ?_
  refine xj_iconst (z := 2) dL_law__933 (by decide) ?_
  refine xj_iadd dL_law__934 ?_
  by_cases c2 : inb (x4 + 2) (m 100 1 0).toNatClampNeg = true
  case neg => rw [if_neg c2] at h; cases h
  rw [if_pos c2] at h
  refine xg_ialdS (z := (m 100 0 ((x4 + 2).toNatClampNeg))) (n := (x4 + 2).toNatClampNeg) dL_law__935 (inb_in c2) rfl rfl ?_
  refine xj_aload_n 0 dL_law__936 rfl ?_
  refine xj_iload 4 dL_law__937 rfl ?_
  refine xj_iconst (z := 3) dL_law__939 (by decide) ?_
  refine xj_iadd dL_law__940 ?_
  by_cases c3 : inb (x4 + 3) (m 100 1 0).toNatClampNeg = true
  case neg => rw [if_neg c3] at h; cases h
  rw [if_pos c3] at h
  refine xg_ialdS (z := (m 100 0 ((x4 + 3).toNatClampNeg))) (n := (x4 + 3).toNatClampNeg) dL_law__941 (inb_in c3) rfl rfl ?_
  refine xj_aload_n 0 dL_law__942 rfl ?_
  refine xj_iload 4 dL_law__943 rfl ?_
  refine xj_iconst (z := 4) dL_law__945 (by decide) ?_
  refine xj_iadd dL_law__946 ?_
  by_cases c4 : inb (x4 + 4) (m 100 1 0).toNatClampNeg = true
  case neg => rw [if_neg c4] at h; cases h
  rw [if_pos c4] at h
  refine xg_ialdS (z := (m 100 0 ((x4 + 4).toNatClampNeg))) (n := (x4 + 4).toNatClampNeg) dL_law__947 (inb_in c4) rfl rfl ?_
  refine xj_aload_n 0 dL_law__948 rfl ?_
  refine xj_iload 4 dL_law__949 rfl ?_
  refine xj_iconst (z := 5) dL_law__951 (by decide) ?_
  refine xj_iadd dL_law__952 ?_
  by_cases c5 : inb (x4 + 5) (m 100 1 0).toNatClampNeg = true
  case neg => rw [if_neg c5] at h; cases h
  rw [if_pos c5] at h
  refine xg_ialdS (z := (m 100 0 ((x4 + 5).toNatClampNeg))) (n := (x4 + 5).toNatClampNeg) dL_law__953 (inb_in c5) rfl rfl ?_
  refine xj_aload_n 0 dL_law__954 rfl ?_
  refine xj_iload 4 dL_law__955 rfl ?_
  refine xj_bipush (z := 6) dL_law__957 (by decide) ?_
  refine xj_iadd dL_law__959 ?_
  by_cases c6 : inb (x4 + 6) (m 100 1 0).toNatClampNeg = true
  case neg => rw [if_neg c6] at h; cases h
  rw [if_pos c6] at h
  refine xg_ialdS (z := (m 100 0 ((x4 + 6).toNatClampNeg))) (n := (x4 + 6).toNatClampNeg) dL_law__960 (inb_in c6) rfl rfl ?_
  refine xj_aload_n 0 dL_law__961 rfl ?_
  refine xj_iload 4 dL_law__962 rfl ?_
  refine xj_bipush (z := 7) dL_law__964 (by decide) ?_
  refine xj_iadd dL_law__966 ?_
  by_cases c7 : inb (x4 + 7) (m 100 1 0).toNatClampNeg = true
  case neg => rw [if_neg c7] at h; cases h
  rw [if_pos c7] at h
  refine xg_ialdS (z := (m 100 0 ((x4 + 7).toNatClampNeg))) (n := (x4 + 7).toNatClampNeg) dL_law__967 (inb_in c7) rfl rfl ?_
  refine xj_aload_n 0 dL_law__968 rfl ?_
  refine xj_iload 4 dL_law__969 rfl ?_
  refine xj_bipush (z := 8) dL_law__971 (by decide) ?_
  refine xj_iadd dL_law__973 ?_
  by_cases c8 : inb (x4 + 8) (m 100 1 0).toNatClampNeg = true
  case neg => rw [if_neg c8] at h; cases h
  rw [if_pos c8] at h
  refine xg_ialdS (z := (m 100 0 ((x4 + 8).toNatClampNeg))) (n := (x4 + 8).toNatClampNeg) dL_law__974 (inb_in c8) rfl rfl ?_
  refine xj_aload_n 0 dL_law__975 rfl ?_
  refine xj_iload 4 dL_law__976 rfl ?_
  refine xj_bipush (z := 9) dL_law__978 (by decide) ?_
  refine xj_iadd dL_law__980 ?_
  by_cases c9 : inb (x4 + 9) (m 100 1 0).toNatClampNeg = true
  case neg => rw [if_neg c9] at h; cases h
  rw [if_pos c9] at h
  refine xg_ialdS (z := (m 100 0 ((x4 + 9).toNatClampNeg))) (n := (x4 + 9).toNatClampNeg) dL_law__981 (inb_in c9) rfl rfl ?_
  refine xj_aload_n 3 dL_law__982 rfl ?_
  obtain ⟨z10, m11, e12, h⟩ := bd2_some h
  refine xc_Hi (st := []) (ok_L_would (m 100 0 ((x4 + 1).toNatClampNeg)) (m 100 0 ((x4 + 2).toNatClampNeg)) (m 100 0 ((x4 + 3).toNatClampNeg)) (m 100 0 ((x4 + 4).toNatClampNeg)) (m 100 0 ((x4 + 5).toNatClampNeg)) (m 100 0 ((x4 + 6).toNatClampNeg)) (m 100 0 ((x4 + 7).toNatClampNeg)) (m 100 0 ((x4 + 8).toNatClampNeg)) (m 100 0 ((x4 + 9).toNatClampNeg)) m e12) dL_law__983 ch_156 rfl rfl (Nat.le_of_ble_eq_true rfl) (by decide) (by decide) (by omega) (by omega) ?_
  refine xj_istore (ls' := [(5, vI z10), (0, vR 100 0), (1, vR 11 0), (2, vR 12 0), (3, vR 92 0), (4, vI x4)]) dL_law__986 (by decide) rfl ?_
  refine xj_aload_n 3 dL_law__988 rfl ?_
  refine xj_aload_n 1 dL_law__989 rfl ?_
  refine xj_iload 5 dL_law__990 rfl ?_
  refine xj_iconst (z := 1) dL_law__992 (by decide) ?_
  refine xj_iadd dL_law__993 ?_
  by_cases c13 : inb (x4 + 1) (m11 100 1 0).toNatClampNeg = true
  case neg => rw [if_neg c13] at h; cases h
  rw [if_pos c13] at h
  refine xg_ialdS (z := (m11 100 0 ((x4 + 1).toNatClampNeg))) (n := (x4 + 1).toNatClampNeg) dL_law__994 (inb_in c13) rfl rfl ?_
  refine xj_aload_n 1 dL_law__995 rfl ?_
  refine xj_iload 5 dL_law__996 rfl ?_
  refine xj_iconst (z := 2) dL_law__998 (by decide) ?_
  refine xj_iadd dL_law__999 ?_
  by_cases c14 : inb (x4 + 2) (m11 100 1 0).toNatClampNeg = true
  case neg => rw [if_neg c14] at h; cases h
  rw [if_pos c14] at h
  refine xg_ialdS (z := (m11 100 0 ((x4 + 2).toNatClampNeg))) (n := (x4 + 2).toNatClampNeg) dL_law__1000 (inb_in c14) rfl rfl ?_
  refine xj_aload_n 1 dL_law__1001 rfl ?_
  refine xj_iload 5 dL_law__1002 rfl ?_
  refine xj_iconst (z := 3) dL_law__1004 (by decide) ?_
  refine xj_iadd dL_law__1005 ?_
  by_cases c15 : inb (x4 + 3) (m11 100 1 0).toNatClampNeg = true
  case neg => rw [if_neg c15] at h; cases h
  rw [if_pos c15] at h
  refine xg_ialdS (z := (m11 100 0 ((x4 + 3).toNatClampNeg))) (n := (x4 + 3).toNatClampNeg) dL_law__1006 (inb_in c15) rfl rfl ?_
  refine xj_aload_n 1 dL_law__1007 rfl ?_
  refine xj_iload 5 dL_law__1008 rfl ?_
  refine xj_iconst (z := 4) dL_law__1010 (by decide) ?_
  refine xj_iadd dL_law__1011 ?_
  by_cases c16 : inb (x4 + 4) (m11 100 1 0).toNatClampNeg = true
  case neg => rw [if_neg c16] at h; cases h
  rw [if_pos c16] at h
  refine xg_ialdS (z := (m11 100 0 ((x4 + 4).toNatClampNeg))) (n := (x4 + 4).toNatClampNeg) dL_law__1012 (inb_in c16) rfl rfl ?_
  refine xj_aload_n 1 dL_law__1013 rfl ?_
  refine xj_iload 5 dL_law__1014 rfl ?_
  refine xj_iconst (z := 5) dL_law__1016 (by decide) ?_
  refine xj_iadd dL_law__1017 ?_
  by_cases c17 : inb (x4 + 5) (m11 100 1 0).toNatClampNeg = true
  case neg => rw [if_neg c17] at h; cases h
  rw [if_pos c17] at h
  refine xg_ialdS (z := (m11 100 0 ((x4 + 5).toNatClampNeg))) (n := (x4 + 5).toNatClampNeg) dL_law__1018 (inb_in c17) rfl rfl ?_
  refine xj_aload_n 1 dL_law__1019 rfl ?_
  refine xj_iload 5 dL_law__1020 rfl ?_
  refine xj_bipush (z := 6) dL_law__1022 (by decide) ?_
  refine xj_iadd dL_law__1024 ?_
  by_cases c18 : inb (x4 + 6) (m11 100 1 0).toNatClampNeg = true
  case neg => rw [if_neg c18] at h; cases h
  rw [if_pos c18] at h
  refine xg_ialdS (z := (m11 100 0 ((x4 + 6).toNatClampNeg))) (n := (x4 + 6).toNatClampNeg) dL_law__1025 (inb_in c18) rfl rfl ?_
  refine xj_aload_n 1 dL_law__1026 rfl ?_
  refine xj_iload 5 dL_law__1027 rfl ?_
  refine xj_bipush (z := 7) dL_law__1029 (by decide) ?_
  refine xj_iadd dL_law__1031 ?_
  by_cases c19 : inb (x4 + 7) (m11 100 1 0).toNatClampNeg = true
  case neg => rw [if_neg c19] at h; cases h
  rw [if_pos c19] at h
  refine xg_ialdS (z := (m11 100 0 ((x4 + 7).toNatClampNeg))) (n := (x4 + 7).toNatClampNeg) dL_law__1032 (inb_in c19) rfl rfl ?_
  refine xj_aload_n 1 dL_law__1033 rfl ?_
  refine xj_iload 5 dL_law__1034 rfl ?_
  refine xj_bipush (z := 8) dL_law__1036 (by decide) ?_
  refine xj_iadd dL_law__1038 ?_
  by_cases c20 : inb (x4 + 8) (m11 100 1 0).toNatClampNeg = true
  case neg => rw [if_neg c20] at h; cases h
  rw [if_pos c20] at h
  refine xg_ialdS (z := (m11 100 0 ((x4 + 8).toNatClampNeg))) (n := (x4 + 8).toNatClampNeg) dL_law__1039 (inb_in c20) rfl rfl ?_
  refine xj_aload_n 1 dL_law__1040 rfl ?_
  refine xj_iload 5 dL_law__1041 rfl ?_
  refine xj_bipush (z := 9) dL_law__1043 (by decide) ?_
  refine xj_iadd dL_law__1045 ?_
  by_cases c21 : inb (x4 + 9) (m11 100 1 0).toNatClampNeg = true
  case neg => rw [if_neg c21] at h; cases h
  rw [if_pos c21] at h
  refine xg_ialdS (z := (m11 100 0 ((x4 + 9).toNatClampNeg))) (n := (x4 + 9).toNatClampNeg) dL_law__1046 (inb_in c21) rfl rfl ?_
  obtain ⟨z24, m23, e22, h⟩ := bd2_some h
  refine xc_Vi0 (st := []) (ok_X12_would (m11 100 0 ((x4 + 1).toNatClampNeg)) (m11 100 0 ((x4 + 2).toNatClampNeg)) (m11 100 0 ((x4 + 3).toNatClampNeg)) (m11 100 0 ((x4 + 4).toNatClampNeg)) (m11 100 0 ((x4 + 5).toNatClampNeg)) (m11 100 0 ((x4 + 6).toNatClampNeg)) (m11 100 0 ((x4 + 7).toNatClampNeg)) (m11 100 0 ((x4 + 8).toNatClampNeg)) (m11 100 0 ((x4 + 9).toNatClampNeg)) m11 e22) dL_law__1047 cv_L_159 rfl rfl (Nat.le_of_ble_eq_true rfl) (by decide) (by decide) (by omega) (by omega) ?_
  refine xj_istore (ls' := [(6, vI z24), (5, vI z10), (0, vR 100 0), (1, vR 11 0), (2, vR 12 0), (3, vR 92 0), (4, vI x4)]) dL_law__1050 (by decide) rfl ?_
  refine xj_aload_n 4 dL_law__1052 rfl ?_
  refine xc_Vi0 (st := []) (ok_X12_thrown m23 rfl) dL_law__1053 cv_L_116 rfl rfl (Nat.le_of_ble_eq_true rfl) (by decide) (by decide) (by omega) (by omega) ?_
  refine xj_iload 1 dL_law__1056 rfl ?_
  refine xj_icmp_eq (tgt := 1063) dL_law__1058 (by decide) (fun c25 => ?_) (fun c25 => ?_)
  · rw [if_pos c25] at h
    refine xj_iload 1 dL_law__1063 rfl ?_
    refine xj_if_ne (tgt := 1080) dL_law__1065 (by decide) (fun c26 => ?_) (fun c26 => ?_)
    · rw [if_neg c26] at h
      refine xj_goto (tgt := 2347) dL_law__1080 (by decide) ?_
      refine xj_iinc (z := x4 + 10) (ls' := [(4, vI (x4 + 10)), (6, vI z24), (5, vI z10), (0, vR 100 0), (1, vR 11 0), (2, vR 12 0), (3, vR 92 0)]) 6 dL_law__2347 rfl rfl (by decide) rfl ?_
      refine xj_goto (tgt := 23) dL_law__2350 (by decide) ?_
      cases h
      refine xj_widen (u2 := u + 120) (v2 := v + 3000) (by omega) (by omega) ?_
      refine xj_pick (ls' := [(0, vR 100 0), (1, vR 11 0), (2, vR 12 0), (3, vR 92 0), (4, vI (x4 + 10))]) [3, 4, 5, 6, 0] rfl ?_
      exact kb
    · rw [if_pos c26] at h
      refine xj_aload_n 5 dL_law__1068 rfl ?_
      refine xj_iconst (z := 0) dL_law__1069 (by decide) ?_
      refine xj_lald0 (z := (jL (m23 92 0 0) (m23 92 0 1))) dL_law__1070 rfl ?_
      refine xj_iload 0 dL_law__1071 rfl ?_
      refine xj_i2l dL_law__1073 ?_
      refine xj_lcmp dL_law__1074 ?_
      refine xj_if_eq (tgt := 1080) dL_law__1075 (by decide) (fun c27 => ?_) (fun c27 => ?_)
      · rw [if_pos c27] at h
        refine xj_goto (tgt := 2347) dL_law__1080 (by decide) ?_
        refine xj_iinc (z := x4 + 10) (ls' := [(4, vI (x4 + 10)), (6, vI z24), (5, vI z10), (0, vR 100 0), (1, vR 11 0), (2, vR 12 0), (3, vR 92 0)]) 6 dL_law__2347 rfl rfl (by decide) rfl ?_
        refine xj_goto (tgt := 23) dL_law__2350 (by decide) ?_
        cases h
        refine xj_widen (u2 := u + 120) (v2 := v + 3000) (by omega) (by omega) ?_
        refine xj_pick (ls' := [(0, vR 100 0), (1, vR 11 0), (2, vR 12 0), (3, vR 92 0), (4, vI (x4 + 10))]) [3, 4, 5, 6, 0] rfl ?_
        exact kb
      · rw [if_neg c27] at h
        cases h
  · rw [if_neg c25] at h
    cases h
noncomputable def r_L_op_14 (x4 : Int32) (m : Mem) : Option Mem :=
  if inb (x4 + 1) (m 100 1 0).toNatClampNeg = true then (bd2 (r_L_course (m 100 0 ((x4 + 1).toNatClampNeg)) m) fun z2 m3 => (if inb (x4 + 1) (m3 100 1 0).toNatClampNeg = true then (bd2 (r_X12_course (m3 100 0 ((x4 + 1).toNatClampNeg)) m3) fun z8 m7 => (if (r_X12_thrown m7) = z2 then (if z2 = 0 then (if (lg_cmp (jL (m7 92 0 0) (m7 92 0 1)) z8.toInt64) = 0 then (some m7) else (none)) else (some m7)) else (none))) else none)) else none
set_option maxHeartbeats 4000000 in
set_option maxRecDepth 20000 in
theorem ok_L_op_14 (x4 : Int32) (m : Mem) {m1 : Mem} (h : r_L_op_14 x4 m = some m1) {u v : Nat} (hu : u + 120 ≤ 601024) (hv : v + 3000 ≤ 7293034) {o : Ou} {M' : Mem} (kb : Xj RL cL_law_ 8 (some .boolean) 2048 84000 601024 7293034 (u + 120) (v + 3000) 23 [(0, vR 100 0), (1, vR 11 0), (2, vR 12 0), (3, vR 92 0), (4, vI (x4 + 10))] [] m1 o M') : Xj RL cL_law_ 8 (some .boolean) 2048 84000 601024 7293034 u v 1083 [(0, vR 100 0), (1, vR 11 0), (2, vR 12 0), (3, vR 92 0), (4, vI x4)] [] m o M' := by
  unfold r_L_op_14 at h
  refine xj_aload_n 1 dL_law__1083 rfl ?_
  refine xj_aload_n 0 dL_law__1084 rfl ?_
  refine xj_iload 4 dL_law__1085 rfl ?_
  refine xj_iconst (z := 1) dL_law__1087 (by decide) ?_
  refine xj_iadd dL_law__1088 ?_
  by_cases c1 : inb (x4 + 1) (m 100 1 0).toNatClampNeg = true
  case neg => rw [if_neg c1] at h; cases h
  rw [if_pos c1] at h
  refine xg_ialdS (z := (m 100 0 ((x4 + 1).toNatClampNeg))) (n := (x4 + 1).toNatClampNeg) dL_law__1089 (inb_in c1) rfl rfl ?_
  refine xj_aload_n 3 dL_law__1090 rfl ?_
  obtain ⟨z2, m3, e4, h⟩ := bd2_some h
  refine xc_Hi (st := []) (ok_L_course (m 100 0 ((x4 + 1).toNatClampNeg)) m e4) dL_law__1091 ch_160 rfl rfl (Nat.le_of_ble_eq_true rfl) (by decide) (by decide) (by omega) (by omega) ?_
  refine xj_istore (ls' := [(5, vI z2), (0, vR 100 0), (1, vR 11 0), (2, vR 12 0), (3, vR 92 0), (4, vI x4)]) dL_law__1094 (by decide) rfl ?_
  refine xj_aload_n 3 dL_law__1096 rfl ?_
  refine xj_aload_n 1 dL_law__1097 rfl ?_
  refine xj_iload 5 dL_law__1098 rfl ?_
  refine xj_iconst (z := 1) dL_law__1100 (by decide) ?_
  refine xj_iadd dL_law__1101 ?_
  by_cases c5 : inb (x4 + 1) (m3 100 1 0).toNatClampNeg = true
  case neg => rw [if_neg c5] at h; cases h
  rw [if_pos c5] at h
  refine xg_ialdS (z := (m3 100 0 ((x4 + 1).toNatClampNeg))) (n := (x4 + 1).toNatClampNeg) dL_law__1102 (inb_in c5) rfl rfl ?_
  obtain ⟨z8, m7, e6, h⟩ := bd2_some h
  refine xc_Vi0 (st := []) (ok_X12_course (m3 100 0 ((x4 + 1).toNatClampNeg)) m3 e6) dL_law__1103 cv_L_162 rfl rfl (Nat.le_of_ble_eq_true rfl) (by decide) (by decide) (by omega) (by omega) ?_
  refine xj_istore (ls' := [(6, vI z8), (5, vI z2), (0, vR 100 0), (1, vR 11 0), (2, vR 12 0), (3, vR 92 0), (4, vI x4)]) dL_law__1106 (by decide) rfl ?_
  refine xj_aload_n 4 dL_law__1108 rfl ?_
  refine xc_Vi0 (st := []) (ok_X12_thrown m7 rfl) dL_law__1109 cv_L_116 rfl rfl (Nat.le_of_ble_eq_true rfl) (by decide) (by decide) (by omega) (by omega) ?_
  refine xj_iload 1 dL_law__1112 rfl ?_
  refine xj_icmp_eq (tgt := 1119) dL_law__1114 (by decide) (fun c9 => ?_) (fun c9 => ?_)
  · rw [if_pos c9] at h
    refine xj_iload 1 dL_law__1119 rfl ?_
    refine xj_if_ne (tgt := 1136) dL_law__1121 (by decide) (fun c10 => ?_) (fun c10 => ?_)
    · rw [if_neg c10] at h
      refine xj_goto (tgt := 2347) dL_law__1136 (by decide) ?_
      refine xj_iinc (z := x4 + 10) (ls' := [(4, vI (x4 + 10)), (6, vI z8), (5, vI z2), (0, vR 100 0), (1, vR 11 0), (2, vR 12 0), (3, vR 92 0)]) 6 dL_law__2347 rfl rfl (by decide) rfl ?_
      refine xj_goto (tgt := 23) dL_law__2350 (by decide) ?_
      cases h
      refine xj_widen (u2 := u + 120) (v2 := v + 3000) (by omega) (by omega) ?_
      refine xj_pick (ls' := [(0, vR 100 0), (1, vR 11 0), (2, vR 12 0), (3, vR 92 0), (4, vI (x4 + 10))]) [3, 4, 5, 6, 0] rfl ?_
      exact kb
    · rw [if_pos c10] at h
      refine xj_aload_n 5 dL_law__1124 rfl ?_
      refine xj_iconst (z := 0) dL_law__1125 (by decide) ?_
      refine xj_lald0 (z := (jL (m7 92 0 0) (m7 92 0 1))) dL_law__1126 rfl ?_
      refine xj_iload 0 dL_law__1127 rfl ?_
      refine xj_i2l dL_law__1129 ?_
      refine xj_lcmp dL_law__1130 ?_
      refine xj_if_eq (tgt := 1136) dL_law__1131 (by decide) (fun c11 => ?_) (fun c11 => ?_)
      · rw [if_pos c11] at h
        refine xj_goto (tgt := 2347) dL_law__1136 (by decide) ?_
        refine xj_iinc (z := x4 + 10) (ls' := [(4, vI (x4 + 10)), (6, vI z8), (5, vI z2), (0, vR 100 0), (1, vR 11 0), (2, vR 12 0), (3, vR 92 0)]) 6 dL_law__2347 rfl rfl (by decide) rfl ?_
        refine xj_goto (tgt := 23) dL_law__2350 (by decide) ?_
        cases h
        refine xj_widen (u2 := u + 120) (v2 := v + 3000) (by omega) (by omega) ?_
        refine xj_pick (ls' := [(0, vR 100 0), (1, vR 11 0), (2, vR 12 0), (3, vR 92 0), (4, vI (x4 + 10))]) [3, 4, 5, 6, 0] rfl ?_
        exact kb
      · rw [if_neg c11] at h
        cases h
  · rw [if_neg c9] at h
    cases h
noncomputable def r_L_op_15 (x4 : Int32) (m : Mem) : Option Mem :=
  if inb (x4 + 1) (m 100 1 0).toNatClampNeg = true then (if inb (x4 + 2) (m 100 1 0).toNatClampNeg = true then (bd2 (r_L_ahead (m 100 0 ((x4 + 1).toNatClampNeg)) (m 100 0 ((x4 + 2).toNatClampNeg)) m) fun z3 m4 => (if inb (x4 + 1) (m4 100 1 0).toNatClampNeg = true then (if inb (x4 + 2) (m4 100 1 0).toNatClampNeg = true then (bd2 (r_X12_ahead (m4 100 0 ((x4 + 1).toNatClampNeg)) (m4 100 0 ((x4 + 2).toNatClampNeg)) m4) fun z10 m9 => (if (r_X12_thrown m9) = z3 then (if z3 = 0 then (if (lg_cmp (jL (m9 92 0 0) (m9 92 0 1)) z10.toInt64) = 0 then (some m9) else (none)) else (some m9)) else (none))) else none) else none)) else none) else none
set_option maxHeartbeats 4000000 in
set_option maxRecDepth 20000 in
theorem ok_L_op_15 (x4 : Int32) (m : Mem) {m1 : Mem} (h : r_L_op_15 x4 m = some m1) {u v : Nat} (hu : u + 120 ≤ 601024) (hv : v + 3000 ≤ 7293034) {o : Ou} {M' : Mem} (kb : Xj RL cL_law_ 8 (some .boolean) 2048 84000 601024 7293034 (u + 120) (v + 3000) 23 [(0, vR 100 0), (1, vR 11 0), (2, vR 12 0), (3, vR 92 0), (4, vI (x4 + 10))] [] m1 o M') : Xj RL cL_law_ 8 (some .boolean) 2048 84000 601024 7293034 u v 1139 [(0, vR 100 0), (1, vR 11 0), (2, vR 12 0), (3, vR 92 0), (4, vI x4)] [] m o M' := by
  unfold r_L_op_15 at h
  refine xj_aload_n 1 dL_law__1139 rfl ?_
  refine xj_aload_n 0 dL_law__1140 rfl ?_
  refine xj_iload 4 dL_law__1141 rfl ?_
  refine xj_iconst (z := 1) dL_law__1143 (by decide) ?_
  refine xj_iadd dL_law__1144 ?_
  by_cases c1 : inb (x4 + 1) (m 100 1 0).toNatClampNeg = true
  case neg => rw [if_neg c1] at h; cases h
  rw [if_pos c1] at h
  refine xg_ialdS (z := (m 100 0 ((x4 + 1).toNatClampNeg))) (n := (x4 + 1).toNatClampNeg) dL_law__1145 (inb_in c1) rfl rfl ?_
  refine xj_aload_n 0 dL_law__1146 rfl ?_
  refine xj_iload 4 dL_law__1147 rfl ?_
  refine xj_iconst (z := 2) dL_law__1149 (by decide) ?_
  refine xj_iadd dL_law__1150 ?_
  by_cases c2 : inb (x4 + 2) (m 100 1 0).toNatClampNeg = true
  case neg => rw [if_neg c2] at h; cases h
  rw [if_pos c2] at h
  refine xg_ialdS (z := (m 100 0 ((x4 + 2).toNatClampNeg))) (n := (x4 + 2).toNatClampNeg) dL_law__1151 (inb_in c2) rfl rfl ?_
  refine xj_aload_n 3 dL_law__1152 rfl ?_
  obtain ⟨z3, m4, e5, h⟩ := bd2_some h
  refine xc_Hi (st := []) (ok_L_ahead (m 100 0 ((x4 + 1).toNatClampNeg)) (m 100 0 ((x4 + 2).toNatClampNeg)) m e5) dL_law__1153 ch_163 rfl rfl (Nat.le_of_ble_eq_true rfl) (by decide) (by decide) (by omega) (by omega) ?_
  refine xj_istore (ls' := [(5, vI z3), (0, vR 100 0), (1, vR 11 0), (2, vR 12 0), (3, vR 92 0), (4, vI x4)]) dL_law__1156 (by decide) rfl ?_
  refine xj_aload_n 3 dL_law__1158 rfl ?_
  refine xj_aload_n 1 dL_law__1159 rfl ?_
  refine xj_iload 5 dL_law__1160 rfl ?_
  refine xj_iconst (z := 1) dL_law__1162 (by decide) ?_
  refine xj_iadd dL_law__1163 ?_
  by_cases c6 : inb (x4 + 1) (m4 100 1 0).toNatClampNeg = true
  case neg => rw [if_neg c6] at h; cases h
  rw [if_pos c6] at h
  refine xg_ialdS (z := (m4 100 0 ((x4 + 1).toNatClampNeg))) (n := (x4 + 1).toNatClampNeg) dL_law__1164 (inb_in c6) rfl rfl ?_
  refine xj_aload_n 1 dL_law__1165 rfl ?_
  refine xj_iload 5 dL_law__1166 rfl ?_
  refine xj_iconst (z := 2) dL_law__1168 (by decide) ?_
  refine xj_iadd dL_law__1169 ?_
  by_cases c7 : inb (x4 + 2) (m4 100 1 0).toNatClampNeg = true
  case neg => rw [if_neg c7] at h; cases h
  rw [if_pos c7] at h
  refine xg_ialdS (z := (m4 100 0 ((x4 + 2).toNatClampNeg))) (n := (x4 + 2).toNatClampNeg) dL_law__1170 (inb_in c7) rfl rfl ?_
  obtain ⟨z10, m9, e8, h⟩ := bd2_some h
  refine xc_Vi0 (st := []) (ok_X12_ahead (m4 100 0 ((x4 + 1).toNatClampNeg)) (m4 100 0 ((x4 + 2).toNatClampNeg)) m4 e8) dL_law__1171 cv_L_165 rfl rfl (Nat.le_of_ble_eq_true rfl) (by decide) (by decide) (by omega) (by omega) ?_
  refine xj_istore (ls' := [(6, vI z10), (5, vI z3), (0, vR 100 0), (1, vR 11 0), (2, vR 12 0), (3, vR 92 0), (4, vI x4)]) dL_law__1174 (by decide) rfl ?_
  refine xj_aload_n 4 dL_law__1176 rfl ?_
  refine xc_Vi0 (st := []) (ok_X12_thrown m9 rfl) dL_law__1177 cv_L_116 rfl rfl (Nat.le_of_ble_eq_true rfl) (by decide) (by decide) (by omega) (by omega) ?_
  refine xj_iload 1 dL_law__1180 rfl ?_
  refine xj_icmp_eq (tgt := 1187) dL_law__1182 (by decide) (fun c11 => ?_) (fun c11 => ?_)
  · rw [if_pos c11] at h
    refine xj_iload 1 dL_law__1187 rfl ?_
    refine xj_if_ne (tgt := 1204) dL_law__1189 (by decide) (fun c12 => ?_) (fun c12 => ?_)
    · rw [if_neg c12] at h
      refine xj_goto (tgt := 2347) dL_law__1204 (by decide) ?_
      refine xj_iinc (z := x4 + 10) (ls' := [(4, vI (x4 + 10)), (6, vI z10), (5, vI z3), (0, vR 100 0), (1, vR 11 0), (2, vR 12 0), (3, vR 92 0)]) 6 dL_law__2347 rfl rfl (by decide) rfl ?_
      refine xj_goto (tgt := 23) dL_law__2350 (by decide) ?_
      cases h
      refine xj_widen (u2 := u + 120) (v2 := v + 3000) (by omega) (by omega) ?_
      refine xj_pick (ls' := [(0, vR 100 0), (1, vR 11 0), (2, vR 12 0), (3, vR 92 0), (4, vI (x4 + 10))]) [3, 4, 5, 6, 0] rfl ?_
      exact kb
    · rw [if_pos c12] at h
      refine xj_aload_n 5 dL_law__1192 rfl ?_
      refine xj_iconst (z := 0) dL_law__1193 (by decide) ?_
      refine xj_lald0 (z := (jL (m9 92 0 0) (m9 92 0 1))) dL_law__1194 rfl ?_
      refine xj_iload 0 dL_law__1195 rfl ?_
      refine xj_i2l dL_law__1197 ?_
      refine xj_lcmp dL_law__1198 ?_
      refine xj_if_eq (tgt := 1204) dL_law__1199 (by decide) (fun c13 => ?_) (fun c13 => ?_)
      · rw [if_pos c13] at h
        refine xj_goto (tgt := 2347) dL_law__1204 (by decide) ?_
        refine xj_iinc (z := x4 + 10) (ls' := [(4, vI (x4 + 10)), (6, vI z10), (5, vI z3), (0, vR 100 0), (1, vR 11 0), (2, vR 12 0), (3, vR 92 0)]) 6 dL_law__2347 rfl rfl (by decide) rfl ?_
        refine xj_goto (tgt := 23) dL_law__2350 (by decide) ?_
        cases h
        refine xj_widen (u2 := u + 120) (v2 := v + 3000) (by omega) (by omega) ?_
        refine xj_pick (ls' := [(0, vR 100 0), (1, vR 11 0), (2, vR 12 0), (3, vR 92 0), (4, vI (x4 + 10))]) [3, 4, 5, 6, 0] rfl ?_
        exact kb
      · rw [if_neg c13] at h
        cases h
  · rw [if_neg c11] at h
    cases h
noncomputable def r_L_op_16 (x4 : Int32) (m : Mem) : Option Mem :=
  bd2 (r_X11_stays m) fun z3 m2 => (bd2 (r_X12_stays m2) fun z6 m5 => (if z3 = z6 then (some m5) else (none)))
set_option maxHeartbeats 4000000 in
set_option maxRecDepth 20000 in
theorem ok_L_op_16 (x4 : Int32) (m : Mem) {m1 : Mem} (h : r_L_op_16 x4 m = some m1) {u v : Nat} (hu : u + 120 ≤ 601024) (hv : v + 3000 ≤ 7293034) {o : Ou} {M' : Mem} (kb : Xj RL cL_law_ 8 (some .boolean) 2048 84000 601024 7293034 (u + 120) (v + 3000) 23 [(0, vR 100 0), (1, vR 11 0), (2, vR 12 0), (3, vR 92 0), (4, vI (x4 + 10))] [] m1 o M') : Xj RL cL_law_ 8 (some .boolean) 2048 84000 601024 7293034 u v 1207 [(0, vR 100 0), (1, vR 11 0), (2, vR 12 0), (3, vR 92 0), (4, vI x4)] [] m o M' := by
  unfold r_L_op_16 at h
  refine xj_aload_n 1 dL_law__1207 rfl ?_
  obtain ⟨z3, m2, e1, h⟩ := bd2_some h
  refine xc_Vi0 (st := []) (ok_X11_stays m e1) dL_law__1208 cv_L_166 rfl rfl (Nat.le_of_ble_eq_true rfl) (by decide) (by decide) (by omega) (by omega) ?_
  refine xj_aload_n 2 dL_law__1211 rfl ?_
  obtain ⟨z6, m5, e4, h⟩ := bd2_some h
  refine xc_Vi0 (st := [vI z3]) (ok_X12_stays m2 e4) dL_law__1212 cv_L_169 rfl rfl (Nat.le_of_ble_eq_true rfl) (by decide) (by decide) (by omega) (by omega) ?_
  refine xj_icmp_eq (tgt := 2347) dL_law__1215 (by decide) (fun c7 => ?_) (fun c7 => ?_)
  · rw [if_pos c7] at h
    refine xj_iinc (z := x4 + 10) (ls' := [(4, vI (x4 + 10)), (0, vR 100 0), (1, vR 11 0), (2, vR 12 0), (3, vR 92 0)]) 4 dL_law__2347 rfl rfl (by decide) rfl ?_
    refine xj_goto (tgt := 23) dL_law__2350 (by decide) ?_
    cases h
    refine xj_widen (u2 := u + 120) (v2 := v + 3000) (by omega) (by omega) ?_
    refine xj_pick (ls' := [(0, vR 100 0), (1, vR 11 0), (2, vR 12 0), (3, vR 92 0), (4, vI (x4 + 10))]) [1, 2, 3, 4, 0] rfl ?_
    exact kb
  · rw [if_neg c7] at h
    cases h
noncomputable def r_L_op_17 (x4 : Int32) (m : Mem) : Option Mem :=
  if inb (x4 + 1) (m 100 1 0).toNatClampNeg = true then (if inb (x4 + 2) (m 100 1 0).toNatClampNeg = true then (if inb (x4 + 3) (m 100 1 0).toNatClampNeg = true then (bd2 (r_L_tellings (m 100 0 ((x4 + 1).toNatClampNeg)) (m 100 0 ((x4 + 2).toNatClampNeg)) (m 100 0 ((x4 + 3).toNatClampNeg)) m) fun z4 m5 => (if inb (x4 + 1) (m5 100 1 0).toNatClampNeg = true then (if inb (x4 + 2) (m5 100 1 0).toNatClampNeg = true then (if inb (x4 + 3) (m5 100 1 0).toNatClampNeg = true then (bd2 (r_X12_tellings (m5 100 0 ((x4 + 1).toNatClampNeg)) (m5 100 0 ((x4 + 2).toNatClampNeg)) (m5 100 0 ((x4 + 3).toNatClampNeg)) m5) fun z12 m11 => (if (r_X12_thrown m11) = z4 then (if z4 = 0 then (if (lg_cmp (jL (m11 92 0 0) (m11 92 0 1)) z12.toInt64) = 0 then (some m11) else (none)) else (some m11)) else (none))) else none) else none) else none)) else none) else none) else none
set_option maxHeartbeats 4000000 in
set_option maxRecDepth 20000 in
theorem ok_L_op_17 (x4 : Int32) (m : Mem) {m1 : Mem} (h : r_L_op_17 x4 m = some m1) {u v : Nat} (hu : u + 120 ≤ 601024) (hv : v + 3000 ≤ 7293034) {o : Ou} {M' : Mem} (kb : Xj RL cL_law_ 8 (some .boolean) 2048 84000 601024 7293034 (u + 120) (v + 3000) 23 [(0, vR 100 0), (1, vR 11 0), (2, vR 12 0), (3, vR 92 0), (4, vI (x4 + 10))] [] m1 o M') : Xj RL cL_law_ 8 (some .boolean) 2048 84000 601024 7293034 u v 1220 [(0, vR 100 0), (1, vR 11 0), (2, vR 12 0), (3, vR 92 0), (4, vI x4)] [] m o M' := by
  unfold r_L_op_17 at h
  refine xj_aload_n 1 dL_law__1220 rfl ?_
  refine xj_aload_n 0 dL_law__1221 rfl ?_
  refine xj_iload 4 dL_law__1222 rfl ?_
  refine xj_iconst (z := 1) dL_law__1224 (by decide) ?_
  refine xj_iadd dL_law__1225 ?_
  by_cases c1 : inb (x4 + 1) (m 100 1 0).toNatClampNeg = true
  case neg => rw [if_neg c1] at h; cases h
  rw [if_pos c1] at h
  refine xg_ialdS (z := (m 100 0 ((x4 + 1).toNatClampNeg))) (n := (x4 + 1).toNatClampNeg) dL_law__1226 (inb_in c1) rfl rfl ?_
  refine xj_aload_n 0 dL_law__1227 rfl ?_
  refine xj_iload 4 dL_law__1228 rfl ?_
  refine xj_iconst (z := 2) dL_law__1230 (by decide) ?_
  refine xj_iadd dL_law__1231 ?_
  by_cases c2 : inb (x4 + 2) (m 100 1 0).toNatClampNeg = true
  case neg => rw [if_neg c2] at h; cases h
  rw [if_pos c2] at h
  refine xg_ialdS (z := (m 100 0 ((x4 + 2).toNatClampNeg))) (n := (x4 + 2).toNatClampNeg) dL_law__1232 (inb_in c2) rfl rfl ?_
  refine xj_aload_n 0 dL_law__1233 rfl ?_
  refine xj_iload 4 dL_law__1234 rfl ?_
  refine xj_iconst (z := 3) dL_law__1236 (by decide) ?_
  refine xj_iadd dL_law__1237 ?_
  by_cases c3 : inb (x4 + 3) (m 100 1 0).toNatClampNeg = true
  case neg => rw [if_neg c3] at h; cases h
  rw [if_pos c3] at h
  refine xg_ialdS (z := (m 100 0 ((x4 + 3).toNatClampNeg))) (n := (x4 + 3).toNatClampNeg) dL_law__1238 (inb_in c3) rfl rfl ?_
  refine xj_aload_n 3 dL_law__1239 rfl ?_
  obtain ⟨z4, m5, e6, h⟩ := bd2_some h
  refine xc_Hi (st := []) (ok_L_tellings (m 100 0 ((x4 + 1).toNatClampNeg)) (m 100 0 ((x4 + 2).toNatClampNeg)) (m 100 0 ((x4 + 3).toNatClampNeg)) m e6) dL_law__1240 ch_170 rfl rfl (Nat.le_of_ble_eq_true rfl) (by decide) (by decide) (by omega) (by omega) ?_
  refine xj_istore (ls' := [(5, vI z4), (0, vR 100 0), (1, vR 11 0), (2, vR 12 0), (3, vR 92 0), (4, vI x4)]) dL_law__1243 (by decide) rfl ?_
  refine xj_aload_n 3 dL_law__1245 rfl ?_
  refine xj_aload_n 1 dL_law__1246 rfl ?_
  refine xj_iload 5 dL_law__1247 rfl ?_
  refine xj_iconst (z := 1) dL_law__1249 (by decide) ?_
  refine xj_iadd dL_law__1250 ?_
  by_cases c7 : inb (x4 + 1) (m5 100 1 0).toNatClampNeg = true
  case neg => rw [if_neg c7] at h; cases h
  rw [if_pos c7] at h
  refine xg_ialdS (z := (m5 100 0 ((x4 + 1).toNatClampNeg))) (n := (x4 + 1).toNatClampNeg) dL_law__1251 (inb_in c7) rfl rfl ?_
  refine xj_aload_n 1 dL_law__1252 rfl ?_
  refine xj_iload 5 dL_law__1253 rfl ?_
  refine xj_iconst (z := 2) dL_law__1255 (by decide) ?_
  refine xj_iadd dL_law__1256 ?_
  by_cases c8 : inb (x4 + 2) (m5 100 1 0).toNatClampNeg = true
  case neg => rw [if_neg c8] at h; cases h
  rw [if_pos c8] at h
  refine xg_ialdS (z := (m5 100 0 ((x4 + 2).toNatClampNeg))) (n := (x4 + 2).toNatClampNeg) dL_law__1257 (inb_in c8) rfl rfl ?_
  refine xj_aload_n 1 dL_law__1258 rfl ?_
  refine xj_iload 5 dL_law__1259 rfl ?_
  refine xj_iconst (z := 3) dL_law__1261 (by decide) ?_
  refine xj_iadd dL_law__1262 ?_
  by_cases c9 : inb (x4 + 3) (m5 100 1 0).toNatClampNeg = true
  case neg => rw [if_neg c9] at h; cases h
  rw [if_pos c9] at h
  refine xg_ialdS (z := (m5 100 0 ((x4 + 3).toNatClampNeg))) (n := (x4 + 3).toNatClampNeg) dL_law__1263 (inb_in c9) rfl rfl ?_
  obtain ⟨z12, m11, e10, h⟩ := bd2_some h
  refine xc_Vi0 (st := []) (ok_X12_tellings (m5 100 0 ((x4 + 1).toNatClampNeg)) (m5 100 0 ((x4 + 2).toNatClampNeg)) (m5 100 0 ((x4 + 3).toNatClampNeg)) m5 e10) dL_law__1264 cv_L_173 rfl rfl (Nat.le_of_ble_eq_true rfl) (by decide) (by decide) (by omega) (by omega) ?_
  refine xj_istore (ls' := [(6, vI z12), (5, vI z4), (0, vR 100 0), (1, vR 11 0), (2, vR 12 0), (3, vR 92 0), (4, vI x4)]) dL_law__1267 (by decide) rfl ?_
  refine xj_aload_n 4 dL_law__1269 rfl ?_
  refine xc_Vi0 (st := []) (ok_X12_thrown m11 rfl) dL_law__1270 cv_L_116 rfl rfl (Nat.le_of_ble_eq_true rfl) (by decide) (by decide) (by omega) (by omega) ?_
  refine xj_iload 1 dL_law__1273 rfl ?_
  refine xj_icmp_eq (tgt := 1280) dL_law__1275 (by decide) (fun c13 => ?_) (fun c13 => ?_)
  · rw [if_pos c13] at h
    refine xj_iload 1 dL_law__1280 rfl ?_
    refine xj_if_ne (tgt := 1297) dL_law__1282 (by decide) (fun c14 => ?_) (fun c14 => ?_)
    · rw [if_neg c14] at h
      refine xj_goto (tgt := 2347) dL_law__1297 (by decide) ?_
      refine xj_iinc (z := x4 + 10) (ls' := [(4, vI (x4 + 10)), (6, vI z12), (5, vI z4), (0, vR 100 0), (1, vR 11 0), (2, vR 12 0), (3, vR 92 0)]) 6 dL_law__2347 rfl rfl (by decide) rfl ?_
      refine xj_goto (tgt := 23) dL_law__2350 (by decide) ?_
      cases h
      refine xj_widen (u2 := u + 120) (v2 := v + 3000) (by omega) (by omega) ?_
      refine xj_pick (ls' := [(0, vR 100 0), (1, vR 11 0), (2, vR 12 0), (3, vR 92 0), (4, vI (x4 + 10))]) [3, 4, 5, 6, 0] rfl ?_
      exact kb
    · rw [if_pos c14] at h
      refine xj_aload_n 5 dL_law__1285 rfl ?_
      refine xj_iconst (z := 0) dL_law__1286 (by decide) ?_
      refine xj_lald0 (z := (jL (m11 92 0 0) (m11 92 0 1))) dL_law__1287 rfl ?_
      refine xj_iload 0 dL_law__1288 rfl ?_
      refine xj_i2l dL_law__1290 ?_
      refine xj_lcmp dL_law__1291 ?_
      refine xj_if_eq (tgt := 1297) dL_law__1292 (by decide) (fun c15 => ?_) (fun c15 => ?_)
      · rw [if_pos c15] at h
        refine xj_goto (tgt := 2347) dL_law__1297 (by decide) ?_
        refine xj_iinc (z := x4 + 10) (ls' := [(4, vI (x4 + 10)), (6, vI z12), (5, vI z4), (0, vR 100 0), (1, vR 11 0), (2, vR 12 0), (3, vR 92 0)]) 6 dL_law__2347 rfl rfl (by decide) rfl ?_
        refine xj_goto (tgt := 23) dL_law__2350 (by decide) ?_
        cases h
        refine xj_widen (u2 := u + 120) (v2 := v + 3000) (by omega) (by omega) ?_
        refine xj_pick (ls' := [(0, vR 100 0), (1, vR 11 0), (2, vR 12 0), (3, vR 92 0), (4, vI (x4 + 10))]) [3, 4, 5, 6, 0] rfl ?_
        exact kb
      · rw [if_neg c15] at h
        cases h
  · rw [if_neg c13] at h
    cases h
noncomputable def r_L_op_18 (x4 : Int32) (m : Mem) : Option Mem :=
  if inb (x4 + 1) (m 100 1 0).toNatClampNeg = true then (bd2 (r_L_silence (m 100 0 ((x4 + 1).toNatClampNeg)) m) fun z2 m3 => (if inb (x4 + 1) (m3 100 1 0).toNatClampNeg = true then (bd2 (r_X12_silence (m3 100 0 ((x4 + 1).toNatClampNeg)) m3) fun z8 m7 => (if (r_X12_thrown m7) = z2 then (if z2 = 0 then (if (lg_cmp (jL (m7 92 0 0) (m7 92 0 1)) z8.toInt64) = 0 then (some m7) else (none)) else (some m7)) else (none))) else none)) else none
set_option maxHeartbeats 4000000 in
set_option maxRecDepth 20000 in
theorem ok_L_op_18 (x4 : Int32) (m : Mem) {m1 : Mem} (h : r_L_op_18 x4 m = some m1) {u v : Nat} (hu : u + 120 ≤ 601024) (hv : v + 3000 ≤ 7293034) {o : Ou} {M' : Mem} (kb : Xj RL cL_law_ 8 (some .boolean) 2048 84000 601024 7293034 (u + 120) (v + 3000) 23 [(0, vR 100 0), (1, vR 11 0), (2, vR 12 0), (3, vR 92 0), (4, vI (x4 + 10))] [] m1 o M') : Xj RL cL_law_ 8 (some .boolean) 2048 84000 601024 7293034 u v 1300 [(0, vR 100 0), (1, vR 11 0), (2, vR 12 0), (3, vR 92 0), (4, vI x4)] [] m o M' := by
  unfold r_L_op_18 at h
  refine xj_aload_n 1 dL_law__1300 rfl ?_
  refine xj_aload_n 0 dL_law__1301 rfl ?_
  refine xj_iload 4 dL_law__1302 rfl ?_
  refine xj_iconst (z := 1) dL_law__1304 (by decide) ?_
  refine xj_iadd dL_law__1305 ?_
  by_cases c1 : inb (x4 + 1) (m 100 1 0).toNatClampNeg = true
  case neg => rw [if_neg c1] at h; cases h
  rw [if_pos c1] at h
  refine xg_ialdS (z := (m 100 0 ((x4 + 1).toNatClampNeg))) (n := (x4 + 1).toNatClampNeg) dL_law__1306 (inb_in c1) rfl rfl ?_
  refine xj_aload_n 3 dL_law__1307 rfl ?_
  obtain ⟨z2, m3, e4, h⟩ := bd2_some h
  refine xc_Hi (st := []) (ok_L_silence (m 100 0 ((x4 + 1).toNatClampNeg)) m e4) dL_law__1308 ch_174 rfl rfl (Nat.le_of_ble_eq_true rfl) (by decide) (by decide) (by omega) (by omega) ?_
  refine xj_istore (ls' := [(5, vI z2), (0, vR 100 0), (1, vR 11 0), (2, vR 12 0), (3, vR 92 0), (4, vI x4)]) dL_law__1311 (by decide) rfl ?_
  refine xj_aload_n 3 dL_law__1313 rfl ?_
  refine xj_aload_n 1 dL_law__1314 rfl ?_
  refine xj_iload 5 dL_law__1315 rfl ?_
  refine xj_iconst (z := 1) dL_law__1317 (by decide) ?_
  refine xj_iadd dL_law__1318 ?_
  by_cases c5 : inb (x4 + 1) (m3 100 1 0).toNatClampNeg = true
  case neg => rw [if_neg c5] at h; cases h
  rw [if_pos c5] at h
  refine xg_ialdS (z := (m3 100 0 ((x4 + 1).toNatClampNeg))) (n := (x4 + 1).toNatClampNeg) dL_law__1319 (inb_in c5) rfl rfl ?_
  obtain ⟨z8, m7, e6, h⟩ := bd2_some h
  refine xc_Vi0 (st := []) (ok_X12_silence (m3 100 0 ((x4 + 1).toNatClampNeg)) m3 e6) dL_law__1320 cv_L_176 rfl rfl (Nat.le_of_ble_eq_true rfl) (by decide) (by decide) (by omega) (by omega) ?_
  refine xj_istore (ls' := [(6, vI z8), (5, vI z2), (0, vR 100 0), (1, vR 11 0), (2, vR 12 0), (3, vR 92 0), (4, vI x4)]) dL_law__1323 (by decide) rfl ?_
  refine xj_aload_n 4 dL_law__1325 rfl ?_
  refine xc_Vi0 (st := []) (ok_X12_thrown m7 rfl) dL_law__1326 cv_L_116 rfl rfl (Nat.le_of_ble_eq_true rfl) (by decide) (by decide) (by omega) (by omega) ?_
  refine xj_iload 1 dL_law__1329 rfl ?_
  refine xj_icmp_eq (tgt := 1336) dL_law__1331 (by decide) (fun c9 => ?_) (fun c9 => ?_)
  · rw [if_pos c9] at h
    refine xj_iload 1 dL_law__1336 rfl ?_
    refine xj_if_ne (tgt := 1353) dL_law__1338 (by decide) (fun c10 => ?_) (fun c10 => ?_)
    · rw [if_neg c10] at h
      refine xj_goto (tgt := 2347) dL_law__1353 (by decide) ?_
      refine xj_iinc (z := x4 + 10) (ls' := [(4, vI (x4 + 10)), (6, vI z8), (5, vI z2), (0, vR 100 0), (1, vR 11 0), (2, vR 12 0), (3, vR 92 0)]) 6 dL_law__2347 rfl rfl (by decide) rfl ?_
      refine xj_goto (tgt := 23) dL_law__2350 (by decide) ?_
      cases h
      refine xj_widen (u2 := u + 120) (v2 := v + 3000) (by omega) (by omega) ?_
      refine xj_pick (ls' := [(0, vR 100 0), (1, vR 11 0), (2, vR 12 0), (3, vR 92 0), (4, vI (x4 + 10))]) [3, 4, 5, 6, 0] rfl ?_
      exact kb
    · rw [if_pos c10] at h
      refine xj_aload_n 5 dL_law__1341 rfl ?_
      refine xj_iconst (z := 0) dL_law__1342 (by decide) ?_
      refine xj_lald0 (z := (jL (m7 92 0 0) (m7 92 0 1))) dL_law__1343 rfl ?_
      refine xj_iload 0 dL_law__1344 rfl ?_
      refine xj_i2l dL_law__1346 ?_
      refine xj_lcmp dL_law__1347 ?_
      refine xj_if_eq (tgt := 1353) dL_law__1348 (by decide) (fun c11 => ?_) (fun c11 => ?_)
      · rw [if_pos c11] at h
        refine xj_goto (tgt := 2347) dL_law__1353 (by decide) ?_
        refine xj_iinc (z := x4 + 10) (ls' := [(4, vI (x4 + 10)), (6, vI z8), (5, vI z2), (0, vR 100 0), (1, vR 11 0), (2, vR 12 0), (3, vR 92 0)]) 6 dL_law__2347 rfl rfl (by decide) rfl ?_
        refine xj_goto (tgt := 23) dL_law__2350 (by decide) ?_
        cases h
        refine xj_widen (u2 := u + 120) (v2 := v + 3000) (by omega) (by omega) ?_
        refine xj_pick (ls' := [(0, vR 100 0), (1, vR 11 0), (2, vR 12 0), (3, vR 92 0), (4, vI (x4 + 10))]) [3, 4, 5, 6, 0] rfl ?_
        exact kb
      · rw [if_neg c11] at h
        cases h
  · rw [if_neg c9] at h
    cases h
noncomputable def r_L_op_19 (x4 : Int32) (m : Mem) : Option Mem :=
  if inb (x4 + 1) (m 100 1 0).toNatClampNeg = true then (bd2 (r_L_who (m 100 0 ((x4 + 1).toNatClampNeg)) m) fun z2 m3 => (if inb (x4 + 1) (m3 100 1 0).toNatClampNeg = true then (bd2 (r_X12_who (m3 100 0 ((x4 + 1).toNatClampNeg)) m3) fun z8 m7 => (if (r_X12_thrown m7) = z2 then (if z2 = 0 then (if (lg_cmp (jL (m7 92 0 0) (m7 92 0 1)) z8.toInt64) = 0 then (some m7) else (none)) else (some m7)) else (none))) else none)) else none
set_option maxHeartbeats 4000000 in
set_option maxRecDepth 20000 in
theorem ok_L_op_19 (x4 : Int32) (m : Mem) {m1 : Mem} (h : r_L_op_19 x4 m = some m1) {u v : Nat} (hu : u + 120 ≤ 601024) (hv : v + 3000 ≤ 7293034) {o : Ou} {M' : Mem} (kb : Xj RL cL_law_ 8 (some .boolean) 2048 84000 601024 7293034 (u + 120) (v + 3000) 23 [(0, vR 100 0), (1, vR 11 0), (2, vR 12 0), (3, vR 92 0), (4, vI (x4 + 10))] [] m1 o M') : Xj RL cL_law_ 8 (some .boolean) 2048 84000 601024 7293034 u v 1356 [(0, vR 100 0), (1, vR 11 0), (2, vR 12 0), (3, vR 92 0), (4, vI x4)] [] m o M' := by
  unfold r_L_op_19 at h
  refine xj_aload_n 1 dL_law__1356 rfl ?_
  refine xj_aload_n 0 dL_law__1357 rfl ?_
  refine xj_iload 4 dL_law__1358 rfl ?_
  refine xj_iconst (z := 1) dL_law__1360 (by decide) ?_
  refine xj_iadd dL_law__1361 ?_
  by_cases c1 : inb (x4 + 1) (m 100 1 0).toNatClampNeg = true
  case neg => rw [if_neg c1] at h; cases h
  rw [if_pos c1] at h
  refine xg_ialdS (z := (m 100 0 ((x4 + 1).toNatClampNeg))) (n := (x4 + 1).toNatClampNeg) dL_law__1362 (inb_in c1) rfl rfl ?_
  refine xj_aload_n 3 dL_law__1363 rfl ?_
  obtain ⟨z2, m3, e4, h⟩ := bd2_some h
  refine xc_Hi (st := []) (ok_L_who (m 100 0 ((x4 + 1).toNatClampNeg)) m e4) dL_law__1364 ch_177 rfl rfl (Nat.le_of_ble_eq_true rfl) (by decide) (by decide) (by omega) (by omega) ?_
  refine xj_istore (ls' := [(5, vI z2), (0, vR 100 0), (1, vR 11 0), (2, vR 12 0), (3, vR 92 0), (4, vI x4)]) dL_law__1367 (by decide) rfl ?_
  refine xj_aload_n 3 dL_law__1369 rfl ?_
  refine xj_aload_n 1 dL_law__1370 rfl ?_
  refine xj_iload 5 dL_law__1371 rfl ?_
  refine xj_iconst (z := 1) dL_law__1373 (by decide) ?_
  refine xj_iadd dL_law__1374 ?_
  by_cases c5 : inb (x4 + 1) (m3 100 1 0).toNatClampNeg = true
  case neg => rw [if_neg c5] at h; cases h
  rw [if_pos c5] at h
  refine xg_ialdS (z := (m3 100 0 ((x4 + 1).toNatClampNeg))) (n := (x4 + 1).toNatClampNeg) dL_law__1375 (inb_in c5) rfl rfl ?_
  obtain ⟨z8, m7, e6, h⟩ := bd2_some h
  refine xc_Vi0 (st := []) (ok_X12_who (m3 100 0 ((x4 + 1).toNatClampNeg)) m3 e6) dL_law__1376 cv_L_179 rfl rfl (Nat.le_of_ble_eq_true rfl) (by decide) (by decide) (by omega) (by omega) ?_
  refine xj_istore (ls' := [(6, vI z8), (5, vI z2), (0, vR 100 0), (1, vR 11 0), (2, vR 12 0), (3, vR 92 0), (4, vI x4)]) dL_law__1379 (by decide) rfl ?_
  refine xj_aload_n 4 dL_law__1381 rfl ?_
  refine xc_Vi0 (st := []) (ok_X12_thrown m7 rfl) dL_law__1382 cv_L_116 rfl rfl (Nat.le_of_ble_eq_true rfl) (by decide) (by decide) (by omega) (by omega) ?_
  refine xj_iload 1 dL_law__1385 rfl ?_
  refine xj_icmp_eq (tgt := 1392) dL_law__1387 (by decide) (fun c9 => ?_) (fun c9 => ?_)
  · rw [if_pos c9] at h
    refine xj_iload 1 dL_law__1392 rfl ?_
    refine xj_if_ne (tgt := 1409) dL_law__1394 (by decide) (fun c10 => ?_) (fun c10 => ?_)
    · rw [if_neg c10] at h
      refine xj_goto (tgt := 2347) dL_law__1409 (by decide) ?_
      refine xj_iinc (z := x4 + 10) (ls' := [(4, vI (x4 + 10)), (6, vI z8), (5, vI z2), (0, vR 100 0), (1, vR 11 0), (2, vR 12 0), (3, vR 92 0)]) 6 dL_law__2347 rfl rfl (by decide) rfl ?_
      refine xj_goto (tgt := 23) dL_law__2350 (by decide) ?_
      cases h
      refine xj_widen (u2 := u + 120) (v2 := v + 3000) (by omega) (by omega) ?_
      refine xj_pick (ls' := [(0, vR 100 0), (1, vR 11 0), (2, vR 12 0), (3, vR 92 0), (4, vI (x4 + 10))]) [3, 4, 5, 6, 0] rfl ?_
      exact kb
    · rw [if_pos c10] at h
      refine xj_aload_n 5 dL_law__1397 rfl ?_
      refine xj_iconst (z := 0) dL_law__1398 (by decide) ?_
      refine xj_lald0 (z := (jL (m7 92 0 0) (m7 92 0 1))) dL_law__1399 rfl ?_
      refine xj_iload 0 dL_law__1400 rfl ?_
      refine xj_i2l dL_law__1402 ?_
      refine xj_lcmp dL_law__1403 ?_
      refine xj_if_eq (tgt := 1409) dL_law__1404 (by decide) (fun c11 => ?_) (fun c11 => ?_)
      · rw [if_pos c11] at h
        refine xj_goto (tgt := 2347) dL_law__1409 (by decide) ?_
        refine xj_iinc (z := x4 + 10) (ls' := [(4, vI (x4 + 10)), (6, vI z8), (5, vI z2), (0, vR 100 0), (1, vR 11 0), (2, vR 12 0), (3, vR 92 0)]) 6 dL_law__2347 rfl rfl (by decide) rfl ?_
        refine xj_goto (tgt := 23) dL_law__2350 (by decide) ?_
        cases h
        refine xj_widen (u2 := u + 120) (v2 := v + 3000) (by omega) (by omega) ?_
        refine xj_pick (ls' := [(0, vR 100 0), (1, vR 11 0), (2, vR 12 0), (3, vR 92 0), (4, vI (x4 + 10))]) [3, 4, 5, 6, 0] rfl ?_
        exact kb
      · rw [if_neg c11] at h
        cases h
  · rw [if_neg c9] at h
    cases h
noncomputable def r_L_op_20 (x4 : Int32) (m : Mem) : Option Mem :=
  if inb (x4 + 1) (m 100 1 0).toNatClampNeg = true then (bd2 (r_L_look (m 100 0 ((x4 + 1).toNatClampNeg)) m) fun z2 m3 => (if inb (x4 + 1) (m3 100 1 0).toNatClampNeg = true then (bd2 (r_X12_look (m3 100 0 ((x4 + 1).toNatClampNeg)) m3) fun z8 m7 => (if (r_X12_thrown m7) = z2 then (if z2 = 0 then (if (lg_cmp (jL (m7 92 0 0) (m7 92 0 1)) z8.toInt64) = 0 then (some m7) else (none)) else (some m7)) else (none))) else none)) else none
set_option maxHeartbeats 4000000 in
set_option maxRecDepth 20000 in
theorem ok_L_op_20 (x4 : Int32) (m : Mem) {m1 : Mem} (h : r_L_op_20 x4 m = some m1) {u v : Nat} (hu : u + 120 ≤ 601024) (hv : v + 3000 ≤ 7293034) {o : Ou} {M' : Mem} (kb : Xj RL cL_law_ 8 (some .boolean) 2048 84000 601024 7293034 (u + 120) (v + 3000) 23 [(0, vR 100 0), (1, vR 11 0), (2, vR 12 0), (3, vR 92 0), (4, vI (x4 + 10))] [] m1 o M') : Xj RL cL_law_ 8 (some .boolean) 2048 84000 601024 7293034 u v 1412 [(0, vR 100 0), (1, vR 11 0), (2, vR 12 0), (3, vR 92 0), (4, vI x4)] [] m o M' := by
  unfold r_L_op_20 at h
  refine xj_aload_n 1 dL_law__1412 rfl ?_
  refine xj_aload_n 0 dL_law__1413 rfl ?_
  refine xj_iload 4 dL_law__1414 rfl ?_
  refine xj_iconst (z := 1) dL_law__1416 (by decide) ?_
  refine xj_iadd dL_law__1417 ?_
  by_cases c1 : inb (x4 + 1) (m 100 1 0).toNatClampNeg = true
  case neg => rw [if_neg c1] at h; cases h
  rw [if_pos c1] at h
  refine xg_ialdS (z := (m 100 0 ((x4 + 1).toNatClampNeg))) (n := (x4 + 1).toNatClampNeg) dL_law__1418 (inb_in c1) rfl rfl ?_
  refine xj_aload_n 3 dL_law__1419 rfl ?_
  obtain ⟨z2, m3, e4, h⟩ := bd2_some h
  refine xc_Hi (st := []) (ok_L_look (m 100 0 ((x4 + 1).toNatClampNeg)) m e4) dL_law__1420 ch_180 rfl rfl (Nat.le_of_ble_eq_true rfl) (by decide) (by decide) (by omega) (by omega) ?_
  refine xj_istore (ls' := [(5, vI z2), (0, vR 100 0), (1, vR 11 0), (2, vR 12 0), (3, vR 92 0), (4, vI x4)]) dL_law__1423 (by decide) rfl ?_
  refine xj_aload_n 3 dL_law__1425 rfl ?_
  refine xj_aload_n 1 dL_law__1426 rfl ?_
  refine xj_iload 5 dL_law__1427 rfl ?_
  refine xj_iconst (z := 1) dL_law__1429 (by decide) ?_
  refine xj_iadd dL_law__1430 ?_
  by_cases c5 : inb (x4 + 1) (m3 100 1 0).toNatClampNeg = true
  case neg => rw [if_neg c5] at h; cases h
  rw [if_pos c5] at h
  refine xg_ialdS (z := (m3 100 0 ((x4 + 1).toNatClampNeg))) (n := (x4 + 1).toNatClampNeg) dL_law__1431 (inb_in c5) rfl rfl ?_
  obtain ⟨z8, m7, e6, h⟩ := bd2_some h
  refine xc_Vi0 (st := []) (ok_X12_look (m3 100 0 ((x4 + 1).toNatClampNeg)) m3 e6) dL_law__1432 cv_L_182 rfl rfl (Nat.le_of_ble_eq_true rfl) (by decide) (by decide) (by omega) (by omega) ?_
  refine xj_istore (ls' := [(6, vI z8), (5, vI z2), (0, vR 100 0), (1, vR 11 0), (2, vR 12 0), (3, vR 92 0), (4, vI x4)]) dL_law__1435 (by decide) rfl ?_
  refine xj_aload_n 4 dL_law__1437 rfl ?_
  refine xc_Vi0 (st := []) (ok_X12_thrown m7 rfl) dL_law__1438 cv_L_116 rfl rfl (Nat.le_of_ble_eq_true rfl) (by decide) (by decide) (by omega) (by omega) ?_
  refine xj_iload 1 dL_law__1441 rfl ?_
  refine xj_icmp_eq (tgt := 1448) dL_law__1443 (by decide) (fun c9 => ?_) (fun c9 => ?_)
  · rw [if_pos c9] at h
    refine xj_iload 1 dL_law__1448 rfl ?_
    refine xj_if_ne (tgt := 1465) dL_law__1450 (by decide) (fun c10 => ?_) (fun c10 => ?_)
    · rw [if_neg c10] at h
      refine xj_goto (tgt := 2347) dL_law__1465 (by decide) ?_
      refine xj_iinc (z := x4 + 10) (ls' := [(4, vI (x4 + 10)), (6, vI z8), (5, vI z2), (0, vR 100 0), (1, vR 11 0), (2, vR 12 0), (3, vR 92 0)]) 6 dL_law__2347 rfl rfl (by decide) rfl ?_
      refine xj_goto (tgt := 23) dL_law__2350 (by decide) ?_
      cases h
      refine xj_widen (u2 := u + 120) (v2 := v + 3000) (by omega) (by omega) ?_
      refine xj_pick (ls' := [(0, vR 100 0), (1, vR 11 0), (2, vR 12 0), (3, vR 92 0), (4, vI (x4 + 10))]) [3, 4, 5, 6, 0] rfl ?_
      exact kb
    · rw [if_pos c10] at h
      refine xj_aload_n 5 dL_law__1453 rfl ?_
      refine xj_iconst (z := 0) dL_law__1454 (by decide) ?_
      refine xj_lald0 (z := (jL (m7 92 0 0) (m7 92 0 1))) dL_law__1455 rfl ?_
      refine xj_iload 0 dL_law__1456 rfl ?_
      refine xj_i2l dL_law__1458 ?_
      refine xj_lcmp dL_law__1459 ?_
      refine xj_if_eq (tgt := 1465) dL_law__1460 (by decide) (fun c11 => ?_) (fun c11 => ?_)
      · rw [if_pos c11] at h
        refine xj_goto (tgt := 2347) dL_law__1465 (by decide) ?_
        refine xj_iinc (z := x4 + 10) (ls' := [(4, vI (x4 + 10)), (6, vI z8), (5, vI z2), (0, vR 100 0), (1, vR 11 0), (2, vR 12 0), (3, vR 92 0)]) 6 dL_law__2347 rfl rfl (by decide) rfl ?_
        refine xj_goto (tgt := 23) dL_law__2350 (by decide) ?_
        cases h
        refine xj_widen (u2 := u + 120) (v2 := v + 3000) (by omega) (by omega) ?_
        refine xj_pick (ls' := [(0, vR 100 0), (1, vR 11 0), (2, vR 12 0), (3, vR 92 0), (4, vI (x4 + 10))]) [3, 4, 5, 6, 0] rfl ?_
        exact kb
      · rw [if_neg c11] at h
        cases h
  · rw [if_neg c9] at h
    cases h
noncomputable def r_L_op_21 (x4 : Int32) (m : Mem) : Option Mem :=
  if inb (x4 + 1) (m 100 1 0).toNatClampNeg = true then (if inb (x4 + 2) (m 100 1 0).toNatClampNeg = true then (bd2 (r_L_digs (m 100 0 ((x4 + 1).toNatClampNeg)) (m 100 0 ((x4 + 2).toNatClampNeg)) m) fun z3 m4 => (if inb (x4 + 1) (m4 100 1 0).toNatClampNeg = true then (if inb (x4 + 2) (m4 100 1 0).toNatClampNeg = true then (bd2 (r_X12_digs (m4 100 0 ((x4 + 1).toNatClampNeg)) (m4 100 0 ((x4 + 2).toNatClampNeg)) m4) fun z10 m9 => (if (r_X12_thrown m9) = z3 then (if z3 = 0 then (if (lg_cmp (jL (m9 92 0 0) (m9 92 0 1)) z10.toInt64) = 0 then (some m9) else (none)) else (some m9)) else (none))) else none) else none)) else none) else none
set_option maxHeartbeats 4000000 in
set_option maxRecDepth 20000 in
theorem ok_L_op_21 (x4 : Int32) (m : Mem) {m1 : Mem} (h : r_L_op_21 x4 m = some m1) {u v : Nat} (hu : u + 120 ≤ 601024) (hv : v + 3000 ≤ 7293034) {o : Ou} {M' : Mem} (kb : Xj RL cL_law_ 8 (some .boolean) 2048 84000 601024 7293034 (u + 120) (v + 3000) 23 [(0, vR 100 0), (1, vR 11 0), (2, vR 12 0), (3, vR 92 0), (4, vI (x4 + 10))] [] m1 o M') : Xj RL cL_law_ 8 (some .boolean) 2048 84000 601024 7293034 u v 1468 [(0, vR 100 0), (1, vR 11 0), (2, vR 12 0), (3, vR 92 0), (4, vI x4)] [] m o M' := by
  unfold r_L_op_21 at h
  refine xj_aload_n 1 dL_law__1468 rfl ?_
  refine xj_aload_n 0 dL_law__1469 rfl ?_
  refine xj_iload 4 dL_law__1470 rfl ?_
  refine xj_iconst (z := 1) dL_law__1472 (by decide) ?_
  refine xj_iadd dL_law__1473 ?_
  by_cases c1 : inb (x4 + 1) (m 100 1 0).toNatClampNeg = true
  case neg => rw [if_neg c1] at h; cases h
  rw [if_pos c1] at h
  refine xg_ialdS (z := (m 100 0 ((x4 + 1).toNatClampNeg))) (n := (x4 + 1).toNatClampNeg) dL_law__1474 (inb_in c1) rfl rfl ?_
  refine xj_aload_n 0 dL_law__1475 rfl ?_
  refine xj_iload 4 dL_law__1476 rfl ?_
  refine xj_iconst (z := 2) dL_law__1478 (by decide) ?_
  refine xj_iadd dL_law__1479 ?_
  by_cases c2 : inb (x4 + 2) (m 100 1 0).toNatClampNeg = true
  case neg => rw [if_neg c2] at h; cases h
  rw [if_pos c2] at h
  refine xg_ialdS (z := (m 100 0 ((x4 + 2).toNatClampNeg))) (n := (x4 + 2).toNatClampNeg) dL_law__1480 (inb_in c2) rfl rfl ?_
  refine xj_aload_n 3 dL_law__1481 rfl ?_
  obtain ⟨z3, m4, e5, h⟩ := bd2_some h
  refine xc_Hi (st := []) (ok_L_digs (m 100 0 ((x4 + 1).toNatClampNeg)) (m 100 0 ((x4 + 2).toNatClampNeg)) m e5) dL_law__1482 ch_183 rfl rfl (Nat.le_of_ble_eq_true rfl) (by decide) (by decide) (by omega) (by omega) ?_
  refine xj_istore (ls' := [(5, vI z3), (0, vR 100 0), (1, vR 11 0), (2, vR 12 0), (3, vR 92 0), (4, vI x4)]) dL_law__1485 (by decide) rfl ?_
  refine xj_aload_n 3 dL_law__1487 rfl ?_
  refine xj_aload_n 1 dL_law__1488 rfl ?_
  refine xj_iload 5 dL_law__1489 rfl ?_
  refine xj_iconst (z := 1) dL_law__1491 (by decide) ?_
  refine xj_iadd dL_law__1492 ?_
  by_cases c6 : inb (x4 + 1) (m4 100 1 0).toNatClampNeg = true
  case neg => rw [if_neg c6] at h; cases h
  rw [if_pos c6] at h
  refine xg_ialdS (z := (m4 100 0 ((x4 + 1).toNatClampNeg))) (n := (x4 + 1).toNatClampNeg) dL_law__1493 (inb_in c6) rfl rfl ?_
  refine xj_aload_n 1 dL_law__1494 rfl ?_
  refine xj_iload 5 dL_law__1495 rfl ?_
  refine xj_iconst (z := 2) dL_law__1497 (by decide) ?_
  refine xj_iadd dL_law__1498 ?_
  by_cases c7 : inb (x4 + 2) (m4 100 1 0).toNatClampNeg = true
  case neg => rw [if_neg c7] at h; cases h
  rw [if_pos c7] at h
  refine xg_ialdS (z := (m4 100 0 ((x4 + 2).toNatClampNeg))) (n := (x4 + 2).toNatClampNeg) dL_law__1499 (inb_in c7) rfl rfl ?_
  obtain ⟨z10, m9, e8, h⟩ := bd2_some h
  refine xc_Vi0 (st := []) (ok_X12_digs (m4 100 0 ((x4 + 1).toNatClampNeg)) (m4 100 0 ((x4 + 2).toNatClampNeg)) m4 e8) dL_law__1500 cv_L_185 rfl rfl (Nat.le_of_ble_eq_true rfl) (by decide) (by decide) (by omega) (by omega) ?_
  refine xj_istore (ls' := [(6, vI z10), (5, vI z3), (0, vR 100 0), (1, vR 11 0), (2, vR 12 0), (3, vR 92 0), (4, vI x4)]) dL_law__1503 (by decide) rfl ?_
  refine xj_aload_n 4 dL_law__1505 rfl ?_
  refine xc_Vi0 (st := []) (ok_X12_thrown m9 rfl) dL_law__1506 cv_L_116 rfl rfl (Nat.le_of_ble_eq_true rfl) (by decide) (by decide) (by omega) (by omega) ?_
  refine xj_iload 1 dL_law__1509 rfl ?_
  refine xj_icmp_eq (tgt := 1516) dL_law__1511 (by decide) (fun c11 => ?_) (fun c11 => ?_)
  · rw [if_pos c11] at h
    refine xj_iload 1 dL_law__1516 rfl ?_
    refine xj_if_ne (tgt := 1533) dL_law__1518 (by decide) (fun c12 => ?_) (fun c12 => ?_)
    · rw [if_neg c12] at h
      refine xj_goto (tgt := 2347) dL_law__1533 (by decide) ?_
      refine xj_iinc (z := x4 + 10) (ls' := [(4, vI (x4 + 10)), (6, vI z10), (5, vI z3), (0, vR 100 0), (1, vR 11 0), (2, vR 12 0), (3, vR 92 0)]) 6 dL_law__2347 rfl rfl (by decide) rfl ?_
      refine xj_goto (tgt := 23) dL_law__2350 (by decide) ?_
      cases h
      refine xj_widen (u2 := u + 120) (v2 := v + 3000) (by omega) (by omega) ?_
      refine xj_pick (ls' := [(0, vR 100 0), (1, vR 11 0), (2, vR 12 0), (3, vR 92 0), (4, vI (x4 + 10))]) [3, 4, 5, 6, 0] rfl ?_
      exact kb
    · rw [if_pos c12] at h
      refine xj_aload_n 5 dL_law__1521 rfl ?_
      refine xj_iconst (z := 0) dL_law__1522 (by decide) ?_
      refine xj_lald0 (z := (jL (m9 92 0 0) (m9 92 0 1))) dL_law__1523 rfl ?_
      refine xj_iload 0 dL_law__1524 rfl ?_
      refine xj_i2l dL_law__1526 ?_
      refine xj_lcmp dL_law__1527 ?_
      refine xj_if_eq (tgt := 1533) dL_law__1528 (by decide) (fun c13 => ?_) (fun c13 => ?_)
      · rw [if_pos c13] at h
        refine xj_goto (tgt := 2347) dL_law__1533 (by decide) ?_
        refine xj_iinc (z := x4 + 10) (ls' := [(4, vI (x4 + 10)), (6, vI z10), (5, vI z3), (0, vR 100 0), (1, vR 11 0), (2, vR 12 0), (3, vR 92 0)]) 6 dL_law__2347 rfl rfl (by decide) rfl ?_
        refine xj_goto (tgt := 23) dL_law__2350 (by decide) ?_
        cases h
        refine xj_widen (u2 := u + 120) (v2 := v + 3000) (by omega) (by omega) ?_
        refine xj_pick (ls' := [(0, vR 100 0), (1, vR 11 0), (2, vR 12 0), (3, vR 92 0), (4, vI (x4 + 10))]) [3, 4, 5, 6, 0] rfl ?_
        exact kb
      · rw [if_neg c13] at h
        cases h
  · rw [if_neg c11] at h
    cases h
noncomputable def r_L_op_22 (x4 : Int32) (m : Mem) : Option Mem :=
  if inb (x4 + 1) (m 100 1 0).toNatClampNeg = true then (if inb (x4 + 2) (m 100 1 0).toNatClampNeg = true then (bd2 (r_L_way (m 100 0 ((x4 + 1).toNatClampNeg)) (m 100 0 ((x4 + 2).toNatClampNeg)) m) fun z3 m4 => (if inb (x4 + 1) (m4 100 1 0).toNatClampNeg = true then (if inb (x4 + 2) (m4 100 1 0).toNatClampNeg = true then (bd2 (r_X12_way (m4 100 0 ((x4 + 1).toNatClampNeg)) (m4 100 0 ((x4 + 2).toNatClampNeg)) m4) fun z10 m9 => (if (r_X12_thrown m9) = z3 then (if z3 = 0 then (if (lg_cmp (jL (m9 92 0 0) (m9 92 0 1)) z10.toInt64) = 0 then (some m9) else (none)) else (some m9)) else (none))) else none) else none)) else none) else none
set_option maxHeartbeats 4000000 in
set_option maxRecDepth 20000 in
theorem ok_L_op_22 (x4 : Int32) (m : Mem) {m1 : Mem} (h : r_L_op_22 x4 m = some m1) {u v : Nat} (hu : u + 120 ≤ 601024) (hv : v + 3000 ≤ 7293034) {o : Ou} {M' : Mem} (kb : Xj RL cL_law_ 8 (some .boolean) 2048 84000 601024 7293034 (u + 120) (v + 3000) 23 [(0, vR 100 0), (1, vR 11 0), (2, vR 12 0), (3, vR 92 0), (4, vI (x4 + 10))] [] m1 o M') : Xj RL cL_law_ 8 (some .boolean) 2048 84000 601024 7293034 u v 1536 [(0, vR 100 0), (1, vR 11 0), (2, vR 12 0), (3, vR 92 0), (4, vI x4)] [] m o M' := by
  unfold r_L_op_22 at h
  refine xj_aload_n 1 dL_law__1536 rfl ?_
  refine xj_aload_n 0 dL_law__1537 rfl ?_
  refine xj_iload 4 dL_law__1538 rfl ?_
  refine xj_iconst (z := 1) dL_law__1540 (by decide) ?_
  refine xj_iadd dL_law__1541 ?_
  by_cases c1 : inb (x4 + 1) (m 100 1 0).toNatClampNeg = true
  case neg => rw [if_neg c1] at h; cases h
  rw [if_pos c1] at h
  refine xg_ialdS (z := (m 100 0 ((x4 + 1).toNatClampNeg))) (n := (x4 + 1).toNatClampNeg) dL_law__1542 (inb_in c1) rfl rfl ?_
  refine xj_aload_n 0 dL_law__1543 rfl ?_
  refine xj_iload 4 dL_law__1544 rfl ?_
  refine xj_iconst (z := 2) dL_law__1546 (by decide) ?_
  refine xj_iadd dL_law__1547 ?_
  by_cases c2 : inb (x4 + 2) (m 100 1 0).toNatClampNeg = true
  case neg => rw [if_neg c2] at h; cases h
  rw [if_pos c2] at h
  refine xg_ialdS (z := (m 100 0 ((x4 + 2).toNatClampNeg))) (n := (x4 + 2).toNatClampNeg) dL_law__1548 (inb_in c2) rfl rfl ?_
  refine xj_aload_n 3 dL_law__1549 rfl ?_
  obtain ⟨z3, m4, e5, h⟩ := bd2_some h
  refine xc_Hi (st := []) (ok_L_way (m 100 0 ((x4 + 1).toNatClampNeg)) (m 100 0 ((x4 + 2).toNatClampNeg)) m e5) dL_law__1550 ch_186 rfl rfl (Nat.le_of_ble_eq_true rfl) (by decide) (by decide) (by omega) (by omega) ?_
  refine xj_istore (ls' := [(5, vI z3), (0, vR 100 0), (1, vR 11 0), (2, vR 12 0), (3, vR 92 0), (4, vI x4)]) dL_law__1553 (by decide) rfl ?_
  refine xj_aload_n 3 dL_law__1555 rfl ?_
  refine xj_aload_n 1 dL_law__1556 rfl ?_
  refine xj_iload 5 dL_law__1557 rfl ?_
  refine xj_iconst (z := 1) dL_law__1559 (by decide) ?_
  refine xj_iadd dL_law__1560 ?_
  by_cases c6 : inb (x4 + 1) (m4 100 1 0).toNatClampNeg = true
  case neg => rw [if_neg c6] at h; cases h
  rw [if_pos c6] at h
  refine xg_ialdS (z := (m4 100 0 ((x4 + 1).toNatClampNeg))) (n := (x4 + 1).toNatClampNeg) dL_law__1561 (inb_in c6) rfl rfl ?_
  refine xj_aload_n 1 dL_law__1562 rfl ?_
  refine xj_iload 5 dL_law__1563 rfl ?_
  refine xj_iconst (z := 2) dL_law__1565 (by decide) ?_
  refine xj_iadd dL_law__1566 ?_
  by_cases c7 : inb (x4 + 2) (m4 100 1 0).toNatClampNeg = true
  case neg => rw [if_neg c7] at h; cases h
  rw [if_pos c7] at h
  refine xg_ialdS (z := (m4 100 0 ((x4 + 2).toNatClampNeg))) (n := (x4 + 2).toNatClampNeg) dL_law__1567 (inb_in c7) rfl rfl ?_
  obtain ⟨z10, m9, e8, h⟩ := bd2_some h
  refine xc_Vi0 (st := []) (ok_X12_way (m4 100 0 ((x4 + 1).toNatClampNeg)) (m4 100 0 ((x4 + 2).toNatClampNeg)) m4 e8) dL_law__1568 cv_L_188 rfl rfl (Nat.le_of_ble_eq_true rfl) (by decide) (by decide) (by omega) (by omega) ?_
  refine xj_istore (ls' := [(6, vI z10), (5, vI z3), (0, vR 100 0), (1, vR 11 0), (2, vR 12 0), (3, vR 92 0), (4, vI x4)]) dL_law__1571 (by decide) rfl ?_
  refine xj_aload_n 4 dL_law__1573 rfl ?_
  refine xc_Vi0 (st := []) (ok_X12_thrown m9 rfl) dL_law__1574 cv_L_116 rfl rfl (Nat.le_of_ble_eq_true rfl) (by decide) (by decide) (by omega) (by omega) ?_
  refine xj_iload 1 dL_law__1577 rfl ?_
  refine xj_icmp_eq (tgt := 1584) dL_law__1579 (by decide) (fun c11 => ?_) (fun c11 => ?_)
  · rw [if_pos c11] at h
    refine xj_iload 1 dL_law__1584 rfl ?_
    refine xj_if_ne (tgt := 1601) dL_law__1586 (by decide) (fun c12 => ?_) (fun c12 => ?_)
    · rw [if_neg c12] at h
      refine xj_goto (tgt := 2347) dL_law__1601 (by decide) ?_
      refine xj_iinc (z := x4 + 10) (ls' := [(4, vI (x4 + 10)), (6, vI z10), (5, vI z3), (0, vR 100 0), (1, vR 11 0), (2, vR 12 0), (3, vR 92 0)]) 6 dL_law__2347 rfl rfl (by decide) rfl ?_
      refine xj_goto (tgt := 23) dL_law__2350 (by decide) ?_
      cases h
      refine xj_widen (u2 := u + 120) (v2 := v + 3000) (by omega) (by omega) ?_
      refine xj_pick (ls' := [(0, vR 100 0), (1, vR 11 0), (2, vR 12 0), (3, vR 92 0), (4, vI (x4 + 10))]) [3, 4, 5, 6, 0] rfl ?_
      exact kb
    · rw [if_pos c12] at h
      refine xj_aload_n 5 dL_law__1589 rfl ?_
      refine xj_iconst (z := 0) dL_law__1590 (by decide) ?_
      refine xj_lald0 (z := (jL (m9 92 0 0) (m9 92 0 1))) dL_law__1591 rfl ?_
      refine xj_iload 0 dL_law__1592 rfl ?_
      refine xj_i2l dL_law__1594 ?_
      refine xj_lcmp dL_law__1595 ?_
      refine xj_if_eq (tgt := 1601) dL_law__1596 (by decide) (fun c13 => ?_) (fun c13 => ?_)
      · rw [if_pos c13] at h
        refine xj_goto (tgt := 2347) dL_law__1601 (by decide) ?_
        refine xj_iinc (z := x4 + 10) (ls' := [(4, vI (x4 + 10)), (6, vI z10), (5, vI z3), (0, vR 100 0), (1, vR 11 0), (2, vR 12 0), (3, vR 92 0)]) 6 dL_law__2347 rfl rfl (by decide) rfl ?_
        refine xj_goto (tgt := 23) dL_law__2350 (by decide) ?_
        cases h
        refine xj_widen (u2 := u + 120) (v2 := v + 3000) (by omega) (by omega) ?_
        refine xj_pick (ls' := [(0, vR 100 0), (1, vR 11 0), (2, vR 12 0), (3, vR 92 0), (4, vI (x4 + 10))]) [3, 4, 5, 6, 0] rfl ?_
        exact kb
      · rw [if_neg c13] at h
        cases h
  · rw [if_neg c11] at h
    cases h
noncomputable def r_L_op_23 (x4 : Int32) (m : Mem) : Option Mem :=
  if inb (x4 + 1) (m 100 1 0).toNatClampNeg = true then (if inb (x4 + 2) (m 100 1 0).toNatClampNeg = true then (if inb (x4 + 3) (m 100 1 0).toNatClampNeg = true then (bd2 (r_L_meet (m 100 0 ((x4 + 1).toNatClampNeg)) (m 100 0 ((x4 + 2).toNatClampNeg)) (m 100 0 ((x4 + 3).toNatClampNeg)) m) fun z4 m5 => (if inb (x4 + 1) (m5 100 1 0).toNatClampNeg = true then (if inb (x4 + 2) (m5 100 1 0).toNatClampNeg = true then (if inb (x4 + 3) (m5 100 1 0).toNatClampNeg = true then (bd2 (r_X12_meet (m5 100 0 ((x4 + 1).toNatClampNeg)) (m5 100 0 ((x4 + 2).toNatClampNeg)) (m5 100 0 ((x4 + 3).toNatClampNeg)) m5) fun z12 m11 => (if (r_X12_thrown m11) = z4 then (if z4 = 0 then (if (lg_cmp (jL (m11 92 0 0) (m11 92 0 1)) z12.toInt64) = 0 then (some m11) else (none)) else (some m11)) else (none))) else none) else none) else none)) else none) else none) else none
set_option maxHeartbeats 4000000 in
set_option maxRecDepth 20000 in
theorem ok_L_op_23 (x4 : Int32) (m : Mem) {m1 : Mem} (h : r_L_op_23 x4 m = some m1) {u v : Nat} (hu : u + 120 ≤ 601024) (hv : v + 3000 ≤ 7293034) {o : Ou} {M' : Mem} (kb : Xj RL cL_law_ 8 (some .boolean) 2048 84000 601024 7293034 (u + 120) (v + 3000) 23 [(0, vR 100 0), (1, vR 11 0), (2, vR 12 0), (3, vR 92 0), (4, vI (x4 + 10))] [] m1 o M') : Xj RL cL_law_ 8 (some .boolean) 2048 84000 601024 7293034 u v 1604 [(0, vR 100 0), (1, vR 11 0), (2, vR 12 0), (3, vR 92 0), (4, vI x4)] [] m o M' := by
  unfold r_L_op_23 at h
  refine xj_aload_n 1 dL_law__1604 rfl ?_
  refine xj_aload_n 0 dL_law__1605 rfl ?_
  refine xj_iload 4 dL_law__1606 rfl ?_
  refine xj_iconst (z := 1) dL_law__1608 (by decide) ?_
  refine xj_iadd dL_law__1609 ?_
  by_cases c1 : inb (x4 + 1) (m 100 1 0).toNatClampNeg = true
  case neg => rw [if_neg c1] at h; cases h
  rw [if_pos c1] at h
  refine xg_ialdS (z := (m 100 0 ((x4 + 1).toNatClampNeg))) (n := (x4 + 1).toNatClampNeg) dL_law__1610 (inb_in c1) rfl rfl ?_
  refine xj_aload_n 0 dL_law__1611 rfl ?_
  refine xj_iload 4 dL_law__1612 rfl ?_
  refine xj_iconst (z := 2) dL_law__1614 (by decide) ?_
  refine xj_iadd dL_law__1615 ?_
  by_cases c2 : inb (x4 + 2) (m 100 1 0).toNatClampNeg = true
  case neg => rw [if_neg c2] at h; cases h
  rw [if_pos c2] at h
  refine xg_ialdS (z := (m 100 0 ((x4 + 2).toNatClampNeg))) (n := (x4 + 2).toNatClampNeg) dL_law__1616 (inb_in c2) rfl rfl ?_
  refine xj_aload_n 0 dL_law__1617 rfl ?_
  refine xj_iload 4 dL_law__1618 rfl ?_
  refine xj_iconst (z := 3) dL_law__1620 (by decide) ?_
  refine xj_iadd dL_law__1621 ?_
  by_cases c3 : inb (x4 + 3) (m 100 1 0).toNatClampNeg = true
  case neg => rw [if_neg c3] at h; cases h
  rw [if_pos c3] at h
  refine xg_ialdS (z := (m 100 0 ((x4 + 3).toNatClampNeg))) (n := (x4 + 3).toNatClampNeg) dL_law__1622 (inb_in c3) rfl rfl ?_
  refine xj_aload_n 3 dL_law__1623 rfl ?_
  obtain ⟨z4, m5, e6, h⟩ := bd2_some h
  refine xc_Hi (st := []) (ok_L_meet (m 100 0 ((x4 + 1).toNatClampNeg)) (m 100 0 ((x4 + 2).toNatClampNeg)) (m 100 0 ((x4 + 3).toNatClampNeg)) m e6) dL_law__1624 ch_189 rfl rfl (Nat.le_of_ble_eq_true rfl) (by decide) (by decide) (by omega) (by omega) ?_
  refine xj_istore (ls' := [(5, vI z4), (0, vR 100 0), (1, vR 11 0), (2, vR 12 0), (3, vR 92 0), (4, vI x4)]) dL_law__1627 (by decide) rfl ?_
  refine xj_aload_n 3 dL_law__1629 rfl ?_
  refine xj_aload_n 1 dL_law__1630 rfl ?_
  refine xj_iload 5 dL_law__1631 rfl ?_
  refine xj_iconst (z := 1) dL_law__1633 (by decide) ?_
  refine xj_iadd dL_law__1634 ?_
  by_cases c7 : inb (x4 + 1) (m5 100 1 0).toNatClampNeg = true
  case neg => rw [if_neg c7] at h; cases h
  rw [if_pos c7] at h
  refine xg_ialdS (z := (m5 100 0 ((x4 + 1).toNatClampNeg))) (n := (x4 + 1).toNatClampNeg) dL_law__1635 (inb_in c7) rfl rfl ?_
  refine xj_aload_n 1 dL_law__1636 rfl ?_
  refine xj_iload 5 dL_law__1637 rfl ?_
  refine xj_iconst (z := 2) dL_law__1639 (by decide) ?_
  refine xj_iadd dL_law__1640 ?_
  by_cases c8 : inb (x4 + 2) (m5 100 1 0).toNatClampNeg = true
  case neg => rw [if_neg c8] at h; cases h
  rw [if_pos c8] at h
  refine xg_ialdS (z := (m5 100 0 ((x4 + 2).toNatClampNeg))) (n := (x4 + 2).toNatClampNeg) dL_law__1641 (inb_in c8) rfl rfl ?_
  refine xj_aload_n 1 dL_law__1642 rfl ?_
  refine xj_iload 5 dL_law__1643 rfl ?_
  refine xj_iconst (z := 3) dL_law__1645 (by decide) ?_
  refine xj_iadd dL_law__1646 ?_
  by_cases c9 : inb (x4 + 3) (m5 100 1 0).toNatClampNeg = true
  case neg => rw [if_neg c9] at h; cases h
  rw [if_pos c9] at h
  refine xg_ialdS (z := (m5 100 0 ((x4 + 3).toNatClampNeg))) (n := (x4 + 3).toNatClampNeg) dL_law__1647 (inb_in c9) rfl rfl ?_
  obtain ⟨z12, m11, e10, h⟩ := bd2_some h
  refine xc_Vi0 (st := []) (ok_X12_meet (m5 100 0 ((x4 + 1).toNatClampNeg)) (m5 100 0 ((x4 + 2).toNatClampNeg)) (m5 100 0 ((x4 + 3).toNatClampNeg)) m5 e10) dL_law__1648 cv_L_191 rfl rfl (Nat.le_of_ble_eq_true rfl) (by decide) (by decide) (by omega) (by omega) ?_
  refine xj_istore (ls' := [(6, vI z12), (5, vI z4), (0, vR 100 0), (1, vR 11 0), (2, vR 12 0), (3, vR 92 0), (4, vI x4)]) dL_law__1651 (by decide) rfl ?_
  refine xj_aload_n 4 dL_law__1653 rfl ?_
  refine xc_Vi0 (st := []) (ok_X12_thrown m11 rfl) dL_law__1654 cv_L_116 rfl rfl (Nat.le_of_ble_eq_true rfl) (by decide) (by decide) (by omega) (by omega) ?_
  refine xj_iload 1 dL_law__1657 rfl ?_
  refine xj_icmp_eq (tgt := 1664) dL_law__1659 (by decide) (fun c13 => ?_) (fun c13 => ?_)
  · rw [if_pos c13] at h
    refine xj_iload 1 dL_law__1664 rfl ?_
    refine xj_if_ne (tgt := 1681) dL_law__1666 (by decide) (fun c14 => ?_) (fun c14 => ?_)
    · rw [if_neg c14] at h
      refine xj_goto (tgt := 2347) dL_law__1681 (by decide) ?_
      refine xj_iinc (z := x4 + 10) (ls' := [(4, vI (x4 + 10)), (6, vI z12), (5, vI z4), (0, vR 100 0), (1, vR 11 0), (2, vR 12 0), (3, vR 92 0)]) 6 dL_law__2347 rfl rfl (by decide) rfl ?_
      refine xj_goto (tgt := 23) dL_law__2350 (by decide) ?_
      cases h
      refine xj_widen (u2 := u + 120) (v2 := v + 3000) (by omega) (by omega) ?_
      refine xj_pick (ls' := [(0, vR 100 0), (1, vR 11 0), (2, vR 12 0), (3, vR 92 0), (4, vI (x4 + 10))]) [3, 4, 5, 6, 0] rfl ?_
      exact kb
    · rw [if_pos c14] at h
      refine xj_aload_n 5 dL_law__1669 rfl ?_
      refine xj_iconst (z := 0) dL_law__1670 (by decide) ?_
      refine xj_lald0 (z := (jL (m11 92 0 0) (m11 92 0 1))) dL_law__1671 rfl ?_
      refine xj_iload 0 dL_law__1672 rfl ?_
      refine xj_i2l dL_law__1674 ?_
      refine xj_lcmp dL_law__1675 ?_
      refine xj_if_eq (tgt := 1681) dL_law__1676 (by decide) (fun c15 => ?_) (fun c15 => ?_)
      · rw [if_pos c15] at h
        refine xj_goto (tgt := 2347) dL_law__1681 (by decide) ?_
        refine xj_iinc (z := x4 + 10) (ls' := [(4, vI (x4 + 10)), (6, vI z12), (5, vI z4), (0, vR 100 0), (1, vR 11 0), (2, vR 12 0), (3, vR 92 0)]) 6 dL_law__2347 rfl rfl (by decide) rfl ?_
        refine xj_goto (tgt := 23) dL_law__2350 (by decide) ?_
        cases h
        refine xj_widen (u2 := u + 120) (v2 := v + 3000) (by omega) (by omega) ?_
        refine xj_pick (ls' := [(0, vR 100 0), (1, vR 11 0), (2, vR 12 0), (3, vR 92 0), (4, vI (x4 + 10))]) [3, 4, 5, 6, 0] rfl ?_
        exact kb
      · rw [if_neg c15] at h
        cases h
  · rw [if_neg c13] at h
    cases h
noncomputable def r_L_op_24 (x4 : Int32) (m : Mem) : Option Mem :=
  bd2 (r_X11_sight m) fun z3 m2 => (bd2 (r_X12_sight m2) fun z6 m5 => (if z3 = z6 then (some m5) else (none)))
set_option maxHeartbeats 4000000 in
set_option maxRecDepth 20000 in
theorem ok_L_op_24 (x4 : Int32) (m : Mem) {m1 : Mem} (h : r_L_op_24 x4 m = some m1) {u v : Nat} (hu : u + 120 ≤ 601024) (hv : v + 3000 ≤ 7293034) {o : Ou} {M' : Mem} (kb : Xj RL cL_law_ 8 (some .boolean) 2048 84000 601024 7293034 (u + 120) (v + 3000) 23 [(0, vR 100 0), (1, vR 11 0), (2, vR 12 0), (3, vR 92 0), (4, vI (x4 + 10))] [] m1 o M') : Xj RL cL_law_ 8 (some .boolean) 2048 84000 601024 7293034 u v 1684 [(0, vR 100 0), (1, vR 11 0), (2, vR 12 0), (3, vR 92 0), (4, vI x4)] [] m o M' := by
  unfold r_L_op_24 at h
  refine xj_aload_n 1 dL_law__1684 rfl ?_
  obtain ⟨z3, m2, e1, h⟩ := bd2_some h
  refine xc_Vi0 (st := []) (ok_X11_sight m e1) dL_law__1685 cv_L_192 rfl rfl (Nat.le_of_ble_eq_true rfl) (by decide) (by decide) (by omega) (by omega) ?_
  refine xj_aload_n 2 dL_law__1688 rfl ?_
  obtain ⟨z6, m5, e4, h⟩ := bd2_some h
  refine xc_Vi0 (st := [vI z3]) (ok_X12_sight m2 e4) dL_law__1689 cv_L_195 rfl rfl (Nat.le_of_ble_eq_true rfl) (by decide) (by decide) (by omega) (by omega) ?_
  refine xj_icmp_eq (tgt := 2347) dL_law__1692 (by decide) (fun c7 => ?_) (fun c7 => ?_)
  · rw [if_pos c7] at h
    refine xj_iinc (z := x4 + 10) (ls' := [(4, vI (x4 + 10)), (0, vR 100 0), (1, vR 11 0), (2, vR 12 0), (3, vR 92 0)]) 4 dL_law__2347 rfl rfl (by decide) rfl ?_
    refine xj_goto (tgt := 23) dL_law__2350 (by decide) ?_
    cases h
    refine xj_widen (u2 := u + 120) (v2 := v + 3000) (by omega) (by omega) ?_
    refine xj_pick (ls' := [(0, vR 100 0), (1, vR 11 0), (2, vR 12 0), (3, vR 92 0), (4, vI (x4 + 10))]) [1, 2, 3, 4, 0] rfl ?_
    exact kb
  · rw [if_neg c7] at h
    cases h
noncomputable def r_L_op_25 (x4 : Int32) (m : Mem) : Option Mem :=
  if inb (x4 + 1) (m 100 1 0).toNatClampNeg = true then (if inb (x4 + 2) (m 100 1 0).toNatClampNeg = true then (if inb (x4 + 3) (m 100 1 0).toNatClampNeg = true then (bd2 (r_L_seen (m 100 0 ((x4 + 1).toNatClampNeg)) (m 100 0 ((x4 + 2).toNatClampNeg)) (m 100 0 ((x4 + 3).toNatClampNeg)) m) fun z4 m5 => (if inb (x4 + 1) (m5 100 1 0).toNatClampNeg = true then (if inb (x4 + 2) (m5 100 1 0).toNatClampNeg = true then (if inb (x4 + 3) (m5 100 1 0).toNatClampNeg = true then (bd2 (r_X12_seen (m5 100 0 ((x4 + 1).toNatClampNeg)) (m5 100 0 ((x4 + 2).toNatClampNeg)) (m5 100 0 ((x4 + 3).toNatClampNeg)) m5) fun z12 m11 => (if (r_X12_thrown m11) = z4 then (if z4 = 0 then (if (lg_cmp (jL (m11 92 0 0) (m11 92 0 1)) z12) = 0 then (some m11) else (none)) else (some m11)) else (none))) else none) else none) else none)) else none) else none) else none
set_option maxHeartbeats 4000000 in
set_option maxRecDepth 20000 in
theorem ok_L_op_25 (x4 : Int32) (m : Mem) {m1 : Mem} (h : r_L_op_25 x4 m = some m1) {u v : Nat} (hu : u + 120 ≤ 601024) (hv : v + 3000 ≤ 7293034) {o : Ou} {M' : Mem} (kb : Xj RL cL_law_ 8 (some .boolean) 2048 84000 601024 7293034 (u + 120) (v + 3000) 23 [(0, vR 100 0), (1, vR 11 0), (2, vR 12 0), (3, vR 92 0), (4, vI (x4 + 10))] [] m1 o M') : Xj RL cL_law_ 8 (some .boolean) 2048 84000 601024 7293034 u v 1697 [(0, vR 100 0), (1, vR 11 0), (2, vR 12 0), (3, vR 92 0), (4, vI x4)] [] m o M' := by
  unfold r_L_op_25 at h
  refine xj_aload_n 1 dL_law__1697 rfl ?_
  refine xj_aload_n 0 dL_law__1698 rfl ?_
  refine xj_iload 4 dL_law__1699 rfl ?_
  refine xj_iconst (z := 1) dL_law__1701 (by decide) ?_
  refine xj_iadd dL_law__1702 ?_
  by_cases c1 : inb (x4 + 1) (m 100 1 0).toNatClampNeg = true
  case neg => rw [if_neg c1] at h; cases h
  rw [if_pos c1] at h
  refine xg_ialdS (z := (m 100 0 ((x4 + 1).toNatClampNeg))) (n := (x4 + 1).toNatClampNeg) dL_law__1703 (inb_in c1) rfl rfl ?_
  refine xj_aload_n 0 dL_law__1704 rfl ?_
  refine xj_iload 4 dL_law__1705 rfl ?_
  refine xj_iconst (z := 2) dL_law__1707 (by decide) ?_
  refine xj_iadd dL_law__1708 ?_
  by_cases c2 : inb (x4 + 2) (m 100 1 0).toNatClampNeg = true
  case neg => rw [if_neg c2] at h; cases h
  rw [if_pos c2] at h
  refine xg_ialdS (z := (m 100 0 ((x4 + 2).toNatClampNeg))) (n := (x4 + 2).toNatClampNeg) dL_law__1709 (inb_in c2) rfl rfl ?_
  refine xj_aload_n 0 dL_law__1710 rfl ?_
  refine xj_iload 4 dL_law__1711 rfl ?_
  refine xj_iconst (z := 3) dL_law__1713 (by decide) ?_
  refine xj_iadd dL_law__1714 ?_
  by_cases c3 : inb (x4 + 3) (m 100 1 0).toNatClampNeg = true
  case neg => rw [if_neg c3] at h; cases h
  rw [if_pos c3] at h
  refine xg_ialdS (z := (m 100 0 ((x4 + 3).toNatClampNeg))) (n := (x4 + 3).toNatClampNeg) dL_law__1715 (inb_in c3) rfl rfl ?_
  refine xj_aload_n 3 dL_law__1716 rfl ?_
  obtain ⟨z4, m5, e6, h⟩ := bd2_some h
  refine xc_Hi (st := []) (ok_L_seen (m 100 0 ((x4 + 1).toNatClampNeg)) (m 100 0 ((x4 + 2).toNatClampNeg)) (m 100 0 ((x4 + 3).toNatClampNeg)) m e6) dL_law__1717 ch_196 rfl rfl (Nat.le_of_ble_eq_true rfl) (by decide) (by decide) (by omega) (by omega) ?_
  refine xj_istore (ls' := [(5, vI z4), (0, vR 100 0), (1, vR 11 0), (2, vR 12 0), (3, vR 92 0), (4, vI x4)]) dL_law__1720 (by decide) rfl ?_
  refine xj_aload_n 3 dL_law__1722 rfl ?_
  refine xj_aload_n 1 dL_law__1723 rfl ?_
  refine xj_iload 5 dL_law__1724 rfl ?_
  refine xj_iconst (z := 1) dL_law__1726 (by decide) ?_
  refine xj_iadd dL_law__1727 ?_
  by_cases c7 : inb (x4 + 1) (m5 100 1 0).toNatClampNeg = true
  case neg => rw [if_neg c7] at h; cases h
  rw [if_pos c7] at h
  refine xg_ialdS (z := (m5 100 0 ((x4 + 1).toNatClampNeg))) (n := (x4 + 1).toNatClampNeg) dL_law__1728 (inb_in c7) rfl rfl ?_
  refine xj_aload_n 1 dL_law__1729 rfl ?_
  refine xj_iload 5 dL_law__1730 rfl ?_
  refine xj_iconst (z := 2) dL_law__1732 (by decide) ?_
  refine xj_iadd dL_law__1733 ?_
  by_cases c8 : inb (x4 + 2) (m5 100 1 0).toNatClampNeg = true
  case neg => rw [if_neg c8] at h; cases h
  rw [if_pos c8] at h
  refine xg_ialdS (z := (m5 100 0 ((x4 + 2).toNatClampNeg))) (n := (x4 + 2).toNatClampNeg) dL_law__1734 (inb_in c8) rfl rfl ?_
  refine xj_aload_n 1 dL_law__1735 rfl ?_
  refine xj_iload 5 dL_law__1736 rfl ?_
  refine xj_iconst (z := 3) dL_law__1738 (by decide) ?_
  refine xj_iadd dL_law__1739 ?_
  by_cases c9 : inb (x4 + 3) (m5 100 1 0).toNatClampNeg = true
  case neg => rw [if_neg c9] at h; cases h
  rw [if_pos c9] at h
  refine xg_ialdS (z := (m5 100 0 ((x4 + 3).toNatClampNeg))) (n := (x4 + 3).toNatClampNeg) dL_law__1740 (inb_in c9) rfl rfl ?_
  obtain ⟨z12, m11, e10, h⟩ := bd2_some h
  refine xc_Vl0 (st := []) (ok_X12_seen (m5 100 0 ((x4 + 1).toNatClampNeg)) (m5 100 0 ((x4 + 2).toNatClampNeg)) (m5 100 0 ((x4 + 3).toNatClampNeg)) m5 e10) dL_law__1741 cv_L_198 rfl rfl (Nat.le_of_ble_eq_true rfl) (by decide) (by decide) (by omega) (by omega) ?_
  refine xj_lstore (ls' := [(6, vL z12), (5, vI z4), (0, vR 100 0), (1, vR 11 0), (2, vR 12 0), (3, vR 92 0), (4, vI x4)]) dL_law__1744 (by decide) rfl ?_
  refine xj_aload_n 4 dL_law__1746 rfl ?_
  refine xc_Vi0 (st := []) (ok_X12_thrown m11 rfl) dL_law__1747 cv_L_116 rfl rfl (Nat.le_of_ble_eq_true rfl) (by decide) (by decide) (by omega) (by omega) ?_
  refine xj_iload 1 dL_law__1750 rfl ?_
  refine xj_icmp_eq (tgt := 1757) dL_law__1752 (by decide) (fun c13 => ?_) (fun c13 => ?_)
  · rw [if_pos c13] at h
    refine xj_iload 1 dL_law__1757 rfl ?_
    refine xj_if_ne (tgt := 1773) dL_law__1759 (by decide) (fun c14 => ?_) (fun c14 => ?_)
    · rw [if_neg c14] at h
      refine xj_goto (tgt := 2347) dL_law__1773 (by decide) ?_
      refine xj_iinc (z := x4 + 10) (ls' := [(4, vI (x4 + 10)), (6, vL z12), (5, vI z4), (0, vR 100 0), (1, vR 11 0), (2, vR 12 0), (3, vR 92 0)]) 6 dL_law__2347 rfl rfl (by decide) rfl ?_
      refine xj_goto (tgt := 23) dL_law__2350 (by decide) ?_
      cases h
      refine xj_widen (u2 := u + 120) (v2 := v + 3000) (by omega) (by omega) ?_
      refine xj_pick (ls' := [(0, vR 100 0), (1, vR 11 0), (2, vR 12 0), (3, vR 92 0), (4, vI (x4 + 10))]) [3, 4, 5, 6, 0] rfl ?_
      exact kb
    · rw [if_pos c14] at h
      refine xj_aload_n 5 dL_law__1762 rfl ?_
      refine xj_iconst (z := 0) dL_law__1763 (by decide) ?_
      refine xj_lald0 (z := (jL (m11 92 0 0) (m11 92 0 1))) dL_law__1764 rfl ?_
      refine xj_lload 0 dL_law__1765 rfl ?_
      refine xj_lcmp dL_law__1767 ?_
      refine xj_if_eq (tgt := 1773) dL_law__1768 (by decide) (fun c15 => ?_) (fun c15 => ?_)
      · rw [if_pos c15] at h
        refine xj_goto (tgt := 2347) dL_law__1773 (by decide) ?_
        refine xj_iinc (z := x4 + 10) (ls' := [(4, vI (x4 + 10)), (6, vL z12), (5, vI z4), (0, vR 100 0), (1, vR 11 0), (2, vR 12 0), (3, vR 92 0)]) 6 dL_law__2347 rfl rfl (by decide) rfl ?_
        refine xj_goto (tgt := 23) dL_law__2350 (by decide) ?_
        cases h
        refine xj_widen (u2 := u + 120) (v2 := v + 3000) (by omega) (by omega) ?_
        refine xj_pick (ls' := [(0, vR 100 0), (1, vR 11 0), (2, vR 12 0), (3, vR 92 0), (4, vI (x4 + 10))]) [3, 4, 5, 6, 0] rfl ?_
        exact kb
      · rw [if_neg c15] at h
        cases h
  · rw [if_neg c13] at h
    cases h
noncomputable def r_L_op_26 (x4 : Int32) (m : Mem) : Option Mem :=
  if inb (x4 + 1) (m 100 1 0).toNatClampNeg = true then (if inb (x4 + 2) (m 100 1 0).toNatClampNeg = true then (bd2 (r_L_leaders (m 100 0 ((x4 + 1).toNatClampNeg)) (m 100 0 ((x4 + 2).toNatClampNeg)) m) fun z3 m4 => (if inb (x4 + 1) (m4 100 1 0).toNatClampNeg = true then (if inb (x4 + 2) (m4 100 1 0).toNatClampNeg = true then (bd2 (r_X12_leaders (m4 100 0 ((x4 + 1).toNatClampNeg)) (m4 100 0 ((x4 + 2).toNatClampNeg)) m4) fun z10 m9 => (if (r_X12_thrown m9) = z3 then (if z3 = 0 then (if (lg_cmp (jL (m9 92 0 0) (m9 92 0 1)) z10.toInt64) = 0 then (some m9) else (none)) else (some m9)) else (none))) else none) else none)) else none) else none
set_option maxHeartbeats 4000000 in
set_option maxRecDepth 20000 in
theorem ok_L_op_26 (x4 : Int32) (m : Mem) {m1 : Mem} (h : r_L_op_26 x4 m = some m1) {u v : Nat} (hu : u + 120 ≤ 601024) (hv : v + 3000 ≤ 7293034) {o : Ou} {M' : Mem} (kb : Xj RL cL_law_ 8 (some .boolean) 2048 84000 601024 7293034 (u + 120) (v + 3000) 23 [(0, vR 100 0), (1, vR 11 0), (2, vR 12 0), (3, vR 92 0), (4, vI (x4 + 10))] [] m1 o M') : Xj RL cL_law_ 8 (some .boolean) 2048 84000 601024 7293034 u v 1776 [(0, vR 100 0), (1, vR 11 0), (2, vR 12 0), (3, vR 92 0), (4, vI x4)] [] m o M' := by
  unfold r_L_op_26 at h
  refine xj_aload_n 1 dL_law__1776 rfl ?_
  refine xj_aload_n 0 dL_law__1777 rfl ?_
  refine xj_iload 4 dL_law__1778 rfl ?_
  refine xj_iconst (z := 1) dL_law__1780 (by decide) ?_
  refine xj_iadd dL_law__1781 ?_
  by_cases c1 : inb (x4 + 1) (m 100 1 0).toNatClampNeg = true
  case neg => rw [if_neg c1] at h; cases h
  rw [if_pos c1] at h
  refine xg_ialdS (z := (m 100 0 ((x4 + 1).toNatClampNeg))) (n := (x4 + 1).toNatClampNeg) dL_law__1782 (inb_in c1) rfl rfl ?_
  refine xj_aload_n 0 dL_law__1783 rfl ?_
  refine xj_iload 4 dL_law__1784 rfl ?_
  refine xj_iconst (z := 2) dL_law__1786 (by decide) ?_
  refine xj_iadd dL_law__1787 ?_
  by_cases c2 : inb (x4 + 2) (m 100 1 0).toNatClampNeg = true
  case neg => rw [if_neg c2] at h; cases h
  rw [if_pos c2] at h
  refine xg_ialdS (z := (m 100 0 ((x4 + 2).toNatClampNeg))) (n := (x4 + 2).toNatClampNeg) dL_law__1788 (inb_in c2) rfl rfl ?_
  refine xj_aload_n 3 dL_law__1789 rfl ?_
  obtain ⟨z3, m4, e5, h⟩ := bd2_some h
  refine xc_Hi (st := []) (ok_L_leaders (m 100 0 ((x4 + 1).toNatClampNeg)) (m 100 0 ((x4 + 2).toNatClampNeg)) m e5) dL_law__1790 ch_199 rfl rfl (Nat.le_of_ble_eq_true rfl) (by decide) (by decide) (by omega) (by omega) ?_
  refine xj_istore (ls' := [(5, vI z3), (0, vR 100 0), (1, vR 11 0), (2, vR 12 0), (3, vR 92 0), (4, vI x4)]) dL_law__1793 (by decide) rfl ?_
  refine xj_aload_n 3 dL_law__1795 rfl ?_
  refine xj_aload_n 1 dL_law__1796 rfl ?_
  refine xj_iload 5 dL_law__1797 rfl ?_
  refine xj_iconst (z := 1) dL_law__1799 (by decide) ?_
  refine xj_iadd dL_law__1800 ?_
  by_cases c6 : inb (x4 + 1) (m4 100 1 0).toNatClampNeg = true
  case neg => rw [if_neg c6] at h; cases h
  rw [if_pos c6] at h
  refine xg_ialdS (z := (m4 100 0 ((x4 + 1).toNatClampNeg))) (n := (x4 + 1).toNatClampNeg) dL_law__1801 (inb_in c6) rfl rfl ?_
  refine xj_aload_n 1 dL_law__1802 rfl ?_
  refine xj_iload 5 dL_law__1803 rfl ?_
  refine xj_iconst (z := 2) dL_law__1805 (by decide) ?_
  refine xj_iadd dL_law__1806 ?_
  by_cases c7 : inb (x4 + 2) (m4 100 1 0).toNatClampNeg = true
  case neg => rw [if_neg c7] at h; cases h
  rw [if_pos c7] at h
  refine xg_ialdS (z := (m4 100 0 ((x4 + 2).toNatClampNeg))) (n := (x4 + 2).toNatClampNeg) dL_law__1807 (inb_in c7) rfl rfl ?_
  obtain ⟨z10, m9, e8, h⟩ := bd2_some h
  refine xc_Vi0 (st := []) (ok_X12_leaders (m4 100 0 ((x4 + 1).toNatClampNeg)) (m4 100 0 ((x4 + 2).toNatClampNeg)) m4 e8) dL_law__1808 cv_L_201 rfl rfl (Nat.le_of_ble_eq_true rfl) (by decide) (by decide) (by omega) (by omega) ?_
  refine xj_istore (ls' := [(6, vI z10), (5, vI z3), (0, vR 100 0), (1, vR 11 0), (2, vR 12 0), (3, vR 92 0), (4, vI x4)]) dL_law__1811 (by decide) rfl ?_
  refine xj_aload_n 4 dL_law__1813 rfl ?_
  refine xc_Vi0 (st := []) (ok_X12_thrown m9 rfl) dL_law__1814 cv_L_116 rfl rfl (Nat.le_of_ble_eq_true rfl) (by decide) (by decide) (by omega) (by omega) ?_
  refine xj_iload 1 dL_law__1817 rfl ?_
  refine xj_icmp_eq (tgt := 1824) dL_law__1819 (by decide) (fun c11 => ?_) (fun c11 => ?_)
  · rw [if_pos c11] at h
    refine xj_iload 1 dL_law__1824 rfl ?_
    refine xj_if_ne (tgt := 1841) dL_law__1826 (by decide) (fun c12 => ?_) (fun c12 => ?_)
    · rw [if_neg c12] at h
      refine xj_goto (tgt := 2347) dL_law__1841 (by decide) ?_
      refine xj_iinc (z := x4 + 10) (ls' := [(4, vI (x4 + 10)), (6, vI z10), (5, vI z3), (0, vR 100 0), (1, vR 11 0), (2, vR 12 0), (3, vR 92 0)]) 6 dL_law__2347 rfl rfl (by decide) rfl ?_
      refine xj_goto (tgt := 23) dL_law__2350 (by decide) ?_
      cases h
      refine xj_widen (u2 := u + 120) (v2 := v + 3000) (by omega) (by omega) ?_
      refine xj_pick (ls' := [(0, vR 100 0), (1, vR 11 0), (2, vR 12 0), (3, vR 92 0), (4, vI (x4 + 10))]) [3, 4, 5, 6, 0] rfl ?_
      exact kb
    · rw [if_pos c12] at h
      refine xj_aload_n 5 dL_law__1829 rfl ?_
      refine xj_iconst (z := 0) dL_law__1830 (by decide) ?_
      refine xj_lald0 (z := (jL (m9 92 0 0) (m9 92 0 1))) dL_law__1831 rfl ?_
      refine xj_iload 0 dL_law__1832 rfl ?_
      refine xj_i2l dL_law__1834 ?_
      refine xj_lcmp dL_law__1835 ?_
      refine xj_if_eq (tgt := 1841) dL_law__1836 (by decide) (fun c13 => ?_) (fun c13 => ?_)
      · rw [if_pos c13] at h
        refine xj_goto (tgt := 2347) dL_law__1841 (by decide) ?_
        refine xj_iinc (z := x4 + 10) (ls' := [(4, vI (x4 + 10)), (6, vI z10), (5, vI z3), (0, vR 100 0), (1, vR 11 0), (2, vR 12 0), (3, vR 92 0)]) 6 dL_law__2347 rfl rfl (by decide) rfl ?_
        refine xj_goto (tgt := 23) dL_law__2350 (by decide) ?_
        cases h
        refine xj_widen (u2 := u + 120) (v2 := v + 3000) (by omega) (by omega) ?_
        refine xj_pick (ls' := [(0, vR 100 0), (1, vR 11 0), (2, vR 12 0), (3, vR 92 0), (4, vI (x4 + 10))]) [3, 4, 5, 6, 0] rfl ?_
        exact kb
      · rw [if_neg c13] at h
        cases h
  · rw [if_neg c11] at h
    cases h
noncomputable def r_L_op_27 (x4 : Int32) (m : Mem) : Option Mem :=
  if inb (x4 + 1) (m 100 1 0).toNatClampNeg = true then (if inb (x4 + 2) (m 100 1 0).toNatClampNeg = true then (if inb (x4 + 3) (m 100 1 0).toNatClampNeg = true then (bd2 (r_L_share (m 100 0 ((x4 + 1).toNatClampNeg)) (m 100 0 ((x4 + 2).toNatClampNeg)) (m 100 0 ((x4 + 3).toNatClampNeg)) m) fun z4 m5 => (if inb (x4 + 1) (m5 100 1 0).toNatClampNeg = true then (if inb (x4 + 2) (m5 100 1 0).toNatClampNeg = true then (if inb (x4 + 3) (m5 100 1 0).toNatClampNeg = true then (bd2 (r_X12_share (m5 100 0 ((x4 + 1).toNatClampNeg)) (m5 100 0 ((x4 + 2).toNatClampNeg)) (m5 100 0 ((x4 + 3).toNatClampNeg)) m5) fun z12 m11 => (if (r_X12_thrown m11) = z4 then (if z4 = 0 then (if (lg_cmp (jL (m11 92 0 0) (m11 92 0 1)) z12.toInt64) = 0 then (some m11) else (none)) else (some m11)) else (none))) else none) else none) else none)) else none) else none) else none
set_option maxHeartbeats 4000000 in
set_option maxRecDepth 20000 in
theorem ok_L_op_27 (x4 : Int32) (m : Mem) {m1 : Mem} (h : r_L_op_27 x4 m = some m1) {u v : Nat} (hu : u + 120 ≤ 601024) (hv : v + 3000 ≤ 7293034) {o : Ou} {M' : Mem} (kb : Xj RL cL_law_ 8 (some .boolean) 2048 84000 601024 7293034 (u + 120) (v + 3000) 23 [(0, vR 100 0), (1, vR 11 0), (2, vR 12 0), (3, vR 92 0), (4, vI (x4 + 10))] [] m1 o M') : Xj RL cL_law_ 8 (some .boolean) 2048 84000 601024 7293034 u v 1844 [(0, vR 100 0), (1, vR 11 0), (2, vR 12 0), (3, vR 92 0), (4, vI x4)] [] m o M' := by
  unfold r_L_op_27 at h
  refine xj_aload_n 1 dL_law__1844 rfl ?_
  refine xj_aload_n 0 dL_law__1845 rfl ?_
  refine xj_iload 4 dL_law__1846 rfl ?_
  refine xj_iconst (z := 1) dL_law__1848 (by decide) ?_
  refine xj_iadd dL_law__1849 ?_
  by_cases c1 : inb (x4 + 1) (m 100 1 0).toNatClampNeg = true
  case neg => rw [if_neg c1] at h; cases h
  rw [if_pos c1] at h
  refine xg_ialdS (z := (m 100 0 ((x4 + 1).toNatClampNeg))) (n := (x4 + 1).toNatClampNeg) dL_law__1850 (inb_in c1) rfl rfl ?_
  refine xj_aload_n 0 dL_law__1851 rfl ?_
  refine xj_iload 4 dL_law__1852 rfl ?_
  refine xj_iconst (z := 2) dL_law__1854 (by decide) ?_
  refine xj_iadd dL_law__1855 ?_
  by_cases c2 : inb (x4 + 2) (m 100 1 0).toNatClampNeg = true
  case neg => rw [if_neg c2] at h; cases h
  rw [if_pos c2] at h
  refine xg_ialdS (z := (m 100 0 ((x4 + 2).toNatClampNeg))) (n := (x4 + 2).toNatClampNeg) dL_law__1856 (inb_in c2) rfl rfl ?_
  refine xj_aload_n 0 dL_law__1857 rfl ?_
  refine xj_iload 4 dL_law__1858 rfl ?_
  refine xj_iconst (z := 3) dL_law__1860 (by decide) ?_
  refine xj_iadd dL_law__1861 ?_
  by_cases c3 : inb (x4 + 3) (m 100 1 0).toNatClampNeg = true
  case neg => rw [if_neg c3] at h; cases h
  rw [if_pos c3] at h
  refine xg_ialdS (z := (m 100 0 ((x4 + 3).toNatClampNeg))) (n := (x4 + 3).toNatClampNeg) dL_law__1862 (inb_in c3) rfl rfl ?_
  refine xj_aload_n 3 dL_law__1863 rfl ?_
  obtain ⟨z4, m5, e6, h⟩ := bd2_some h
  refine xc_Hi (st := []) (ok_L_share (m 100 0 ((x4 + 1).toNatClampNeg)) (m 100 0 ((x4 + 2).toNatClampNeg)) (m 100 0 ((x4 + 3).toNatClampNeg)) m e6) dL_law__1864 ch_202 rfl rfl (Nat.le_of_ble_eq_true rfl) (by decide) (by decide) (by omega) (by omega) ?_
  refine xj_istore (ls' := [(5, vI z4), (0, vR 100 0), (1, vR 11 0), (2, vR 12 0), (3, vR 92 0), (4, vI x4)]) dL_law__1867 (by decide) rfl ?_
  refine xj_aload_n 3 dL_law__1869 rfl ?_
  refine xj_aload_n 1 dL_law__1870 rfl ?_
  refine xj_iload 5 dL_law__1871 rfl ?_
  refine xj_iconst (z := 1) dL_law__1873 (by decide) ?_
  refine xj_iadd dL_law__1874 ?_
  by_cases c7 : inb (x4 + 1) (m5 100 1 0).toNatClampNeg = true
  case neg => rw [if_neg c7] at h; cases h
  rw [if_pos c7] at h
  refine xg_ialdS (z := (m5 100 0 ((x4 + 1).toNatClampNeg))) (n := (x4 + 1).toNatClampNeg) dL_law__1875 (inb_in c7) rfl rfl ?_
  refine xj_aload_n 1 dL_law__1876 rfl ?_
  refine xj_iload 5 dL_law__1877 rfl ?_
  refine xj_iconst (z := 2) dL_law__1879 (by decide) ?_
  refine xj_iadd dL_law__1880 ?_
  by_cases c8 : inb (x4 + 2) (m5 100 1 0).toNatClampNeg = true
  case neg => rw [if_neg c8] at h; cases h
  rw [if_pos c8] at h
  refine xg_ialdS (z := (m5 100 0 ((x4 + 2).toNatClampNeg))) (n := (x4 + 2).toNatClampNeg) dL_law__1881 (inb_in c8) rfl rfl ?_
  refine xj_aload_n 1 dL_law__1882 rfl ?_
  refine xj_iload 5 dL_law__1883 rfl ?_
  refine xj_iconst (z := 3) dL_law__1885 (by decide) ?_
  refine xj_iadd dL_law__1886 ?_
  by_cases c9 : inb (x4 + 3) (m5 100 1 0).toNatClampNeg = true
  case neg => rw [if_neg c9] at h; cases h
  rw [if_pos c9] at h
  refine xg_ialdS (z := (m5 100 0 ((x4 + 3).toNatClampNeg))) (n := (x4 + 3).toNatClampNeg) dL_law__1887 (inb_in c9) rfl rfl ?_
  obtain ⟨z12, m11, e10, h⟩ := bd2_some h
  refine xc_Vi0 (st := []) (ok_X12_share (m5 100 0 ((x4 + 1).toNatClampNeg)) (m5 100 0 ((x4 + 2).toNatClampNeg)) (m5 100 0 ((x4 + 3).toNatClampNeg)) m5 e10) dL_law__1888 cv_L_204 rfl rfl (Nat.le_of_ble_eq_true rfl) (by decide) (by decide) (by omega) (by omega) ?_
  refine xj_istore (ls' := [(6, vI z12), (5, vI z4), (0, vR 100 0), (1, vR 11 0), (2, vR 12 0), (3, vR 92 0), (4, vI x4)]) dL_law__1891 (by decide) rfl ?_
  refine xj_aload_n 4 dL_law__1893 rfl ?_
  refine xc_Vi0 (st := []) (ok_X12_thrown m11 rfl) dL_law__1894 cv_L_116 rfl rfl (Nat.le_of_ble_eq_true rfl) (by decide) (by decide) (by omega) (by omega) ?_
  refine xj_iload 1 dL_law__1897 rfl ?_
  refine xj_icmp_eq (tgt := 1904) dL_law__1899 (by decide) (fun c13 => ?_) (fun c13 => ?_)
  · rw [if_pos c13] at h
    refine xj_iload 1 dL_law__1904 rfl ?_
    refine xj_if_ne (tgt := 1921) dL_law__1906 (by decide) (fun c14 => ?_) (fun c14 => ?_)
    · rw [if_neg c14] at h
      refine xj_goto (tgt := 2347) dL_law__1921 (by decide) ?_
      refine xj_iinc (z := x4 + 10) (ls' := [(4, vI (x4 + 10)), (6, vI z12), (5, vI z4), (0, vR 100 0), (1, vR 11 0), (2, vR 12 0), (3, vR 92 0)]) 6 dL_law__2347 rfl rfl (by decide) rfl ?_
      refine xj_goto (tgt := 23) dL_law__2350 (by decide) ?_
      cases h
      refine xj_widen (u2 := u + 120) (v2 := v + 3000) (by omega) (by omega) ?_
      refine xj_pick (ls' := [(0, vR 100 0), (1, vR 11 0), (2, vR 12 0), (3, vR 92 0), (4, vI (x4 + 10))]) [3, 4, 5, 6, 0] rfl ?_
      exact kb
    · rw [if_pos c14] at h
      refine xj_aload_n 5 dL_law__1909 rfl ?_
      refine xj_iconst (z := 0) dL_law__1910 (by decide) ?_
      refine xj_lald0 (z := (jL (m11 92 0 0) (m11 92 0 1))) dL_law__1911 rfl ?_
      refine xj_iload 0 dL_law__1912 rfl ?_
      refine xj_i2l dL_law__1914 ?_
      refine xj_lcmp dL_law__1915 ?_
      refine xj_if_eq (tgt := 1921) dL_law__1916 (by decide) (fun c15 => ?_) (fun c15 => ?_)
      · rw [if_pos c15] at h
        refine xj_goto (tgt := 2347) dL_law__1921 (by decide) ?_
        refine xj_iinc (z := x4 + 10) (ls' := [(4, vI (x4 + 10)), (6, vI z12), (5, vI z4), (0, vR 100 0), (1, vR 11 0), (2, vR 12 0), (3, vR 92 0)]) 6 dL_law__2347 rfl rfl (by decide) rfl ?_
        refine xj_goto (tgt := 23) dL_law__2350 (by decide) ?_
        cases h
        refine xj_widen (u2 := u + 120) (v2 := v + 3000) (by omega) (by omega) ?_
        refine xj_pick (ls' := [(0, vR 100 0), (1, vR 11 0), (2, vR 12 0), (3, vR 92 0), (4, vI (x4 + 10))]) [3, 4, 5, 6, 0] rfl ?_
        exact kb
      · rw [if_neg c15] at h
        cases h
  · rw [if_neg c13] at h
    cases h
noncomputable def r_L_op_28 (x4 : Int32) (m : Mem) : Option Mem :=
  if inb (x4 + 1) (m 100 1 0).toNatClampNeg = true then (if inb (x4 + 2) (m 100 1 0).toNatClampNeg = true then (bd2 (r_L_right (m 100 0 ((x4 + 1).toNatClampNeg)) (m 100 0 ((x4 + 2).toNatClampNeg)) m) fun z3 m4 => (if inb (x4 + 1) (m4 100 1 0).toNatClampNeg = true then (if inb (x4 + 2) (m4 100 1 0).toNatClampNeg = true then (bd2 (r_X12_right (m4 100 0 ((x4 + 1).toNatClampNeg)) (m4 100 0 ((x4 + 2).toNatClampNeg)) m4) fun z10 m9 => (if (r_X12_thrown m9) = z3 then (if z3 = 0 then (if (lg_cmp (jL (m9 92 0 0) (m9 92 0 1)) z10.toInt64) = 0 then (some m9) else (none)) else (some m9)) else (none))) else none) else none)) else none) else none
set_option maxHeartbeats 4000000 in
set_option maxRecDepth 20000 in
theorem ok_L_op_28 (x4 : Int32) (m : Mem) {m1 : Mem} (h : r_L_op_28 x4 m = some m1) {u v : Nat} (hu : u + 120 ≤ 601024) (hv : v + 3000 ≤ 7293034) {o : Ou} {M' : Mem} (kb : Xj RL cL_law_ 8 (some .boolean) 2048 84000 601024 7293034 (u + 120) (v + 3000) 23 [(0, vR 100 0), (1, vR 11 0), (2, vR 12 0), (3, vR 92 0), (4, vI (x4 + 10))] [] m1 o M') : Xj RL cL_law_ 8 (some .boolean) 2048 84000 601024 7293034 u v 1924 [(0, vR 100 0), (1, vR 11 0), (2, vR 12 0), (3, vR 92 0), (4, vI x4)] [] m o M' := by
  unfold r_L_op_28 at h
  refine xj_aload_n 1 dL_law__1924 rfl ?_
  refine xj_aload_n 0 dL_law__1925 rfl ?_
  refine xj_iload 4 dL_law__1926 rfl ?_
  refine xj_iconst (z := 1) dL_law__1928 (by decide) ?_
  refine xj_iadd dL_law__1929 ?_
  by_cases c1 : inb (x4 + 1) (m 100 1 0).toNatClampNeg = true
  case neg => rw [if_neg c1] at h; cases h
  rw [if_pos c1] at h
  refine xg_ialdS (z := (m 100 0 ((x4 + 1).toNatClampNeg))) (n := (x4 + 1).toNatClampNeg) dL_law__1930 (inb_in c1) rfl rfl ?_
  refine xj_aload_n 0 dL_law__1931 rfl ?_
  refine xj_iload 4 dL_law__1932 rfl ?_
  refine xj_iconst (z := 2) dL_law__1934 (by decide) ?_
  refine xj_iadd dL_law__1935 ?_
  by_cases c2 : inb (x4 + 2) (m 100 1 0).toNatClampNeg = true
  case neg => rw [if_neg c2] at h; cases h
  rw [if_pos c2] at h
  refine xg_ialdS (z := (m 100 0 ((x4 + 2).toNatClampNeg))) (n := (x4 + 2).toNatClampNeg) dL_law__1936 (inb_in c2) rfl rfl ?_
  refine xj_aload_n 3 dL_law__1937 rfl ?_
  obtain ⟨z3, m4, e5, h⟩ := bd2_some h
  refine xc_Hi (st := []) (ok_L_right (m 100 0 ((x4 + 1).toNatClampNeg)) (m 100 0 ((x4 + 2).toNatClampNeg)) m e5) dL_law__1938 ch_205 rfl rfl (Nat.le_of_ble_eq_true rfl) (by decide) (by decide) (by omega) (by omega) ?_
  refine xj_istore (ls' := [(5, vI z3), (0, vR 100 0), (1, vR 11 0), (2, vR 12 0), (3, vR 92 0), (4, vI x4)]) dL_law__1941 (by decide) rfl ?_
  refine xj_aload_n 3 dL_law__1943 rfl ?_
  refine xj_aload_n 1 dL_law__1944 rfl ?_
  refine xj_iload 5 dL_law__1945 rfl ?_
  refine xj_iconst (z := 1) dL_law__1947 (by decide) ?_
  refine xj_iadd dL_law__1948 ?_
  by_cases c6 : inb (x4 + 1) (m4 100 1 0).toNatClampNeg = true
  case neg => rw [if_neg c6] at h; cases h
  rw [if_pos c6] at h
  refine xg_ialdS (z := (m4 100 0 ((x4 + 1).toNatClampNeg))) (n := (x4 + 1).toNatClampNeg) dL_law__1949 (inb_in c6) rfl rfl ?_
  refine xj_aload_n 1 dL_law__1950 rfl ?_
  refine xj_iload 5 dL_law__1951 rfl ?_
  refine xj_iconst (z := 2) dL_law__1953 (by decide) ?_
  refine xj_iadd dL_law__1954 ?_
  by_cases c7 : inb (x4 + 2) (m4 100 1 0).toNatClampNeg = true
  case neg => rw [if_neg c7] at h; cases h
  rw [if_pos c7] at h
  refine xg_ialdS (z := (m4 100 0 ((x4 + 2).toNatClampNeg))) (n := (x4 + 2).toNatClampNeg) dL_law__1955 (inb_in c7) rfl rfl ?_
  obtain ⟨z10, m9, e8, h⟩ := bd2_some h
  refine xc_Vi0 (st := []) (ok_X12_right (m4 100 0 ((x4 + 1).toNatClampNeg)) (m4 100 0 ((x4 + 2).toNatClampNeg)) m4 e8) dL_law__1956 cv_L_207 rfl rfl (Nat.le_of_ble_eq_true rfl) (by decide) (by decide) (by omega) (by omega) ?_
  refine xj_istore (ls' := [(6, vI z10), (5, vI z3), (0, vR 100 0), (1, vR 11 0), (2, vR 12 0), (3, vR 92 0), (4, vI x4)]) dL_law__1959 (by decide) rfl ?_
  refine xj_aload_n 4 dL_law__1961 rfl ?_
  refine xc_Vi0 (st := []) (ok_X12_thrown m9 rfl) dL_law__1962 cv_L_116 rfl rfl (Nat.le_of_ble_eq_true rfl) (by decide) (by decide) (by omega) (by omega) ?_
  refine xj_iload 1 dL_law__1965 rfl ?_
  refine xj_icmp_eq (tgt := 1972) dL_law__1967 (by decide) (fun c11 => ?_) (fun c11 => ?_)
  · rw [if_pos c11] at h
    refine xj_iload 1 dL_law__1972 rfl ?_
    refine xj_if_ne (tgt := 1989) dL_law__1974 (by decide) (fun c12 => ?_) (fun c12 => ?_)
    · rw [if_neg c12] at h
      refine xj_goto (tgt := 2347) dL_law__1989 (by decide) ?_
      refine xj_iinc (z := x4 + 10) (ls' := [(4, vI (x4 + 10)), (6, vI z10), (5, vI z3), (0, vR 100 0), (1, vR 11 0), (2, vR 12 0), (3, vR 92 0)]) 6 dL_law__2347 rfl rfl (by decide) rfl ?_
      refine xj_goto (tgt := 23) dL_law__2350 (by decide) ?_
      cases h
      refine xj_widen (u2 := u + 120) (v2 := v + 3000) (by omega) (by omega) ?_
      refine xj_pick (ls' := [(0, vR 100 0), (1, vR 11 0), (2, vR 12 0), (3, vR 92 0), (4, vI (x4 + 10))]) [3, 4, 5, 6, 0] rfl ?_
      exact kb
    · rw [if_pos c12] at h
      refine xj_aload_n 5 dL_law__1977 rfl ?_
      refine xj_iconst (z := 0) dL_law__1978 (by decide) ?_
      refine xj_lald0 (z := (jL (m9 92 0 0) (m9 92 0 1))) dL_law__1979 rfl ?_
      refine xj_iload 0 dL_law__1980 rfl ?_
      refine xj_i2l dL_law__1982 ?_
      refine xj_lcmp dL_law__1983 ?_
      refine xj_if_eq (tgt := 1989) dL_law__1984 (by decide) (fun c13 => ?_) (fun c13 => ?_)
      · rw [if_pos c13] at h
        refine xj_goto (tgt := 2347) dL_law__1989 (by decide) ?_
        refine xj_iinc (z := x4 + 10) (ls' := [(4, vI (x4 + 10)), (6, vI z10), (5, vI z3), (0, vR 100 0), (1, vR 11 0), (2, vR 12 0), (3, vR 92 0)]) 6 dL_law__2347 rfl rfl (by decide) rfl ?_
        refine xj_goto (tgt := 23) dL_law__2350 (by decide) ?_
        cases h
        refine xj_widen (u2 := u + 120) (v2 := v + 3000) (by omega) (by omega) ?_
        refine xj_pick (ls' := [(0, vR 100 0), (1, vR 11 0), (2, vR 12 0), (3, vR 92 0), (4, vI (x4 + 10))]) [3, 4, 5, 6, 0] rfl ?_
        exact kb
      · rw [if_neg c13] at h
        cases h
  · rw [if_neg c11] at h
    cases h
noncomputable def r_L_op_29 (x4 : Int32) (m : Mem) : Option Mem :=
  if inb (x4 + 1) (m 100 1 0).toNatClampNeg = true then (bd2 (r_L_blank (m 100 0 ((x4 + 1).toNatClampNeg)) m) fun z2 m3 => (if inb (x4 + 1) (m3 100 1 0).toNatClampNeg = true then (bd2 (r_X12_blank (m3 100 0 ((x4 + 1).toNatClampNeg)) m3) fun z8 m7 => (if (r_X12_thrown m7) = z2 then (if z2 = 0 then (if (lg_cmp (jL (m7 92 0 0) (m7 92 0 1)) z8.toInt64) = 0 then (some m7) else (none)) else (some m7)) else (none))) else none)) else none
set_option maxHeartbeats 4000000 in
set_option maxRecDepth 20000 in
theorem ok_L_op_29 (x4 : Int32) (m : Mem) {m1 : Mem} (h : r_L_op_29 x4 m = some m1) {u v : Nat} (hu : u + 120 ≤ 601024) (hv : v + 3000 ≤ 7293034) {o : Ou} {M' : Mem} (kb : Xj RL cL_law_ 8 (some .boolean) 2048 84000 601024 7293034 (u + 120) (v + 3000) 23 [(0, vR 100 0), (1, vR 11 0), (2, vR 12 0), (3, vR 92 0), (4, vI (x4 + 10))] [] m1 o M') : Xj RL cL_law_ 8 (some .boolean) 2048 84000 601024 7293034 u v 1992 [(0, vR 100 0), (1, vR 11 0), (2, vR 12 0), (3, vR 92 0), (4, vI x4)] [] m o M' := by
  unfold r_L_op_29 at h
  refine xj_aload_n 1 dL_law__1992 rfl ?_
  refine xj_aload_n 0 dL_law__1993 rfl ?_
  refine xj_iload 4 dL_law__1994 rfl ?_
  refine xj_iconst (z := 1) dL_law__1996 (by decide) ?_
  refine xj_iadd dL_law__1997 ?_
  by_cases c1 : inb (x4 + 1) (m 100 1 0).toNatClampNeg = true
  case neg => rw [if_neg c1] at h; cases h
  rw [if_pos c1] at h
  refine xg_ialdS (z := (m 100 0 ((x4 + 1).toNatClampNeg))) (n := (x4 + 1).toNatClampNeg) dL_law__1998 (inb_in c1) rfl rfl ?_
  refine xj_aload_n 3 dL_law__1999 rfl ?_
  obtain ⟨z2, m3, e4, h⟩ := bd2_some h
  refine xc_Hi (st := []) (ok_L_blank (m 100 0 ((x4 + 1).toNatClampNeg)) m e4) dL_law__2000 ch_208 rfl rfl (Nat.le_of_ble_eq_true rfl) (by decide) (by decide) (by omega) (by omega) ?_
  refine xj_istore (ls' := [(5, vI z2), (0, vR 100 0), (1, vR 11 0), (2, vR 12 0), (3, vR 92 0), (4, vI x4)]) dL_law__2003 (by decide) rfl ?_
  refine xj_aload_n 3 dL_law__2005 rfl ?_
  refine xj_aload_n 1 dL_law__2006 rfl ?_
  refine xj_iload 5 dL_law__2007 rfl ?_
  refine xj_iconst (z := 1) dL_law__2009 (by decide) ?_
  refine xj_iadd dL_law__2010 ?_
  by_cases c5 : inb (x4 + 1) (m3 100 1 0).toNatClampNeg = true
  case neg => rw [if_neg c5] at h; cases h
  rw [if_pos c5] at h
  refine xg_ialdS (z := (m3 100 0 ((x4 + 1).toNatClampNeg))) (n := (x4 + 1).toNatClampNeg) dL_law__2011 (inb_in c5) rfl rfl ?_
  obtain ⟨z8, m7, e6, h⟩ := bd2_some h
  refine xc_Vi0 (st := []) (ok_X12_blank (m3 100 0 ((x4 + 1).toNatClampNeg)) m3 e6) dL_law__2012 cv_L_210 rfl rfl (Nat.le_of_ble_eq_true rfl) (by decide) (by decide) (by omega) (by omega) ?_
  refine xj_istore (ls' := [(6, vI z8), (5, vI z2), (0, vR 100 0), (1, vR 11 0), (2, vR 12 0), (3, vR 92 0), (4, vI x4)]) dL_law__2015 (by decide) rfl ?_
  refine xj_aload_n 4 dL_law__2017 rfl ?_
  refine xc_Vi0 (st := []) (ok_X12_thrown m7 rfl) dL_law__2018 cv_L_116 rfl rfl (Nat.le_of_ble_eq_true rfl) (by decide) (by decide) (by omega) (by omega) ?_
  refine xj_iload 1 dL_law__2021 rfl ?_
  refine xj_icmp_eq (tgt := 2028) dL_law__2023 (by decide) (fun c9 => ?_) (fun c9 => ?_)
  · rw [if_pos c9] at h
    refine xj_iload 1 dL_law__2028 rfl ?_
    refine xj_if_ne (tgt := 2045) dL_law__2030 (by decide) (fun c10 => ?_) (fun c10 => ?_)
    · rw [if_neg c10] at h
      refine xj_goto (tgt := 2347) dL_law__2045 (by decide) ?_
      refine xj_iinc (z := x4 + 10) (ls' := [(4, vI (x4 + 10)), (6, vI z8), (5, vI z2), (0, vR 100 0), (1, vR 11 0), (2, vR 12 0), (3, vR 92 0)]) 6 dL_law__2347 rfl rfl (by decide) rfl ?_
      refine xj_goto (tgt := 23) dL_law__2350 (by decide) ?_
      cases h
      refine xj_widen (u2 := u + 120) (v2 := v + 3000) (by omega) (by omega) ?_
      refine xj_pick (ls' := [(0, vR 100 0), (1, vR 11 0), (2, vR 12 0), (3, vR 92 0), (4, vI (x4 + 10))]) [3, 4, 5, 6, 0] rfl ?_
      exact kb
    · rw [if_pos c10] at h
      refine xj_aload_n 5 dL_law__2033 rfl ?_
      refine xj_iconst (z := 0) dL_law__2034 (by decide) ?_
      refine xj_lald0 (z := (jL (m7 92 0 0) (m7 92 0 1))) dL_law__2035 rfl ?_
      refine xj_iload 0 dL_law__2036 rfl ?_
      refine xj_i2l dL_law__2038 ?_
      refine xj_lcmp dL_law__2039 ?_
      refine xj_if_eq (tgt := 2045) dL_law__2040 (by decide) (fun c11 => ?_) (fun c11 => ?_)
      · rw [if_pos c11] at h
        refine xj_goto (tgt := 2347) dL_law__2045 (by decide) ?_
        refine xj_iinc (z := x4 + 10) (ls' := [(4, vI (x4 + 10)), (6, vI z8), (5, vI z2), (0, vR 100 0), (1, vR 11 0), (2, vR 12 0), (3, vR 92 0)]) 6 dL_law__2347 rfl rfl (by decide) rfl ?_
        refine xj_goto (tgt := 23) dL_law__2350 (by decide) ?_
        cases h
        refine xj_widen (u2 := u + 120) (v2 := v + 3000) (by omega) (by omega) ?_
        refine xj_pick (ls' := [(0, vR 100 0), (1, vR 11 0), (2, vR 12 0), (3, vR 92 0), (4, vI (x4 + 10))]) [3, 4, 5, 6, 0] rfl ?_
        exact kb
      · rw [if_neg c11] at h
        cases h
  · rw [if_neg c9] at h
    cases h
noncomputable def r_L_op_30 (x4 : Int32) (m : Mem) : Option Mem :=
  bd2 (r_X11_uphill m) fun z3 m2 => (bd2 (r_X12_uphill m2) fun z6 m5 => (if z3 = z6 then (some m5) else (none)))
set_option maxHeartbeats 4000000 in
set_option maxRecDepth 20000 in
theorem ok_L_op_30 (x4 : Int32) (m : Mem) {m1 : Mem} (h : r_L_op_30 x4 m = some m1) {u v : Nat} (hu : u + 120 ≤ 601024) (hv : v + 3000 ≤ 7293034) {o : Ou} {M' : Mem} (kb : Xj RL cL_law_ 8 (some .boolean) 2048 84000 601024 7293034 (u + 120) (v + 3000) 23 [(0, vR 100 0), (1, vR 11 0), (2, vR 12 0), (3, vR 92 0), (4, vI (x4 + 10))] [] m1 o M') : Xj RL cL_law_ 8 (some .boolean) 2048 84000 601024 7293034 u v 2048 [(0, vR 100 0), (1, vR 11 0), (2, vR 12 0), (3, vR 92 0), (4, vI x4)] [] m o M' := by
  unfold r_L_op_30 at h
  refine xj_aload_n 1 dL_law__2048 rfl ?_
  obtain ⟨z3, m2, e1, h⟩ := bd2_some h
  refine xc_Vi0 (st := []) (ok_X11_uphill m e1) dL_law__2049 cv_L_211 rfl rfl (Nat.le_of_ble_eq_true rfl) (by decide) (by decide) (by omega) (by omega) ?_
  refine xj_aload_n 2 dL_law__2052 rfl ?_
  obtain ⟨z6, m5, e4, h⟩ := bd2_some h
  refine xc_Vi0 (st := [vI z3]) (ok_X12_uphill m2 e4) dL_law__2053 cv_L_214 rfl rfl (Nat.le_of_ble_eq_true rfl) (by decide) (by decide) (by omega) (by omega) ?_
  refine xj_icmp_eq (tgt := 2347) dL_law__2056 (by decide) (fun c7 => ?_) (fun c7 => ?_)
  · rw [if_pos c7] at h
    refine xj_iinc (z := x4 + 10) (ls' := [(4, vI (x4 + 10)), (0, vR 100 0), (1, vR 11 0), (2, vR 12 0), (3, vR 92 0)]) 4 dL_law__2347 rfl rfl (by decide) rfl ?_
    refine xj_goto (tgt := 23) dL_law__2350 (by decide) ?_
    cases h
    refine xj_widen (u2 := u + 120) (v2 := v + 3000) (by omega) (by omega) ?_
    refine xj_pick (ls' := [(0, vR 100 0), (1, vR 11 0), (2, vR 12 0), (3, vR 92 0), (4, vI (x4 + 10))]) [1, 2, 3, 4, 0] rfl ?_
    exact kb
  · rw [if_neg c7] at h
    cases h
noncomputable def r_L_op_31 (x4 : Int32) (m : Mem) : Option Mem :=
  if inb (x4 + 1) (m 100 1 0).toNatClampNeg = true then (if inb (x4 + 2) (m 100 1 0).toNatClampNeg = true then (if inb (x4 + 3) (m 100 1 0).toNatClampNeg = true then (if inb (x4 + 4) (m 100 1 0).toNatClampNeg = true then (bd2 (r_L_year (m 100 0 ((x4 + 1).toNatClampNeg)) (m 100 0 ((x4 + 2).toNatClampNeg)) (m 100 0 ((x4 + 3).toNatClampNeg)) (m 100 0 ((x4 + 4).toNatClampNeg)) m) fun z5 m6 => (if inb (x4 + 1) (m6 100 1 0).toNatClampNeg = true then (if inb (x4 + 2) (m6 100 1 0).toNatClampNeg = true then (if inb (x4 + 3) (m6 100 1 0).toNatClampNeg = true then (if inb (x4 + 4) (m6 100 1 0).toNatClampNeg = true then (bd2 (r_X12_year (m6 100 0 ((x4 + 1).toNatClampNeg)) (m6 100 0 ((x4 + 2).toNatClampNeg)) (m6 100 0 ((x4 + 3).toNatClampNeg)) (m6 100 0 ((x4 + 4).toNatClampNeg)) m6) fun z14 m13 => (if (r_X12_thrown m13) = z5 then (if z5 = 0 then (if (lg_cmp (jL (m13 92 0 0) (m13 92 0 1)) z14.toInt64) = 0 then (some m13) else (none)) else (some m13)) else (none))) else none) else none) else none) else none)) else none) else none) else none) else none
set_option maxHeartbeats 4000000 in
set_option maxRecDepth 20000 in
theorem ok_L_op_31 (x4 : Int32) (m : Mem) {m1 : Mem} (h : r_L_op_31 x4 m = some m1) {u v : Nat} (hu : u + 120 ≤ 601024) (hv : v + 3000 ≤ 7293034) {o : Ou} {M' : Mem} (kb : Xj RL cL_law_ 8 (some .boolean) 2048 84000 601024 7293034 (u + 120) (v + 3000) 23 [(0, vR 100 0), (1, vR 11 0), (2, vR 12 0), (3, vR 92 0), (4, vI (x4 + 10))] [] m1 o M') : Xj RL cL_law_ 8 (some .boolean) 2048 84000 601024 7293034 u v 2061 [(0, vR 100 0), (1, vR 11 0), (2, vR 12 0), (3, vR 92 0), (4, vI x4)] [] m o M' := by
  unfold r_L_op_31 at h
  refine xj_aload_n 1 dL_law__2061 rfl ?_
  refine xj_aload_n 0 dL_law__2062 rfl ?_
  refine xj_iload 4 dL_law__2063 rfl ?_
  refine xj_iconst (z := 1) dL_law__2065 (by decide) ?_
  refine xj_iadd dL_law__2066 ?_
  by_cases c1 : inb (x4 + 1) (m 100 1 0).toNatClampNeg = true
  case neg => rw [if_neg c1] at h; cases h
  rw [if_pos c1] at h
  refine xg_ialdS (z := (m 100 0 ((x4 + 1).toNatClampNeg))) (n := (x4 + 1).toNatClampNeg) dL_law__2067 (inb_in c1) rfl rfl ?_
  refine xj_aload_n 0 dL_law__2068 rfl ?_
  refine xj_iload 4 dL_law__2069 rfl ?_
  refine xj_iconst (z := 2) dL_law__2071 (by decide) ?_
  refine xj_iadd dL_law__2072 ?_
  by_cases c2 : inb (x4 + 2) (m 100 1 0).toNatClampNeg = true
  case neg => rw [if_neg c2] at h; cases h
  rw [if_pos c2] at h
  refine xg_ialdS (z := (m 100 0 ((x4 + 2).toNatClampNeg))) (n := (x4 + 2).toNatClampNeg) dL_law__2073 (inb_in c2) rfl rfl ?_
  refine xj_aload_n 0 dL_law__2074 rfl ?_
  refine xj_iload 4 dL_law__2075 rfl ?_
  refine xj_iconst (z := 3) dL_law__2077 (by decide) ?_
  refine xj_iadd dL_law__2078 ?_
  by_cases c3 : inb (x4 + 3) (m 100 1 0).toNatClampNeg = true
  case neg => rw [if_neg c3] at h; cases h
  rw [if_pos c3] at h
  refine xg_ialdS (z := (m 100 0 ((x4 + 3).toNatClampNeg))) (n := (x4 + 3).toNatClampNeg) dL_law__2079 (inb_in c3) rfl rfl ?_
  refine xj_aload_n 0 dL_law__2080 rfl ?_
  refine xj_iload 4 dL_law__2081 rfl ?_
  refine xj_iconst (z := 4) dL_law__2083 (by decide) ?_
  refine xj_iadd dL_law__2084 ?_
  by_cases c4 : inb (x4 + 4) (m 100 1 0).toNatClampNeg = true
  case neg => rw [if_neg c4] at h; cases h
  rw [if_pos c4] at h
  refine xg_ialdS (z := (m 100 0 ((x4 + 4).toNatClampNeg))) (n := (x4 + 4).toNatClampNeg) dL_law__2085 (inb_in c4) rfl rfl ?_
  refine xj_aload_n 3 dL_law__2086 rfl ?_
  obtain ⟨z5, m6, e7, h⟩ := bd2_some h
  refine xc_Hi (st := []) (ok_L_year (m 100 0 ((x4 + 1).toNatClampNeg)) (m 100 0 ((x4 + 2).toNatClampNeg)) (m 100 0 ((x4 + 3).toNatClampNeg)) (m 100 0 ((x4 + 4).toNatClampNeg)) m e7) dL_law__2087 ch_215 rfl rfl (Nat.le_of_ble_eq_true rfl) (by decide) (by decide) (by omega) (by omega) ?_
  refine xj_istore (ls' := [(5, vI z5), (0, vR 100 0), (1, vR 11 0), (2, vR 12 0), (3, vR 92 0), (4, vI x4)]) dL_law__2090 (by decide) rfl ?_
  refine xj_aload_n 3 dL_law__2092 rfl ?_
  refine xj_aload_n 1 dL_law__2093 rfl ?_
  refine xj_iload 5 dL_law__2094 rfl ?_
  refine xj_iconst (z := 1) dL_law__2096 (by decide) ?_
  refine xj_iadd dL_law__2097 ?_
  by_cases c8 : inb (x4 + 1) (m6 100 1 0).toNatClampNeg = true
  case neg => rw [if_neg c8] at h; cases h
  rw [if_pos c8] at h
  refine xg_ialdS (z := (m6 100 0 ((x4 + 1).toNatClampNeg))) (n := (x4 + 1).toNatClampNeg) dL_law__2098 (inb_in c8) rfl rfl ?_
  refine xj_aload_n 1 dL_law__2099 rfl ?_
  refine xj_iload 5 dL_law__2100 rfl ?_
  refine xj_iconst (z := 2) dL_law__2102 (by decide) ?_
  refine xj_iadd dL_law__2103 ?_
  by_cases c9 : inb (x4 + 2) (m6 100 1 0).toNatClampNeg = true
  case neg => rw [if_neg c9] at h; cases h
  rw [if_pos c9] at h
  refine xg_ialdS (z := (m6 100 0 ((x4 + 2).toNatClampNeg))) (n := (x4 + 2).toNatClampNeg) dL_law__2104 (inb_in c9) rfl rfl ?_
  refine xj_aload_n 1 dL_law__2105 rfl ?_
  refine xj_iload 5 dL_law__2106 rfl ?_
  refine xj_iconst (z := 3) dL_law__2108 (by decide) ?_
  refine xj_iadd dL_law__2109 ?_
  by_cases c10 : inb (x4 + 3) (m6 100 1 0).toNatClampNeg = true
  case neg => rw [if_neg c10] at h; cases h
  rw [if_pos c10] at h
  refine xg_ialdS (z := (m6 100 0 ((x4 + 3).toNatClampNeg))) (n := (x4 + 3).toNatClampNeg) dL_law__2110 (inb_in c10) rfl rfl ?_
  refine xj_aload_n 1 dL_law__2111 rfl ?_
  refine xj_iload 5 dL_law__2112 rfl ?_
  refine xj_iconst (z := 4) dL_law__2114 (by decide) ?_
  refine xj_iadd dL_law__2115 ?_
  by_cases c11 : inb (x4 + 4) (m6 100 1 0).toNatClampNeg = true
  case neg => rw [if_neg c11] at h; cases h
  rw [if_pos c11] at h
  refine xg_ialdS (z := (m6 100 0 ((x4 + 4).toNatClampNeg))) (n := (x4 + 4).toNatClampNeg) dL_law__2116 (inb_in c11) rfl rfl ?_
  obtain ⟨z14, m13, e12, h⟩ := bd2_some h
  refine xc_Vi0 (st := []) (ok_X12_year (m6 100 0 ((x4 + 1).toNatClampNeg)) (m6 100 0 ((x4 + 2).toNatClampNeg)) (m6 100 0 ((x4 + 3).toNatClampNeg)) (m6 100 0 ((x4 + 4).toNatClampNeg)) m6 e12) dL_law__2117 cv_L_218 rfl rfl (Nat.le_of_ble_eq_true rfl) (by decide) (by decide) (by omega) (by omega) ?_
  refine xj_istore (ls' := [(6, vI z14), (5, vI z5), (0, vR 100 0), (1, vR 11 0), (2, vR 12 0), (3, vR 92 0), (4, vI x4)]) dL_law__2120 (by decide) rfl ?_
  refine xj_aload_n 4 dL_law__2122 rfl ?_
  refine xc_Vi0 (st := []) (ok_X12_thrown m13 rfl) dL_law__2123 cv_L_116 rfl rfl (Nat.le_of_ble_eq_true rfl) (by decide) (by decide) (by omega) (by omega) ?_
  refine xj_iload 1 dL_law__2126 rfl ?_
  refine xj_icmp_eq (tgt := 2133) dL_law__2128 (by decide) (fun c15 => ?_) (fun c15 => ?_)
  · rw [if_pos c15] at h
    refine xj_iload 1 dL_law__2133 rfl ?_
    refine xj_if_ne (tgt := 2150) dL_law__2135 (by decide) (fun c16 => ?_) (fun c16 => ?_)
    · rw [if_neg c16] at h
      refine xj_goto (tgt := 2347) dL_law__2150 (by decide) ?_
      refine xj_iinc (z := x4 + 10) (ls' := [(4, vI (x4 + 10)), (6, vI z14), (5, vI z5), (0, vR 100 0), (1, vR 11 0), (2, vR 12 0), (3, vR 92 0)]) 6 dL_law__2347 rfl rfl (by decide) rfl ?_
      refine xj_goto (tgt := 23) dL_law__2350 (by decide) ?_
      cases h
      refine xj_widen (u2 := u + 120) (v2 := v + 3000) (by omega) (by omega) ?_
      refine xj_pick (ls' := [(0, vR 100 0), (1, vR 11 0), (2, vR 12 0), (3, vR 92 0), (4, vI (x4 + 10))]) [3, 4, 5, 6, 0] rfl ?_
      exact kb
    · rw [if_pos c16] at h
      refine xj_aload_n 5 dL_law__2138 rfl ?_
      refine xj_iconst (z := 0) dL_law__2139 (by decide) ?_
      refine xj_lald0 (z := (jL (m13 92 0 0) (m13 92 0 1))) dL_law__2140 rfl ?_
      refine xj_iload 0 dL_law__2141 rfl ?_
      refine xj_i2l dL_law__2143 ?_
      refine xj_lcmp dL_law__2144 ?_
      refine xj_if_eq (tgt := 2150) dL_law__2145 (by decide) (fun c17 => ?_) (fun c17 => ?_)
      · rw [if_pos c17] at h
        refine xj_goto (tgt := 2347) dL_law__2150 (by decide) ?_
        refine xj_iinc (z := x4 + 10) (ls' := [(4, vI (x4 + 10)), (6, vI z14), (5, vI z5), (0, vR 100 0), (1, vR 11 0), (2, vR 12 0), (3, vR 92 0)]) 6 dL_law__2347 rfl rfl (by decide) rfl ?_
        refine xj_goto (tgt := 23) dL_law__2350 (by decide) ?_
        cases h
        refine xj_widen (u2 := u + 120) (v2 := v + 3000) (by omega) (by omega) ?_
        refine xj_pick (ls' := [(0, vR 100 0), (1, vR 11 0), (2, vR 12 0), (3, vR 92 0), (4, vI (x4 + 10))]) [3, 4, 5, 6, 0] rfl ?_
        exact kb
      · rw [if_neg c17] at h
        cases h
  · rw [if_neg c15] at h
    cases h
noncomputable def r_L_op_32 (x4 : Int32) (m : Mem) : Option Mem :=
  if inb (x4 + 1) (m 100 1 0).toNatClampNeg = true then (if inb (x4 + 2) (m 100 1 0).toNatClampNeg = true then (if inb (x4 + 3) (m 100 1 0).toNatClampNeg = true then (if inb (x4 + 4) (m 100 1 0).toNatClampNeg = true then (if inb (x4 + 5) (m 100 1 0).toNatClampNeg = true then (if inb (x4 + 6) (m 100 1 0).toNatClampNeg = true then (bd2 (r_L_span (m 100 0 ((x4 + 1).toNatClampNeg)) (m 100 0 ((x4 + 2).toNatClampNeg)) (m 100 0 ((x4 + 3).toNatClampNeg)) (m 100 0 ((x4 + 4).toNatClampNeg)) (m 100 0 ((x4 + 5).toNatClampNeg)) (m 100 0 ((x4 + 6).toNatClampNeg)) m) fun z7 m8 => (if inb (x4 + 1) (m8 100 1 0).toNatClampNeg = true then (if inb (x4 + 2) (m8 100 1 0).toNatClampNeg = true then (if inb (x4 + 3) (m8 100 1 0).toNatClampNeg = true then (if inb (x4 + 4) (m8 100 1 0).toNatClampNeg = true then (if inb (x4 + 5) (m8 100 1 0).toNatClampNeg = true then (if inb (x4 + 6) (m8 100 1 0).toNatClampNeg = true then (bd2 (r_X12_span (m8 100 0 ((x4 + 1).toNatClampNeg)) (m8 100 0 ((x4 + 2).toNatClampNeg)) (m8 100 0 ((x4 + 3).toNatClampNeg)) (m8 100 0 ((x4 + 4).toNatClampNeg)) (m8 100 0 ((x4 + 5).toNatClampNeg)) (m8 100 0 ((x4 + 6).toNatClampNeg)) m8) fun z18 m17 => (if (r_X12_thrown m17) = z7 then (if z7 = 0 then (if (lg_cmp (jL (m17 92 0 0) (m17 92 0 1)) z18.toInt64) = 0 then (some m17) else (none)) else (some m17)) else (none))) else none) else none) else none) else none) else none) else none)) else none) else none) else none) else none) else none) else none
set_option maxHeartbeats 4000000 in
set_option maxRecDepth 20000 in
theorem ok_L_op_32 (x4 : Int32) (m : Mem) {m1 : Mem} (h : r_L_op_32 x4 m = some m1) {u v : Nat} (hu : u + 120 ≤ 601024) (hv : v + 3000 ≤ 7293034) {o : Ou} {M' : Mem} (kb : Xj RL cL_law_ 8 (some .boolean) 2048 84000 601024 7293034 (u + 120) (v + 3000) 23 [(0, vR 100 0), (1, vR 11 0), (2, vR 12 0), (3, vR 92 0), (4, vI (x4 + 10))] [] m1 o M') : Xj RL cL_law_ 8 (some .boolean) 2048 84000 601024 7293034 u v 2153 [(0, vR 100 0), (1, vR 11 0), (2, vR 12 0), (3, vR 92 0), (4, vI x4)] [] m o M' := by
  unfold r_L_op_32 at h
  refine xj_aload_n 1 dL_law__2153 rfl ?_
  refine xj_aload_n 0 dL_law__2154 rfl ?_
  refine xj_iload 4 dL_law__2155 rfl ?_
  refine xj_iconst (z := 1) dL_law__2157 (by decide) ?_
  refine xj_iadd dL_law__2158 ?_
  by_cases c1 : inb (x4 + 1) (m 100 1 0).toNatClampNeg = true
  case neg => rw [if_neg c1] at h; cases h
  rw [if_pos c1] at h
  refine xg_ialdS (z := (m 100 0 ((x4 + 1).toNatClampNeg))) (n := (x4 + 1).toNatClampNeg) dL_law__2159 (inb_in c1) rfl rfl ?_
  refine xj_aload_n 0 dL_law__2160 rfl ?_
  refine xj_iload 4 dL_law__2161 rfl ?_
  refine xj_iconst (z := 2) dL_law__2163 (by decide) ?_
  refine xj_iadd dL_law__2164 ?_
  by_cases c2 : inb (x4 + 2) (m 100 1 0).toNatClampNeg = true
  case neg => rw [if_neg c2] at h; cases h
  rw [if_pos c2] at h
  refine xg_ialdS (z := (m 100 0 ((x4 + 2).toNatClampNeg))) (n := (x4 + 2).toNatClampNeg) dL_law__2165 (inb_in c2) rfl rfl ?_
  refine xj_aload_n 0 dL_law__2166 rfl ?_
  refine xj_iload 4 dL_law__2167 rfl ?_
  refine xj_iconst (z := 3) dL_law__2169 (by decide) ?_
  refine xj_iadd dL_law__2170 ?_
  by_cases c3 : inb (x4 + 3) (m 100 1 0).toNatClampNeg = true
  case neg => rw [if_neg c3] at h; cases h
  rw [if_pos c3] at h
  refine xg_ialdS (z := (m 100 0 ((x4 + 3).toNatClampNeg))) (n := (x4 + 3).toNatClampNeg) dL_law__2171 (inb_in c3) rfl rfl ?_
  refine xj_aload_n 0 dL_law__2172 rfl ?_
  refine xj_iload 4 dL_law__2173 rfl ?_
  refine xj_iconst (z := 4) dL_law__2175 (by decide) ?_
  refine xj_iadd dL_law__2176 ?_
  by_cases c4 : inb (x4 + 4) (m 100 1 0).toNatClampNeg = true
  case neg => rw [if_neg c4] at h; cases h
  rw [if_pos c4] at h
  refine xg_ialdS (z := (m 100 0 ((x4 + 4).toNatClampNeg))) (n := (x4 + 4).toNatClampNeg) dL_law__2177 (inb_in c4) rfl rfl ?_
  refine xj_aload_n 0 dL_law__2178 rfl ?_
  refine xj_iload 4 dL_law__2179 rfl ?_
  refine xj_iconst (z := 5) dL_law__2181 (by decide) ?_
  refine xj_iadd dL_law__2182 ?_
  by_cases c5 : inb (x4 + 5) (m 100 1 0).toNatClampNeg = true
  case neg => rw [if_neg c5] at h; cases h
  rw [if_pos c5] at h
  refine xg_ialdS (z := (m 100 0 ((x4 + 5).toNatClampNeg))) (n := (x4 + 5).toNatClampNeg) dL_law__2183 (inb_in c5) rfl rfl ?_
  refine xj_aload_n 0 dL_law__2184 rfl ?_
  refine xj_iload 4 dL_law__2185 rfl ?_
  refine xj_bipush (z := 6) dL_law__2187 (by decide) ?_
  refine xj_iadd dL_law__2189 ?_
  by_cases c6 : inb (x4 + 6) (m 100 1 0).toNatClampNeg = true
  case neg => rw [if_neg c6] at h; cases h
  rw [if_pos c6] at h
  refine xg_ialdS (z := (m 100 0 ((x4 + 6).toNatClampNeg))) (n := (x4 + 6).toNatClampNeg) dL_law__2190 (inb_in c6) rfl rfl ?_
  refine xj_aload_n 3 dL_law__2191 rfl ?_
  obtain ⟨z7, m8, e9, h⟩ := bd2_some h
  refine xc_Hi (st := []) (ok_L_span (m 100 0 ((x4 + 1).toNatClampNeg)) (m 100 0 ((x4 + 2).toNatClampNeg)) (m 100 0 ((x4 + 3).toNatClampNeg)) (m 100 0 ((x4 + 4).toNatClampNeg)) (m 100 0 ((x4 + 5).toNatClampNeg)) (m 100 0 ((x4 + 6).toNatClampNeg)) m e9) dL_law__2192 ch_219 rfl rfl (Nat.le_of_ble_eq_true rfl) (by decide) (by decide) (by omega) (by omega) ?_
  refine xj_istore (ls' := [(5, vI z7), (0, vR 100 0), (1, vR 11 0), (2, vR 12 0), (3, vR 92 0), (4, vI x4)]) dL_law__2195 (by decide) rfl ?_
  refine xj_aload_n 3 dL_law__2197 rfl ?_
  refine xj_aload_n 1 dL_law__2198 rfl ?_
  refine xj_iload 5 dL_law__2199 rfl ?_
  refine xj_iconst (z := 1) dL_law__2201 (by decide) ?_
  refine xj_iadd dL_law__2202 ?_
  by_cases c10 : inb (x4 + 1) (m8 100 1 0).toNatClampNeg = true
  case neg => rw [if_neg c10] at h; cases h
  rw [if_pos c10] at h
  refine xg_ialdS (z := (m8 100 0 ((x4 + 1).toNatClampNeg))) (n := (x4 + 1).toNatClampNeg) dL_law__2203 (inb_in c10) rfl rfl ?_
  refine xj_aload_n 1 dL_law__2204 rfl ?_
  refine xj_iload 5 dL_law__2205 rfl ?_
  refine xj_iconst (z := 2) dL_law__2207 (by decide) ?_
  refine xj_iadd dL_law__2208 ?_
  by_cases c11 : inb (x4 + 2) (m8 100 1 0).toNatClampNeg = true
  case neg => rw [if_neg c11] at h; cases h
  rw [if_pos c11] at h
  refine xg_ialdS (z := (m8 100 0 ((x4 + 2).toNatClampNeg))) (n := (x4 + 2).toNatClampNeg) dL_law__2209 (inb_in c11) rfl rfl ?_
  refine xj_aload_n 1 dL_law__2210 rfl ?_
  refine xj_iload 5 dL_law__2211 rfl ?_
  refine xj_iconst (z := 3) dL_law__2213 (by decide) ?_
  refine xj_iadd dL_law__2214 ?_
  by_cases c12 : inb (x4 + 3) (m8 100 1 0).toNatClampNeg = true
  case neg => rw [if_neg c12] at h; cases h
  rw [if_pos c12] at h
  refine xg_ialdS (z := (m8 100 0 ((x4 + 3).toNatClampNeg))) (n := (x4 + 3).toNatClampNeg) dL_law__2215 (inb_in c12) rfl rfl ?_
  refine xj_aload_n 1 dL_law__2216 rfl ?_
  refine xj_iload 5 dL_law__2217 rfl ?_
  refine xj_iconst (z := 4) dL_law__2219 (by decide) ?_
  refine xj_iadd dL_law__2220 ?_
  by_cases c13 : inb (x4 + 4) (m8 100 1 0).toNatClampNeg = true
  case neg => rw [if_neg c13] at h; cases h
  rw [if_pos c13] at h
  refine xg_ialdS (z := (m8 100 0 ((x4 + 4).toNatClampNeg))) (n := (x4 + 4).toNatClampNeg) dL_law__2221 (inb_in c13) rfl rfl ?_
  refine xj_aload_n 1 dL_law__2222 rfl ?_
  refine xj_iload 5 dL_law__2223 rfl ?_
  refine xj_iconst (z := 5) dL_law__2225 (by decide) ?_
  refine xj_iadd dL_law__2226 ?_
  by_cases c14 : inb (x4 + 5) (m8 100 1 0).toNatClampNeg = true
  case neg => rw [if_neg c14] at h; cases h
  rw [if_pos c14] at h
  refine xg_ialdS (z := (m8 100 0 ((x4 + 5).toNatClampNeg))) (n := (x4 + 5).toNatClampNeg) dL_law__2227 (inb_in c14) rfl rfl ?_
  refine xj_aload_n 1 dL_law__2228 rfl ?_
  refine xj_iload 5 dL_law__2229 rfl ?_
  refine xj_bipush (z := 6) dL_law__2231 (by decide) ?_
  refine xj_iadd dL_law__2233 ?_
  by_cases c15 : inb (x4 + 6) (m8 100 1 0).toNatClampNeg = true
  case neg => rw [if_neg c15] at h; cases h
  rw [if_pos c15] at h
  refine xg_ialdS (z := (m8 100 0 ((x4 + 6).toNatClampNeg))) (n := (x4 + 6).toNatClampNeg) dL_law__2234 (inb_in c15) rfl rfl ?_
  obtain ⟨z18, m17, e16, h⟩ := bd2_some h
  refine xc_Vi0 (st := []) (ok_X12_span (m8 100 0 ((x4 + 1).toNatClampNeg)) (m8 100 0 ((x4 + 2).toNatClampNeg)) (m8 100 0 ((x4 + 3).toNatClampNeg)) (m8 100 0 ((x4 + 4).toNatClampNeg)) (m8 100 0 ((x4 + 5).toNatClampNeg)) (m8 100 0 ((x4 + 6).toNatClampNeg)) m8 e16) dL_law__2235 cv_L_222 rfl rfl (Nat.le_of_ble_eq_true rfl) (by decide) (by decide) (by omega) (by omega) ?_
  refine xj_istore (ls' := [(6, vI z18), (5, vI z7), (0, vR 100 0), (1, vR 11 0), (2, vR 12 0), (3, vR 92 0), (4, vI x4)]) dL_law__2238 (by decide) rfl ?_
  refine xj_aload_n 4 dL_law__2240 rfl ?_
  refine xc_Vi0 (st := []) (ok_X12_thrown m17 rfl) dL_law__2241 cv_L_116 rfl rfl (Nat.le_of_ble_eq_true rfl) (by decide) (by decide) (by omega) (by omega) ?_
  refine xj_iload 1 dL_law__2244 rfl ?_
  refine xj_icmp_eq (tgt := 2251) dL_law__2246 (by decide) (fun c19 => ?_) (fun c19 => ?_)
  · rw [if_pos c19] at h
    refine xj_iload 1 dL_law__2251 rfl ?_
    refine xj_if_ne (tgt := 2268) dL_law__2253 (by decide) (fun c20 => ?_) (fun c20 => ?_)
    · rw [if_neg c20] at h
      refine xj_goto (tgt := 2347) dL_law__2268 (by decide) ?_
      refine xj_iinc (z := x4 + 10) (ls' := [(4, vI (x4 + 10)), (6, vI z18), (5, vI z7), (0, vR 100 0), (1, vR 11 0), (2, vR 12 0), (3, vR 92 0)]) 6 dL_law__2347 rfl rfl (by decide) rfl ?_
      refine xj_goto (tgt := 23) dL_law__2350 (by decide) ?_
      cases h
      refine xj_widen (u2 := u + 120) (v2 := v + 3000) (by omega) (by omega) ?_
      refine xj_pick (ls' := [(0, vR 100 0), (1, vR 11 0), (2, vR 12 0), (3, vR 92 0), (4, vI (x4 + 10))]) [3, 4, 5, 6, 0] rfl ?_
      exact kb
    · rw [if_pos c20] at h
      refine xj_aload_n 5 dL_law__2256 rfl ?_
      refine xj_iconst (z := 0) dL_law__2257 (by decide) ?_
      refine xj_lald0 (z := (jL (m17 92 0 0) (m17 92 0 1))) dL_law__2258 rfl ?_
      refine xj_iload 0 dL_law__2259 rfl ?_
      refine xj_i2l dL_law__2261 ?_
      refine xj_lcmp dL_law__2262 ?_
      refine xj_if_eq (tgt := 2268) dL_law__2263 (by decide) (fun c21 => ?_) (fun c21 => ?_)
      · rw [if_pos c21] at h
        refine xj_goto (tgt := 2347) dL_law__2268 (by decide) ?_
        refine xj_iinc (z := x4 + 10) (ls' := [(4, vI (x4 + 10)), (6, vI z18), (5, vI z7), (0, vR 100 0), (1, vR 11 0), (2, vR 12 0), (3, vR 92 0)]) 6 dL_law__2347 rfl rfl (by decide) rfl ?_
        refine xj_goto (tgt := 23) dL_law__2350 (by decide) ?_
        cases h
        refine xj_widen (u2 := u + 120) (v2 := v + 3000) (by omega) (by omega) ?_
        refine xj_pick (ls' := [(0, vR 100 0), (1, vR 11 0), (2, vR 12 0), (3, vR 92 0), (4, vI (x4 + 10))]) [3, 4, 5, 6, 0] rfl ?_
        exact kb
      · rw [if_neg c21] at h
        cases h
  · rw [if_neg c19] at h
    cases h
noncomputable def r_L_op_33 (x4 : Int32) (m : Mem) : Option Mem :=
  bd2 (r_X11_image m) fun z3 m2 => (bd2 (r_X12_image m2) fun z6 m5 => (if z3 = z6 then (some m5) else (none)))
set_option maxHeartbeats 4000000 in
set_option maxRecDepth 20000 in
theorem ok_L_op_33 (x4 : Int32) (m : Mem) {m1 : Mem} (h : r_L_op_33 x4 m = some m1) {u v : Nat} (hu : u + 120 ≤ 601024) (hv : v + 3000 ≤ 7293034) {o : Ou} {M' : Mem} (kb : Xj RL cL_law_ 8 (some .boolean) 2048 84000 601024 7293034 (u + 120) (v + 3000) 23 [(0, vR 100 0), (1, vR 11 0), (2, vR 12 0), (3, vR 92 0), (4, vI (x4 + 10))] [] m1 o M') : Xj RL cL_law_ 8 (some .boolean) 2048 84000 601024 7293034 u v 2271 [(0, vR 100 0), (1, vR 11 0), (2, vR 12 0), (3, vR 92 0), (4, vI x4)] [] m o M' := by
  unfold r_L_op_33 at h
  refine xj_aload_n 1 dL_law__2271 rfl ?_
  obtain ⟨z3, m2, e1, h⟩ := bd2_some h
  refine xc_Vi (st := []) (ok_X11_image m e1) dL_law__2272 cv_L_223 rfl rfl (Nat.le_of_ble_eq_true rfl) (by decide) (by decide) (by omega) (by omega) ?_
  refine xj_aload_n 2 dL_law__2275 rfl ?_
  obtain ⟨z6, m5, e4, h⟩ := bd2_some h
  refine xc_Vi0 (st := [vI z3]) (ok_X12_image m2 e4) dL_law__2276 cv_L_226 rfl rfl (Nat.le_of_ble_eq_true rfl) (by decide) (by decide) (by omega) (by omega) ?_
  refine xj_icmp_eq (tgt := 2347) dL_law__2279 (by decide) (fun c7 => ?_) (fun c7 => ?_)
  · rw [if_pos c7] at h
    refine xj_iinc (z := x4 + 10) (ls' := [(4, vI (x4 + 10)), (0, vR 100 0), (1, vR 11 0), (2, vR 12 0), (3, vR 92 0)]) 4 dL_law__2347 rfl rfl (by decide) rfl ?_
    refine xj_goto (tgt := 23) dL_law__2350 (by decide) ?_
    cases h
    refine xj_widen (u2 := u + 120) (v2 := v + 3000) (by omega) (by omega) ?_
    refine xj_pick (ls' := [(0, vR 100 0), (1, vR 11 0), (2, vR 12 0), (3, vR 92 0), (4, vI (x4 + 10))]) [1, 2, 3, 4, 0] rfl ?_
    exact kb
  · rw [if_neg c7] at h
    cases h
noncomputable def r_L_op_34 (x4 : Int32) (m : Mem) : Option Mem :=
  bd2 (r_X11_restore m) fun z3 m2 => (bd2 (r_X12_restore m2) fun z6 m5 => (if z3 = z6 then (some m5) else (none)))
set_option maxHeartbeats 4000000 in
set_option maxRecDepth 20000 in
theorem ok_L_op_34 (x4 : Int32) (m : Mem) {m1 : Mem} (h : r_L_op_34 x4 m = some m1) {u v : Nat} (hu : u + 120 ≤ 601024) (hv : v + 3000 ≤ 7293034) {o : Ou} {M' : Mem} (kb : Xj RL cL_law_ 8 (some .boolean) 2048 84000 601024 7293034 (u + 120) (v + 3000) 23 [(0, vR 100 0), (1, vR 11 0), (2, vR 12 0), (3, vR 92 0), (4, vI (x4 + 10))] [] m1 o M') : Xj RL cL_law_ 8 (some .boolean) 2048 84000 601024 7293034 u v 2284 [(0, vR 100 0), (1, vR 11 0), (2, vR 12 0), (3, vR 92 0), (4, vI x4)] [] m o M' := by
  unfold r_L_op_34 at h
  refine xj_aload_n 1 dL_law__2284 rfl ?_
  obtain ⟨z3, m2, e1, h⟩ := bd2_some h
  refine xc_Vi (st := []) (ok_X11_restore m e1) dL_law__2285 cv_L_227 rfl rfl (Nat.le_of_ble_eq_true rfl) (by decide) (by decide) (by omega) (by omega) ?_
  refine xj_aload_n 2 dL_law__2288 rfl ?_
  obtain ⟨z6, m5, e4, h⟩ := bd2_some h
  refine xc_Vi0 (st := [vI z3]) (ok_X12_restore m2 e4) dL_law__2289 cv_L_230 rfl rfl (Nat.le_of_ble_eq_true rfl) (by decide) (by decide) (by omega) (by omega) ?_
  refine xj_icmp_eq (tgt := 2347) dL_law__2292 (by decide) (fun c7 => ?_) (fun c7 => ?_)
  · rw [if_pos c7] at h
    refine xj_iinc (z := x4 + 10) (ls' := [(4, vI (x4 + 10)), (0, vR 100 0), (1, vR 11 0), (2, vR 12 0), (3, vR 92 0)]) 4 dL_law__2347 rfl rfl (by decide) rfl ?_
    refine xj_goto (tgt := 23) dL_law__2350 (by decide) ?_
    cases h
    refine xj_widen (u2 := u + 120) (v2 := v + 3000) (by omega) (by omega) ?_
    refine xj_pick (ls' := [(0, vR 100 0), (1, vR 11 0), (2, vR 12 0), (3, vR 92 0), (4, vI (x4 + 10))]) [1, 2, 3, 4, 0] rfl ?_
    exact kb
  · rw [if_neg c7] at h
    cases h
noncomputable def r_L_op_35 (x4 : Int32) (m : Mem) : Option Mem :=
  if inb (x4 + 1) (m 100 1 0).toNatClampNeg = true then (bd2 (r_X12_status (m 100 0 ((x4 + 1).toNatClampNeg)) m) fun z4 m3 => (if (r_X11_status (m 100 0 ((x4 + 1).toNatClampNeg)) m) = z4 then (some m3) else (none))) else none
set_option maxHeartbeats 4000000 in
set_option maxRecDepth 20000 in
theorem ok_L_op_35 (x4 : Int32) (m : Mem) {m1 : Mem} (h : r_L_op_35 x4 m = some m1) {u v : Nat} (hu : u + 120 ≤ 601024) (hv : v + 3000 ≤ 7293034) {o : Ou} {M' : Mem} (kb : Xj RL cL_law_ 8 (some .boolean) 2048 84000 601024 7293034 (u + 120) (v + 3000) 23 [(0, vR 100 0), (1, vR 11 0), (2, vR 12 0), (3, vR 92 0), (4, vI (x4 + 10))] [] m1 o M') : Xj RL cL_law_ 8 (some .boolean) 2048 84000 601024 7293034 u v 2297 [(0, vR 100 0), (1, vR 11 0), (2, vR 12 0), (3, vR 92 0), (4, vI x4)] [] m o M' := by
  unfold r_L_op_35 at h
  refine xj_aload_n 1 dL_law__2297 rfl ?_
  refine xj_aload_n 0 dL_law__2298 rfl ?_
  refine xj_iload 4 dL_law__2299 rfl ?_
  refine xj_iconst (z := 1) dL_law__2301 (by decide) ?_
  refine xj_iadd dL_law__2302 ?_
  by_cases c1 : inb (x4 + 1) (m 100 1 0).toNatClampNeg = true
  case neg => rw [if_neg c1] at h; cases h
  rw [if_pos c1] at h
  refine xg_ialdS (z := (m 100 0 ((x4 + 1).toNatClampNeg))) (n := (x4 + 1).toNatClampNeg) dL_law__2303 (inb_in c1) rfl rfl ?_
  refine xc_Vi0 (st := []) (ok_X11_status (m 100 0 ((x4 + 1).toNatClampNeg)) m rfl) dL_law__2304 cv_L_231 rfl rfl (Nat.le_of_ble_eq_true rfl) (by decide) (by decide) (by omega) (by omega) ?_
  refine xj_aload_n 2 dL_law__2307 rfl ?_
  refine xj_aload_n 0 dL_law__2308 rfl ?_
  refine xj_iload 4 dL_law__2309 rfl ?_
  refine xj_iconst (z := 1) dL_law__2311 (by decide) ?_
  refine xj_iadd dL_law__2312 ?_
  refine xg_ialdS (z := (m 100 0 ((x4 + 1).toNatClampNeg))) (n := (x4 + 1).toNatClampNeg) dL_law__2313 (inb_in c1) rfl rfl ?_
  obtain ⟨z4, m3, e2, h⟩ := bd2_some h
  refine xc_Vi0 (st := [vI (r_X11_status (m 100 0 ((x4 + 1).toNatClampNeg)) m)]) (ok_X12_status (m 100 0 ((x4 + 1).toNatClampNeg)) m e2) dL_law__2314 cv_L_234 rfl rfl (Nat.le_of_ble_eq_true rfl) (by decide) (by decide) (by omega) (by omega) ?_
  refine xj_icmp_eq (tgt := 2347) dL_law__2317 (by decide) (fun c5 => ?_) (fun c5 => ?_)
  · rw [if_pos c5] at h
    refine xj_iinc (z := x4 + 10) (ls' := [(4, vI (x4 + 10)), (0, vR 100 0), (1, vR 11 0), (2, vR 12 0), (3, vR 92 0)]) 4 dL_law__2347 rfl rfl (by decide) rfl ?_
    refine xj_goto (tgt := 23) dL_law__2350 (by decide) ?_
    cases h
    refine xj_widen (u2 := u + 120) (v2 := v + 3000) (by omega) (by omega) ?_
    refine xj_pick (ls' := [(0, vR 100 0), (1, vR 11 0), (2, vR 12 0), (3, vR 92 0), (4, vI (x4 + 10))]) [1, 2, 3, 4, 0] rfl ?_
    exact kb
  · rw [if_neg c5] at h
    cases h
noncomputable def r_L_op_36 (x4 : Int32) (m : Mem) : Option Mem :=
  if inb (x4 + 1) (m 100 1 0).toNatClampNeg = true then (bd2 (r_X12_count (m 100 0 ((x4 + 1).toNatClampNeg)) m) fun z4 m3 => (if (r_X11_count (m 100 0 ((x4 + 1).toNatClampNeg)) m) = z4 then (some m3) else (none))) else none
set_option maxHeartbeats 4000000 in
set_option maxRecDepth 20000 in
theorem ok_L_op_36 (x4 : Int32) (m : Mem) {m1 : Mem} (h : r_L_op_36 x4 m = some m1) {u v : Nat} (hu : u + 120 ≤ 601024) (hv : v + 3000 ≤ 7293034) {o : Ou} {M' : Mem} (kb : Xj RL cL_law_ 8 (some .boolean) 2048 84000 601024 7293034 (u + 120) (v + 3000) 23 [(0, vR 100 0), (1, vR 11 0), (2, vR 12 0), (3, vR 92 0), (4, vI (x4 + 10))] [] m1 o M') : Xj RL cL_law_ 8 (some .boolean) 2048 84000 601024 7293034 u v 2322 [(0, vR 100 0), (1, vR 11 0), (2, vR 12 0), (3, vR 92 0), (4, vI x4)] [] m o M' := by
  unfold r_L_op_36 at h
  refine xj_aload_n 1 dL_law__2322 rfl ?_
  refine xj_aload_n 0 dL_law__2323 rfl ?_
  refine xj_iload 4 dL_law__2324 rfl ?_
  refine xj_iconst (z := 1) dL_law__2326 (by decide) ?_
  refine xj_iadd dL_law__2327 ?_
  by_cases c1 : inb (x4 + 1) (m 100 1 0).toNatClampNeg = true
  case neg => rw [if_neg c1] at h; cases h
  rw [if_pos c1] at h
  refine xg_ialdS (z := (m 100 0 ((x4 + 1).toNatClampNeg))) (n := (x4 + 1).toNatClampNeg) dL_law__2328 (inb_in c1) rfl rfl ?_
  refine xc_Vi0 (st := []) (ok_X11_count (m 100 0 ((x4 + 1).toNatClampNeg)) m rfl) dL_law__2329 cv_L_235 rfl rfl (Nat.le_of_ble_eq_true rfl) (by decide) (by decide) (by omega) (by omega) ?_
  refine xj_aload_n 2 dL_law__2332 rfl ?_
  refine xj_aload_n 0 dL_law__2333 rfl ?_
  refine xj_iload 4 dL_law__2334 rfl ?_
  refine xj_iconst (z := 1) dL_law__2336 (by decide) ?_
  refine xj_iadd dL_law__2337 ?_
  refine xg_ialdS (z := (m 100 0 ((x4 + 1).toNatClampNeg))) (n := (x4 + 1).toNatClampNeg) dL_law__2338 (inb_in c1) rfl rfl ?_
  obtain ⟨z4, m3, e2, h⟩ := bd2_some h
  refine xc_Vi0 (st := [vI (r_X11_count (m 100 0 ((x4 + 1).toNatClampNeg)) m)]) (ok_X12_count (m 100 0 ((x4 + 1).toNatClampNeg)) m e2) dL_law__2339 cv_L_238 rfl rfl (Nat.le_of_ble_eq_true rfl) (by decide) (by decide) (by omega) (by omega) ?_
  refine xj_icmp_eq (tgt := 2347) dL_law__2342 (by decide) (fun c5 => ?_) (fun c5 => ?_)
  · rw [if_pos c5] at h
    refine xj_iinc (z := x4 + 10) (ls' := [(4, vI (x4 + 10)), (0, vR 100 0), (1, vR 11 0), (2, vR 12 0), (3, vR 92 0)]) 4 dL_law__2347 rfl rfl (by decide) rfl ?_
    refine xj_goto (tgt := 23) dL_law__2350 (by decide) ?_
    cases h
    refine xj_widen (u2 := u + 120) (v2 := v + 3000) (by omega) (by omega) ?_
    refine xj_pick (ls' := [(0, vR 100 0), (1, vR 11 0), (2, vR 12 0), (3, vR 92 0), (4, vI (x4 + 10))]) [1, 2, 3, 4, 0] rfl ?_
    exact kb
  · rw [if_neg c5] at h
    cases h
noncomputable def r_L_op_37 (x4 : Int32) (m : Mem) : Option Mem :=
  some m
set_option maxHeartbeats 4000000 in
set_option maxRecDepth 20000 in
theorem ok_L_op_37 (x4 : Int32) (m : Mem) {m1 : Mem} (h : r_L_op_37 x4 m = some m1) {u v : Nat} (hu : u + 120 ≤ 601024) (hv : v + 3000 ≤ 7293034) {o : Ou} {M' : Mem} (kb : Xj RL cL_law_ 8 (some .boolean) 2048 84000 601024 7293034 (u + 120) (v + 3000) 23 [(0, vR 100 0), (1, vR 11 0), (2, vR 12 0), (3, vR 92 0), (4, vI (x4 + 10))] [] m1 o M') : Xj RL cL_law_ 8 (some .boolean) 2048 84000 601024 7293034 u v 2347 [(0, vR 100 0), (1, vR 11 0), (2, vR 12 0), (3, vR 92 0), (4, vI x4)] [] m o M' := by
  unfold r_L_op_37 at h
  refine xj_iinc (z := x4 + 10) (ls' := [(4, vI (x4 + 10)), (0, vR 100 0), (1, vR 11 0), (2, vR 12 0), (3, vR 92 0)]) 4 dL_law__2347 rfl rfl (by decide) rfl ?_
  refine xj_goto (tgt := 23) dL_law__2350 (by decide) ?_
  cases h
  refine xj_widen (u2 := u + 120) (v2 := v + 3000) (by omega) (by omega) ?_
  refine xj_pick (ls' := [(0, vR 100 0), (1, vR 11 0), (2, vR 12 0), (3, vR 92 0), (4, vI (x4 + 10))]) [1, 2, 3, 4, 0] rfl ?_
  exact kb
