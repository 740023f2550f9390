noncomputable def r_L_step (x4 : Int32) (m : Mem) : Option Mem :=
  if inb x4 (m 100 1 0).toNatClampNeg = true then (if (m 100 0 x4.toNatClampNeg &&& 63) = 0 then r_L_op_0 x4 m else if (m 100 0 x4.toNatClampNeg &&& 63) = 1 then r_L_op_1 x4 m else if (m 100 0 x4.toNatClampNeg &&& 63) = 2 then r_L_op_2 x4 m else if (m 100 0 x4.toNatClampNeg &&& 63) = 3 then r_L_op_3 x4 m else if (m 100 0 x4.toNatClampNeg &&& 63) = 4 then r_L_op_4 x4 m else if (m 100 0 x4.toNatClampNeg &&& 63) = 5 then r_L_op_5 x4 m else if (m 100 0 x4.toNatClampNeg &&& 63) = 6 then r_L_op_6 x4 m else if (m 100 0 x4.toNatClampNeg &&& 63) = 7 then r_L_op_7 x4 m else if (m 100 0 x4.toNatClampNeg &&& 63) = 8 then r_L_op_8 x4 m else if (m 100 0 x4.toNatClampNeg &&& 63) = 9 then r_L_op_9 x4 m else if (m 100 0 x4.toNatClampNeg &&& 63) = 10 then r_L_op_10 x4 m else if (m 100 0 x4.toNatClampNeg &&& 63) = 11 then r_L_op_11 x4 m else if (m 100 0 x4.toNatClampNeg &&& 63) = 12 then r_L_op_12 x4 m else if (m 100 0 x4.toNatClampNeg &&& 63) = 13 then r_L_op_13 x4 m else if (m 100 0 x4.toNatClampNeg &&& 63) = 14 then r_L_op_14 x4 m else if (m 100 0 x4.toNatClampNeg &&& 63) = 15 then r_L_op_15 x4 m else if (m 100 0 x4.toNatClampNeg &&& 63) = 16 then r_L_op_16 x4 m else if (m 100 0 x4.toNatClampNeg &&& 63) = 17 then r_L_op_17 x4 m else if (m 100 0 x4.toNatClampNeg &&& 63) = 18 then r_L_op_18 x4 m else if (m 100 0 x4.toNatClampNeg &&& 63) = 19 then r_L_op_19 x4 m else if (m 100 0 x4.toNatClampNeg &&& 63) = 20 then r_L_op_20 x4 m else if (m 100 0 x4.toNatClampNeg &&& 63) = 21 then r_L_op_21 x4 m else if (m 100 0 x4.toNatClampNeg &&& 63) = 22 then r_L_op_22 x4 m else if (m 100 0 x4.toNatClampNeg &&& 63) = 23 then r_L_op_23 x4 m else if (m 100 0 x4.toNatClampNeg &&& 63) = 24 then r_L_op_24 x4 m else if (m 100 0 x4.toNatClampNeg &&& 63) = 25 then r_L_op_25 x4 m else if (m 100 0 x4.toNatClampNeg &&& 63) = 26 then r_L_op_26 x4 m else if (m 100 0 x4.toNatClampNeg &&& 63) = 27 then r_L_op_27 x4 m else if (m 100 0 x4.toNatClampNeg &&& 63) = 28 then r_L_op_28 x4 m else if (m 100 0 x4.toNatClampNeg &&& 63) = 29 then r_L_op_29 x4 m else if (m 100 0 x4.toNatClampNeg &&& 63) = 30 then r_L_op_30 x4 m else if (m 100 0 x4.toNatClampNeg &&& 63) = 31 then r_L_op_31 x4 m else if (m 100 0 x4.toNatClampNeg &&& 63) = 32 then r_L_op_32 x4 m else if (m 100 0 x4.toNatClampNeg &&& 63) = 33 then r_L_op_33 x4 m else if (m 100 0 x4.toNatClampNeg &&& 63) = 34 then r_L_op_34 x4 m else if (m 100 0 x4.toNatClampNeg &&& 63) = 35 then r_L_op_35 x4 m else if (m 100 0 x4.toNatClampNeg &&& 63) = 36 then r_L_op_36 x4 m else r_L_op_37 x4 m) else none
set_option maxHeartbeats 8000000 in
set_option maxRecDepth 20000 in
theorem ok_L_step (x4 : Int32) (m : Mem) {m1 : Mem} (h : r_L_step x4 m = some m1) {u v : Nat} (hu : u + 120 ≤ 601024) (hv : v + 3000 ≤ 7293034) {o : Ou} {M' : Mem} (kb : Xj RL cL_law_ 8 (some .boolean) 2048 84000 601024 7293034 (u + 120) (v + 3000) 23 [(0, vR 100 0), (1, vR 11 0), (2, vR 12 0), (3, vR 92 0), (4, vI (x4 + 10))] [] m1 o M') : Xj RL cL_law_ 8 (some .boolean) 2048 84000 601024 7293034 u v 33 [(0, vR 100 0), (1, vR 11 0), (2, vR 12 0), (3, vR 92 0), (4, vI x4)] [] m o M' := by
  unfold r_L_step at h
  by_cases c0 : inb x4 (m 100 1 0).toNatClampNeg = true
  case neg => rw [if_neg c0] at h; cases h
  rw [if_pos c0] at h
  refine xj_aload_n 0 dL_law__33 rfl ?_
  refine xj_iload 4 dL_law__34 rfl ?_
  refine xg_ialdS (z := m 100 0 x4.toNatClampNeg) (n := x4.toNatClampNeg) dL_law__36 (inb_in c0) rfl rfl ?_
  refine xj_bipush (z := 63) dL_law__37 (by decide) ?_
  refine xj_iand dL_law__39 ?_
  by_cases d0 : (m 100 0 x4.toNatClampNeg &&& 63) = 0
  · rw [if_pos d0] at h
    refine xj_tableIn (off := 164) (tgt := 204) dL_law__40 (by rw [d0]; decide) (by rw [d0]; decide) (by rw [d0]; decide) (by decide) ?_
    exact ok_L_op_0 x4 m h hu hv kb
  rw [if_neg d0] at h
  by_cases d1 : (m 100 0 x4.toNatClampNeg &&& 63) = 1
  · rw [if_pos d1] at h
    refine xj_tableIn (off := 237) (tgt := 277) dL_law__40 (by rw [d1]; decide) (by rw [d1]; decide) (by rw [d1]; decide) (by decide) ?_
    exact ok_L_op_1 x4 m h hu hv kb
  rw [if_neg d1] at h
  by_cases d2 : (m 100 0 x4.toNatClampNeg &&& 63) = 2
  · rw [if_pos d2] at h
    refine xj_tableIn (off := 293) (tgt := 333) dL_law__40 (by rw [d2]; decide) (by rw [d2]; decide) (by rw [d2]; decide) (by decide) ?_
    exact ok_L_op_2 x4 m h hu hv kb
  rw [if_neg d2] at h
  by_cases d3 : (m 100 0 x4.toNatClampNeg &&& 63) = 3
  · rw [if_pos d3] at h
    refine xj_tableIn (off := 349) (tgt := 389) dL_law__40 (by rw [d3]; decide) (by rw [d3]; decide) (by rw [d3]; decide) (by decide) ?_
    exact ok_L_op_3 x4 m h hu hv kb
  rw [if_neg d3] at h
  by_cases d4 : (m 100 0 x4.toNatClampNeg &&& 63) = 4
  · rw [if_pos d4] at h
    refine xj_tableIn (off := 405) (tgt := 445) dL_law__40 (by rw [d4]; decide) (by rw [d4]; decide) (by rw [d4]; decide) (by decide) ?_
    exact ok_L_op_4 x4 m h hu hv kb
  rw [if_neg d4] at h
  by_cases d5 : (m 100 0 x4.toNatClampNeg &&& 63) = 5
  · rw [if_pos d5] at h
    refine xj_tableIn (off := 461) (tgt := 501) dL_law__40 (by rw [d5]; decide) (by rw [d5]; decide) (by rw [d5]; decide) (by decide) ?_
    exact ok_L_op_5 x4 m h hu hv kb
  rw [if_neg d5] at h
  by_cases d6 : (m 100 0 x4.toNatClampNeg &&& 63) = 6
  · rw [if_pos d6] at h
    refine xj_tableIn (off := 474) (tgt := 514) dL_law__40 (by rw [d6]; decide) (by rw [d6]; decide) (by rw [d6]; decide) (by decide) ?_
    exact ok_L_op_6 x4 m h hu hv kb
  rw [if_neg d6] at h
  by_cases d7 : (m 100 0 x4.toNatClampNeg &&& 63) = 7
  · rw [if_pos d7] at h
    refine xj_tableIn (off := 487) (tgt := 527) dL_law__40 (by rw [d7]; decide) (by rw [d7]; decide) (by rw [d7]; decide) (by decide) ?_
    exact ok_L_op_7 x4 m h hu hv kb
  rw [if_neg d7] at h
  by_cases d8 : (m 100 0 x4.toNatClampNeg &&& 63) = 8
  · rw [if_pos d8] at h
    refine xj_tableIn (off := 543) (tgt := 583) dL_law__40 (by rw [d8]; decide) (by rw [d8]; decide) (by rw [d8]; decide) (by decide) ?_
    exact ok_L_op_8 x4 m h hu hv kb
  rw [if_neg d8] at h
  by_cases d9 : (m 100 0 x4.toNatClampNeg &&& 63) = 9
  · rw [if_pos d9] at h
    refine xj_tableIn (off := 611) (tgt := 651) dL_law__40 (by rw [d9]; decide) (by rw [d9]; decide) (by rw [d9]; decide) (by decide) ?_
    exact ok_L_op_9 x4 m h hu hv kb
  rw [if_neg d9] at h
  by_cases d10 : (m 100 0 x4.toNatClampNeg &&& 63) = 10
  · rw [if_pos d10] at h
    refine xj_tableIn (off := 679) (tgt := 719) dL_law__40 (by rw [d10]; decide) (by rw [d10]; decide) (by rw [d10]; decide) (by decide) ?_
    exact ok_L_op_10 x4 m h hu hv kb
  rw [if_neg d10] at h
  by_cases d11 : (m 100 0 x4.toNatClampNeg &&& 63) = 11
  · rw [if_pos d11] at h
    refine xj_tableIn (off := 747) (tgt := 787) dL_law__40 (by rw [d11]; decide) (by rw [d11]; decide) (by rw [d11]; decide) (by decide) ?_
    exact ok_L_op_11 x4 m h hu hv kb
  rw [if_neg d11] at h
  by_cases d12 : (m 100 0 x4.toNatClampNeg &&& 63) = 12
  · rw [if_pos d12] at h
    refine xj_tableIn (off := 815) (tgt := 855) dL_law__40 (by rw [d12]; decide) (by rw [d12]; decide) (by rw [d12]; decide) (by decide) ?_
    exact ok_L_op_12 x4 m h hu hv kb
  rw [if_neg d12] at h
  by_cases d13 : (m 100 0 x4.toNatClampNeg &&& 63) = 13
  · rw [if_pos d13] at h
    refine xj_tableIn (off := 883) (tgt := 923) dL_law__40 (by rw [d13]; decide) (by rw [d13]; decide) (by rw [d13]; decide) (by decide) ?_
    exact ok_L_op_13 x4 m h hu hv kb
  rw [if_neg d13] at h
  by_cases d14 : (m 100 0 x4.toNatClampNeg &&& 63) = 14
  · rw [if_pos d14] at h
    refine xj_tableIn (off := 1043) (tgt := 1083) dL_law__40 (by rw [d14]; decide) (by rw [d14]; decide) (by rw [d14]; decide) (by decide) ?_
    exact ok_L_op_14 x4 m h hu hv kb
  rw [if_neg d14] at h
  by_cases d15 : (m 100 0 x4.toNatClampNeg &&& 63) = 15
  · rw [if_pos d15] at h
    refine xj_tableIn (off := 1099) (tgt := 1139) dL_law__40 (by rw [d15]; decide) (by rw [d15]; decide) (by rw [d15]; decide) (by decide) ?_
    exact ok_L_op_15 x4 m h hu hv kb
  rw [if_neg d15] at h
  by_cases d16 : (m 100 0 x4.toNatClampNeg &&& 63) = 16
  · rw [if_pos d16] at h
    refine xj_tableIn (off := 1167) (tgt := 1207) dL_law__40 (by rw [d16]; decide) (by rw [d16]; decide) (by rw [d16]; decide) (by decide) ?_
    exact ok_L_op_16 x4 m h hu hv kb
  rw [if_neg d16] at h
  by_cases d17 : (m 100 0 x4.toNatClampNeg &&& 63) = 17
  · rw [if_pos d17] at h
    refine xj_tableIn (off := 1180) (tgt := 1220) dL_law__40 (by rw [d17]; decide) (by rw [d17]; decide) (by rw [d17]; decide) (by decide) ?_
    exact ok_L_op_17 x4 m h hu hv kb
  rw [if_neg d17] at h
  by_cases d18 : (m 100 0 x4.toNatClampNeg &&& 63) = 18
  · rw [if_pos d18] at h
    refine xj_tableIn (off := 1260) (tgt := 1300) dL_law__40 (by rw [d18]; decide) (by rw [d18]; decide) (by rw [d18]; decide) (by decide) ?_
    exact ok_L_op_18 x4 m h hu hv kb
  rw [if_neg d18] at h
  by_cases d19 : (m 100 0 x4.toNatClampNeg &&& 63) = 19
  · rw [if_pos d19] at h
    refine xj_tableIn (off := 1316) (tgt := 1356) dL_law__40 (by rw [d19]; decide) (by rw [d19]; decide) (by rw [d19]; decide) (by decide) ?_
    exact ok_L_op_19 x4 m h hu hv kb
  rw [if_neg d19] at h
  by_cases d20 : (m 100 0 x4.toNatClampNeg &&& 63) = 20
  · rw [if_pos d20] at h
    refine xj_tableIn (off := 1372) (tgt := 1412) dL_law__40 (by rw [d20]; decide) (by rw [d20]; decide) (by rw [d20]; decide) (by decide) ?_
    exact ok_L_op_20 x4 m h hu hv kb
  rw [if_neg d20] at h
  by_cases d21 : (m 100 0 x4.toNatClampNeg &&& 63) = 21
  · rw [if_pos d21] at h
    refine xj_tableIn (off := 1428) (tgt := 1468) dL_law__40 (by rw [d21]; decide) (by rw [d21]; decide) (by rw [d21]; decide) (by decide) ?_
    exact ok_L_op_21 x4 m h hu hv kb
  rw [if_neg d21] at h
  by_cases d22 : (m 100 0 x4.toNatClampNeg &&& 63) = 22
  · rw [if_pos d22] at h
    refine xj_tableIn (off := 1496) (tgt := 1536) dL_law__40 (by rw [d22]; decide) (by rw [d22]; decide) (by rw [d22]; decide) (by decide) ?_
    exact ok_L_op_22 x4 m h hu hv kb
  rw [if_neg d22] at h
  by_cases d23 : (m 100 0 x4.toNatClampNeg &&& 63) = 23
  · rw [if_pos d23] at h
    refine xj_tableIn (off := 1564) (tgt := 1604) dL_law__40 (by rw [d23]; decide) (by rw [d23]; decide) (by rw [d23]; decide) (by decide) ?_
    exact ok_L_op_23 x4 m h hu hv kb
  rw [if_neg d23] at h
  by_cases d24 : (m 100 0 x4.toNatClampNeg &&& 63) = 24
  · rw [if_pos d24] at h
    refine xj_tableIn (off := 1644) (tgt := 1684) dL_law__40 (by rw [d24]; decide) (by rw [d24]; decide) (by rw [d24]; decide) (by decide) ?_
    exact ok_L_op_24 x4 m h hu hv kb
  rw [if_neg d24] at h
  by_cases d25 : (m 100 0 x4.toNatClampNeg &&& 63) = 25
  · rw [if_pos d25] at h
    refine xj_tableIn (off := 1657) (tgt := 1697) dL_law__40 (by rw [d25]; decide) (by rw [d25]; decide) (by rw [d25]; decide) (by decide) ?_
    exact ok_L_op_25 x4 m h hu hv kb
  rw [if_neg d25] at h
  by_cases d26 : (m 100 0 x4.toNatClampNeg &&& 63) = 26
  · rw [if_pos d26] at h
    refine xj_tableIn (off := 1736) (tgt := 1776) dL_law__40 (by rw [d26]; decide) (by rw [d26]; decide) (by rw [d26]; decide) (by decide) ?_
    exact ok_L_op_26 x4 m h hu hv kb
  rw [if_neg d26] at h
  by_cases d27 : (m 100 0 x4.toNatClampNeg &&& 63) = 27
  · rw [if_pos d27] at h
    refine xj_tableIn (off := 1804) (tgt := 1844) dL_law__40 (by rw [d27]; decide) (by rw [d27]; decide) (by rw [d27]; decide) (by decide) ?_
    exact ok_L_op_27 x4 m h hu hv kb
  rw [if_neg d27] at h
  by_cases d28 : (m 100 0 x4.toNatClampNeg &&& 63) = 28
  · rw [if_pos d28] at h
    refine xj_tableIn (off := 1884) (tgt := 1924) dL_law__40 (by rw [d28]; decide) (by rw [d28]; decide) (by rw [d28]; decide) (by decide) ?_
    exact ok_L_op_28 x4 m h hu hv kb
  rw [if_neg d28] at h
  by_cases d29 : (m 100 0 x4.toNatClampNeg &&& 63) = 29
  · rw [if_pos d29] at h
    refine xj_tableIn (off := 1952) (tgt := 1992) dL_law__40 (by rw [d29]; decide) (by rw [d29]; decide) (by rw [d29]; decide) (by decide) ?_
    exact ok_L_op_29 x4 m h hu hv kb
  rw [if_neg d29] at h
  by_cases d30 : (m 100 0 x4.toNatClampNeg &&& 63) = 30
  · rw [if_pos d30] at h
    refine xj_tableIn (off := 2008) (tgt := 2048) dL_law__40 (by rw [d30]; decide) (by rw [d30]; decide) (by rw [d30]; decide) (by decide) ?_
    exact ok_L_op_30 x4 m h hu hv kb
  rw [if_neg d30] at h
  by_cases d31 : (m 100 0 x4.toNatClampNeg &&& 63) = 31
  · rw [if_pos d31] at h
    refine xj_tableIn (off := 2021) (tgt := 2061) dL_law__40 (by rw [d31]; decide) (by rw [d31]; decide) (by rw [d31]; decide) (by decide) ?_
    exact ok_L_op_31 x4 m h hu hv kb
  rw [if_neg d31] at h
  by_cases d32 : (m 100 0 x4.toNatClampNeg &&& 63) = 32
  · rw [if_pos d32] at h
    refine xj_tableIn (off := 2113) (tgt := 2153) dL_law__40 (by rw [d32]; decide) (by rw [d32]; decide) (by rw [d32]; decide) (by decide) ?_
    exact ok_L_op_32 x4 m h hu hv kb
  rw [if_neg d32] at h
  by_cases d33 : (m 100 0 x4.toNatClampNeg &&& 63) = 33
  · rw [if_pos d33] at h
    refine xj_tableIn (off := 2231) (tgt := 2271) dL_law__40 (by rw [d33]; decide) (by rw [d33]; decide) (by rw [d33]; decide) (by decide) ?_
    exact ok_L_op_33 x4 m h hu hv kb
  rw [if_neg d33] at h
  by_cases d34 : (m 100 0 x4.toNatClampNeg &&& 63) = 34
  · rw [if_pos d34] at h
    refine xj_tableIn (off := 2244) (tgt := 2284) dL_law__40 (by rw [d34]; decide) (by rw [d34]; decide) (by rw [d34]; decide) (by decide) ?_
    exact ok_L_op_34 x4 m h hu hv kb
  rw [if_neg d34] at h
  by_cases d35 : (m 100 0 x4.toNatClampNeg &&& 63) = 35
  · rw [if_pos d35] at h
    refine xj_tableIn (off := 2257) (tgt := 2297) dL_law__40 (by rw [d35]; decide) (by rw [d35]; decide) (by rw [d35]; decide) (by decide) ?_
    exact ok_L_op_35 x4 m h hu hv kb
  rw [if_neg d35] at h
  by_cases d36 : (m 100 0 x4.toNatClampNeg &&& 63) = 36
  · rw [if_pos d36] at h
    refine xj_tableIn (off := 2282) (tgt := 2322) dL_law__40 (by rw [d36]; decide) (by rw [d36]; decide) (by rw [d36]; decide) (by decide) ?_
    exact ok_L_op_36 x4 m h hu hv kb
  rw [if_neg d36] at h
  refine xj_tableOut (tgt := 2347) dL_law__40 ?_ (by decide) ?_
  · have nd0 := lv_neT d0 (show (0 : Int32).toInt = 0 by decide)
    have nd1 := lv_neT d1 (show (1 : Int32).toInt = 1 by decide)
    have nd2 := lv_neT d2 (show (2 : Int32).toInt = 2 by decide)
    have nd3 := lv_neT d3 (show (3 : Int32).toInt = 3 by decide)
    have nd4 := lv_neT d4 (show (4 : Int32).toInt = 4 by decide)
    have nd5 := lv_neT d5 (show (5 : Int32).toInt = 5 by decide)
    have nd6 := lv_neT d6 (show (6 : Int32).toInt = 6 by decide)
    have nd7 := lv_neT d7 (show (7 : Int32).toInt = 7 by decide)
    have nd8 := lv_neT d8 (show (8 : Int32).toInt = 8 by decide)
    have nd9 := lv_neT d9 (show (9 : Int32).toInt = 9 by decide)
    have nd10 := lv_neT d10 (show (10 : Int32).toInt = 10 by decide)
    have nd11 := lv_neT d11 (show (11 : Int32).toInt = 11 by decide)
    have nd12 := lv_neT d12 (show (12 : Int32).toInt = 12 by decide)
    have nd13 := lv_neT d13 (show (13 : Int32).toInt = 13 by decide)
    have nd14 := lv_neT d14 (show (14 : Int32).toInt = 14 by decide)
    have nd15 := lv_neT d15 (show (15 : Int32).toInt = 15 by decide)
    have nd16 := lv_neT d16 (show (16 : Int32).toInt = 16 by decide)
    have nd17 := lv_neT d17 (show (17 : Int32).toInt = 17 by decide)
    have nd18 := lv_neT d18 (show (18 : Int32).toInt = 18 by decide)
    have nd19 := lv_neT d19 (show (19 : Int32).toInt = 19 by decide)
    have nd20 := lv_neT d20 (show (20 : Int32).toInt = 20 by decide)
    have nd21 := lv_neT d21 (show (21 : Int32).toInt = 21 by decide)
    have nd22 := lv_neT d22 (show (22 : Int32).toInt = 22 by decide)
    have nd23 := lv_neT d23 (show (23 : Int32).toInt = 23 by decide)
    have nd24 := lv_neT d24 (show (24 : Int32).toInt = 24 by decide)
    have nd25 := lv_neT d25 (show (25 : Int32).toInt = 25 by decide)
    have nd26 := lv_neT d26 (show (26 : Int32).toInt = 26 by decide)
    have nd27 := lv_neT d27 (show (27 : Int32).toInt = 27 by decide)
    have nd28 := lv_neT d28 (show (28 : Int32).toInt = 28 by decide)
    have nd29 := lv_neT d29 (show (29 : Int32).toInt = 29 by decide)
    have nd30 := lv_neT d30 (show (30 : Int32).toInt = 30 by decide)
    have nd31 := lv_neT d31 (show (31 : Int32).toInt = 31 by decide)
    have nd32 := lv_neT d32 (show (32 : Int32).toInt = 32 by decide)
    have nd33 := lv_neT d33 (show (33 : Int32).toInt = 33 by decide)
    have nd34 := lv_neT d34 (show (34 : Int32).toInt = 34 by decide)
    have nd35 := lv_neT d35 (show (35 : Int32).toInt = 35 by decide)
    have nd36 := lv_neT d36 (show (36 : Int32).toInt = 36 by decide)
    omega
  exact ok_L_op_37 x4 m h hu hv kb
noncomputable def r_L_run : Nat → Int32 → Mem → Option Mem
  | 0, x4, m => if (m 100 1 0 - 10) < x4 then some m else none
  | n + 1, x4, m => if (m 100 1 0 - 10) < x4 then some m else bd1 (r_L_step x4 m) fun m1 => r_L_run n (x4 + 10) m1
set_option maxRecDepth 20000 in
theorem ok_L_run : ∀ (n : Nat) (x4 : Int32) (m : Mem) {m1 : Mem} (h : r_L_run n x4 m = some m1) {u v : Nat} (hu : u + 120 * n ≤ 601024) (hv : v + 3000 * n ≤ 7293034), Xj RL cL_law_ 8 (some .boolean) 2048 84000 601024 7293034 u v 23 [(0, vR 100 0), (1, vR 11 0), (2, vR 12 0), (3, vR 92 0), (4, vI x4)] [] m (.inl (some (vI 1))) m1
  | 0, x4, m, m1, h, u, v, hu, hv => by
    unfold r_L_run at h
    refine xj_iload 4 dL_law__23 rfl ?_
    refine xj_aload_n 0 dL_law__25 rfl ?_
    refine xj_lenS dL_law__26 ?_
    refine xj_bipush (z := 10) dL_law__27 (by decide) ?_
    refine xj_isub dL_law__29 ?_
    refine xj_icmp_gt (tgt := 2353) dL_law__30 (by decide) (fun c => ?_) (fun c => ?_)
    · rw [if_pos c] at h
      cases h
      refine xj_iconst (z := 1) dL_law__2353 (by decide) ?_
      exact xj_ireturn dL_law__2354 rfl (by omega) (by omega)
    · rw [if_neg c] at h
      cases h
  | n + 1, x4, m, m1, h, u, v, hu, hv => by
    unfold r_L_run at h
    refine xj_iload 4 dL_law__23 rfl ?_
    refine xj_aload_n 0 dL_law__25 rfl ?_
    refine xj_lenS dL_law__26 ?_
    refine xj_bipush (z := 10) dL_law__27 (by decide) ?_
    refine xj_isub dL_law__29 ?_
    refine xj_icmp_gt (tgt := 2353) dL_law__30 (by decide) (fun c => ?_) (fun c => ?_)
    · rw [if_pos c] at h
      cases h
      refine xj_iconst (z := 1) dL_law__2353 (by decide) ?_
      exact xj_ireturn dL_law__2354 rfl (by omega) (by omega)
    · rw [if_neg c] at h
      obtain ⟨m2, e1, h⟩ := bd1_some h
      have a1 : u + 120 + 120 * n ≤ 601024 := by omega
      have a2 : v + 3000 + 3000 * n ≤ 7293034 := by omega
      have a3 : u + 120 ≤ 601024 := by omega
      have a4 : v + 3000 ≤ 7293034 := by omega
      exact ok_L_step x4 m e1 a3 a4 (ok_L_run n (x4 + 10) m2 h a1 a2)
noncomputable def r_L_law_ (m : Mem) : Option Mem :=
  if m 94 311 0 = 0 then (bd1 (r_X11_init (nw m 311 0)) fun m1 => if m1 94 11 0 = 0 then none else (if m1 94 312 0 = 0 then (bd1 (r_X12_init (nw m1 312 0)) fun m2 => if m2 94 12 0 = 0 then none else (if m2 94 92 0 = 0 then (r_L_run 512 0 (nw m2 92 0)) else none)) else none)) else none
set_option maxHeartbeats 4000000 in
theorem ok_L_law_ (m : Mem) {m' : Mem} (h : r_L_law_ m = some m') : Xj RL cL_law_ 8 (some .boolean) 2048 84000 601024 7293034 0 0 0 [(0, vR 100 0)] [] m (.inl (some (vI 1))) m' := by
  show Xj RL cL_law_ 8 (some .boolean) 2048 84000 601024 7293034 0 0 0 [(0, vR 100 0)] [] m (.inl (some (vI 1))) m'
  unfold r_L_law_ at h
  by_cases c1 : m 94 311 0 = 0
  case neg => rw [if_neg c1] at h; cases h
  rw [if_pos c1] at h
  refine xj_new (k := 11) (i := 0) dL_law__0 ck_L_8 c1 (by decide) (by decide) ?_
  refine xj_dup dL_law__3 rfl ?_
  obtain ⟨m1, e1, h⟩ := bd1_some h
  refine xj_callI (st := [vR 311 0]) (ok_X11_init _ e1) dL_law__4 ci_L_101 rfl rfl (Nat.le_of_ble_eq_true rfl) (by decide) (by decide) (by decide) (by decide) ?_
  by_cases c2 : m1 94 11 0 = 0
  · rw [if_pos c2] at h; cases h
  rw [if_neg c2] at h
  refine xj_view (k := 11) (by decide) c2 ?_
  refine xj_astore_n (ls' := [(1, vR 11 0), (0, vR 100 0)]) dL_law__7 rfl (by decide) rfl ?_
  by_cases c3 : m1 94 312 0 = 0
  case neg => rw [if_neg c3] at h; cases h
  rw [if_pos c3] at h
  refine xj_new (k := 12) (i := 0) dL_law__8 ck_L_102 c3 (by decide) (by decide) ?_
  refine xj_dup dL_law__11 rfl ?_
  obtain ⟨m2, e2, h⟩ := bd1_some h
  refine xj_callI (st := [vR 312 0]) (ok_X12_init _ e2) dL_law__12 ci_L_104 rfl rfl (Nat.le_of_ble_eq_true rfl) (by decide) (by decide) (by decide) (by decide) ?_
  by_cases c4 : m2 94 12 0 = 0
  · rw [if_pos c4] at h; cases h
  rw [if_neg c4] at h
  refine xj_view (k := 12) (by decide) c4 ?_
  refine xj_astore_n (ls' := [(2, vR 12 0), (1, vR 11 0), (0, vR 100 0)]) dL_law__15 rfl (by decide) rfl ?_
  by_cases c5 : m2 94 92 0 = 0
  case neg => rw [if_neg c5] at h; cases h
  rw [if_pos c5] at h
  refine xj_iconst (z := 1) dL_law__16 (by decide) ?_
  refine xj_newl (k := 92) (i := 0) dL_law__17 wt_2007 rfl (by decide) c5 (by decide) (by decide) (by decide) (by decide) (by decide) ?_
  refine xj_astore_n (ls' := [(3, vR 92 0), (2, vR 12 0), (1, vR 11 0), (0, vR 100 0)]) dL_law__19 rfl (by decide) rfl ?_
  refine xj_iconst (z := 0) dL_law__20 (by decide) ?_
  refine xj_istore (ls' := [(4, vI 0), (3, vR 92 0), (2, vR 12 0), (1, vR 11 0), (0, vR 100 0)]) dL_law__21 (by decide) rfl ?_
  refine xj_pick (ls' := [(0, vR 100 0), (1, vR 11 0), (2, vR 12 0), (3, vR 92 0), (4, vI 0)]) [4, 3, 2, 1, 0] rfl ?_
  exact ok_L_run 512 0 _ h (by decide) (by decide)
