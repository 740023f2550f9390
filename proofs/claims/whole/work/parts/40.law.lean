theorem wt_27 : (Jvm.Cond.instantiable "BeliefRiver" (17 : Nat)) ∈ W0 := W0_m (in_t1 (List.mem_of_getElem? (i := 27) rfl)) rfl
theorem wt_28 : (Jvm.Cond.methodLink "BeliefRiverLaw" (101 : Nat) ({ cls := "BeliefRiver", name := "<init>", desc := "()V" } : Jvm.MethodName)) ∈ W0 := W0_m (in_t1 (List.mem_of_getElem? (i := 28) rfl)) rfl
theorem wt_29 : (Jvm.Cond.instanceMethod ({ cls := "BeliefRiver", name := "<init>", desc := "()V" } : Jvm.MethodName)) ∈ W0 := W0_m (in_t1 (List.mem_of_getElem? (i := 29) rfl)) rfl
theorem wt_30 : (Jvm.Cond.code ({ cls := "BeliefRiver", name := "<init>", desc := "()V" } : Jvm.MethodName) prog_1_method_1_code (1 : Nat) (Option.none : Option Jvm.ClassFile.FieldType)) ∈ W0 := W0_m (in_t1 (List.mem_of_getElem? (i := 30) rfl)) rfl
theorem wt_1393 : (Jvm.Cond.instantiable "BeliefRiverModel" (52 : Nat)) ∈ W0 := W0_m (in_t6 (List.mem_of_getElem? (i := 193) rfl)) rfl
theorem wt_1394 : (Jvm.Cond.methodLink "BeliefRiverLaw" (104 : Nat) ({ cls := "BeliefRiverModel", name := "<init>", desc := "()V" } : Jvm.MethodName)) ∈ W0 := W0_m (in_t6 (List.mem_of_getElem? (i := 194) rfl)) rfl
theorem wt_1395 : (Jvm.Cond.instanceMethod ({ cls := "BeliefRiverModel", name := "<init>", desc := "()V" } : Jvm.MethodName)) ∈ W0 := W0_m (in_t6 (List.mem_of_getElem? (i := 195) rfl)) rfl
theorem wt_1396 : (Jvm.Cond.code ({ cls := "BeliefRiverModel", name := "<init>", desc := "()V" } : Jvm.MethodName) prog_14_method_1_code (1 : Nat) (Option.none : Option Jvm.ClassFile.FieldType)) ∈ W0 := W0_m (in_t6 (List.mem_of_getElem? (i := 196) rfl)) rfl
theorem wt_2007 : (Jvm.Cond.arrayClass Jvm.ClassFile.FieldType.long) ∈ W0 := W0_m (in_t9 (List.mem_of_getElem? (i := 87) rfl)) rfl
theorem ck_L_8 : CK RL 8 11 := ⟨_, _, _, cf_11, wt_26, wt_27, fun i j hj => match j, hj with | 0, _ => Or.inr ⟨⟨_, rfl, rfl⟩, _, rfl⟩ | 1, _ => Or.inr ⟨⟨_, rfl, rfl⟩, _, rfl⟩ | 2, _ => Or.inr ⟨⟨_, rfl, rfl⟩, _, rfl⟩ | 3, _ => Or.inr ⟨⟨_, rfl, rfl⟩, _, rfl⟩ | 4, _ => Or.inr ⟨⟨_, rfl, rfl⟩, _, rfl⟩ | 5, _ => Or.inr ⟨⟨_, rfl, rfl⟩, _, rfl⟩ | 6, _ => Or.inr ⟨⟨_, rfl, rfl⟩, _, rfl⟩ | 7, _ => Or.inr ⟨⟨_, rfl, rfl⟩, _, rfl⟩ | 8, _ => Or.inr ⟨⟨_, rfl, rfl⟩, _, rfl⟩ | 9, _ => Or.inr ⟨⟨_, rfl, rfl⟩, _, rfl⟩ | 10, _ => Or.inr ⟨⟨_, rfl, rfl⟩, _, rfl⟩ | 11, _ => Or.inr ⟨⟨_, rfl, rfl⟩, _, rfl⟩ | 12, _ => Or.inr ⟨⟨_, rfl, rfl⟩, _, rfl⟩ | 13, _ => Or.inr ⟨⟨_, rfl, rfl⟩, _, rfl⟩ | 14, _ => Or.inl ⟨rfl, rfl⟩ | 15, _ => Or.inl ⟨rfl, rfl⟩ | 16, _ => Or.inl ⟨rfl, rfl⟩ | n + 17, hj => absurd hj (by omega)⟩
theorem ci_L_101 : CI RL 101 yX11_init cX11_init 1 0 := ⟨wt_28, wt_29, wt_1, wt_30, by decide, by decide, by decide +kernel, rfl⟩
theorem ck_L_102 : CK RL 102 12 := ⟨_, _, _, cf_12, wt_1392, wt_1393, fun i j hj => match j, hj with | 0, _ => Or.inl ⟨rfl, rfl⟩ | 1, _ => Or.inl ⟨rfl, rfl⟩ | 2, _ => Or.inl ⟨rfl, rfl⟩ | 3, _ => Or.inl ⟨rfl, rfl⟩ | 4, _ => Or.inl ⟨rfl, rfl⟩ | 5, _ => Or.inl ⟨rfl, rfl⟩ | 6, _ => Or.inl ⟨rfl, rfl⟩ | 7, _ => Or.inl ⟨rfl, rfl⟩ | 8, _ => Or.inl ⟨rfl, rfl⟩ | 9, _ => Or.inr ⟨⟨_, rfl, rfl⟩, _, rfl⟩ | 10, _ => Or.inr ⟨⟨_, rfl, rfl⟩, _, rfl⟩ | 11, _ => Or.inr ⟨⟨_, rfl, rfl⟩, _, rfl⟩ | 12, _ => Or.inr ⟨⟨_, rfl, rfl⟩, _, rfl⟩ | 13, _ => Or.inr ⟨⟨_, rfl, rfl⟩, _, rfl⟩ | 14, _ => Or.inr ⟨⟨_, rfl, rfl⟩, _, rfl⟩ | 15, _ => Or.inr ⟨⟨_, rfl, rfl⟩, _, rfl⟩ | 16, _ => Or.inr ⟨⟨_, rfl, rfl⟩, _, rfl⟩ | 17, _ => Or.inr ⟨⟨_, rfl, rfl⟩, _, rfl⟩ | 18, _ => Or.inr ⟨⟨_, rfl, rfl⟩, _, rfl⟩ | 19, _ => Or.inr ⟨⟨_, rfl, rfl⟩, _, rfl⟩ | 20, _ => Or.inr ⟨⟨_, rfl, rfl⟩, _, rfl⟩ | 21, _ => Or.inl ⟨rfl, rfl⟩ | 22, _ => Or.inl ⟨rfl, rfl⟩ | 23, _ => Or.inr ⟨⟨_, rfl, rfl⟩, _, rfl⟩ | 24, _ => Or.inr ⟨⟨_, rfl, rfl⟩, _, rfl⟩ | 25, _ => Or.inr ⟨⟨_, rfl, rfl⟩, _, rfl⟩ | 26, _ => Or.inr ⟨⟨_, rfl, rfl⟩, _, rfl⟩ | 27, _ => Or.inr ⟨⟨_, rfl, rfl⟩, _, rfl⟩ | 28, _ => Or.inr ⟨⟨_, rfl, rfl⟩, _, rfl⟩ | 29, _ => Or.inr ⟨⟨_, rfl, rfl⟩, _, rfl⟩ | 30, _ => Or.inl ⟨rfl, rfl⟩ | 31, _ => Or.inr ⟨⟨_, rfl, rfl⟩, _, rfl⟩ | 32, _ => Or.inr ⟨⟨_, rfl, rfl⟩, _, rfl⟩ | 33, _ => Or.inr ⟨⟨_, rfl, rfl⟩, _, rfl⟩ | 34, _ => Or.inr ⟨⟨_, rfl, rfl⟩, _, rfl⟩ | 35, _ => Or.inl ⟨rfl, rfl⟩ | 36, _ => Or.inl ⟨rfl, rfl⟩ | 37, _ => Or.inl ⟨rfl, rfl⟩ | 38, _ => Or.inl ⟨rfl, rfl⟩ | 39, _ => Or.inl ⟨rfl, rfl⟩ | 40, _ => Or.inr ⟨⟨_, rfl, rfl⟩, _, rfl⟩ | 41, _ => Or.inr ⟨⟨_, rfl, rfl⟩, _, rfl⟩ | 42, _ => Or.inl ⟨rfl, rfl⟩ | 43, _ => Or.inl ⟨rfl, rfl⟩ | 44, _ => Or.inl ⟨rfl, rfl⟩ | 45, _ => Or.inr ⟨⟨_, rfl, rfl⟩, _, rfl⟩ | 46, _ => Or.inr ⟨⟨_, rfl, rfl⟩, _, rfl⟩ | 47, _ => Or.inl ⟨rfl, rfl⟩ | 48, _ => Or.inr ⟨⟨_, rfl, rfl⟩, _, rfl⟩ | 49, _ => Or.inr ⟨⟨_, rfl, rfl⟩, _, rfl⟩ | 50, _ => Or.inl ⟨rfl, rfl⟩ | 51, _ => Or.inl ⟨rfl, rfl⟩ | n + 52, hj => absurd hj (by omega)⟩
theorem ci_L_104 : CI RL 104 yX12_init cX12_init 1 0 := ⟨wt_1394, wt_1395, wt_14, wt_1396, by decide, by decide, by decide +kernel, rfl⟩
theorem dL_law__0 : decode cL_law_ 0 = .ok (.new 8, 3) := by decide +kernel
theorem dL_law__3 : decode cL_law_ 3 = .ok (.dup, 1) := by decide +kernel
theorem dL_law__4 : decode cL_law_ 4 = .ok (.invokespecial 101, 3) := by decide +kernel
theorem dL_law__7 : decode cL_law_ 7 = .ok (.astore_n 1, 1) := by decide +kernel
theorem dL_law__8 : decode cL_law_ 8 = .ok (.new 102, 3) := by decide +kernel
theorem dL_law__11 : decode cL_law_ 11 = .ok (.dup, 1) := by decide +kernel
theorem dL_law__12 : decode cL_law_ 12 = .ok (.invokespecial 104, 3) := by decide +kernel
theorem dL_law__15 : decode cL_law_ 15 = .ok (.astore_n 2, 1) := by decide +kernel
theorem dL_law__16 : decode cL_law_ 16 = .ok (.iconst 1, 1) := by decide +kernel
theorem dL_law__17 : decode cL_law_ 17 = .ok (.newarray .long, 2) := by decide +kernel
theorem dL_law__19 : decode cL_law_ 19 = .ok (.astore_n 3, 1) := by decide +kernel
theorem dL_law__20 : decode cL_law_ 20 = .ok (.iconst 0, 1) := by decide +kernel
theorem dL_law__21 : decode cL_law_ 21 = .ok (.istore 4, 2) := by decide +kernel
theorem dL_law__23 : decode cL_law_ 23 = .ok (.iload 4, 2) := by decide +kernel
theorem dL_law__25 : decode cL_law_ 25 = .ok (.aload_n 0, 1) := by decide +kernel
theorem dL_law__26 : decode cL_law_ 26 = .ok (.arraylength, 1) := by decide +kernel
theorem dL_law__27 : decode cL_law_ 27 = .ok (.bipush 10, 2) := by decide +kernel
theorem dL_law__29 : decode cL_law_ 29 = .ok (.isub, 1) := by decide +kernel
theorem dL_law__30 : decode cL_law_ 30 = .ok (.if_icmp .gt 2323, 3) := by decide +kernel
theorem dL_law__33 : decode cL_law_ 33 = .ok (.aload_n 0, 1) := by decide +kernel
theorem dL_law__34 : decode cL_law_ 34 = .ok (.iload 4, 2) := by decide +kernel
theorem dL_law__36 : decode cL_law_ 36 = .ok (.iaload, 1) := by decide +kernel
theorem dL_law__37 : decode cL_law_ 37 = .ok (.bipush 63, 2) := by decide +kernel
theorem dL_law__39 : decode cL_law_ 39 = .ok (.iand, 1) := by decide +kernel
theorem dL_law__40 : decode cL_law_ 40 = .ok (.tableswitch 2307 0 36 #[164, 237, 293, 349, 405, 461, 474, 487, 543, 611, 679, 747, 815, 883, 1043, 1099, 1167, 1180, 1260, 1316, 1372, 1428, 1496, 1564, 1644, 1657, 1736, 1804, 1884, 1952, 2008, 2021, 2113, 2231, 2244, 2257, 2282], 164) := by decide +kernel
theorem dL_law__204 : decode cL_law_ 204 = .ok (.aload_n 1, 1) := by decide +kernel
theorem dL_law__205 : decode cL_law_ 205 = .ok (.aload_n 0, 1) := by decide +kernel
theorem dL_law__206 : decode cL_law_ 206 = .ok (.iload 4, 2) := by decide +kernel
theorem dL_law__208 : decode cL_law_ 208 = .ok (.iconst 1, 1) := by decide +kernel
theorem dL_law__209 : decode cL_law_ 209 = .ok (.iadd, 1) := by decide +kernel
theorem dL_law__210 : decode cL_law_ 210 = .ok (.iaload, 1) := by decide +kernel
theorem dL_law__211 : decode cL_law_ 211 = .ok (.aload_n 0, 1) := by decide +kernel
theorem dL_law__212 : decode cL_law_ 212 = .ok (.iload 4, 2) := by decide +kernel
theorem dL_law__214 : decode cL_law_ 214 = .ok (.iconst 2, 1) := by decide +kernel
theorem dL_law__215 : decode cL_law_ 215 = .ok (.iadd, 1) := by decide +kernel
theorem dL_law__216 : decode cL_law_ 216 = .ok (.iaload, 1) := by decide +kernel
theorem dL_law__217 : decode cL_law_ 217 = .ok (.aload_n 0, 1) := by decide +kernel
theorem dL_law__218 : decode cL_law_ 218 = .ok (.iload 4, 2) := by decide +kernel
theorem dL_law__220 : decode cL_law_ 220 = .ok (.iconst 3, 1) := by decide +kernel
theorem dL_law__221 : decode cL_law_ 221 = .ok (.iadd, 1) := by decide +kernel
theorem dL_law__222 : decode cL_law_ 222 = .ok (.iaload, 1) := by decide +kernel
theorem dL_law__223 : decode cL_law_ 223 = .ok (.aload_n 0, 1) := by decide +kernel
theorem dL_law__224 : decode cL_law_ 224 = .ok (.iload 4, 2) := by decide +kernel
theorem dL_law__226 : decode cL_law_ 226 = .ok (.iconst 4, 1) := by decide +kernel
theorem dL_law__227 : decode cL_law_ 227 = .ok (.iadd, 1) := by decide +kernel
theorem dL_law__228 : decode cL_law_ 228 = .ok (.iaload, 1) := by decide +kernel
theorem dL_law__229 : decode cL_law_ 229 = .ok (.aload_n 0, 1) := by decide +kernel
theorem dL_law__230 : decode cL_law_ 230 = .ok (.iload 4, 2) := by decide +kernel
theorem dL_law__232 : decode cL_law_ 232 = .ok (.iconst 5, 1) := by decide +kernel
theorem dL_law__233 : decode cL_law_ 233 = .ok (.iadd, 1) := by decide +kernel
theorem dL_law__234 : decode cL_law_ 234 = .ok (.iaload, 1) := by decide +kernel
theorem dL_law__235 : decode cL_law_ 235 = .ok (.invokevirtual 105, 3) := by decide +kernel
theorem dL_law__238 : decode cL_law_ 238 = .ok (.aload_n 2, 1) := by decide +kernel
theorem dL_law__239 : decode cL_law_ 239 = .ok (.aload_n 0, 1) := by decide +kernel
theorem dL_law__240 : decode cL_law_ 240 = .ok (.iload 4, 2) := by decide +kernel
theorem dL_law__242 : decode cL_law_ 242 = .ok (.iconst 1, 1) := by decide +kernel
theorem dL_law__243 : decode cL_law_ 243 = .ok (.iadd, 1) := by decide +kernel
theorem dL_law__244 : decode cL_law_ 244 = .ok (.iaload, 1) := by decide +kernel
theorem dL_law__245 : decode cL_law_ 245 = .ok (.aload_n 0, 1) := by decide +kernel
theorem dL_law__246 : decode cL_law_ 246 = .ok (.iload 4, 2) := by decide +kernel
theorem dL_law__248 : decode cL_law_ 248 = .ok (.iconst 2, 1) := by decide +kernel
theorem dL_law__249 : decode cL_law_ 249 = .ok (.iadd, 1) := by decide +kernel
theorem dL_law__250 : decode cL_law_ 250 = .ok (.iaload, 1) := by decide +kernel
theorem dL_law__251 : decode cL_law_ 251 = .ok (.aload_n 0, 1) := by decide +kernel
theorem dL_law__252 : decode cL_law_ 252 = .ok (.iload 4, 2) := by decide +kernel
theorem dL_law__254 : decode cL_law_ 254 = .ok (.iconst 3, 1) := by decide +kernel
theorem dL_law__255 : decode cL_law_ 255 = .ok (.iadd, 1) := by decide +kernel
theorem dL_law__256 : decode cL_law_ 256 = .ok (.iaload, 1) := by decide +kernel
theorem dL_law__257 : decode cL_law_ 257 = .ok (.aload_n 0, 1) := by decide +kernel
theorem dL_law__258 : decode cL_law_ 258 = .ok (.iload 4, 2) := by decide +kernel
theorem dL_law__260 : decode cL_law_ 260 = .ok (.iconst 4, 1) := by decide +kernel
theorem dL_law__261 : decode cL_law_ 261 = .ok (.iadd, 1) := by decide +kernel
theorem dL_law__262 : decode cL_law_ 262 = .ok (.iaload, 1) := by decide +kernel
theorem dL_law__263 : decode cL_law_ 263 = .ok (.aload_n 0, 1) := by decide +kernel
theorem dL_law__264 : decode cL_law_ 264 = .ok (.iload 4, 2) := by decide +kernel
theorem dL_law__266 : decode cL_law_ 266 = .ok (.iconst 5, 1) := by decide +kernel
theorem dL_law__267 : decode cL_law_ 267 = .ok (.iadd, 1) := by decide +kernel
theorem dL_law__268 : decode cL_law_ 268 = .ok (.iaload, 1) := by decide +kernel
theorem dL_law__269 : decode cL_law_ 269 = .ok (.invokevirtual 109, 3) := by decide +kernel
theorem dL_law__272 : decode cL_law_ 272 = .ok (.if_icmp .eq 2075, 3) := by decide +kernel
theorem dL_law__275 : decode cL_law_ 275 = .ok (.iconst 0, 1) := by decide +kernel
theorem dL_law__276 : decode cL_law_ 276 = .ok (.ireturn, 1) := by decide +kernel
theorem dL_law__277 : decode cL_law_ 277 = .ok (.aload_n 1, 1) := by decide +kernel
theorem dL_law__278 : decode cL_law_ 278 = .ok (.aload_n 0, 1) := by decide +kernel
theorem dL_law__279 : decode cL_law_ 279 = .ok (.iload 4, 2) := by decide +kernel
theorem dL_law__281 : decode cL_law_ 281 = .ok (.iconst 1, 1) := by decide +kernel
theorem dL_law__282 : decode cL_law_ 282 = .ok (.iadd, 1) := by decide +kernel
theorem dL_law__283 : decode cL_law_ 283 = .ok (.iaload, 1) := by decide +kernel
theorem dL_law__284 : decode cL_law_ 284 = .ok (.aload_n 3, 1) := by decide +kernel
theorem dL_law__285 : decode cL_law_ 285 = .ok (.invokestatic 110, 3) := by decide +kernel
theorem dL_law__288 : decode cL_law_ 288 = .ok (.istore 5, 2) := by decide +kernel
theorem dL_law__290 : decode cL_law_ 290 = .ok (.aload_n 2, 1) := by decide +kernel
theorem dL_law__291 : decode cL_law_ 291 = .ok (.aload_n 0, 1) := by decide +kernel
theorem dL_law__292 : decode cL_law_ 292 = .ok (.iload 4, 2) := by decide +kernel
theorem dL_law__294 : decode cL_law_ 294 = .ok (.iconst 1, 1) := by decide +kernel
theorem dL_law__295 : decode cL_law_ 295 = .ok (.iadd, 1) := by decide +kernel
theorem dL_law__296 : decode cL_law_ 296 = .ok (.iaload, 1) := by decide +kernel
theorem dL_law__297 : decode cL_law_ 297 = .ok (.invokevirtual 115, 3) := by decide +kernel
theorem dL_law__300 : decode cL_law_ 300 = .ok (.istore 6, 2) := by decide +kernel
theorem dL_law__302 : decode cL_law_ 302 = .ok (.aload_n 2, 1) := by decide +kernel
theorem dL_law__303 : decode cL_law_ 303 = .ok (.invokevirtual 116, 3) := by decide +kernel
theorem dL_law__306 : decode cL_law_ 306 = .ok (.iload 5, 2) := by decide +kernel
theorem dL_law__308 : decode cL_law_ 308 = .ok (.if_icmp .eq 5, 3) := by decide +kernel
theorem dL_law__311 : decode cL_law_ 311 = .ok (.iconst 0, 1) := by decide +kernel
theorem dL_law__312 : decode cL_law_ 312 = .ok (.ireturn, 1) := by decide +kernel
theorem dL_law__313 : decode cL_law_ 313 = .ok (.iload 5, 2) := by decide +kernel
theorem dL_law__315 : decode cL_law_ 315 = .ok (.ifCond .ne 15, 3) := by decide +kernel
theorem dL_law__318 : decode cL_law_ 318 = .ok (.aload_n 3, 1) := by decide +kernel
theorem dL_law__319 : decode cL_law_ 319 = .ok (.iconst 0, 1) := by decide +kernel
theorem dL_law__320 : decode cL_law_ 320 = .ok (.laload, 1) := by decide +kernel
theorem dL_law__321 : decode cL_law_ 321 = .ok (.iload 6, 2) := by decide +kernel
theorem dL_law__323 : decode cL_law_ 323 = .ok (.i2l, 1) := by decide +kernel
theorem dL_law__324 : decode cL_law_ 324 = .ok (.lcmp, 1) := by decide +kernel
theorem dL_law__325 : decode cL_law_ 325 = .ok (.ifCond .eq 5, 3) := by decide +kernel
theorem dL_law__328 : decode cL_law_ 328 = .ok (.iconst 0, 1) := by decide +kernel
theorem dL_law__329 : decode cL_law_ 329 = .ok (.ireturn, 1) := by decide +kernel
theorem dL_law__330 : decode cL_law_ 330 = .ok (.goto 2017, 3) := by decide +kernel
theorem dL_law__333 : decode cL_law_ 333 = .ok (.aload_n 1, 1) := by decide +kernel
theorem dL_law__334 : decode cL_law_ 334 = .ok (.aload_n 0, 1) := by decide +kernel
theorem dL_law__335 : decode cL_law_ 335 = .ok (.iload 4, 2) := by decide +kernel
theorem dL_law__337 : decode cL_law_ 337 = .ok (.iconst 1, 1) := by decide +kernel
theorem dL_law__338 : decode cL_law_ 338 = .ok (.iadd, 1) := by decide +kernel
theorem dL_law__339 : decode cL_law_ 339 = .ok (.iaload, 1) := by decide +kernel
theorem dL_law__340 : decode cL_law_ 340 = .ok (.aload_n 3, 1) := by decide +kernel
theorem dL_law__341 : decode cL_law_ 341 = .ok (.invokestatic 120, 3) := by decide +kernel
theorem dL_law__344 : decode cL_law_ 344 = .ok (.istore 5, 2) := by decide +kernel
theorem dL_law__346 : decode cL_law_ 346 = .ok (.aload_n 2, 1) := by decide +kernel
theorem dL_law__347 : decode cL_law_ 347 = .ok (.aload_n 0, 1) := by decide +kernel
theorem dL_law__348 : decode cL_law_ 348 = .ok (.iload 4, 2) := by decide +kernel
theorem dL_law__350 : decode cL_law_ 350 = .ok (.iconst 1, 1) := by decide +kernel
theorem dL_law__351 : decode cL_law_ 351 = .ok (.iadd, 1) := by decide +kernel
theorem dL_law__352 : decode cL_law_ 352 = .ok (.iaload, 1) := by decide +kernel
theorem dL_law__353 : decode cL_law_ 353 = .ok (.invokevirtual 122, 3) := by decide +kernel
theorem dL_law__356 : decode cL_law_ 356 = .ok (.istore 6, 2) := by decide +kernel
theorem dL_law__358 : decode cL_law_ 358 = .ok (.aload_n 2, 1) := by decide +kernel
theorem dL_law__359 : decode cL_law_ 359 = .ok (.invokevirtual 116, 3) := by decide +kernel
theorem dL_law__362 : decode cL_law_ 362 = .ok (.iload 5, 2) := by decide +kernel
theorem dL_law__364 : decode cL_law_ 364 = .ok (.if_icmp .eq 5, 3) := by decide +kernel
theorem dL_law__367 : decode cL_law_ 367 = .ok (.iconst 0, 1) := by decide +kernel
theorem dL_law__368 : decode cL_law_ 368 = .ok (.ireturn, 1) := by decide +kernel
theorem dL_law__369 : decode cL_law_ 369 = .ok (.iload 5, 2) := by decide +kernel
theorem dL_law__371 : decode cL_law_ 371 = .ok (.ifCond .ne 15, 3) := by decide +kernel
theorem dL_law__374 : decode cL_law_ 374 = .ok (.aload_n 3, 1) := by decide +kernel
theorem dL_law__375 : decode cL_law_ 375 = .ok (.iconst 0, 1) := by decide +kernel
theorem dL_law__376 : decode cL_law_ 376 = .ok (.laload, 1) := by decide +kernel
theorem dL_law__377 : decode cL_law_ 377 = .ok (.iload 6, 2) := by decide +kernel
theorem dL_law__379 : decode cL_law_ 379 = .ok (.i2l, 1) := by decide +kernel
theorem dL_law__380 : decode cL_law_ 380 = .ok (.lcmp, 1) := by decide +kernel
theorem dL_law__381 : decode cL_law_ 381 = .ok (.ifCond .eq 5, 3) := by decide +kernel
theorem dL_law__384 : decode cL_law_ 384 = .ok (.iconst 0, 1) := by decide +kernel
theorem dL_law__385 : decode cL_law_ 385 = .ok (.ireturn, 1) := by decide +kernel
theorem dL_law__386 : decode cL_law_ 386 = .ok (.goto 1961, 3) := by decide +kernel
theorem dL_law__389 : decode cL_law_ 389 = .ok (.aload_n 1, 1) := by decide +kernel
theorem dL_law__390 : decode cL_law_ 390 = .ok (.aload_n 0, 1) := by decide +kernel
theorem dL_law__391 : decode cL_law_ 391 = .ok (.iload 4, 2) := by decide +kernel
theorem dL_law__393 : decode cL_law_ 393 = .ok (.iconst 1, 1) := by decide +kernel
theorem dL_law__394 : decode cL_law_ 394 = .ok (.iadd, 1) := by decide +kernel
theorem dL_law__395 : decode cL_law_ 395 = .ok (.iaload, 1) := by decide +kernel
theorem dL_law__396 : decode cL_law_ 396 = .ok (.aload_n 3, 1) := by decide +kernel
theorem dL_law__397 : decode cL_law_ 397 = .ok (.invokestatic 123, 3) := by decide +kernel
theorem dL_law__400 : decode cL_law_ 400 = .ok (.istore 5, 2) := by decide +kernel
theorem dL_law__402 : decode cL_law_ 402 = .ok (.aload_n 2, 1) := by decide +kernel
theorem dL_law__403 : decode cL_law_ 403 = .ok (.aload_n 0, 1) := by decide +kernel
theorem dL_law__404 : decode cL_law_ 404 = .ok (.iload 4, 2) := by decide +kernel
theorem dL_law__406 : decode cL_law_ 406 = .ok (.iconst 1, 1) := by decide +kernel
theorem dL_law__407 : decode cL_law_ 407 = .ok (.iadd, 1) := by decide +kernel
theorem dL_law__408 : decode cL_law_ 408 = .ok (.iaload, 1) := by decide +kernel
theorem dL_law__409 : decode cL_law_ 409 = .ok (.invokevirtual 125, 3) := by decide +kernel
theorem dL_law__412 : decode cL_law_ 412 = .ok (.istore 6, 2) := by decide +kernel
theorem dL_law__414 : decode cL_law_ 414 = .ok (.aload_n 2, 1) := by decide +kernel
theorem dL_law__415 : decode cL_law_ 415 = .ok (.invokevirtual 116, 3) := by decide +kernel
theorem dL_law__418 : decode cL_law_ 418 = .ok (.iload 5, 2) := by decide +kernel
theorem dL_law__420 : decode cL_law_ 420 = .ok (.if_icmp .eq 5, 3) := by decide +kernel
theorem dL_law__423 : decode cL_law_ 423 = .ok (.iconst 0, 1) := by decide +kernel
theorem dL_law__424 : decode cL_law_ 424 = .ok (.ireturn, 1) := by decide +kernel
theorem dL_law__425 : decode cL_law_ 425 = .ok (.iload 5, 2) := by decide +kernel
theorem dL_law__427 : decode cL_law_ 427 = .ok (.ifCond .ne 15, 3) := by decide +kernel
theorem dL_law__430 : decode cL_law_ 430 = .ok (.aload_n 3, 1) := by decide +kernel
theorem dL_law__431 : decode cL_law_ 431 = .ok (.iconst 0, 1) := by decide +kernel
theorem dL_law__432 : decode cL_law_ 432 = .ok (.laload, 1) := by decide +kernel
theorem dL_law__433 : decode cL_law_ 433 = .ok (.iload 6, 2) := by decide +kernel
theorem dL_law__435 : decode cL_law_ 435 = .ok (.i2l, 1) := by decide +kernel
theorem dL_law__436 : decode cL_law_ 436 = .ok (.lcmp, 1) := by decide +kernel
theorem dL_law__437 : decode cL_law_ 437 = .ok (.ifCond .eq 5, 3) := by decide +kernel
theorem dL_law__440 : decode cL_law_ 440 = .ok (.iconst 0, 1) := by decide +kernel
theorem dL_law__441 : decode cL_law_ 441 = .ok (.ireturn, 1) := by decide +kernel
theorem dL_law__442 : decode cL_law_ 442 = .ok (.goto 1905, 3) := by decide +kernel
theorem dL_law__445 : decode cL_law_ 445 = .ok (.aload_n 1, 1) := by decide +kernel
theorem dL_law__446 : decode cL_law_ 446 = .ok (.aload_n 0, 1) := by decide +kernel
theorem dL_law__447 : decode cL_law_ 447 = .ok (.iload 4, 2) := by decide +kernel
theorem dL_law__449 : decode cL_law_ 449 = .ok (.iconst 1, 1) := by decide +kernel
theorem dL_law__450 : decode cL_law_ 450 = .ok (.iadd, 1) := by decide +kernel
theorem dL_law__451 : decode cL_law_ 451 = .ok (.iaload, 1) := by decide +kernel
theorem dL_law__452 : decode cL_law_ 452 = .ok (.aload_n 3, 1) := by decide +kernel
theorem dL_law__453 : decode cL_law_ 453 = .ok (.invokestatic 126, 3) := by decide +kernel
theorem dL_law__456 : decode cL_law_ 456 = .ok (.istore 5, 2) := by decide +kernel
theorem dL_law__458 : decode cL_law_ 458 = .ok (.aload_n 2, 1) := by decide +kernel
theorem dL_law__459 : decode cL_law_ 459 = .ok (.aload_n 0, 1) := by decide +kernel
theorem dL_law__460 : decode cL_law_ 460 = .ok (.iload 4, 2) := by decide +kernel
theorem dL_law__462 : decode cL_law_ 462 = .ok (.iconst 1, 1) := by decide +kernel
theorem dL_law__463 : decode cL_law_ 463 = .ok (.iadd, 1) := by decide +kernel
theorem dL_law__464 : decode cL_law_ 464 = .ok (.iaload, 1) := by decide +kernel
theorem dL_law__465 : decode cL_law_ 465 = .ok (.invokevirtual 128, 3) := by decide +kernel
theorem dL_law__468 : decode cL_law_ 468 = .ok (.istore 6, 2) := by decide +kernel
theorem dL_law__470 : decode cL_law_ 470 = .ok (.aload_n 2, 1) := by decide +kernel
theorem dL_law__471 : decode cL_law_ 471 = .ok (.invokevirtual 116, 3) := by decide +kernel
theorem dL_law__474 : decode cL_law_ 474 = .ok (.iload 5, 2) := by decide +kernel
theorem dL_law__476 : decode cL_law_ 476 = .ok (.if_icmp .eq 5, 3) := by decide +kernel
theorem dL_law__479 : decode cL_law_ 479 = .ok (.iconst 0, 1) := by decide +kernel
theorem dL_law__480 : decode cL_law_ 480 = .ok (.ireturn, 1) := by decide +kernel
theorem dL_law__481 : decode cL_law_ 481 = .ok (.iload 5, 2) := by decide +kernel
theorem dL_law__483 : decode cL_law_ 483 = .ok (.ifCond .ne 15, 3) := by decide +kernel
theorem dL_law__486 : decode cL_law_ 486 = .ok (.aload_n 3, 1) := by decide +kernel
theorem dL_law__487 : decode cL_law_ 487 = .ok (.iconst 0, 1) := by decide +kernel
theorem dL_law__488 : decode cL_law_ 488 = .ok (.laload, 1) := by decide +kernel
theorem dL_law__489 : decode cL_law_ 489 = .ok (.iload 6, 2) := by decide +kernel
theorem dL_law__491 : decode cL_law_ 491 = .ok (.i2l, 1) := by decide +kernel
theorem dL_law__492 : decode cL_law_ 492 = .ok (.lcmp, 1) := by decide +kernel
theorem dL_law__493 : decode cL_law_ 493 = .ok (.ifCond .eq 5, 3) := by decide +kernel
theorem dL_law__496 : decode cL_law_ 496 = .ok (.iconst 0, 1) := by decide +kernel
theorem dL_law__497 : decode cL_law_ 497 = .ok (.ireturn, 1) := by decide +kernel
theorem dL_law__498 : decode cL_law_ 498 = .ok (.goto 1849, 3) := by decide +kernel
theorem dL_law__501 : decode cL_law_ 501 = .ok (.aload_n 1, 1) := by decide +kernel
theorem dL_law__502 : decode cL_law_ 502 = .ok (.invokevirtual 129, 3) := by decide +kernel
theorem dL_law__505 : decode cL_law_ 505 = .ok (.aload_n 2, 1) := by decide +kernel
theorem dL_law__506 : decode cL_law_ 506 = .ok (.invokevirtual 132, 3) := by decide +kernel
theorem dL_law__509 : decode cL_law_ 509 = .ok (.if_icmp .eq 1838, 3) := by decide +kernel
theorem dL_law__512 : decode cL_law_ 512 = .ok (.iconst 0, 1) := by decide +kernel
theorem dL_law__513 : decode cL_law_ 513 = .ok (.ireturn, 1) := by decide +kernel
theorem dL_law__514 : decode cL_law_ 514 = .ok (.aload_n 1, 1) := by decide +kernel
theorem dL_law__515 : decode cL_law_ 515 = .ok (.invokevirtual 133, 3) := by decide +kernel
theorem dL_law__518 : decode cL_law_ 518 = .ok (.aload_n 2, 1) := by decide +kernel
theorem dL_law__519 : decode cL_law_ 519 = .ok (.invokevirtual 136, 3) := by decide +kernel
theorem dL_law__522 : decode cL_law_ 522 = .ok (.if_icmp .eq 1825, 3) := by decide +kernel
theorem dL_law__525 : decode cL_law_ 525 = .ok (.iconst 0, 1) := by decide +kernel
theorem dL_law__526 : decode cL_law_ 526 = .ok (.ireturn, 1) := by decide +kernel
theorem dL_law__527 : decode cL_law_ 527 = .ok (.aload_n 1, 1) := by decide +kernel
theorem dL_law__528 : decode cL_law_ 528 = .ok (.aload_n 0, 1) := by decide +kernel
theorem dL_law__529 : decode cL_law_ 529 = .ok (.iload 4, 2) := by decide +kernel
theorem dL_law__531 : decode cL_law_ 531 = .ok (.iconst 1, 1) := by decide +kernel
theorem dL_law__532 : decode cL_law_ 532 = .ok (.iadd, 1) := by decide +kernel
theorem dL_law__533 : decode cL_law_ 533 = .ok (.iaload, 1) := by decide +kernel
theorem dL_law__534 : decode cL_law_ 534 = .ok (.aload_n 3, 1) := by decide +kernel
theorem dL_law__535 : decode cL_law_ 535 = .ok (.invokestatic 137, 3) := by decide +kernel
theorem dL_law__538 : decode cL_law_ 538 = .ok (.istore 5, 2) := by decide +kernel
theorem dL_law__540 : decode cL_law_ 540 = .ok (.aload_n 2, 1) := by decide +kernel
theorem dL_law__541 : decode cL_law_ 541 = .ok (.aload_n 0, 1) := by decide +kernel
theorem dL_law__542 : decode cL_law_ 542 = .ok (.iload 4, 2) := by decide +kernel
theorem dL_law__544 : decode cL_law_ 544 = .ok (.iconst 1, 1) := by decide +kernel
theorem dL_law__545 : decode cL_law_ 545 = .ok (.iadd, 1) := by decide +kernel
theorem dL_law__546 : decode cL_law_ 546 = .ok (.iaload, 1) := by decide +kernel
theorem dL_law__547 : decode cL_law_ 547 = .ok (.invokevirtual 139, 3) := by decide +kernel
theorem dL_law__550 : decode cL_law_ 550 = .ok (.istore 6, 2) := by decide +kernel
theorem dL_law__552 : decode cL_law_ 552 = .ok (.aload_n 2, 1) := by decide +kernel
theorem dL_law__553 : decode cL_law_ 553 = .ok (.invokevirtual 116, 3) := by decide +kernel
theorem dL_law__556 : decode cL_law_ 556 = .ok (.iload 5, 2) := by decide +kernel
theorem dL_law__558 : decode cL_law_ 558 = .ok (.if_icmp .eq 5, 3) := by decide +kernel
theorem dL_law__561 : decode cL_law_ 561 = .ok (.iconst 0, 1) := by decide +kernel
theorem dL_law__562 : decode cL_law_ 562 = .ok (.ireturn, 1) := by decide +kernel
theorem dL_law__563 : decode cL_law_ 563 = .ok (.iload 5, 2) := by decide +kernel
theorem dL_law__565 : decode cL_law_ 565 = .ok (.ifCond .ne 15, 3) := by decide +kernel
theorem dL_law__568 : decode cL_law_ 568 = .ok (.aload_n 3, 1) := by decide +kernel
theorem dL_law__569 : decode cL_law_ 569 = .ok (.iconst 0, 1) := by decide +kernel
theorem dL_law__570 : decode cL_law_ 570 = .ok (.laload, 1) := by decide +kernel
theorem dL_law__571 : decode cL_law_ 571 = .ok (.iload 6, 2) := by decide +kernel
theorem dL_law__573 : decode cL_law_ 573 = .ok (.i2l, 1) := by decide +kernel
theorem dL_law__574 : decode cL_law_ 574 = .ok (.lcmp, 1) := by decide +kernel
theorem dL_law__575 : decode cL_law_ 575 = .ok (.ifCond .eq 5, 3) := by decide +kernel
theorem dL_law__578 : decode cL_law_ 578 = .ok (.iconst 0, 1) := by decide +kernel
theorem dL_law__579 : decode cL_law_ 579 = .ok (.ireturn, 1) := by decide +kernel
theorem dL_law__580 : decode cL_law_ 580 = .ok (.goto 1767, 3) := by decide +kernel
theorem dL_law__583 : decode cL_law_ 583 = .ok (.aload_n 1, 1) := by decide +kernel
theorem dL_law__584 : decode cL_law_ 584 = .ok (.aload_n 0, 1) := by decide +kernel
theorem dL_law__585 : decode cL_law_ 585 = .ok (.iload 4, 2) := by decide +kernel
theorem dL_law__587 : decode cL_law_ 587 = .ok (.iconst 1, 1) := by decide +kernel
theorem dL_law__588 : decode cL_law_ 588 = .ok (.iadd, 1) := by decide +kernel
theorem dL_law__589 : decode cL_law_ 589 = .ok (.iaload, 1) := by decide +kernel
theorem dL_law__590 : decode cL_law_ 590 = .ok (.aload_n 0, 1) := by decide +kernel
theorem dL_law__591 : decode cL_law_ 591 = .ok (.iload 4, 2) := by decide +kernel
theorem dL_law__593 : decode cL_law_ 593 = .ok (.iconst 2, 1) := by decide +kernel
theorem dL_law__594 : decode cL_law_ 594 = .ok (.iadd, 1) := by decide +kernel
theorem dL_law__595 : decode cL_law_ 595 = .ok (.iaload, 1) := by decide +kernel
theorem dL_law__596 : decode cL_law_ 596 = .ok (.aload_n 3, 1) := by decide +kernel
theorem dL_law__597 : decode cL_law_ 597 = .ok (.invokestatic 140, 3) := by decide +kernel
theorem dL_law__600 : decode cL_law_ 600 = .ok (.istore 5, 2) := by decide +kernel
theorem dL_law__602 : decode cL_law_ 602 = .ok (.aload_n 2, 1) := by decide +kernel
theorem dL_law__603 : decode cL_law_ 603 = .ok (.aload_n 0, 1) := by decide +kernel
theorem dL_law__604 : decode cL_law_ 604 = .ok (.iload 4, 2) := by decide +kernel
theorem dL_law__606 : decode cL_law_ 606 = .ok (.iconst 1, 1) := by decide +kernel
theorem dL_law__607 : decode cL_law_ 607 = .ok (.iadd, 1) := by decide +kernel
theorem dL_law__608 : decode cL_law_ 608 = .ok (.iaload, 1) := by decide +kernel
theorem dL_law__609 : decode cL_law_ 609 = .ok (.aload_n 0, 1) := by decide +kernel
theorem dL_law__610 : decode cL_law_ 610 = .ok (.iload 4, 2) := by decide +kernel
theorem dL_law__612 : decode cL_law_ 612 = .ok (.iconst 2, 1) := by decide +kernel
theorem dL_law__613 : decode cL_law_ 613 = .ok (.iadd, 1) := by decide +kernel
theorem dL_law__614 : decode cL_law_ 614 = .ok (.iaload, 1) := by decide +kernel
theorem dL_law__615 : decode cL_law_ 615 = .ok (.invokevirtual 143, 3) := by decide +kernel
theorem dL_law__618 : decode cL_law_ 618 = .ok (.istore 6, 2) := by decide +kernel
theorem dL_law__620 : decode cL_law_ 620 = .ok (.aload_n 2, 1) := by decide +kernel
theorem dL_law__621 : decode cL_law_ 621 = .ok (.invokevirtual 116, 3) := by decide +kernel
theorem dL_law__624 : decode cL_law_ 624 = .ok (.iload 5, 2) := by decide +kernel
theorem dL_law__626 : decode cL_law_ 626 = .ok (.if_icmp .eq 5, 3) := by decide +kernel
theorem dL_law__629 : decode cL_law_ 629 = .ok (.iconst 0, 1) := by decide +kernel
theorem dL_law__630 : decode cL_law_ 630 = .ok (.ireturn, 1) := by decide +kernel
theorem dL_law__631 : decode cL_law_ 631 = .ok (.iload 5, 2) := by decide +kernel
theorem dL_law__633 : decode cL_law_ 633 = .ok (.ifCond .ne 15, 3) := by decide +kernel
theorem dL_law__636 : decode cL_law_ 636 = .ok (.aload_n 3, 1) := by decide +kernel
theorem dL_law__637 : decode cL_law_ 637 = .ok (.iconst 0, 1) := by decide +kernel
theorem dL_law__638 : decode cL_law_ 638 = .ok (.laload, 1) := by decide +kernel
theorem dL_law__639 : decode cL_law_ 639 = .ok (.iload 6, 2) := by decide +kernel
theorem dL_law__641 : decode cL_law_ 641 = .ok (.i2l, 1) := by decide +kernel
theorem dL_law__642 : decode cL_law_ 642 = .ok (.lcmp, 1) := by decide +kernel
theorem dL_law__643 : decode cL_law_ 643 = .ok (.ifCond .eq 5, 3) := by decide +kernel
theorem dL_law__646 : decode cL_law_ 646 = .ok (.iconst 0, 1) := by decide +kernel
theorem dL_law__647 : decode cL_law_ 647 = .ok (.ireturn, 1) := by decide +kernel
theorem dL_law__648 : decode cL_law_ 648 = .ok (.goto 1699, 3) := by decide +kernel
theorem dL_law__651 : decode cL_law_ 651 = .ok (.aload_n 1, 1) := by decide +kernel
theorem dL_law__652 : decode cL_law_ 652 = .ok (.aload_n 0, 1) := by decide +kernel
theorem dL_law__653 : decode cL_law_ 653 = .ok (.iload 4, 2) := by decide +kernel
theorem dL_law__655 : decode cL_law_ 655 = .ok (.iconst 1, 1) := by decide +kernel
theorem dL_law__656 : decode cL_law_ 656 = .ok (.iadd, 1) := by decide +kernel
theorem dL_law__657 : decode cL_law_ 657 = .ok (.iaload, 1) := by decide +kernel
theorem dL_law__658 : decode cL_law_ 658 = .ok (.aload_n 0, 1) := by decide +kernel
theorem dL_law__659 : decode cL_law_ 659 = .ok (.iload 4, 2) := by decide +kernel
theorem dL_law__661 : decode cL_law_ 661 = .ok (.iconst 2, 1) := by decide +kernel
theorem dL_law__662 : decode cL_law_ 662 = .ok (.iadd, 1) := by decide +kernel
theorem dL_law__663 : decode cL_law_ 663 = .ok (.iaload, 1) := by decide +kernel
theorem dL_law__664 : decode cL_law_ 664 = .ok (.aload_n 3, 1) := by decide +kernel
theorem dL_law__665 : decode cL_law_ 665 = .ok (.invokestatic 144, 3) := by decide +kernel
theorem dL_law__668 : decode cL_law_ 668 = .ok (.istore 5, 2) := by decide +kernel
theorem dL_law__670 : decode cL_law_ 670 = .ok (.aload_n 2, 1) := by decide +kernel
theorem dL_law__671 : decode cL_law_ 671 = .ok (.aload_n 0, 1) := by decide +kernel
theorem dL_law__672 : decode cL_law_ 672 = .ok (.iload 4, 2) := by decide +kernel
theorem dL_law__674 : decode cL_law_ 674 = .ok (.iconst 1, 1) := by decide +kernel
theorem dL_law__675 : decode cL_law_ 675 = .ok (.iadd, 1) := by decide +kernel
theorem dL_law__676 : decode cL_law_ 676 = .ok (.iaload, 1) := by decide +kernel
theorem dL_law__677 : decode cL_law_ 677 = .ok (.aload_n 0, 1) := by decide +kernel
theorem dL_law__678 : decode cL_law_ 678 = .ok (.iload 4, 2) := by decide +kernel
theorem dL_law__680 : decode cL_law_ 680 = .ok (.iconst 2, 1) := by decide +kernel
theorem dL_law__681 : decode cL_law_ 681 = .ok (.iadd, 1) := by decide +kernel
theorem dL_law__682 : decode cL_law_ 682 = .ok (.iaload, 1) := by decide +kernel
theorem dL_law__683 : decode cL_law_ 683 = .ok (.invokevirtual 146, 3) := by decide +kernel
theorem dL_law__686 : decode cL_law_ 686 = .ok (.istore 6, 2) := by decide +kernel
theorem dL_law__688 : decode cL_law_ 688 = .ok (.aload_n 2, 1) := by decide +kernel
theorem dL_law__689 : decode cL_law_ 689 = .ok (.invokevirtual 116, 3) := by decide +kernel
theorem dL_law__692 : decode cL_law_ 692 = .ok (.iload 5, 2) := by decide +kernel
theorem dL_law__694 : decode cL_law_ 694 = .ok (.if_icmp .eq 5, 3) := by decide +kernel
theorem dL_law__697 : decode cL_law_ 697 = .ok (.iconst 0, 1) := by decide +kernel
theorem dL_law__698 : decode cL_law_ 698 = .ok (.ireturn, 1) := by decide +kernel
theorem dL_law__699 : decode cL_law_ 699 = .ok (.iload 5, 2) := by decide +kernel
theorem dL_law__701 : decode cL_law_ 701 = .ok (.ifCond .ne 15, 3) := by decide +kernel
theorem dL_law__704 : decode cL_law_ 704 = .ok (.aload_n 3, 1) := by decide +kernel
theorem dL_law__705 : decode cL_law_ 705 = .ok (.iconst 0, 1) := by decide +kernel
theorem dL_law__706 : decode cL_law_ 706 = .ok (.laload, 1) := by decide +kernel
theorem dL_law__707 : decode cL_law_ 707 = .ok (.iload 6, 2) := by decide +kernel
theorem dL_law__709 : decode cL_law_ 709 = .ok (.i2l, 1) := by decide +kernel
theorem dL_law__710 : decode cL_law_ 710 = .ok (.lcmp, 1) := by decide +kernel
theorem dL_law__711 : decode cL_law_ 711 = .ok (.ifCond .eq 5, 3) := by decide +kernel
theorem dL_law__714 : decode cL_law_ 714 = .ok (.iconst 0, 1) := by decide +kernel
theorem dL_law__715 : decode cL_law_ 715 = .ok (.ireturn, 1) := by decide +kernel
theorem dL_law__716 : decode cL_law_ 716 = .ok (.goto 1631, 3) := by decide +kernel
theorem dL_law__719 : decode cL_law_ 719 = .ok (.aload_n 1, 1) := by decide +kernel
theorem dL_law__720 : decode cL_law_ 720 = .ok (.aload_n 0, 1) := by decide +kernel
theorem dL_law__721 : decode cL_law_ 721 = .ok (.iload 4, 2) := by decide +kernel
theorem dL_law__723 : decode cL_law_ 723 = .ok (.iconst 1, 1) := by decide +kernel
theorem dL_law__724 : decode cL_law_ 724 = .ok (.iadd, 1) := by decide +kernel
theorem dL_law__725 : decode cL_law_ 725 = .ok (.iaload, 1) := by decide +kernel
theorem dL_law__726 : decode cL_law_ 726 = .ok (.aload_n 0, 1) := by decide +kernel
theorem dL_law__727 : decode cL_law_ 727 = .ok (.iload 4, 2) := by decide +kernel
theorem dL_law__729 : decode cL_law_ 729 = .ok (.iconst 2, 1) := by decide +kernel
theorem dL_law__730 : decode cL_law_ 730 = .ok (.iadd, 1) := by decide +kernel
theorem dL_law__731 : decode cL_law_ 731 = .ok (.iaload, 1) := by decide +kernel
theorem dL_law__732 : decode cL_law_ 732 = .ok (.aload_n 3, 1) := by decide +kernel
theorem dL_law__733 : decode cL_law_ 733 = .ok (.invokestatic 147, 3) := by decide +kernel
theorem dL_law__736 : decode cL_law_ 736 = .ok (.istore 5, 2) := by decide +kernel
theorem dL_law__738 : decode cL_law_ 738 = .ok (.aload_n 2, 1) := by decide +kernel
theorem dL_law__739 : decode cL_law_ 739 = .ok (.aload_n 0, 1) := by decide +kernel
theorem dL_law__740 : decode cL_law_ 740 = .ok (.iload 4, 2) := by decide +kernel
theorem dL_law__742 : decode cL_law_ 742 = .ok (.iconst 1, 1) := by decide +kernel
theorem dL_law__743 : decode cL_law_ 743 = .ok (.iadd, 1) := by decide +kernel
theorem dL_law__744 : decode cL_law_ 744 = .ok (.iaload, 1) := by decide +kernel
theorem dL_law__745 : decode cL_law_ 745 = .ok (.aload_n 0, 1) := by decide +kernel
theorem dL_law__746 : decode cL_law_ 746 = .ok (.iload 4, 2) := by decide +kernel
theorem dL_law__748 : decode cL_law_ 748 = .ok (.iconst 2, 1) := by decide +kernel
theorem dL_law__749 : decode cL_law_ 749 = .ok (.iadd, 1) := by decide +kernel
theorem dL_law__750 : decode cL_law_ 750 = .ok (.iaload, 1) := by decide +kernel
theorem dL_law__751 : decode cL_law_ 751 = .ok (.invokevirtual 149, 3) := by decide +kernel
theorem dL_law__754 : decode cL_law_ 754 = .ok (.istore 6, 2) := by decide +kernel
theorem dL_law__756 : decode cL_law_ 756 = .ok (.aload_n 2, 1) := by decide +kernel
theorem dL_law__757 : decode cL_law_ 757 = .ok (.invokevirtual 116, 3) := by decide +kernel
theorem dL_law__760 : decode cL_law_ 760 = .ok (.iload 5, 2) := by decide +kernel
theorem dL_law__762 : decode cL_law_ 762 = .ok (.if_icmp .eq 5, 3) := by decide +kernel
theorem dL_law__765 : decode cL_law_ 765 = .ok (.iconst 0, 1) := by decide +kernel
theorem dL_law__766 : decode cL_law_ 766 = .ok (.ireturn, 1) := by decide +kernel
theorem dL_law__767 : decode cL_law_ 767 = .ok (.iload 5, 2) := by decide +kernel
theorem dL_law__769 : decode cL_law_ 769 = .ok (.ifCond .ne 15, 3) := by decide +kernel
theorem dL_law__772 : decode cL_law_ 772 = .ok (.aload_n 3, 1) := by decide +kernel
theorem dL_law__773 : decode cL_law_ 773 = .ok (.iconst 0, 1) := by decide +kernel
theorem dL_law__774 : decode cL_law_ 774 = .ok (.laload, 1) := by decide +kernel
theorem dL_law__775 : decode cL_law_ 775 = .ok (.iload 6, 2) := by decide +kernel
theorem dL_law__777 : decode cL_law_ 777 = .ok (.i2l, 1) := by decide +kernel
theorem dL_law__778 : decode cL_law_ 778 = .ok (.lcmp, 1) := by decide +kernel
theorem dL_law__779 : decode cL_law_ 779 = .ok (.ifCond .eq 5, 3) := by decide +kernel
theorem dL_law__782 : decode cL_law_ 782 = .ok (.iconst 0, 1) := by decide +kernel
theorem dL_law__783 : decode cL_law_ 783 = .ok (.ireturn, 1) := by decide +kernel
theorem dL_law__784 : decode cL_law_ 784 = .ok (.goto 1563, 3) := by decide +kernel
theorem dL_law__787 : decode cL_law_ 787 = .ok (.aload_n 1, 1) := by decide +kernel
theorem dL_law__788 : decode cL_law_ 788 = .ok (.aload_n 0, 1) := by decide +kernel
theorem dL_law__789 : decode cL_law_ 789 = .ok (.iload 4, 2) := by decide +kernel
theorem dL_law__791 : decode cL_law_ 791 = .ok (.iconst 1, 1) := by decide +kernel
theorem dL_law__792 : decode cL_law_ 792 = .ok (.iadd, 1) := by decide +kernel
theorem dL_law__793 : decode cL_law_ 793 = .ok (.iaload, 1) := by decide +kernel
theorem dL_law__794 : decode cL_law_ 794 = .ok (.aload_n 0, 1) := by decide +kernel
theorem dL_law__795 : decode cL_law_ 795 = .ok (.iload 4, 2) := by decide +kernel
theorem dL_law__797 : decode cL_law_ 797 = .ok (.iconst 2, 1) := by decide +kernel
theorem dL_law__798 : decode cL_law_ 798 = .ok (.iadd, 1) := by decide +kernel
theorem dL_law__799 : decode cL_law_ 799 = .ok (.iaload, 1) := by decide +kernel
theorem dL_law__800 : decode cL_law_ 800 = .ok (.aload_n 3, 1) := by decide +kernel
theorem dL_law__801 : decode cL_law_ 801 = .ok (.invokestatic 150, 3) := by decide +kernel
theorem dL_law__804 : decode cL_law_ 804 = .ok (.istore 5, 2) := by decide +kernel
theorem dL_law__806 : decode cL_law_ 806 = .ok (.aload_n 2, 1) := by decide +kernel
theorem dL_law__807 : decode cL_law_ 807 = .ok (.aload_n 0, 1) := by decide +kernel
theorem dL_law__808 : decode cL_law_ 808 = .ok (.iload 4, 2) := by decide +kernel
theorem dL_law__810 : decode cL_law_ 810 = .ok (.iconst 1, 1) := by decide +kernel
theorem dL_law__811 : decode cL_law_ 811 = .ok (.iadd, 1) := by decide +kernel
theorem dL_law__812 : decode cL_law_ 812 = .ok (.iaload, 1) := by decide +kernel
theorem dL_law__813 : decode cL_law_ 813 = .ok (.aload_n 0, 1) := by decide +kernel
theorem dL_law__814 : decode cL_law_ 814 = .ok (.iload 4, 2) := by decide +kernel
theorem dL_law__816 : decode cL_law_ 816 = .ok (.iconst 2, 1) := by decide +kernel
theorem dL_law__817 : decode cL_law_ 817 = .ok (.iadd, 1) := by decide +kernel
theorem dL_law__818 : decode cL_law_ 818 = .ok (.iaload, 1) := by decide +kernel
theorem dL_law__819 : decode cL_law_ 819 = .ok (.invokevirtual 152, 3) := by decide +kernel
theorem dL_law__822 : decode cL_law_ 822 = .ok (.istore 6, 2) := by decide +kernel
theorem dL_law__824 : decode cL_law_ 824 = .ok (.aload_n 2, 1) := by decide +kernel
theorem dL_law__825 : decode cL_law_ 825 = .ok (.invokevirtual 116, 3) := by decide +kernel
theorem dL_law__828 : decode cL_law_ 828 = .ok (.iload 5, 2) := by decide +kernel
theorem dL_law__830 : decode cL_law_ 830 = .ok (.if_icmp .eq 5, 3) := by decide +kernel
theorem dL_law__833 : decode cL_law_ 833 = .ok (.iconst 0, 1) := by decide +kernel
theorem dL_law__834 : decode cL_law_ 834 = .ok (.ireturn, 1) := by decide +kernel
theorem dL_law__835 : decode cL_law_ 835 = .ok (.iload 5, 2) := by decide +kernel
theorem dL_law__837 : decode cL_law_ 837 = .ok (.ifCond .ne 15, 3) := by decide +kernel
theorem dL_law__840 : decode cL_law_ 840 = .ok (.aload_n 3, 1) := by decide +kernel
theorem dL_law__841 : decode cL_law_ 841 = .ok (.iconst 0, 1) := by decide +kernel
theorem dL_law__842 : decode cL_law_ 842 = .ok (.laload, 1) := by decide +kernel
theorem dL_law__843 : decode cL_law_ 843 = .ok (.iload 6, 2) := by decide +kernel
theorem dL_law__845 : decode cL_law_ 845 = .ok (.i2l, 1) := by decide +kernel
theorem dL_law__846 : decode cL_law_ 846 = .ok (.lcmp, 1) := by decide +kernel
theorem dL_law__847 : decode cL_law_ 847 = .ok (.ifCond .eq 5, 3) := by decide +kernel
theorem dL_law__850 : decode cL_law_ 850 = .ok (.iconst 0, 1) := by decide +kernel
theorem dL_law__851 : decode cL_law_ 851 = .ok (.ireturn, 1) := by decide +kernel
theorem dL_law__852 : decode cL_law_ 852 = .ok (.goto 1495, 3) := by decide +kernel
theorem dL_law__855 : decode cL_law_ 855 = .ok (.aload_n 1, 1) := by decide +kernel
theorem dL_law__856 : decode cL_law_ 856 = .ok (.aload_n 0, 1) := by decide +kernel
theorem dL_law__857 : decode cL_law_ 857 = .ok (.iload 4, 2) := by decide +kernel
theorem dL_law__859 : decode cL_law_ 859 = .ok (.iconst 1, 1) := by decide +kernel
theorem dL_law__860 : decode cL_law_ 860 = .ok (.iadd, 1) := by decide +kernel
theorem dL_law__861 : decode cL_law_ 861 = .ok (.iaload, 1) := by decide +kernel
theorem dL_law__862 : decode cL_law_ 862 = .ok (.aload_n 0, 1) := by decide +kernel
theorem dL_law__863 : decode cL_law_ 863 = .ok (.iload 4, 2) := by decide +kernel
theorem dL_law__865 : decode cL_law_ 865 = .ok (.iconst 2, 1) := by decide +kernel
theorem dL_law__866 : decode cL_law_ 866 = .ok (.iadd, 1) := by decide +kernel
theorem dL_law__867 : decode cL_law_ 867 = .ok (.iaload, 1) := by decide +kernel
theorem dL_law__868 : decode cL_law_ 868 = .ok (.aload_n 3, 1) := by decide +kernel
theorem dL_law__869 : decode cL_law_ 869 = .ok (.invokestatic 153, 3) := by decide +kernel
theorem dL_law__872 : decode cL_law_ 872 = .ok (.istore 5, 2) := by decide +kernel
theorem dL_law__874 : decode cL_law_ 874 = .ok (.aload_n 2, 1) := by decide +kernel
theorem dL_law__875 : decode cL_law_ 875 = .ok (.aload_n 0, 1) := by decide +kernel
theorem dL_law__876 : decode cL_law_ 876 = .ok (.iload 4, 2) := by decide +kernel
theorem dL_law__878 : decode cL_law_ 878 = .ok (.iconst 1, 1) := by decide +kernel
theorem dL_law__879 : decode cL_law_ 879 = .ok (.iadd, 1) := by decide +kernel
theorem dL_law__880 : decode cL_law_ 880 = .ok (.iaload, 1) := by decide +kernel
theorem dL_law__881 : decode cL_law_ 881 = .ok (.aload_n 0, 1) := by decide +kernel
theorem dL_law__882 : decode cL_law_ 882 = .ok (.iload 4, 2) := by decide +kernel
theorem dL_law__884 : decode cL_law_ 884 = .ok (.iconst 2, 1) := by decide +kernel
theorem dL_law__885 : decode cL_law_ 885 = .ok (.iadd, 1) := by decide +kernel
theorem dL_law__886 : decode cL_law_ 886 = .ok (.iaload, 1) := by decide +kernel
theorem dL_law__887 : decode cL_law_ 887 = .ok (.invokevirtual 155, 3) := by decide +kernel
theorem dL_law__890 : decode cL_law_ 890 = .ok (.istore 6, 2) := by decide +kernel
theorem dL_law__892 : decode cL_law_ 892 = .ok (.aload_n 2, 1) := by decide +kernel
theorem dL_law__893 : decode cL_law_ 893 = .ok (.invokevirtual 116, 3) := by decide +kernel
theorem dL_law__896 : decode cL_law_ 896 = .ok (.iload 5, 2) := by decide +kernel
theorem dL_law__898 : decode cL_law_ 898 = .ok (.if_icmp .eq 5, 3) := by decide +kernel
theorem dL_law__901 : decode cL_law_ 901 = .ok (.iconst 0, 1) := by decide +kernel
theorem dL_law__902 : decode cL_law_ 902 = .ok (.ireturn, 1) := by decide +kernel
theorem dL_law__903 : decode cL_law_ 903 = .ok (.iload 5, 2) := by decide +kernel
theorem dL_law__905 : decode cL_law_ 905 = .ok (.ifCond .ne 15, 3) := by decide +kernel
theorem dL_law__908 : decode cL_law_ 908 = .ok (.aload_n 3, 1) := by decide +kernel
theorem dL_law__909 : decode cL_law_ 909 = .ok (.iconst 0, 1) := by decide +kernel
theorem dL_law__910 : decode cL_law_ 910 = .ok (.laload, 1) := by decide +kernel
theorem dL_law__911 : decode cL_law_ 911 = .ok (.iload 6, 2) := by decide +kernel
theorem dL_law__913 : decode cL_law_ 913 = .ok (.i2l, 1) := by decide +kernel
theorem dL_law__914 : decode cL_law_ 914 = .ok (.lcmp, 1) := by decide +kernel
theorem dL_law__915 : decode cL_law_ 915 = .ok (.ifCond .eq 5, 3) := by decide +kernel
theorem dL_law__918 : decode cL_law_ 918 = .ok (.iconst 0, 1) := by decide +kernel
theorem dL_law__919 : decode cL_law_ 919 = .ok (.ireturn, 1) := by decide +kernel
theorem dL_law__920 : decode cL_law_ 920 = .ok (.goto 1427, 3) := by decide +kernel
theorem dL_law__923 : decode cL_law_ 923 = .ok (.aload_n 1, 1) := by decide +kernel
theorem dL_law__924 : decode cL_law_ 924 = .ok (.aload_n 0, 1) := by decide +kernel
theorem dL_law__925 : decode cL_law_ 925 = .ok (.iload 4, 2) := by decide +kernel
theorem dL_law__927 : decode cL_law_ 927 = .ok (.iconst 1, 1) := by decide +kernel
theorem dL_law__928 : decode cL_law_ 928 = .ok (.iadd, 1) := by decide +kernel
theorem dL_law__929 : decode cL_law_ 929 = .ok (.iaload, 1) := by decide +kernel
theorem dL_law__930 : decode cL_law_ 930 = .ok (.aload_n 0, 1) := by decide +kernel
theorem dL_law__931 : decode cL_law_ 931 = .ok (.iload 4, 2) := by decide +kernel
theorem dL_law__933 : decode cL_law_ 933 = .ok (.iconst 2, 1) := by decide +kernel
theorem dL_law__934 : decode cL_law_ 934 = .ok (.iadd, 1) := by decide +kernel
theorem dL_law__935 : decode cL_law_ 935 = .ok (.iaload, 1) := by decide +kernel
theorem dL_law__936 : decode cL_law_ 936 = .ok (.aload_n 0, 1) := by decide +kernel
theorem dL_law__937 : decode cL_law_ 937 = .ok (.iload 4, 2) := by decide +kernel
theorem dL_law__939 : decode cL_law_ 939 = .ok (.iconst 3, 1) := by decide +kernel
theorem dL_law__940 : decode cL_law_ 940 = .ok (.iadd, 1) := by decide +kernel
theorem dL_law__941 : decode cL_law_ 941 = .ok (.iaload, 1) := by decide +kernel
theorem dL_law__942 : decode cL_law_ 942 = .ok (.aload_n 0, 1) := by decide +kernel
theorem dL_law__943 : decode cL_law_ 943 = .ok (.iload 4, 2) := by decide +kernel
theorem dL_law__945 : decode cL_law_ 945 = .ok (.iconst 4, 1) := by decide +kernel
theorem dL_law__946 : decode cL_law_ 946 = .ok (.iadd, 1) := by decide +kernel
theorem dL_law__947 : decode cL_law_ 947 = .ok (.iaload, 1) := by decide +kernel
theorem dL_law__948 : decode cL_law_ 948 = .ok (.aload_n 0, 1) := by decide +kernel
theorem dL_law__949 : decode cL_law_ 949 = .ok (.iload 4, 2) := by decide +kernel
theorem dL_law__951 : decode cL_law_ 951 = .ok (.iconst 5, 1) := by decide +kernel
theorem dL_law__952 : decode cL_law_ 952 = .ok (.iadd, 1) := by decide +kernel
theorem dL_law__953 : decode cL_law_ 953 = .ok (.iaload, 1) := by decide +kernel
theorem dL_law__954 : decode cL_law_ 954 = .ok (.aload_n 0, 1) := by decide +kernel
theorem dL_law__955 : decode cL_law_ 955 = .ok (.iload 4, 2) := by decide +kernel
theorem dL_law__957 : decode cL_law_ 957 = .ok (.bipush 6, 2) := by decide +kernel
theorem dL_law__959 : decode cL_law_ 959 = .ok (.iadd, 1) := by decide +kernel
theorem dL_law__960 : decode cL_law_ 960 = .ok (.iaload, 1) := by decide +kernel
theorem dL_law__961 : decode cL_law_ 961 = .ok (.aload_n 0, 1) := by decide +kernel
theorem dL_law__962 : decode cL_law_ 962 = .ok (.iload 4, 2) := by decide +kernel
theorem dL_law__964 : decode cL_law_ 964 = .ok (.bipush 7, 2) := by decide +kernel
theorem dL_law__966 : decode cL_law_ 966 = .ok (.iadd, 1) := by decide +kernel
theorem dL_law__967 : decode cL_law_ 967 = .ok (.iaload, 1) := by decide +kernel
theorem dL_law__968 : decode cL_law_ 968 = .ok (.aload_n 0, 1) := by decide +kernel
theorem dL_law__969 : decode cL_law_ 969 = .ok (.iload 4, 2) := by decide +kernel
theorem dL_law__971 : decode cL_law_ 971 = .ok (.bipush 8, 2) := by decide +kernel
theorem dL_law__973 : decode cL_law_ 973 = .ok (.iadd, 1) := by decide +kernel
theorem dL_law__974 : decode cL_law_ 974 = .ok (.iaload, 1) := by decide +kernel
theorem dL_law__975 : decode cL_law_ 975 = .ok (.aload_n 0, 1) := by decide +kernel
theorem dL_law__976 : decode cL_law_ 976 = .ok (.iload 4, 2) := by decide +kernel
theorem dL_law__978 : decode cL_law_ 978 = .ok (.bipush 9, 2) := by decide +kernel
theorem dL_law__980 : decode cL_law_ 980 = .ok (.iadd, 1) := by decide +kernel
theorem dL_law__981 : decode cL_law_ 981 = .ok (.iaload, 1) := by decide +kernel
theorem dL_law__982 : decode cL_law_ 982 = .ok (.aload_n 3, 1) := by decide +kernel
theorem dL_law__983 : decode cL_law_ 983 = .ok (.invokestatic 156, 3) := by decide +kernel
theorem dL_law__986 : decode cL_law_ 986 = .ok (.istore 5, 2) := by decide +kernel
theorem dL_law__988 : decode cL_law_ 988 = .ok (.aload_n 2, 1) := by decide +kernel
theorem dL_law__989 : decode cL_law_ 989 = .ok (.aload_n 0, 1) := by decide +kernel
theorem dL_law__990 : decode cL_law_ 990 = .ok (.iload 4, 2) := by decide +kernel
theorem dL_law__992 : decode cL_law_ 992 = .ok (.iconst 1, 1) := by decide +kernel
theorem dL_law__993 : decode cL_law_ 993 = .ok (.iadd, 1) := by decide +kernel
theorem dL_law__994 : decode cL_law_ 994 = .ok (.iaload, 1) := by decide +kernel
theorem dL_law__995 : decode cL_law_ 995 = .ok (.aload_n 0, 1) := by decide +kernel
theorem dL_law__996 : decode cL_law_ 996 = .ok (.iload 4, 2) := by decide +kernel
theorem dL_law__998 : decode cL_law_ 998 = .ok (.iconst 2, 1) := by decide +kernel
theorem dL_law__999 : decode cL_law_ 999 = .ok (.iadd, 1) := by decide +kernel
theorem dL_law__1000 : decode cL_law_ 1000 = .ok (.iaload, 1) := by decide +kernel
theorem dL_law__1001 : decode cL_law_ 1001 = .ok (.aload_n 0, 1) := by decide +kernel
theorem dL_law__1002 : decode cL_law_ 1002 = .ok (.iload 4, 2) := by decide +kernel
theorem dL_law__1004 : decode cL_law_ 1004 = .ok (.iconst 3, 1) := by decide +kernel
theorem dL_law__1005 : decode cL_law_ 1005 = .ok (.iadd, 1) := by decide +kernel
theorem dL_law__1006 : decode cL_law_ 1006 = .ok (.iaload, 1) := by decide +kernel
theorem dL_law__1007 : decode cL_law_ 1007 = .ok (.aload_n 0, 1) := by decide +kernel
theorem dL_law__1008 : decode cL_law_ 1008 = .ok (.iload 4, 2) := by decide +kernel
theorem dL_law__1010 : decode cL_law_ 1010 = .ok (.iconst 4, 1) := by decide +kernel
theorem dL_law__1011 : decode cL_law_ 1011 = .ok (.iadd, 1) := by decide +kernel
theorem dL_law__1012 : decode cL_law_ 1012 = .ok (.iaload, 1) := by decide +kernel
theorem dL_law__1013 : decode cL_law_ 1013 = .ok (.aload_n 0, 1) := by decide +kernel
theorem dL_law__1014 : decode cL_law_ 1014 = .ok (.iload 4, 2) := by decide +kernel
theorem dL_law__1016 : decode cL_law_ 1016 = .ok (.iconst 5, 1) := by decide +kernel
theorem dL_law__1017 : decode cL_law_ 1017 = .ok (.iadd, 1) := by decide +kernel
theorem dL_law__1018 : decode cL_law_ 1018 = .ok (.iaload, 1) := by decide +kernel
theorem dL_law__1019 : decode cL_law_ 1019 = .ok (.aload_n 0, 1) := by decide +kernel
theorem dL_law__1020 : decode cL_law_ 1020 = .ok (.iload 4, 2) := by decide +kernel
theorem dL_law__1022 : decode cL_law_ 1022 = .ok (.bipush 6, 2) := by decide +kernel
theorem dL_law__1024 : decode cL_law_ 1024 = .ok (.iadd, 1) := by decide +kernel
theorem dL_law__1025 : decode cL_law_ 1025 = .ok (.iaload, 1) := by decide +kernel
theorem dL_law__1026 : decode cL_law_ 1026 = .ok (.aload_n 0, 1) := by decide +kernel
theorem dL_law__1027 : decode cL_law_ 1027 = .ok (.iload 4, 2) := by decide +kernel
theorem dL_law__1029 : decode cL_law_ 1029 = .ok (.bipush 7, 2) := by decide +kernel
theorem dL_law__1031 : decode cL_law_ 1031 = .ok (.iadd, 1) := by decide +kernel
theorem dL_law__1032 : decode cL_law_ 1032 = .ok (.iaload, 1) := by decide +kernel
theorem dL_law__1033 : decode cL_law_ 1033 = .ok (.aload_n 0, 1) := by decide +kernel
theorem dL_law__1034 : decode cL_law_ 1034 = .ok (.iload 4, 2) := by decide +kernel
theorem dL_law__1036 : decode cL_law_ 1036 = .ok (.bipush 8, 2) := by decide +kernel
theorem dL_law__1038 : decode cL_law_ 1038 = .ok (.iadd, 1) := by decide +kernel
theorem dL_law__1039 : decode cL_law_ 1039 = .ok (.iaload, 1) := by decide +kernel
theorem dL_law__1040 : decode cL_law_ 1040 = .ok (.aload_n 0, 1) := by decide +kernel
theorem dL_law__1041 : decode cL_law_ 1041 = .ok (.iload 4, 2) := by decide +kernel
theorem dL_law__1043 : decode cL_law_ 1043 = .ok (.bipush 9, 2) := by decide +kernel
theorem dL_law__1045 : decode cL_law_ 1045 = .ok (.iadd, 1) := by decide +kernel
theorem dL_law__1046 : decode cL_law_ 1046 = .ok (.iaload, 1) := by decide +kernel
theorem dL_law__1047 : decode cL_law_ 1047 = .ok (.invokevirtual 159, 3) := by decide +kernel
theorem dL_law__1050 : decode cL_law_ 1050 = .ok (.istore 6, 2) := by decide +kernel
theorem dL_law__1052 : decode cL_law_ 1052 = .ok (.aload_n 2, 1) := by decide +kernel
theorem dL_law__1053 : decode cL_law_ 1053 = .ok (.invokevirtual 116, 3) := by decide +kernel
theorem dL_law__1056 : decode cL_law_ 1056 = .ok (.iload 5, 2) := by decide +kernel
theorem dL_law__1058 : decode cL_law_ 1058 = .ok (.if_icmp .eq 5, 3) := by decide +kernel
theorem dL_law__1061 : decode cL_law_ 1061 = .ok (.iconst 0, 1) := by decide +kernel
theorem dL_law__1062 : decode cL_law_ 1062 = .ok (.ireturn, 1) := by decide +kernel
theorem dL_law__1063 : decode cL_law_ 1063 = .ok (.iload 5, 2) := by decide +kernel
theorem dL_law__1065 : decode cL_law_ 1065 = .ok (.ifCond .ne 15, 3) := by decide +kernel
theorem dL_law__1068 : decode cL_law_ 1068 = .ok (.aload_n 3, 1) := by decide +kernel
theorem dL_law__1069 : decode cL_law_ 1069 = .ok (.iconst 0, 1) := by decide +kernel
theorem dL_law__1070 : decode cL_law_ 1070 = .ok (.laload, 1) := by decide +kernel
theorem dL_law__1071 : decode cL_law_ 1071 = .ok (.iload 6, 2) := by decide +kernel
theorem dL_law__1073 : decode cL_law_ 1073 = .ok (.i2l, 1) := by decide +kernel
theorem dL_law__1074 : decode cL_law_ 1074 = .ok (.lcmp, 1) := by decide +kernel
theorem dL_law__1075 : decode cL_law_ 1075 = .ok (.ifCond .eq 5, 3) := by decide +kernel
theorem dL_law__1078 : decode cL_law_ 1078 = .ok (.iconst 0, 1) := by decide +kernel
theorem dL_law__1079 : decode cL_law_ 1079 = .ok (.ireturn, 1) := by decide +kernel
theorem dL_law__1080 : decode cL_law_ 1080 = .ok (.goto 1267, 3) := by decide +kernel
theorem dL_law__1083 : decode cL_law_ 1083 = .ok (.aload_n 1, 1) := by decide +kernel
theorem dL_law__1084 : decode cL_law_ 1084 = .ok (.aload_n 0, 1) := by decide +kernel
theorem dL_law__1085 : decode cL_law_ 1085 = .ok (.iload 4, 2) := by decide +kernel
theorem dL_law__1087 : decode cL_law_ 1087 = .ok (.iconst 1, 1) := by decide +kernel
theorem dL_law__1088 : decode cL_law_ 1088 = .ok (.iadd, 1) := by decide +kernel
theorem dL_law__1089 : decode cL_law_ 1089 = .ok (.iaload, 1) := by decide +kernel
theorem dL_law__1090 : decode cL_law_ 1090 = .ok (.aload_n 3, 1) := by decide +kernel
theorem dL_law__1091 : decode cL_law_ 1091 = .ok (.invokestatic 160, 3) := by decide +kernel
theorem dL_law__1094 : decode cL_law_ 1094 = .ok (.istore 5, 2) := by decide +kernel
theorem dL_law__1096 : decode cL_law_ 1096 = .ok (.aload_n 2, 1) := by decide +kernel
theorem dL_law__1097 : decode cL_law_ 1097 = .ok (.aload_n 0, 1) := by decide +kernel
theorem dL_law__1098 : decode cL_law_ 1098 = .ok (.iload 4, 2) := by decide +kernel
theorem dL_law__1100 : decode cL_law_ 1100 = .ok (.iconst 1, 1) := by decide +kernel
theorem dL_law__1101 : decode cL_law_ 1101 = .ok (.iadd, 1) := by decide +kernel
theorem dL_law__1102 : decode cL_law_ 1102 = .ok (.iaload, 1) := by decide +kernel
theorem dL_law__1103 : decode cL_law_ 1103 = .ok (.invokevirtual 162, 3) := by decide +kernel
theorem dL_law__1106 : decode cL_law_ 1106 = .ok (.istore 6, 2) := by decide +kernel
theorem dL_law__1108 : decode cL_law_ 1108 = .ok (.aload_n 2, 1) := by decide +kernel
theorem dL_law__1109 : decode cL_law_ 1109 = .ok (.invokevirtual 116, 3) := by decide +kernel
theorem dL_law__1112 : decode cL_law_ 1112 = .ok (.iload 5, 2) := by decide +kernel
theorem dL_law__1114 : decode cL_law_ 1114 = .ok (.if_icmp .eq 5, 3) := by decide +kernel
theorem dL_law__1117 : decode cL_law_ 1117 = .ok (.iconst 0, 1) := by decide +kernel
theorem dL_law__1118 : decode cL_law_ 1118 = .ok (.ireturn, 1) := by decide +kernel
theorem dL_law__1119 : decode cL_law_ 1119 = .ok (.iload 5, 2) := by decide +kernel
theorem dL_law__1121 : decode cL_law_ 1121 = .ok (.ifCond .ne 15, 3) := by decide +kernel
theorem dL_law__1124 : decode cL_law_ 1124 = .ok (.aload_n 3, 1) := by decide +kernel
theorem dL_law__1125 : decode cL_law_ 1125 = .ok (.iconst 0, 1) := by decide +kernel
theorem dL_law__1126 : decode cL_law_ 1126 = .ok (.laload, 1) := by decide +kernel
theorem dL_law__1127 : decode cL_law_ 1127 = .ok (.iload 6, 2) := by decide +kernel
theorem dL_law__1129 : decode cL_law_ 1129 = .ok (.i2l, 1) := by decide +kernel
theorem dL_law__1130 : decode cL_law_ 1130 = .ok (.lcmp, 1) := by decide +kernel
theorem dL_law__1131 : decode cL_law_ 1131 = .ok (.ifCond .eq 5, 3) := by decide +kernel
theorem dL_law__1134 : decode cL_law_ 1134 = .ok (.iconst 0, 1) := by decide +kernel
theorem dL_law__1135 : decode cL_law_ 1135 = .ok (.ireturn, 1) := by decide +kernel
theorem dL_law__1136 : decode cL_law_ 1136 = .ok (.goto 1211, 3) := by decide +kernel
theorem dL_law__1139 : decode cL_law_ 1139 = .ok (.aload_n 1, 1) := by decide +kernel
theorem dL_law__1140 : decode cL_law_ 1140 = .ok (.aload_n 0, 1) := by decide +kernel
theorem dL_law__1141 : decode cL_law_ 1141 = .ok (.iload 4, 2) := by decide +kernel
theorem dL_law__1143 : decode cL_law_ 1143 = .ok (.iconst 1, 1) := by decide +kernel
theorem dL_law__1144 : decode cL_law_ 1144 = .ok (.iadd, 1) := by decide +kernel
theorem dL_law__1145 : decode cL_law_ 1145 = .ok (.iaload, 1) := by decide +kernel
theorem dL_law__1146 : decode cL_law_ 1146 = .ok (.aload_n 0, 1) := by decide +kernel
theorem dL_law__1147 : decode cL_law_ 1147 = .ok (.iload 4, 2) := by decide +kernel
theorem dL_law__1149 : decode cL_law_ 1149 = .ok (.iconst 2, 1) := by decide +kernel
theorem dL_law__1150 : decode cL_law_ 1150 = .ok (.iadd, 1) := by decide +kernel
theorem dL_law__1151 : decode cL_law_ 1151 = .ok (.iaload, 1) := by decide +kernel
theorem dL_law__1152 : decode cL_law_ 1152 = .ok (.aload_n 3, 1) := by decide +kernel
theorem dL_law__1153 : decode cL_law_ 1153 = .ok (.invokestatic 163, 3) := by decide +kernel
theorem dL_law__1156 : decode cL_law_ 1156 = .ok (.istore 5, 2) := by decide +kernel
theorem dL_law__1158 : decode cL_law_ 1158 = .ok (.aload_n 2, 1) := by decide +kernel
theorem dL_law__1159 : decode cL_law_ 1159 = .ok (.aload_n 0, 1) := by decide +kernel
theorem dL_law__1160 : decode cL_law_ 1160 = .ok (.iload 4, 2) := by decide +kernel
theorem dL_law__1162 : decode cL_law_ 1162 = .ok (.iconst 1, 1) := by decide +kernel
theorem dL_law__1163 : decode cL_law_ 1163 = .ok (.iadd, 1) := by decide +kernel
theorem dL_law__1164 : decode cL_law_ 1164 = .ok (.iaload, 1) := by decide +kernel
theorem dL_law__1165 : decode cL_law_ 1165 = .ok (.aload_n 0, 1) := by decide +kernel
theorem dL_law__1166 : decode cL_law_ 1166 = .ok (.iload 4, 2) := by decide +kernel
theorem dL_law__1168 : decode cL_law_ 1168 = .ok (.iconst 2, 1) := by decide +kernel
theorem dL_law__1169 : decode cL_law_ 1169 = .ok (.iadd, 1) := by decide +kernel
theorem dL_law__1170 : decode cL_law_ 1170 = .ok (.iaload, 1) := by decide +kernel
theorem dL_law__1171 : decode cL_law_ 1171 = .ok (.invokevirtual 165, 3) := by decide +kernel
theorem dL_law__1174 : decode cL_law_ 1174 = .ok (.istore 6, 2) := by decide +kernel
theorem dL_law__1176 : decode cL_law_ 1176 = .ok (.aload_n 2, 1) := by decide +kernel
theorem dL_law__1177 : decode cL_law_ 1177 = .ok (.invokevirtual 116, 3) := by decide +kernel
theorem dL_law__1180 : decode cL_law_ 1180 = .ok (.iload 5, 2) := by decide +kernel
theorem dL_law__1182 : decode cL_law_ 1182 = .ok (.if_icmp .eq 5, 3) := by decide +kernel
theorem dL_law__1185 : decode cL_law_ 1185 = .ok (.iconst 0, 1) := by decide +kernel
theorem dL_law__1186 : decode cL_law_ 1186 = .ok (.ireturn, 1) := by decide +kernel
theorem dL_law__1187 : decode cL_law_ 1187 = .ok (.iload 5, 2) := by decide +kernel
theorem dL_law__1189 : decode cL_law_ 1189 = .ok (.ifCond .ne 15, 3) := by decide +kernel
theorem dL_law__1192 : decode cL_law_ 1192 = .ok (.aload_n 3, 1) := by decide +kernel
theorem dL_law__1193 : decode cL_law_ 1193 = .ok (.iconst 0, 1) := by decide +kernel
theorem dL_law__1194 : decode cL_law_ 1194 = .ok (.laload, 1) := by decide +kernel
theorem dL_law__1195 : decode cL_law_ 1195 = .ok (.iload 6, 2) := by decide +kernel
theorem dL_law__1197 : decode cL_law_ 1197 = .ok (.i2l, 1) := by decide +kernel
theorem dL_law__1198 : decode cL_law_ 1198 = .ok (.lcmp, 1) := by decide +kernel
theorem dL_law__1199 : decode cL_law_ 1199 = .ok (.ifCond .eq 5, 3) := by decide +kernel
theorem dL_law__1202 : decode cL_law_ 1202 = .ok (.iconst 0, 1) := by decide +kernel
theorem dL_law__1203 : decode cL_law_ 1203 = .ok (.ireturn, 1) := by decide +kernel
theorem dL_law__1204 : decode cL_law_ 1204 = .ok (.goto 1143, 3) := by decide +kernel
theorem dL_law__1207 : decode cL_law_ 1207 = .ok (.aload_n 1, 1) := by decide +kernel
theorem dL_law__1208 : decode cL_law_ 1208 = .ok (.invokevirtual 166, 3) := by decide +kernel
theorem dL_law__1211 : decode cL_law_ 1211 = .ok (.aload_n 2, 1) := by decide +kernel
theorem dL_law__1212 : decode cL_law_ 1212 = .ok (.invokevirtual 169, 3) := by decide +kernel
theorem dL_law__1215 : decode cL_law_ 1215 = .ok (.if_icmp .eq 1132, 3) := by decide +kernel
theorem dL_law__1218 : decode cL_law_ 1218 = .ok (.iconst 0, 1) := by decide +kernel
theorem dL_law__1219 : decode cL_law_ 1219 = .ok (.ireturn, 1) := by decide +kernel
theorem dL_law__1220 : decode cL_law_ 1220 = .ok (.aload_n 1, 1) := by decide +kernel
theorem dL_law__1221 : decode cL_law_ 1221 = .ok (.aload_n 0, 1) := by decide +kernel
theorem dL_law__1222 : decode cL_law_ 1222 = .ok (.iload 4, 2) := by decide +kernel
theorem dL_law__1224 : decode cL_law_ 1224 = .ok (.iconst 1, 1) := by decide +kernel
theorem dL_law__1225 : decode cL_law_ 1225 = .ok (.iadd, 1) := by decide +kernel
theorem dL_law__1226 : decode cL_law_ 1226 = .ok (.iaload, 1) := by decide +kernel
theorem dL_law__1227 : decode cL_law_ 1227 = .ok (.aload_n 0, 1) := by decide +kernel
theorem dL_law__1228 : decode cL_law_ 1228 = .ok (.iload 4, 2) := by decide +kernel
theorem dL_law__1230 : decode cL_law_ 1230 = .ok (.iconst 2, 1) := by decide +kernel
theorem dL_law__1231 : decode cL_law_ 1231 = .ok (.iadd, 1) := by decide +kernel
theorem dL_law__1232 : decode cL_law_ 1232 = .ok (.iaload, 1) := by decide +kernel
theorem dL_law__1233 : decode cL_law_ 1233 = .ok (.aload_n 0, 1) := by decide +kernel
theorem dL_law__1234 : decode cL_law_ 1234 = .ok (.iload 4, 2) := by decide +kernel
theorem dL_law__1236 : decode cL_law_ 1236 = .ok (.iconst 3, 1) := by decide +kernel
theorem dL_law__1237 : decode cL_law_ 1237 = .ok (.iadd, 1) := by decide +kernel
theorem dL_law__1238 : decode cL_law_ 1238 = .ok (.iaload, 1) := by decide +kernel
theorem dL_law__1239 : decode cL_law_ 1239 = .ok (.aload_n 3, 1) := by decide +kernel
theorem dL_law__1240 : decode cL_law_ 1240 = .ok (.invokestatic 170, 3) := by decide +kernel
theorem dL_law__1243 : decode cL_law_ 1243 = .ok (.istore 5, 2) := by decide +kernel
theorem dL_law__1245 : decode cL_law_ 1245 = .ok (.aload_n 2, 1) := by decide +kernel
theorem dL_law__1246 : decode cL_law_ 1246 = .ok (.aload_n 0, 1) := by decide +kernel
theorem dL_law__1247 : decode cL_law_ 1247 = .ok (.iload 4, 2) := by decide +kernel
theorem dL_law__1249 : decode cL_law_ 1249 = .ok (.iconst 1, 1) := by decide +kernel
theorem dL_law__1250 : decode cL_law_ 1250 = .ok (.iadd, 1) := by decide +kernel
theorem dL_law__1251 : decode cL_law_ 1251 = .ok (.iaload, 1) := by decide +kernel
theorem dL_law__1252 : decode cL_law_ 1252 = .ok (.aload_n 0, 1) := by decide +kernel
theorem dL_law__1253 : decode cL_law_ 1253 = .ok (.iload 4, 2) := by decide +kernel
theorem dL_law__1255 : decode cL_law_ 1255 = .ok (.iconst 2, 1) := by decide +kernel
theorem dL_law__1256 : decode cL_law_ 1256 = .ok (.iadd, 1) := by decide +kernel
theorem dL_law__1257 : decode cL_law_ 1257 = .ok (.iaload, 1) := by decide +kernel
theorem dL_law__1258 : decode cL_law_ 1258 = .ok (.aload_n 0, 1) := by decide +kernel
theorem dL_law__1259 : decode cL_law_ 1259 = .ok (.iload 4, 2) := by decide +kernel
theorem dL_law__1261 : decode cL_law_ 1261 = .ok (.iconst 3, 1) := by decide +kernel
theorem dL_law__1262 : decode cL_law_ 1262 = .ok (.iadd, 1) := by decide +kernel
theorem dL_law__1263 : decode cL_law_ 1263 = .ok (.iaload, 1) := by decide +kernel
theorem dL_law__1264 : decode cL_law_ 1264 = .ok (.invokevirtual 173, 3) := by decide +kernel
theorem dL_law__1267 : decode cL_law_ 1267 = .ok (.istore 6, 2) := by decide +kernel
theorem dL_law__1269 : decode cL_law_ 1269 = .ok (.aload_n 2, 1) := by decide +kernel
theorem dL_law__1270 : decode cL_law_ 1270 = .ok (.invokevirtual 116, 3) := by decide +kernel
theorem dL_law__1273 : decode cL_law_ 1273 = .ok (.iload 5, 2) := by decide +kernel
theorem dL_law__1275 : decode cL_law_ 1275 = .ok (.if_icmp .eq 5, 3) := by decide +kernel
theorem dL_law__1278 : decode cL_law_ 1278 = .ok (.iconst 0, 1) := by decide +kernel
theorem dL_law__1279 : decode cL_law_ 1279 = .ok (.ireturn, 1) := by decide +kernel
theorem dL_law__1280 : decode cL_law_ 1280 = .ok (.iload 5, 2) := by decide +kernel
theorem dL_law__1282 : decode cL_law_ 1282 = .ok (.ifCond .ne 15, 3) := by decide +kernel
theorem dL_law__1285 : decode cL_law_ 1285 = .ok (.aload_n 3, 1) := by decide +kernel
theorem dL_law__1286 : decode cL_law_ 1286 = .ok (.iconst 0, 1) := by decide +kernel
theorem dL_law__1287 : decode cL_law_ 1287 = .ok (.laload, 1) := by decide +kernel
theorem dL_law__1288 : decode cL_law_ 1288 = .ok (.iload 6, 2) := by decide +kernel
theorem dL_law__1290 : decode cL_law_ 1290 = .ok (.i2l, 1) := by decide +kernel
theorem dL_law__1291 : decode cL_law_ 1291 = .ok (.lcmp, 1) := by decide +kernel
theorem dL_law__1292 : decode cL_law_ 1292 = .ok (.ifCond .eq 5, 3) := by decide +kernel
theorem dL_law__1295 : decode cL_law_ 1295 = .ok (.iconst 0, 1) := by decide +kernel
theorem dL_law__1296 : decode cL_law_ 1296 = .ok (.ireturn, 1) := by decide +kernel
theorem dL_law__1297 : decode cL_law_ 1297 = .ok (.goto 1050, 3) := by decide +kernel
theorem dL_law__1300 : decode cL_law_ 1300 = .ok (.aload_n 1, 1) := by decide +kernel
theorem dL_law__1301 : decode cL_law_ 1301 = .ok (.aload_n 0, 1) := by decide +kernel
theorem dL_law__1302 : decode cL_law_ 1302 = .ok (.iload 4, 2) := by decide +kernel
theorem dL_law__1304 : decode cL_law_ 1304 = .ok (.iconst 1, 1) := by decide +kernel
theorem dL_law__1305 : decode cL_law_ 1305 = .ok (.iadd, 1) := by decide +kernel
theorem dL_law__1306 : decode cL_law_ 1306 = .ok (.iaload, 1) := by decide +kernel
theorem dL_law__1307 : decode cL_law_ 1307 = .ok (.aload_n 3, 1) := by decide +kernel
theorem dL_law__1308 : decode cL_law_ 1308 = .ok (.invokestatic 174, 3) := by decide +kernel
theorem dL_law__1311 : decode cL_law_ 1311 = .ok (.istore 5, 2) := by decide +kernel
theorem dL_law__1313 : decode cL_law_ 1313 = .ok (.aload_n 2, 1) := by decide +kernel
theorem dL_law__1314 : decode cL_law_ 1314 = .ok (.aload_n 0, 1) := by decide +kernel
theorem dL_law__1315 : decode cL_law_ 1315 = .ok (.iload 4, 2) := by decide +kernel
theorem dL_law__1317 : decode cL_law_ 1317 = .ok (.iconst 1, 1) := by decide +kernel
theorem dL_law__1318 : decode cL_law_ 1318 = .ok (.iadd, 1) := by decide +kernel
theorem dL_law__1319 : decode cL_law_ 1319 = .ok (.iaload, 1) := by decide +kernel
theorem dL_law__1320 : decode cL_law_ 1320 = .ok (.invokevirtual 176, 3) := by decide +kernel
theorem dL_law__1323 : decode cL_law_ 1323 = .ok (.istore 6, 2) := by decide +kernel
theorem dL_law__1325 : decode cL_law_ 1325 = .ok (.aload_n 2, 1) := by decide +kernel
theorem dL_law__1326 : decode cL_law_ 1326 = .ok (.invokevirtual 116, 3) := by decide +kernel
theorem dL_law__1329 : decode cL_law_ 1329 = .ok (.iload 5, 2) := by decide +kernel
theorem dL_law__1331 : decode cL_law_ 1331 = .ok (.if_icmp .eq 5, 3) := by decide +kernel
theorem dL_law__1334 : decode cL_law_ 1334 = .ok (.iconst 0, 1) := by decide +kernel
theorem dL_law__1335 : decode cL_law_ 1335 = .ok (.ireturn, 1) := by decide +kernel
theorem dL_law__1336 : decode cL_law_ 1336 = .ok (.iload 5, 2) := by decide +kernel
theorem dL_law__1338 : decode cL_law_ 1338 = .ok (.ifCond .ne 15, 3) := by decide +kernel
theorem dL_law__1341 : decode cL_law_ 1341 = .ok (.aload_n 3, 1) := by decide +kernel
theorem dL_law__1342 : decode cL_law_ 1342 = .ok (.iconst 0, 1) := by decide +kernel
theorem dL_law__1343 : decode cL_law_ 1343 = .ok (.laload, 1) := by decide +kernel
theorem dL_law__1344 : decode cL_law_ 1344 = .ok (.iload 6, 2) := by decide +kernel
theorem dL_law__1346 : decode cL_law_ 1346 = .ok (.i2l, 1) := by decide +kernel
theorem dL_law__1347 : decode cL_law_ 1347 = .ok (.lcmp, 1) := by decide +kernel
theorem dL_law__1348 : decode cL_law_ 1348 = .ok (.ifCond .eq 5, 3) := by decide +kernel
theorem dL_law__1351 : decode cL_law_ 1351 = .ok (.iconst 0, 1) := by decide +kernel
theorem dL_law__1352 : decode cL_law_ 1352 = .ok (.ireturn, 1) := by decide +kernel
theorem dL_law__1353 : decode cL_law_ 1353 = .ok (.goto 994, 3) := by decide +kernel
theorem dL_law__1356 : decode cL_law_ 1356 = .ok (.aload_n 1, 1) := by decide +kernel
theorem dL_law__1357 : decode cL_law_ 1357 = .ok (.aload_n 0, 1) := by decide +kernel
theorem dL_law__1358 : decode cL_law_ 1358 = .ok (.iload 4, 2) := by decide +kernel
theorem dL_law__1360 : decode cL_law_ 1360 = .ok (.iconst 1, 1) := by decide +kernel
theorem dL_law__1361 : decode cL_law_ 1361 = .ok (.iadd, 1) := by decide +kernel
theorem dL_law__1362 : decode cL_law_ 1362 = .ok (.iaload, 1) := by decide +kernel
theorem dL_law__1363 : decode cL_law_ 1363 = .ok (.aload_n 3, 1) := by decide +kernel
theorem dL_law__1364 : decode cL_law_ 1364 = .ok (.invokestatic 177, 3) := by decide +kernel
theorem dL_law__1367 : decode cL_law_ 1367 = .ok (.istore 5, 2) := by decide +kernel
theorem dL_law__1369 : decode cL_law_ 1369 = .ok (.aload_n 2, 1) := by decide +kernel
theorem dL_law__1370 : decode cL_law_ 1370 = .ok (.aload_n 0, 1) := by decide +kernel
theorem dL_law__1371 : decode cL_law_ 1371 = .ok (.iload 4, 2) := by decide +kernel
theorem dL_law__1373 : decode cL_law_ 1373 = .ok (.iconst 1, 1) := by decide +kernel
theorem dL_law__1374 : decode cL_law_ 1374 = .ok (.iadd, 1) := by decide +kernel
theorem dL_law__1375 : decode cL_law_ 1375 = .ok (.iaload, 1) := by decide +kernel
theorem dL_law__1376 : decode cL_law_ 1376 = .ok (.invokevirtual 179, 3) := by decide +kernel
theorem dL_law__1379 : decode cL_law_ 1379 = .ok (.istore 6, 2) := by decide +kernel
theorem dL_law__1381 : decode cL_law_ 1381 = .ok (.aload_n 2, 1) := by decide +kernel
theorem dL_law__1382 : decode cL_law_ 1382 = .ok (.invokevirtual 116, 3) := by decide +kernel
theorem dL_law__1385 : decode cL_law_ 1385 = .ok (.iload 5, 2) := by decide +kernel
theorem dL_law__1387 : decode cL_law_ 1387 = .ok (.if_icmp .eq 5, 3) := by decide +kernel
theorem dL_law__1390 : decode cL_law_ 1390 = .ok (.iconst 0, 1) := by decide +kernel
theorem dL_law__1391 : decode cL_law_ 1391 = .ok (.ireturn, 1) := by decide +kernel
theorem dL_law__1392 : decode cL_law_ 1392 = .ok (.iload 5, 2) := by decide +kernel
theorem dL_law__1394 : decode cL_law_ 1394 = .ok (.ifCond .ne 15, 3) := by decide +kernel
theorem dL_law__1397 : decode cL_law_ 1397 = .ok (.aload_n 3, 1) := by decide +kernel
theorem dL_law__1398 : decode cL_law_ 1398 = .ok (.iconst 0, 1) := by decide +kernel
theorem dL_law__1399 : decode cL_law_ 1399 = .ok (.laload, 1) := by decide +kernel
theorem dL_law__1400 : decode cL_law_ 1400 = .ok (.iload 6, 2) := by decide +kernel
theorem dL_law__1402 : decode cL_law_ 1402 = .ok (.i2l, 1) := by decide +kernel
theorem dL_law__1403 : decode cL_law_ 1403 = .ok (.lcmp, 1) := by decide +kernel
theorem dL_law__1404 : decode cL_law_ 1404 = .ok (.ifCond .eq 5, 3) := by decide +kernel
theorem dL_law__1407 : decode cL_law_ 1407 = .ok (.iconst 0, 1) := by decide +kernel
theorem dL_law__1408 : decode cL_law_ 1408 = .ok (.ireturn, 1) := by decide +kernel
theorem dL_law__1409 : decode cL_law_ 1409 = .ok (.goto 938, 3) := by decide +kernel
theorem dL_law__1412 : decode cL_law_ 1412 = .ok (.aload_n 1, 1) := by decide +kernel
theorem dL_law__1413 : decode cL_law_ 1413 = .ok (.aload_n 0, 1) := by decide +kernel
theorem dL_law__1414 : decode cL_law_ 1414 = .ok (.iload 4, 2) := by decide +kernel
theorem dL_law__1416 : decode cL_law_ 1416 = .ok (.iconst 1, 1) := by decide +kernel
theorem dL_law__1417 : decode cL_law_ 1417 = .ok (.iadd, 1) := by decide +kernel
theorem dL_law__1418 : decode cL_law_ 1418 = .ok (.iaload, 1) := by decide +kernel
theorem dL_law__1419 : decode cL_law_ 1419 = .ok (.aload_n 3, 1) := by decide +kernel
theorem dL_law__1420 : decode cL_law_ 1420 = .ok (.invokestatic 180, 3) := by decide +kernel
theorem dL_law__1423 : decode cL_law_ 1423 = .ok (.istore 5, 2) := by decide +kernel
theorem dL_law__1425 : decode cL_law_ 1425 = .ok (.aload_n 2, 1) := by decide +kernel
theorem dL_law__1426 : decode cL_law_ 1426 = .ok (.aload_n 0, 1) := by decide +kernel
theorem dL_law__1427 : decode cL_law_ 1427 = .ok (.iload 4, 2) := by decide +kernel
theorem dL_law__1429 : decode cL_law_ 1429 = .ok (.iconst 1, 1) := by decide +kernel
theorem dL_law__1430 : decode cL_law_ 1430 = .ok (.iadd, 1) := by decide +kernel
theorem dL_law__1431 : decode cL_law_ 1431 = .ok (.iaload, 1) := by decide +kernel
theorem dL_law__1432 : decode cL_law_ 1432 = .ok (.invokevirtual 182, 3) := by decide +kernel
theorem dL_law__1435 : decode cL_law_ 1435 = .ok (.istore 6, 2) := by decide +kernel
theorem dL_law__1437 : decode cL_law_ 1437 = .ok (.aload_n 2, 1) := by decide +kernel
theorem dL_law__1438 : decode cL_law_ 1438 = .ok (.invokevirtual 116, 3) := by decide +kernel
theorem dL_law__1441 : decode cL_law_ 1441 = .ok (.iload 5, 2) := by decide +kernel
theorem dL_law__1443 : decode cL_law_ 1443 = .ok (.if_icmp .eq 5, 3) := by decide +kernel
theorem dL_law__1446 : decode cL_law_ 1446 = .ok (.iconst 0, 1) := by decide +kernel
theorem dL_law__1447 : decode cL_law_ 1447 = .ok (.ireturn, 1) := by decide +kernel
theorem dL_law__1448 : decode cL_law_ 1448 = .ok (.iload 5, 2) := by decide +kernel
theorem dL_law__1450 : decode cL_law_ 1450 = .ok (.ifCond .ne 15, 3) := by decide +kernel
theorem dL_law__1453 : decode cL_law_ 1453 = .ok (.aload_n 3, 1) := by decide +kernel
theorem dL_law__1454 : decode cL_law_ 1454 = .ok (.iconst 0, 1) := by decide +kernel
theorem dL_law__1455 : decode cL_law_ 1455 = .ok (.laload, 1) := by decide +kernel
theorem dL_law__1456 : decode cL_law_ 1456 = .ok (.iload 6, 2) := by decide +kernel
theorem dL_law__1458 : decode cL_law_ 1458 = .ok (.i2l, 1) := by decide +kernel
theorem dL_law__1459 : decode cL_law_ 1459 = .ok (.lcmp, 1) := by decide +kernel
theorem dL_law__1460 : decode cL_law_ 1460 = .ok (.ifCond .eq 5, 3) := by decide +kernel
theorem dL_law__1463 : decode cL_law_ 1463 = .ok (.iconst 0, 1) := by decide +kernel
theorem dL_law__1464 : decode cL_law_ 1464 = .ok (.ireturn, 1) := by decide +kernel
theorem dL_law__1465 : decode cL_law_ 1465 = .ok (.goto 882, 3) := by decide +kernel
theorem dL_law__1468 : decode cL_law_ 1468 = .ok (.aload_n 1, 1) := by decide +kernel
theorem dL_law__1469 : decode cL_law_ 1469 = .ok (.aload_n 0, 1) := by decide +kernel
theorem dL_law__1470 : decode cL_law_ 1470 = .ok (.iload 4, 2) := by decide +kernel
theorem dL_law__1472 : decode cL_law_ 1472 = .ok (.iconst 1, 1) := by decide +kernel
theorem dL_law__1473 : decode cL_law_ 1473 = .ok (.iadd, 1) := by decide +kernel
theorem dL_law__1474 : decode cL_law_ 1474 = .ok (.iaload, 1) := by decide +kernel
theorem dL_law__1475 : decode cL_law_ 1475 = .ok (.aload_n 0, 1) := by decide +kernel
theorem dL_law__1476 : decode cL_law_ 1476 = .ok (.iload 4, 2) := by decide +kernel
theorem dL_law__1478 : decode cL_law_ 1478 = .ok (.iconst 2, 1) := by decide +kernel
theorem dL_law__1479 : decode cL_law_ 1479 = .ok (.iadd, 1) := by decide +kernel
theorem dL_law__1480 : decode cL_law_ 1480 = .ok (.iaload, 1) := by decide +kernel
theorem dL_law__1481 : decode cL_law_ 1481 = .ok (.aload_n 3, 1) := by decide +kernel
theorem dL_law__1482 : decode cL_law_ 1482 = .ok (.invokestatic 183, 3) := by decide +kernel
theorem dL_law__1485 : decode cL_law_ 1485 = .ok (.istore 5, 2) := by decide +kernel
theorem dL_law__1487 : decode cL_law_ 1487 = .ok (.aload_n 2, 1) := by decide +kernel
theorem dL_law__1488 : decode cL_law_ 1488 = .ok (.aload_n 0, 1) := by decide +kernel
theorem dL_law__1489 : decode cL_law_ 1489 = .ok (.iload 4, 2) := by decide +kernel
theorem dL_law__1491 : decode cL_law_ 1491 = .ok (.iconst 1, 1) := by decide +kernel
theorem dL_law__1492 : decode cL_law_ 1492 = .ok (.iadd, 1) := by decide +kernel
theorem dL_law__1493 : decode cL_law_ 1493 = .ok (.iaload, 1) := by decide +kernel
theorem dL_law__1494 : decode cL_law_ 1494 = .ok (.aload_n 0, 1) := by decide +kernel
theorem dL_law__1495 : decode cL_law_ 1495 = .ok (.iload 4, 2) := by decide +kernel
theorem dL_law__1497 : decode cL_law_ 1497 = .ok (.iconst 2, 1) := by decide +kernel
theorem dL_law__1498 : decode cL_law_ 1498 = .ok (.iadd, 1) := by decide +kernel
theorem dL_law__1499 : decode cL_law_ 1499 = .ok (.iaload, 1) := by decide +kernel
theorem dL_law__1500 : decode cL_law_ 1500 = .ok (.invokevirtual 185, 3) := by decide +kernel
theorem dL_law__1503 : decode cL_law_ 1503 = .ok (.istore 6, 2) := by decide +kernel
theorem dL_law__1505 : decode cL_law_ 1505 = .ok (.aload_n 2, 1) := by decide +kernel
theorem dL_law__1506 : decode cL_law_ 1506 = .ok (.invokevirtual 116, 3) := by decide +kernel
theorem dL_law__1509 : decode cL_law_ 1509 = .ok (.iload 5, 2) := by decide +kernel
theorem dL_law__1511 : decode cL_law_ 1511 = .ok (.if_icmp .eq 5, 3) := by decide +kernel
theorem dL_law__1514 : decode cL_law_ 1514 = .ok (.iconst 0, 1) := by decide +kernel
theorem dL_law__1515 : decode cL_law_ 1515 = .ok (.ireturn, 1) := by decide +kernel
theorem dL_law__1516 : decode cL_law_ 1516 = .ok (.iload 5, 2) := by decide +kernel
theorem dL_law__1518 : decode cL_law_ 1518 = .ok (.ifCond .ne 15, 3) := by decide +kernel
theorem dL_law__1521 : decode cL_law_ 1521 = .ok (.aload_n 3, 1) := by decide +kernel
theorem dL_law__1522 : decode cL_law_ 1522 = .ok (.iconst 0, 1) := by decide +kernel
theorem dL_law__1523 : decode cL_law_ 1523 = .ok (.laload, 1) := by decide +kernel
theorem dL_law__1524 : decode cL_law_ 1524 = .ok (.iload 6, 2) := by decide +kernel
theorem dL_law__1526 : decode cL_law_ 1526 = .ok (.i2l, 1) := by decide +kernel
theorem dL_law__1527 : decode cL_law_ 1527 = .ok (.lcmp, 1) := by decide +kernel
theorem dL_law__1528 : decode cL_law_ 1528 = .ok (.ifCond .eq 5, 3) := by decide +kernel
theorem dL_law__1531 : decode cL_law_ 1531 = .ok (.iconst 0, 1) := by decide +kernel
theorem dL_law__1532 : decode cL_law_ 1532 = .ok (.ireturn, 1) := by decide +kernel
theorem dL_law__1533 : decode cL_law_ 1533 = .ok (.goto 814, 3) := by decide +kernel
theorem dL_law__1536 : decode cL_law_ 1536 = .ok (.aload_n 1, 1) := by decide +kernel
theorem dL_law__1537 : decode cL_law_ 1537 = .ok (.aload_n 0, 1) := by decide +kernel
theorem dL_law__1538 : decode cL_law_ 1538 = .ok (.iload 4, 2) := by decide +kernel
theorem dL_law__1540 : decode cL_law_ 1540 = .ok (.iconst 1, 1) := by decide +kernel
theorem dL_law__1541 : decode cL_law_ 1541 = .ok (.iadd, 1) := by decide +kernel
theorem dL_law__1542 : decode cL_law_ 1542 = .ok (.iaload, 1) := by decide +kernel
theorem dL_law__1543 : decode cL_law_ 1543 = .ok (.aload_n 0, 1) := by decide +kernel
theorem dL_law__1544 : decode cL_law_ 1544 = .ok (.iload 4, 2) := by decide +kernel
theorem dL_law__1546 : decode cL_law_ 1546 = .ok (.iconst 2, 1) := by decide +kernel
theorem dL_law__1547 : decode cL_law_ 1547 = .ok (.iadd, 1) := by decide +kernel
theorem dL_law__1548 : decode cL_law_ 1548 = .ok (.iaload, 1) := by decide +kernel
theorem dL_law__1549 : decode cL_law_ 1549 = .ok (.aload_n 3, 1) := by decide +kernel
theorem dL_law__1550 : decode cL_law_ 1550 = .ok (.invokestatic 186, 3) := by decide +kernel
theorem dL_law__1553 : decode cL_law_ 1553 = .ok (.istore 5, 2) := by decide +kernel
theorem dL_law__1555 : decode cL_law_ 1555 = .ok (.aload_n 2, 1) := by decide +kernel
theorem dL_law__1556 : decode cL_law_ 1556 = .ok (.aload_n 0, 1) := by decide +kernel
theorem dL_law__1557 : decode cL_law_ 1557 = .ok (.iload 4, 2) := by decide +kernel
theorem dL_law__1559 : decode cL_law_ 1559 = .ok (.iconst 1, 1) := by decide +kernel
theorem dL_law__1560 : decode cL_law_ 1560 = .ok (.iadd, 1) := by decide +kernel
theorem dL_law__1561 : decode cL_law_ 1561 = .ok (.iaload, 1) := by decide +kernel
theorem dL_law__1562 : decode cL_law_ 1562 = .ok (.aload_n 0, 1) := by decide +kernel
theorem dL_law__1563 : decode cL_law_ 1563 = .ok (.iload 4, 2) := by decide +kernel
theorem dL_law__1565 : decode cL_law_ 1565 = .ok (.iconst 2, 1) := by decide +kernel
theorem dL_law__1566 : decode cL_law_ 1566 = .ok (.iadd, 1) := by decide +kernel
theorem dL_law__1567 : decode cL_law_ 1567 = .ok (.iaload, 1) := by decide +kernel
theorem dL_law__1568 : decode cL_law_ 1568 = .ok (.invokevirtual 188, 3) := by decide +kernel
theorem dL_law__1571 : decode cL_law_ 1571 = .ok (.istore 6, 2) := by decide +kernel
theorem dL_law__1573 : decode cL_law_ 1573 = .ok (.aload_n 2, 1) := by decide +kernel
theorem dL_law__1574 : decode cL_law_ 1574 = .ok (.invokevirtual 116, 3) := by decide +kernel
theorem dL_law__1577 : decode cL_law_ 1577 = .ok (.iload 5, 2) := by decide +kernel
theorem dL_law__1579 : decode cL_law_ 1579 = .ok (.if_icmp .eq 5, 3) := by decide +kernel
theorem dL_law__1582 : decode cL_law_ 1582 = .ok (.iconst 0, 1) := by decide +kernel
theorem dL_law__1583 : decode cL_law_ 1583 = .ok (.ireturn, 1) := by decide +kernel
theorem dL_law__1584 : decode cL_law_ 1584 = .ok (.iload 5, 2) := by decide +kernel
theorem dL_law__1586 : decode cL_law_ 1586 = .ok (.ifCond .ne 15, 3) := by decide +kernel
theorem dL_law__1589 : decode cL_law_ 1589 = .ok (.aload_n 3, 1) := by decide +kernel
theorem dL_law__1590 : decode cL_law_ 1590 = .ok (.iconst 0, 1) := by decide +kernel
theorem dL_law__1591 : decode cL_law_ 1591 = .ok (.laload, 1) := by decide +kernel
theorem dL_law__1592 : decode cL_law_ 1592 = .ok (.iload 6, 2) := by decide +kernel
theorem dL_law__1594 : decode cL_law_ 1594 = .ok (.i2l, 1) := by decide +kernel
theorem dL_law__1595 : decode cL_law_ 1595 = .ok (.lcmp, 1) := by decide +kernel
theorem dL_law__1596 : decode cL_law_ 1596 = .ok (.ifCond .eq 5, 3) := by decide +kernel
theorem dL_law__1599 : decode cL_law_ 1599 = .ok (.iconst 0, 1) := by decide +kernel
theorem dL_law__1600 : decode cL_law_ 1600 = .ok (.ireturn, 1) := by decide +kernel
theorem dL_law__1601 : decode cL_law_ 1601 = .ok (.goto 746, 3) := by decide +kernel
theorem dL_law__1604 : decode cL_law_ 1604 = .ok (.aload_n 1, 1) := by decide +kernel
theorem dL_law__1605 : decode cL_law_ 1605 = .ok (.aload_n 0, 1) := by decide +kernel
theorem dL_law__1606 : decode cL_law_ 1606 = .ok (.iload 4, 2) := by decide +kernel
theorem dL_law__1608 : decode cL_law_ 1608 = .ok (.iconst 1, 1) := by decide +kernel
theorem dL_law__1609 : decode cL_law_ 1609 = .ok (.iadd, 1) := by decide +kernel
theorem dL_law__1610 : decode cL_law_ 1610 = .ok (.iaload, 1) := by decide +kernel
theorem dL_law__1611 : decode cL_law_ 1611 = .ok (.aload_n 0, 1) := by decide +kernel
theorem dL_law__1612 : decode cL_law_ 1612 = .ok (.iload 4, 2) := by decide +kernel
theorem dL_law__1614 : decode cL_law_ 1614 = .ok (.iconst 2, 1) := by decide +kernel
theorem dL_law__1615 : decode cL_law_ 1615 = .ok (.iadd, 1) := by decide +kernel
theorem dL_law__1616 : decode cL_law_ 1616 = .ok (.iaload, 1) := by decide +kernel
theorem dL_law__1617 : decode cL_law_ 1617 = .ok (.aload_n 0, 1) := by decide +kernel
theorem dL_law__1618 : decode cL_law_ 1618 = .ok (.iload 4, 2) := by decide +kernel
theorem dL_law__1620 : decode cL_law_ 1620 = .ok (.iconst 3, 1) := by decide +kernel
theorem dL_law__1621 : decode cL_law_ 1621 = .ok (.iadd, 1) := by decide +kernel
theorem dL_law__1622 : decode cL_law_ 1622 = .ok (.iaload, 1) := by decide +kernel
theorem dL_law__1623 : decode cL_law_ 1623 = .ok (.aload_n 3, 1) := by decide +kernel
theorem dL_law__1624 : decode cL_law_ 1624 = .ok (.invokestatic 189, 3) := by decide +kernel
theorem dL_law__1627 : decode cL_law_ 1627 = .ok (.istore 5, 2) := by decide +kernel
theorem dL_law__1629 : decode cL_law_ 1629 = .ok (.aload_n 2, 1) := by decide +kernel
theorem dL_law__1630 : decode cL_law_ 1630 = .ok (.aload_n 0, 1) := by decide +kernel
theorem dL_law__1631 : decode cL_law_ 1631 = .ok (.iload 4, 2) := by decide +kernel
theorem dL_law__1633 : decode cL_law_ 1633 = .ok (.iconst 1, 1) := by decide +kernel
theorem dL_law__1634 : decode cL_law_ 1634 = .ok (.iadd, 1) := by decide +kernel
theorem dL_law__1635 : decode cL_law_ 1635 = .ok (.iaload, 1) := by decide +kernel
theorem dL_law__1636 : decode cL_law_ 1636 = .ok (.aload_n 0, 1) := by decide +kernel
theorem dL_law__1637 : decode cL_law_ 1637 = .ok (.iload 4, 2) := by decide +kernel
theorem dL_law__1639 : decode cL_law_ 1639 = .ok (.iconst 2, 1) := by decide +kernel
theorem dL_law__1640 : decode cL_law_ 1640 = .ok (.iadd, 1) := by decide +kernel
theorem dL_law__1641 : decode cL_law_ 1641 = .ok (.iaload, 1) := by decide +kernel
theorem dL_law__1642 : decode cL_law_ 1642 = .ok (.aload_n 0, 1) := by decide +kernel
theorem dL_law__1643 : decode cL_law_ 1643 = .ok (.iload 4, 2) := by decide +kernel
theorem dL_law__1645 : decode cL_law_ 1645 = .ok (.iconst 3, 1) := by decide +kernel
theorem dL_law__1646 : decode cL_law_ 1646 = .ok (.iadd, 1) := by decide +kernel
theorem dL_law__1647 : decode cL_law_ 1647 = .ok (.iaload, 1) := by decide +kernel
theorem dL_law__1648 : decode cL_law_ 1648 = .ok (.invokevirtual 191, 3) := by decide +kernel
theorem dL_law__1651 : decode cL_law_ 1651 = .ok (.istore 6, 2) := by decide +kernel
theorem dL_law__1653 : decode cL_law_ 1653 = .ok (.aload_n 2, 1) := by decide +kernel
theorem dL_law__1654 : decode cL_law_ 1654 = .ok (.invokevirtual 116, 3) := by decide +kernel
theorem dL_law__1657 : decode cL_law_ 1657 = .ok (.iload 5, 2) := by decide +kernel
theorem dL_law__1659 : decode cL_law_ 1659 = .ok (.if_icmp .eq 5, 3) := by decide +kernel
theorem dL_law__1662 : decode cL_law_ 1662 = .ok (.iconst 0, 1) := by decide +kernel
theorem dL_law__1663 : decode cL_law_ 1663 = .ok (.ireturn, 1) := by decide +kernel
theorem dL_law__1664 : decode cL_law_ 1664 = .ok (.iload 5, 2) := by decide +kernel
theorem dL_law__1666 : decode cL_law_ 1666 = .ok (.ifCond .ne 15, 3) := by decide +kernel
theorem dL_law__1669 : decode cL_law_ 1669 = .ok (.aload_n 3, 1) := by decide +kernel
theorem dL_law__1670 : decode cL_law_ 1670 = .ok (.iconst 0, 1) := by decide +kernel
theorem dL_law__1671 : decode cL_law_ 1671 = .ok (.laload, 1) := by decide +kernel
theorem dL_law__1672 : decode cL_law_ 1672 = .ok (.iload 6, 2) := by decide +kernel
theorem dL_law__1674 : decode cL_law_ 1674 = .ok (.i2l, 1) := by decide +kernel
theorem dL_law__1675 : decode cL_law_ 1675 = .ok (.lcmp, 1) := by decide +kernel
theorem dL_law__1676 : decode cL_law_ 1676 = .ok (.ifCond .eq 5, 3) := by decide +kernel
theorem dL_law__1679 : decode cL_law_ 1679 = .ok (.iconst 0, 1) := by decide +kernel
theorem dL_law__1680 : decode cL_law_ 1680 = .ok (.ireturn, 1) := by decide +kernel
theorem dL_law__1681 : decode cL_law_ 1681 = .ok (.goto 666, 3) := by decide +kernel
theorem dL_law__1684 : decode cL_law_ 1684 = .ok (.aload_n 1, 1) := by decide +kernel
theorem dL_law__1685 : decode cL_law_ 1685 = .ok (.invokevirtual 192, 3) := by decide +kernel
theorem dL_law__1688 : decode cL_law_ 1688 = .ok (.aload_n 2, 1) := by decide +kernel
theorem dL_law__1689 : decode cL_law_ 1689 = .ok (.invokevirtual 195, 3) := by decide +kernel
theorem dL_law__1692 : decode cL_law_ 1692 = .ok (.if_icmp .eq 655, 3) := by decide +kernel
theorem dL_law__1695 : decode cL_law_ 1695 = .ok (.iconst 0, 1) := by decide +kernel
theorem dL_law__1696 : decode cL_law_ 1696 = .ok (.ireturn, 1) := by decide +kernel
theorem dL_law__1697 : decode cL_law_ 1697 = .ok (.aload_n 1, 1) := by decide +kernel
theorem dL_law__1698 : decode cL_law_ 1698 = .ok (.aload_n 0, 1) := by decide +kernel
theorem dL_law__1699 : decode cL_law_ 1699 = .ok (.iload 4, 2) := by decide +kernel
theorem dL_law__1701 : decode cL_law_ 1701 = .ok (.iconst 1, 1) := by decide +kernel
theorem dL_law__1702 : decode cL_law_ 1702 = .ok (.iadd, 1) := by decide +kernel
theorem dL_law__1703 : decode cL_law_ 1703 = .ok (.iaload, 1) := by decide +kernel
theorem dL_law__1704 : decode cL_law_ 1704 = .ok (.aload_n 0, 1) := by decide +kernel
theorem dL_law__1705 : decode cL_law_ 1705 = .ok (.iload 4, 2) := by decide +kernel
theorem dL_law__1707 : decode cL_law_ 1707 = .ok (.iconst 2, 1) := by decide +kernel
theorem dL_law__1708 : decode cL_law_ 1708 = .ok (.iadd, 1) := by decide +kernel
theorem dL_law__1709 : decode cL_law_ 1709 = .ok (.iaload, 1) := by decide +kernel
theorem dL_law__1710 : decode cL_law_ 1710 = .ok (.aload_n 0, 1) := by decide +kernel
theorem dL_law__1711 : decode cL_law_ 1711 = .ok (.iload 4, 2) := by decide +kernel
theorem dL_law__1713 : decode cL_law_ 1713 = .ok (.iconst 3, 1) := by decide +kernel
theorem dL_law__1714 : decode cL_law_ 1714 = .ok (.iadd, 1) := by decide +kernel
theorem dL_law__1715 : decode cL_law_ 1715 = .ok (.iaload, 1) := by decide +kernel
theorem dL_law__1716 : decode cL_law_ 1716 = .ok (.aload_n 3, 1) := by decide +kernel
theorem dL_law__1717 : decode cL_law_ 1717 = .ok (.invokestatic 196, 3) := by decide +kernel
theorem dL_law__1720 : decode cL_law_ 1720 = .ok (.istore 5, 2) := by decide +kernel
theorem dL_law__1722 : decode cL_law_ 1722 = .ok (.aload_n 2, 1) := by decide +kernel
theorem dL_law__1723 : decode cL_law_ 1723 = .ok (.aload_n 0, 1) := by decide +kernel
theorem dL_law__1724 : decode cL_law_ 1724 = .ok (.iload 4, 2) := by decide +kernel
theorem dL_law__1726 : decode cL_law_ 1726 = .ok (.iconst 1, 1) := by decide +kernel
theorem dL_law__1727 : decode cL_law_ 1727 = .ok (.iadd, 1) := by decide +kernel
theorem dL_law__1728 : decode cL_law_ 1728 = .ok (.iaload, 1) := by decide +kernel
theorem dL_law__1729 : decode cL_law_ 1729 = .ok (.aload_n 0, 1) := by decide +kernel
theorem dL_law__1730 : decode cL_law_ 1730 = .ok (.iload 4, 2) := by decide +kernel
theorem dL_law__1732 : decode cL_law_ 1732 = .ok (.iconst 2, 1) := by decide +kernel
theorem dL_law__1733 : decode cL_law_ 1733 = .ok (.iadd, 1) := by decide +kernel
theorem dL_law__1734 : decode cL_law_ 1734 = .ok (.iaload, 1) := by decide +kernel
theorem dL_law__1735 : decode cL_law_ 1735 = .ok (.aload_n 0, 1) := by decide +kernel
theorem dL_law__1736 : decode cL_law_ 1736 = .ok (.iload 4, 2) := by decide +kernel
theorem dL_law__1738 : decode cL_law_ 1738 = .ok (.iconst 3, 1) := by decide +kernel
theorem dL_law__1739 : decode cL_law_ 1739 = .ok (.iadd, 1) := by decide +kernel
theorem dL_law__1740 : decode cL_law_ 1740 = .ok (.iaload, 1) := by decide +kernel
theorem dL_law__1741 : decode cL_law_ 1741 = .ok (.invokevirtual 198, 3) := by decide +kernel
theorem dL_law__1744 : decode cL_law_ 1744 = .ok (.lstore 6, 2) := by decide +kernel
theorem dL_law__1746 : decode cL_law_ 1746 = .ok (.aload_n 2, 1) := by decide +kernel
theorem dL_law__1747 : decode cL_law_ 1747 = .ok (.invokevirtual 116, 3) := by decide +kernel
theorem dL_law__1750 : decode cL_law_ 1750 = .ok (.iload 5, 2) := by decide +kernel
theorem dL_law__1752 : decode cL_law_ 1752 = .ok (.if_icmp .eq 5, 3) := by decide +kernel
theorem dL_law__1755 : decode cL_law_ 1755 = .ok (.iconst 0, 1) := by decide +kernel
theorem dL_law__1756 : decode cL_law_ 1756 = .ok (.ireturn, 1) := by decide +kernel
theorem dL_law__1757 : decode cL_law_ 1757 = .ok (.iload 5, 2) := by decide +kernel
theorem dL_law__1759 : decode cL_law_ 1759 = .ok (.ifCond .ne 14, 3) := by decide +kernel
theorem dL_law__1762 : decode cL_law_ 1762 = .ok (.aload_n 3, 1) := by decide +kernel
theorem dL_law__1763 : decode cL_law_ 1763 = .ok (.iconst 0, 1) := by decide +kernel
theorem dL_law__1764 : decode cL_law_ 1764 = .ok (.laload, 1) := by decide +kernel
theorem dL_law__1765 : decode cL_law_ 1765 = .ok (.lload 6, 2) := by decide +kernel
theorem dL_law__1767 : decode cL_law_ 1767 = .ok (.lcmp, 1) := by decide +kernel
theorem dL_law__1768 : decode cL_law_ 1768 = .ok (.ifCond .eq 5, 3) := by decide +kernel
theorem dL_law__1771 : decode cL_law_ 1771 = .ok (.iconst 0, 1) := by decide +kernel
theorem dL_law__1772 : decode cL_law_ 1772 = .ok (.ireturn, 1) := by decide +kernel
theorem dL_law__1773 : decode cL_law_ 1773 = .ok (.goto 574, 3) := by decide +kernel
theorem dL_law__1776 : decode cL_law_ 1776 = .ok (.aload_n 1, 1) := by decide +kernel
theorem dL_law__1777 : decode cL_law_ 1777 = .ok (.aload_n 0, 1) := by decide +kernel
theorem dL_law__1778 : decode cL_law_ 1778 = .ok (.iload 4, 2) := by decide +kernel
theorem dL_law__1780 : decode cL_law_ 1780 = .ok (.iconst 1, 1) := by decide +kernel
theorem dL_law__1781 : decode cL_law_ 1781 = .ok (.iadd, 1) := by decide +kernel
theorem dL_law__1782 : decode cL_law_ 1782 = .ok (.iaload, 1) := by decide +kernel
theorem dL_law__1783 : decode cL_law_ 1783 = .ok (.aload_n 0, 1) := by decide +kernel
theorem dL_law__1784 : decode cL_law_ 1784 = .ok (.iload 4, 2) := by decide +kernel
theorem dL_law__1786 : decode cL_law_ 1786 = .ok (.iconst 2, 1) := by decide +kernel
theorem dL_law__1787 : decode cL_law_ 1787 = .ok (.iadd, 1) := by decide +kernel
theorem dL_law__1788 : decode cL_law_ 1788 = .ok (.iaload, 1) := by decide +kernel
theorem dL_law__1789 : decode cL_law_ 1789 = .ok (.aload_n 3, 1) := by decide +kernel
theorem dL_law__1790 : decode cL_law_ 1790 = .ok (.invokestatic 199, 3) := by decide +kernel
theorem dL_law__1793 : decode cL_law_ 1793 = .ok (.istore 5, 2) := by decide +kernel
theorem dL_law__1795 : decode cL_law_ 1795 = .ok (.aload_n 2, 1) := by decide +kernel
theorem dL_law__1796 : decode cL_law_ 1796 = .ok (.aload_n 0, 1) := by decide +kernel
theorem dL_law__1797 : decode cL_law_ 1797 = .ok (.iload 4, 2) := by decide +kernel
theorem dL_law__1799 : decode cL_law_ 1799 = .ok (.iconst 1, 1) := by decide +kernel
theorem dL_law__1800 : decode cL_law_ 1800 = .ok (.iadd, 1) := by decide +kernel
theorem dL_law__1801 : decode cL_law_ 1801 = .ok (.iaload, 1) := by decide +kernel
theorem dL_law__1802 : decode cL_law_ 1802 = .ok (.aload_n 0, 1) := by decide +kernel
theorem dL_law__1803 : decode cL_law_ 1803 = .ok (.iload 4, 2) := by decide +kernel
theorem dL_law__1805 : decode cL_law_ 1805 = .ok (.iconst 2, 1) := by decide +kernel
theorem dL_law__1806 : decode cL_law_ 1806 = .ok (.iadd, 1) := by decide +kernel
theorem dL_law__1807 : decode cL_law_ 1807 = .ok (.iaload, 1) := by decide +kernel
theorem dL_law__1808 : decode cL_law_ 1808 = .ok (.invokevirtual 201, 3) := by decide +kernel
theorem dL_law__1811 : decode cL_law_ 1811 = .ok (.istore 6, 2) := by decide +kernel
theorem dL_law__1813 : decode cL_law_ 1813 = .ok (.aload_n 2, 1) := by decide +kernel
theorem dL_law__1814 : decode cL_law_ 1814 = .ok (.invokevirtual 116, 3) := by decide +kernel
theorem dL_law__1817 : decode cL_law_ 1817 = .ok (.iload 5, 2) := by decide +kernel
theorem dL_law__1819 : decode cL_law_ 1819 = .ok (.if_icmp .eq 5, 3) := by decide +kernel
theorem dL_law__1822 : decode cL_law_ 1822 = .ok (.iconst 0, 1) := by decide +kernel
theorem dL_law__1823 : decode cL_law_ 1823 = .ok (.ireturn, 1) := by decide +kernel
theorem dL_law__1824 : decode cL_law_ 1824 = .ok (.iload 5, 2) := by decide +kernel
theorem dL_law__1826 : decode cL_law_ 1826 = .ok (.ifCond .ne 15, 3) := by decide +kernel
theorem dL_law__1829 : decode cL_law_ 1829 = .ok (.aload_n 3, 1) := by decide +kernel
theorem dL_law__1830 : decode cL_law_ 1830 = .ok (.iconst 0, 1) := by decide +kernel
theorem dL_law__1831 : decode cL_law_ 1831 = .ok (.laload, 1) := by decide +kernel
theorem dL_law__1832 : decode cL_law_ 1832 = .ok (.iload 6, 2) := by decide +kernel
theorem dL_law__1834 : decode cL_law_ 1834 = .ok (.i2l, 1) := by decide +kernel
theorem dL_law__1835 : decode cL_law_ 1835 = .ok (.lcmp, 1) := by decide +kernel
theorem dL_law__1836 : decode cL_law_ 1836 = .ok (.ifCond .eq 5, 3) := by decide +kernel
theorem dL_law__1839 : decode cL_law_ 1839 = .ok (.iconst 0, 1) := by decide +kernel
theorem dL_law__1840 : decode cL_law_ 1840 = .ok (.ireturn, 1) := by decide +kernel
theorem dL_law__1841 : decode cL_law_ 1841 = .ok (.goto 506, 3) := by decide +kernel
theorem dL_law__1844 : decode cL_law_ 1844 = .ok (.aload_n 1, 1) := by decide +kernel
theorem dL_law__1845 : decode cL_law_ 1845 = .ok (.aload_n 0, 1) := by decide +kernel
theorem dL_law__1846 : decode cL_law_ 1846 = .ok (.iload 4, 2) := by decide +kernel
theorem dL_law__1848 : decode cL_law_ 1848 = .ok (.iconst 1, 1) := by decide +kernel
theorem dL_law__1849 : decode cL_law_ 1849 = .ok (.iadd, 1) := by decide +kernel
theorem dL_law__1850 : decode cL_law_ 1850 = .ok (.iaload, 1) := by decide +kernel
theorem dL_law__1851 : decode cL_law_ 1851 = .ok (.aload_n 0, 1) := by decide +kernel
theorem dL_law__1852 : decode cL_law_ 1852 = .ok (.iload 4, 2) := by decide +kernel
theorem dL_law__1854 : decode cL_law_ 1854 = .ok (.iconst 2, 1) := by decide +kernel
theorem dL_law__1855 : decode cL_law_ 1855 = .ok (.iadd, 1) := by decide +kernel
theorem dL_law__1856 : decode cL_law_ 1856 = .ok (.iaload, 1) := by decide +kernel
theorem dL_law__1857 : decode cL_law_ 1857 = .ok (.aload_n 0, 1) := by decide +kernel
theorem dL_law__1858 : decode cL_law_ 1858 = .ok (.iload 4, 2) := by decide +kernel
theorem dL_law__1860 : decode cL_law_ 1860 = .ok (.iconst 3, 1) := by decide +kernel
theorem dL_law__1861 : decode cL_law_ 1861 = .ok (.iadd, 1) := by decide +kernel
theorem dL_law__1862 : decode cL_law_ 1862 = .ok (.iaload, 1) := by decide +kernel
theorem dL_law__1863 : decode cL_law_ 1863 = .ok (.aload_n 3, 1) := by decide +kernel
theorem dL_law__1864 : decode cL_law_ 1864 = .ok (.invokestatic 202, 3) := by decide +kernel
theorem dL_law__1867 : decode cL_law_ 1867 = .ok (.istore 5, 2) := by decide +kernel
theorem dL_law__1869 : decode cL_law_ 1869 = .ok (.aload_n 2, 1) := by decide +kernel
theorem dL_law__1870 : decode cL_law_ 1870 = .ok (.aload_n 0, 1) := by decide +kernel
theorem dL_law__1871 : decode cL_law_ 1871 = .ok (.iload 4, 2) := by decide +kernel
theorem dL_law__1873 : decode cL_law_ 1873 = .ok (.iconst 1, 1) := by decide +kernel
theorem dL_law__1874 : decode cL_law_ 1874 = .ok (.iadd, 1) := by decide +kernel
theorem dL_law__1875 : decode cL_law_ 1875 = .ok (.iaload, 1) := by decide +kernel
theorem dL_law__1876 : decode cL_law_ 1876 = .ok (.aload_n 0, 1) := by decide +kernel
theorem dL_law__1877 : decode cL_law_ 1877 = .ok (.iload 4, 2) := by decide +kernel
theorem dL_law__1879 : decode cL_law_ 1879 = .ok (.iconst 2, 1) := by decide +kernel
theorem dL_law__1880 : decode cL_law_ 1880 = .ok (.iadd, 1) := by decide +kernel
theorem dL_law__1881 : decode cL_law_ 1881 = .ok (.iaload, 1) := by decide +kernel
theorem dL_law__1882 : decode cL_law_ 1882 = .ok (.aload_n 0, 1) := by decide +kernel
theorem dL_law__1883 : decode cL_law_ 1883 = .ok (.iload 4, 2) := by decide +kernel
theorem dL_law__1885 : decode cL_law_ 1885 = .ok (.iconst 3, 1) := by decide +kernel
theorem dL_law__1886 : decode cL_law_ 1886 = .ok (.iadd, 1) := by decide +kernel
theorem dL_law__1887 : decode cL_law_ 1887 = .ok (.iaload, 1) := by decide +kernel
theorem dL_law__1888 : decode cL_law_ 1888 = .ok (.invokevirtual 204, 3) := by decide +kernel
theorem dL_law__1891 : decode cL_law_ 1891 = .ok (.istore 6, 2) := by decide +kernel
theorem dL_law__1893 : decode cL_law_ 1893 = .ok (.aload_n 2, 1) := by decide +kernel
theorem dL_law__1894 : decode cL_law_ 1894 = .ok (.invokevirtual 116, 3) := by decide +kernel
theorem dL_law__1897 : decode cL_law_ 1897 = .ok (.iload 5, 2) := by decide +kernel
theorem dL_law__1899 : decode cL_law_ 1899 = .ok (.if_icmp .eq 5, 3) := by decide +kernel
theorem dL_law__1902 : decode cL_law_ 1902 = .ok (.iconst 0, 1) := by decide +kernel
theorem dL_law__1903 : decode cL_law_ 1903 = .ok (.ireturn, 1) := by decide +kernel
theorem dL_law__1904 : decode cL_law_ 1904 = .ok (.iload 5, 2) := by decide +kernel
theorem dL_law__1906 : decode cL_law_ 1906 = .ok (.ifCond .ne 15, 3) := by decide +kernel
theorem dL_law__1909 : decode cL_law_ 1909 = .ok (.aload_n 3, 1) := by decide +kernel
theorem dL_law__1910 : decode cL_law_ 1910 = .ok (.iconst 0, 1) := by decide +kernel
theorem dL_law__1911 : decode cL_law_ 1911 = .ok (.laload, 1) := by decide +kernel
theorem dL_law__1912 : decode cL_law_ 1912 = .ok (.iload 6, 2) := by decide +kernel
theorem dL_law__1914 : decode cL_law_ 1914 = .ok (.i2l, 1) := by decide +kernel
theorem dL_law__1915 : decode cL_law_ 1915 = .ok (.lcmp, 1) := by decide +kernel
theorem dL_law__1916 : decode cL_law_ 1916 = .ok (.ifCond .eq 5, 3) := by decide +kernel
theorem dL_law__1919 : decode cL_law_ 1919 = .ok (.iconst 0, 1) := by decide +kernel
theorem dL_law__1920 : decode cL_law_ 1920 = .ok (.ireturn, 1) := by decide +kernel
theorem dL_law__1921 : decode cL_law_ 1921 = .ok (.goto 426, 3) := by decide +kernel
theorem dL_law__1924 : decode cL_law_ 1924 = .ok (.aload_n 1, 1) := by decide +kernel
theorem dL_law__1925 : decode cL_law_ 1925 = .ok (.aload_n 0, 1) := by decide +kernel
theorem dL_law__1926 : decode cL_law_ 1926 = .ok (.iload 4, 2) := by decide +kernel
theorem dL_law__1928 : decode cL_law_ 1928 = .ok (.iconst 1, 1) := by decide +kernel
theorem dL_law__1929 : decode cL_law_ 1929 = .ok (.iadd, 1) := by decide +kernel
theorem dL_law__1930 : decode cL_law_ 1930 = .ok (.iaload, 1) := by decide +kernel
theorem dL_law__1931 : decode cL_law_ 1931 = .ok (.aload_n 0, 1) := by decide +kernel
theorem dL_law__1932 : decode cL_law_ 1932 = .ok (.iload 4, 2) := by decide +kernel
theorem dL_law__1934 : decode cL_law_ 1934 = .ok (.iconst 2, 1) := by decide +kernel
theorem dL_law__1935 : decode cL_law_ 1935 = .ok (.iadd, 1) := by decide +kernel
theorem dL_law__1936 : decode cL_law_ 1936 = .ok (.iaload, 1) := by decide +kernel
theorem dL_law__1937 : decode cL_law_ 1937 = .ok (.aload_n 3, 1) := by decide +kernel
theorem dL_law__1938 : decode cL_law_ 1938 = .ok (.invokestatic 205, 3) := by decide +kernel
theorem dL_law__1941 : decode cL_law_ 1941 = .ok (.istore 5, 2) := by decide +kernel
theorem dL_law__1943 : decode cL_law_ 1943 = .ok (.aload_n 2, 1) := by decide +kernel
theorem dL_law__1944 : decode cL_law_ 1944 = .ok (.aload_n 0, 1) := by decide +kernel
theorem dL_law__1945 : decode cL_law_ 1945 = .ok (.iload 4, 2) := by decide +kernel
theorem dL_law__1947 : decode cL_law_ 1947 = .ok (.iconst 1, 1) := by decide +kernel
theorem dL_law__1948 : decode cL_law_ 1948 = .ok (.iadd, 1) := by decide +kernel
theorem dL_law__1949 : decode cL_law_ 1949 = .ok (.iaload, 1) := by decide +kernel
theorem dL_law__1950 : decode cL_law_ 1950 = .ok (.aload_n 0, 1) := by decide +kernel
theorem dL_law__1951 : decode cL_law_ 1951 = .ok (.iload 4, 2) := by decide +kernel
theorem dL_law__1953 : decode cL_law_ 1953 = .ok (.iconst 2, 1) := by decide +kernel
theorem dL_law__1954 : decode cL_law_ 1954 = .ok (.iadd, 1) := by decide +kernel
theorem dL_law__1955 : decode cL_law_ 1955 = .ok (.iaload, 1) := by decide +kernel
theorem dL_law__1956 : decode cL_law_ 1956 = .ok (.invokevirtual 207, 3) := by decide +kernel
theorem dL_law__1959 : decode cL_law_ 1959 = .ok (.istore 6, 2) := by decide +kernel
theorem dL_law__1961 : decode cL_law_ 1961 = .ok (.aload_n 2, 1) := by decide +kernel
theorem dL_law__1962 : decode cL_law_ 1962 = .ok (.invokevirtual 116, 3) := by decide +kernel
theorem dL_law__1965 : decode cL_law_ 1965 = .ok (.iload 5, 2) := by decide +kernel
theorem dL_law__1967 : decode cL_law_ 1967 = .ok (.if_icmp .eq 5, 3) := by decide +kernel
theorem dL_law__1970 : decode cL_law_ 1970 = .ok (.iconst 0, 1) := by decide +kernel
theorem dL_law__1971 : decode cL_law_ 1971 = .ok (.ireturn, 1) := by decide +kernel
theorem dL_law__1972 : decode cL_law_ 1972 = .ok (.iload 5, 2) := by decide +kernel
theorem dL_law__1974 : decode cL_law_ 1974 = .ok (.ifCond .ne 15, 3) := by decide +kernel
theorem dL_law__1977 : decode cL_law_ 1977 = .ok (.aload_n 3, 1) := by decide +kernel
theorem dL_law__1978 : decode cL_law_ 1978 = .ok (.iconst 0, 1) := by decide +kernel
theorem dL_law__1979 : decode cL_law_ 1979 = .ok (.laload, 1) := by decide +kernel
theorem dL_law__1980 : decode cL_law_ 1980 = .ok (.iload 6, 2) := by decide +kernel
theorem dL_law__1982 : decode cL_law_ 1982 = .ok (.i2l, 1) := by decide +kernel
theorem dL_law__1983 : decode cL_law_ 1983 = .ok (.lcmp, 1) := by decide +kernel
theorem dL_law__1984 : decode cL_law_ 1984 = .ok (.ifCond .eq 5, 3) := by decide +kernel
theorem dL_law__1987 : decode cL_law_ 1987 = .ok (.iconst 0, 1) := by decide +kernel
theorem dL_law__1988 : decode cL_law_ 1988 = .ok (.ireturn, 1) := by decide +kernel
theorem dL_law__1989 : decode cL_law_ 1989 = .ok (.goto 358, 3) := by decide +kernel
theorem dL_law__1992 : decode cL_law_ 1992 = .ok (.aload_n 1, 1) := by decide +kernel
theorem dL_law__1993 : decode cL_law_ 1993 = .ok (.aload_n 0, 1) := by decide +kernel
theorem dL_law__1994 : decode cL_law_ 1994 = .ok (.iload 4, 2) := by decide +kernel
theorem dL_law__1996 : decode cL_law_ 1996 = .ok (.iconst 1, 1) := by decide +kernel
theorem dL_law__1997 : decode cL_law_ 1997 = .ok (.iadd, 1) := by decide +kernel
theorem dL_law__1998 : decode cL_law_ 1998 = .ok (.iaload, 1) := by decide +kernel
theorem dL_law__1999 : decode cL_law_ 1999 = .ok (.aload_n 3, 1) := by decide +kernel
theorem dL_law__2000 : decode cL_law_ 2000 = .ok (.invokestatic 208, 3) := by decide +kernel
theorem dL_law__2003 : decode cL_law_ 2003 = .ok (.istore 5, 2) := by decide +kernel
theorem dL_law__2005 : decode cL_law_ 2005 = .ok (.aload_n 2, 1) := by decide +kernel
theorem dL_law__2006 : decode cL_law_ 2006 = .ok (.aload_n 0, 1) := by decide +kernel
theorem dL_law__2007 : decode cL_law_ 2007 = .ok (.iload 4, 2) := by decide +kernel
theorem dL_law__2009 : decode cL_law_ 2009 = .ok (.iconst 1, 1) := by decide +kernel
theorem dL_law__2010 : decode cL_law_ 2010 = .ok (.iadd, 1) := by decide +kernel
theorem dL_law__2011 : decode cL_law_ 2011 = .ok (.iaload, 1) := by decide +kernel
theorem dL_law__2012 : decode cL_law_ 2012 = .ok (.invokevirtual 210, 3) := by decide +kernel
theorem dL_law__2015 : decode cL_law_ 2015 = .ok (.istore 6, 2) := by decide +kernel
theorem dL_law__2017 : decode cL_law_ 2017 = .ok (.aload_n 2, 1) := by decide +kernel
theorem dL_law__2018 : decode cL_law_ 2018 = .ok (.invokevirtual 116, 3) := by decide +kernel
theorem dL_law__2021 : decode cL_law_ 2021 = .ok (.iload 5, 2) := by decide +kernel
theorem dL_law__2023 : decode cL_law_ 2023 = .ok (.if_icmp .eq 5, 3) := by decide +kernel
theorem dL_law__2026 : decode cL_law_ 2026 = .ok (.iconst 0, 1) := by decide +kernel
theorem dL_law__2027 : decode cL_law_ 2027 = .ok (.ireturn, 1) := by decide +kernel
theorem dL_law__2028 : decode cL_law_ 2028 = .ok (.iload 5, 2) := by decide +kernel
theorem dL_law__2030 : decode cL_law_ 2030 = .ok (.ifCond .ne 15, 3) := by decide +kernel
theorem dL_law__2033 : decode cL_law_ 2033 = .ok (.aload_n 3, 1) := by decide +kernel
theorem dL_law__2034 : decode cL_law_ 2034 = .ok (.iconst 0, 1) := by decide +kernel
theorem dL_law__2035 : decode cL_law_ 2035 = .ok (.laload, 1) := by decide +kernel
theorem dL_law__2036 : decode cL_law_ 2036 = .ok (.iload 6, 2) := by decide +kernel
theorem dL_law__2038 : decode cL_law_ 2038 = .ok (.i2l, 1) := by decide +kernel
theorem dL_law__2039 : decode cL_law_ 2039 = .ok (.lcmp, 1) := by decide +kernel
theorem dL_law__2040 : decode cL_law_ 2040 = .ok (.ifCond .eq 5, 3) := by decide +kernel
theorem dL_law__2043 : decode cL_law_ 2043 = .ok (.iconst 0, 1) := by decide +kernel
theorem dL_law__2044 : decode cL_law_ 2044 = .ok (.ireturn, 1) := by decide +kernel
theorem dL_law__2045 : decode cL_law_ 2045 = .ok (.goto 302, 3) := by decide +kernel
theorem dL_law__2048 : decode cL_law_ 2048 = .ok (.aload_n 1, 1) := by decide +kernel
theorem dL_law__2049 : decode cL_law_ 2049 = .ok (.invokevirtual 211, 3) := by decide +kernel
theorem dL_law__2052 : decode cL_law_ 2052 = .ok (.aload_n 2, 1) := by decide +kernel
theorem dL_law__2053 : decode cL_law_ 2053 = .ok (.invokevirtual 214, 3) := by decide +kernel
theorem dL_law__2056 : decode cL_law_ 2056 = .ok (.if_icmp .eq 291, 3) := by decide +kernel
theorem dL_law__2059 : decode cL_law_ 2059 = .ok (.iconst 0, 1) := by decide +kernel
theorem dL_law__2060 : decode cL_law_ 2060 = .ok (.ireturn, 1) := by decide +kernel
theorem dL_law__2061 : decode cL_law_ 2061 = .ok (.aload_n 1, 1) := by decide +kernel
theorem dL_law__2062 : decode cL_law_ 2062 = .ok (.aload_n 0, 1) := by decide +kernel
theorem dL_law__2063 : decode cL_law_ 2063 = .ok (.iload 4, 2) := by decide +kernel
theorem dL_law__2065 : decode cL_law_ 2065 = .ok (.iconst 1, 1) := by decide +kernel
theorem dL_law__2066 : decode cL_law_ 2066 = .ok (.iadd, 1) := by decide +kernel
theorem dL_law__2067 : decode cL_law_ 2067 = .ok (.iaload, 1) := by decide +kernel
theorem dL_law__2068 : decode cL_law_ 2068 = .ok (.aload_n 0, 1) := by decide +kernel
theorem dL_law__2069 : decode cL_law_ 2069 = .ok (.iload 4, 2) := by decide +kernel
theorem dL_law__2071 : decode cL_law_ 2071 = .ok (.iconst 2, 1) := by decide +kernel
theorem dL_law__2072 : decode cL_law_ 2072 = .ok (.iadd, 1) := by decide +kernel
theorem dL_law__2073 : decode cL_law_ 2073 = .ok (.iaload, 1) := by decide +kernel
theorem dL_law__2074 : decode cL_law_ 2074 = .ok (.aload_n 0, 1) := by decide +kernel
theorem dL_law__2075 : decode cL_law_ 2075 = .ok (.iload 4, 2) := by decide +kernel
theorem dL_law__2077 : decode cL_law_ 2077 = .ok (.iconst 3, 1) := by decide +kernel
theorem dL_law__2078 : decode cL_law_ 2078 = .ok (.iadd, 1) := by decide +kernel
theorem dL_law__2079 : decode cL_law_ 2079 = .ok (.iaload, 1) := by decide +kernel
theorem dL_law__2080 : decode cL_law_ 2080 = .ok (.aload_n 0, 1) := by decide +kernel
theorem dL_law__2081 : decode cL_law_ 2081 = .ok (.iload 4, 2) := by decide +kernel
theorem dL_law__2083 : decode cL_law_ 2083 = .ok (.iconst 4, 1) := by decide +kernel
theorem dL_law__2084 : decode cL_law_ 2084 = .ok (.iadd, 1) := by decide +kernel
theorem dL_law__2085 : decode cL_law_ 2085 = .ok (.iaload, 1) := by decide +kernel
theorem dL_law__2086 : decode cL_law_ 2086 = .ok (.aload_n 3, 1) := by decide +kernel
theorem dL_law__2087 : decode cL_law_ 2087 = .ok (.invokestatic 215, 3) := by decide +kernel
theorem dL_law__2090 : decode cL_law_ 2090 = .ok (.istore 5, 2) := by decide +kernel
theorem dL_law__2092 : decode cL_law_ 2092 = .ok (.aload_n 2, 1) := by decide +kernel
theorem dL_law__2093 : decode cL_law_ 2093 = .ok (.aload_n 0, 1) := by decide +kernel
theorem dL_law__2094 : decode cL_law_ 2094 = .ok (.iload 4, 2) := by decide +kernel
theorem dL_law__2096 : decode cL_law_ 2096 = .ok (.iconst 1, 1) := by decide +kernel
theorem dL_law__2097 : decode cL_law_ 2097 = .ok (.iadd, 1) := by decide +kernel
theorem dL_law__2098 : decode cL_law_ 2098 = .ok (.iaload, 1) := by decide +kernel
theorem dL_law__2099 : decode cL_law_ 2099 = .ok (.aload_n 0, 1) := by decide +kernel
theorem dL_law__2100 : decode cL_law_ 2100 = .ok (.iload 4, 2) := by decide +kernel
theorem dL_law__2102 : decode cL_law_ 2102 = .ok (.iconst 2, 1) := by decide +kernel
theorem dL_law__2103 : decode cL_law_ 2103 = .ok (.iadd, 1) := by decide +kernel
theorem dL_law__2104 : decode cL_law_ 2104 = .ok (.iaload, 1) := by decide +kernel
theorem dL_law__2105 : decode cL_law_ 2105 = .ok (.aload_n 0, 1) := by decide +kernel
theorem dL_law__2106 : decode cL_law_ 2106 = .ok (.iload 4, 2) := by decide +kernel
theorem dL_law__2108 : decode cL_law_ 2108 = .ok (.iconst 3, 1) := by decide +kernel
theorem dL_law__2109 : decode cL_law_ 2109 = .ok (.iadd, 1) := by decide +kernel
theorem dL_law__2110 : decode cL_law_ 2110 = .ok (.iaload, 1) := by decide +kernel
theorem dL_law__2111 : decode cL_law_ 2111 = .ok (.aload_n 0, 1) := by decide +kernel
theorem dL_law__2112 : decode cL_law_ 2112 = .ok (.iload 4, 2) := by decide +kernel
theorem dL_law__2114 : decode cL_law_ 2114 = .ok (.iconst 4, 1) := by decide +kernel
theorem dL_law__2115 : decode cL_law_ 2115 = .ok (.iadd, 1) := by decide +kernel
theorem dL_law__2116 : decode cL_law_ 2116 = .ok (.iaload, 1) := by decide +kernel
theorem dL_law__2117 : decode cL_law_ 2117 = .ok (.invokevirtual 218, 3) := by decide +kernel
theorem dL_law__2120 : decode cL_law_ 2120 = .ok (.istore 6, 2) := by decide +kernel
theorem dL_law__2122 : decode cL_law_ 2122 = .ok (.aload_n 2, 1) := by decide +kernel
theorem dL_law__2123 : decode cL_law_ 2123 = .ok (.invokevirtual 116, 3) := by decide +kernel
theorem dL_law__2126 : decode cL_law_ 2126 = .ok (.iload 5, 2) := by decide +kernel
theorem dL_law__2128 : decode cL_law_ 2128 = .ok (.if_icmp .eq 5, 3) := by decide +kernel
theorem dL_law__2131 : decode cL_law_ 2131 = .ok (.iconst 0, 1) := by decide +kernel
theorem dL_law__2132 : decode cL_law_ 2132 = .ok (.ireturn, 1) := by decide +kernel
theorem dL_law__2133 : decode cL_law_ 2133 = .ok (.iload 5, 2) := by decide +kernel
theorem dL_law__2135 : decode cL_law_ 2135 = .ok (.ifCond .ne 15, 3) := by decide +kernel
theorem dL_law__2138 : decode cL_law_ 2138 = .ok (.aload_n 3, 1) := by decide +kernel
theorem dL_law__2139 : decode cL_law_ 2139 = .ok (.iconst 0, 1) := by decide +kernel
theorem dL_law__2140 : decode cL_law_ 2140 = .ok (.laload, 1) := by decide +kernel
theorem dL_law__2141 : decode cL_law_ 2141 = .ok (.iload 6, 2) := by decide +kernel
theorem dL_law__2143 : decode cL_law_ 2143 = .ok (.i2l, 1) := by decide +kernel
theorem dL_law__2144 : decode cL_law_ 2144 = .ok (.lcmp, 1) := by decide +kernel
theorem dL_law__2145 : decode cL_law_ 2145 = .ok (.ifCond .eq 5, 3) := by decide +kernel
theorem dL_law__2148 : decode cL_law_ 2148 = .ok (.iconst 0, 1) := by decide +kernel
theorem dL_law__2149 : decode cL_law_ 2149 = .ok (.ireturn, 1) := by decide +kernel
theorem dL_law__2150 : decode cL_law_ 2150 = .ok (.goto 197, 3) := by decide +kernel
theorem dL_law__2153 : decode cL_law_ 2153 = .ok (.aload_n 1, 1) := by decide +kernel
theorem dL_law__2154 : decode cL_law_ 2154 = .ok (.aload_n 0, 1) := by decide +kernel
theorem dL_law__2155 : decode cL_law_ 2155 = .ok (.iload 4, 2) := by decide +kernel
theorem dL_law__2157 : decode cL_law_ 2157 = .ok (.iconst 1, 1) := by decide +kernel
theorem dL_law__2158 : decode cL_law_ 2158 = .ok (.iadd, 1) := by decide +kernel
theorem dL_law__2159 : decode cL_law_ 2159 = .ok (.iaload, 1) := by decide +kernel
theorem dL_law__2160 : decode cL_law_ 2160 = .ok (.aload_n 0, 1) := by decide +kernel
theorem dL_law__2161 : decode cL_law_ 2161 = .ok (.iload 4, 2) := by decide +kernel
theorem dL_law__2163 : decode cL_law_ 2163 = .ok (.iconst 2, 1) := by decide +kernel
theorem dL_law__2164 : decode cL_law_ 2164 = .ok (.iadd, 1) := by decide +kernel
theorem dL_law__2165 : decode cL_law_ 2165 = .ok (.iaload, 1) := by decide +kernel
theorem dL_law__2166 : decode cL_law_ 2166 = .ok (.aload_n 0, 1) := by decide +kernel
theorem dL_law__2167 : decode cL_law_ 2167 = .ok (.iload 4, 2) := by decide +kernel
theorem dL_law__2169 : decode cL_law_ 2169 = .ok (.iconst 3, 1) := by decide +kernel
theorem dL_law__2170 : decode cL_law_ 2170 = .ok (.iadd, 1) := by decide +kernel
theorem dL_law__2171 : decode cL_law_ 2171 = .ok (.iaload, 1) := by decide +kernel
theorem dL_law__2172 : decode cL_law_ 2172 = .ok (.aload_n 0, 1) := by decide +kernel
theorem dL_law__2173 : decode cL_law_ 2173 = .ok (.iload 4, 2) := by decide +kernel
theorem dL_law__2175 : decode cL_law_ 2175 = .ok (.iconst 4, 1) := by decide +kernel
theorem dL_law__2176 : decode cL_law_ 2176 = .ok (.iadd, 1) := by decide +kernel
theorem dL_law__2177 : decode cL_law_ 2177 = .ok (.iaload, 1) := by decide +kernel
theorem dL_law__2178 : decode cL_law_ 2178 = .ok (.aload_n 0, 1) := by decide +kernel
theorem dL_law__2179 : decode cL_law_ 2179 = .ok (.iload 4, 2) := by decide +kernel
theorem dL_law__2181 : decode cL_law_ 2181 = .ok (.iconst 5, 1) := by decide +kernel
theorem dL_law__2182 : decode cL_law_ 2182 = .ok (.iadd, 1) := by decide +kernel
theorem dL_law__2183 : decode cL_law_ 2183 = .ok (.iaload, 1) := by decide +kernel
theorem dL_law__2184 : decode cL_law_ 2184 = .ok (.aload_n 0, 1) := by decide +kernel
theorem dL_law__2185 : decode cL_law_ 2185 = .ok (.iload 4, 2) := by decide +kernel
theorem dL_law__2187 : decode cL_law_ 2187 = .ok (.bipush 6, 2) := by decide +kernel
theorem dL_law__2189 : decode cL_law_ 2189 = .ok (.iadd, 1) := by decide +kernel
theorem dL_law__2190 : decode cL_law_ 2190 = .ok (.iaload, 1) := by decide +kernel
theorem dL_law__2191 : decode cL_law_ 2191 = .ok (.aload_n 3, 1) := by decide +kernel
theorem dL_law__2192 : decode cL_law_ 2192 = .ok (.invokestatic 219, 3) := by decide +kernel
theorem dL_law__2195 : decode cL_law_ 2195 = .ok (.istore 5, 2) := by decide +kernel
theorem dL_law__2197 : decode cL_law_ 2197 = .ok (.aload_n 2, 1) := by decide +kernel
theorem dL_law__2198 : decode cL_law_ 2198 = .ok (.aload_n 0, 1) := by decide +kernel
theorem dL_law__2199 : decode cL_law_ 2199 = .ok (.iload 4, 2) := by decide +kernel
theorem dL_law__2201 : decode cL_law_ 2201 = .ok (.iconst 1, 1) := by decide +kernel
theorem dL_law__2202 : decode cL_law_ 2202 = .ok (.iadd, 1) := by decide +kernel
theorem dL_law__2203 : decode cL_law_ 2203 = .ok (.iaload, 1) := by decide +kernel
theorem dL_law__2204 : decode cL_law_ 2204 = .ok (.aload_n 0, 1) := by decide +kernel
theorem dL_law__2205 : decode cL_law_ 2205 = .ok (.iload 4, 2) := by decide +kernel
theorem dL_law__2207 : decode cL_law_ 2207 = .ok (.iconst 2, 1) := by decide +kernel
theorem dL_law__2208 : decode cL_law_ 2208 = .ok (.iadd, 1) := by decide +kernel
theorem dL_law__2209 : decode cL_law_ 2209 = .ok (.iaload, 1) := by decide +kernel
theorem dL_law__2210 : decode cL_law_ 2210 = .ok (.aload_n 0, 1) := by decide +kernel
theorem dL_law__2211 : decode cL_law_ 2211 = .ok (.iload 4, 2) := by decide +kernel
theorem dL_law__2213 : decode cL_law_ 2213 = .ok (.iconst 3, 1) := by decide +kernel
theorem dL_law__2214 : decode cL_law_ 2214 = .ok (.iadd, 1) := by decide +kernel
theorem dL_law__2215 : decode cL_law_ 2215 = .ok (.iaload, 1) := by decide +kernel
theorem dL_law__2216 : decode cL_law_ 2216 = .ok (.aload_n 0, 1) := by decide +kernel
theorem dL_law__2217 : decode cL_law_ 2217 = .ok (.iload 4, 2) := by decide +kernel
theorem dL_law__2219 : decode cL_law_ 2219 = .ok (.iconst 4, 1) := by decide +kernel
theorem dL_law__2220 : decode cL_law_ 2220 = .ok (.iadd, 1) := by decide +kernel
theorem dL_law__2221 : decode cL_law_ 2221 = .ok (.iaload, 1) := by decide +kernel
theorem dL_law__2222 : decode cL_law_ 2222 = .ok (.aload_n 0, 1) := by decide +kernel
theorem dL_law__2223 : decode cL_law_ 2223 = .ok (.iload 4, 2) := by decide +kernel
theorem dL_law__2225 : decode cL_law_ 2225 = .ok (.iconst 5, 1) := by decide +kernel
theorem dL_law__2226 : decode cL_law_ 2226 = .ok (.iadd, 1) := by decide +kernel
theorem dL_law__2227 : decode cL_law_ 2227 = .ok (.iaload, 1) := by decide +kernel
theorem dL_law__2228 : decode cL_law_ 2228 = .ok (.aload_n 0, 1) := by decide +kernel
theorem dL_law__2229 : decode cL_law_ 2229 = .ok (.iload 4, 2) := by decide +kernel
theorem dL_law__2231 : decode cL_law_ 2231 = .ok (.bipush 6, 2) := by decide +kernel
theorem dL_law__2233 : decode cL_law_ 2233 = .ok (.iadd, 1) := by decide +kernel
theorem dL_law__2234 : decode cL_law_ 2234 = .ok (.iaload, 1) := by decide +kernel
theorem dL_law__2235 : decode cL_law_ 2235 = .ok (.invokevirtual 222, 3) := by decide +kernel
theorem dL_law__2238 : decode cL_law_ 2238 = .ok (.istore 6, 2) := by decide +kernel
theorem dL_law__2240 : decode cL_law_ 2240 = .ok (.aload_n 2, 1) := by decide +kernel
theorem dL_law__2241 : decode cL_law_ 2241 = .ok (.invokevirtual 116, 3) := by decide +kernel
theorem dL_law__2244 : decode cL_law_ 2244 = .ok (.iload 5, 2) := by decide +kernel
theorem dL_law__2246 : decode cL_law_ 2246 = .ok (.if_icmp .eq 5, 3) := by decide +kernel
theorem dL_law__2249 : decode cL_law_ 2249 = .ok (.iconst 0, 1) := by decide +kernel
theorem dL_law__2250 : decode cL_law_ 2250 = .ok (.ireturn, 1) := by decide +kernel
theorem dL_law__2251 : decode cL_law_ 2251 = .ok (.iload 5, 2) := by decide +kernel
theorem dL_law__2253 : decode cL_law_ 2253 = .ok (.ifCond .ne 15, 3) := by decide +kernel
theorem dL_law__2256 : decode cL_law_ 2256 = .ok (.aload_n 3, 1) := by decide +kernel
theorem dL_law__2257 : decode cL_law_ 2257 = .ok (.iconst 0, 1) := by decide +kernel
theorem dL_law__2258 : decode cL_law_ 2258 = .ok (.laload, 1) := by decide +kernel
theorem dL_law__2259 : decode cL_law_ 2259 = .ok (.iload 6, 2) := by decide +kernel
theorem dL_law__2261 : decode cL_law_ 2261 = .ok (.i2l, 1) := by decide +kernel
theorem dL_law__2262 : decode cL_law_ 2262 = .ok (.lcmp, 1) := by decide +kernel
theorem dL_law__2263 : decode cL_law_ 2263 = .ok (.ifCond .eq 5, 3) := by decide +kernel
theorem dL_law__2266 : decode cL_law_ 2266 = .ok (.iconst 0, 1) := by decide +kernel
theorem dL_law__2267 : decode cL_law_ 2267 = .ok (.ireturn, 1) := by decide +kernel
theorem dL_law__2268 : decode cL_law_ 2268 = .ok (.goto 79, 3) := by decide +kernel
theorem dL_law__2271 : decode cL_law_ 2271 = .ok (.aload_n 1, 1) := by decide +kernel
theorem dL_law__2272 : decode cL_law_ 2272 = .ok (.invokevirtual 223, 3) := by decide +kernel
theorem dL_law__2275 : decode cL_law_ 2275 = .ok (.aload_n 2, 1) := by decide +kernel
theorem dL_law__2276 : decode cL_law_ 2276 = .ok (.invokevirtual 226, 3) := by decide +kernel
theorem dL_law__2279 : decode cL_law_ 2279 = .ok (.if_icmp .eq 68, 3) := by decide +kernel
theorem dL_law__2282 : decode cL_law_ 2282 = .ok (.iconst 0, 1) := by decide +kernel
theorem dL_law__2283 : decode cL_law_ 2283 = .ok (.ireturn, 1) := by decide +kernel
theorem dL_law__2284 : decode cL_law_ 2284 = .ok (.aload_n 1, 1) := by decide +kernel
theorem dL_law__2285 : decode cL_law_ 2285 = .ok (.invokevirtual 227, 3) := by decide +kernel
theorem dL_law__2288 : decode cL_law_ 2288 = .ok (.aload_n 2, 1) := by decide +kernel
theorem dL_law__2289 : decode cL_law_ 2289 = .ok (.invokevirtual 230, 3) := by decide +kernel
theorem dL_law__2292 : decode cL_law_ 2292 = .ok (.if_icmp .eq 55, 3) := by decide +kernel
theorem dL_law__2295 : decode cL_law_ 2295 = .ok (.iconst 0, 1) := by decide +kernel
theorem dL_law__2296 : decode cL_law_ 2296 = .ok (.ireturn, 1) := by decide +kernel
theorem dL_law__2297 : decode cL_law_ 2297 = .ok (.aload_n 1, 1) := by decide +kernel
theorem dL_law__2298 : decode cL_law_ 2298 = .ok (.aload_n 0, 1) := by decide +kernel
theorem dL_law__2299 : decode cL_law_ 2299 = .ok (.iload 4, 2) := by decide +kernel
theorem dL_law__2301 : decode cL_law_ 2301 = .ok (.iconst 1, 1) := by decide +kernel
theorem dL_law__2302 : decode cL_law_ 2302 = .ok (.iadd, 1) := by decide +kernel
theorem dL_law__2303 : decode cL_law_ 2303 = .ok (.iaload, 1) := by decide +kernel
theorem dL_law__2304 : decode cL_law_ 2304 = .ok (.invokevirtual 231, 3) := by decide +kernel
theorem dL_law__2307 : decode cL_law_ 2307 = .ok (.aload_n 2, 1) := by decide +kernel
theorem dL_law__2308 : decode cL_law_ 2308 = .ok (.aload_n 0, 1) := by decide +kernel
theorem dL_law__2309 : decode cL_law_ 2309 = .ok (.iload 4, 2) := by decide +kernel
theorem dL_law__2311 : decode cL_law_ 2311 = .ok (.iconst 1, 1) := by decide +kernel
theorem dL_law__2312 : decode cL_law_ 2312 = .ok (.iadd, 1) := by decide +kernel
theorem dL_law__2313 : decode cL_law_ 2313 = .ok (.iaload, 1) := by decide +kernel
theorem dL_law__2314 : decode cL_law_ 2314 = .ok (.invokevirtual 234, 3) := by decide +kernel
theorem dL_law__2317 : decode cL_law_ 2317 = .ok (.if_icmp .eq 30, 3) := by decide +kernel
theorem dL_law__2320 : decode cL_law_ 2320 = .ok (.iconst 0, 1) := by decide +kernel
theorem dL_law__2321 : decode cL_law_ 2321 = .ok (.ireturn, 1) := by decide +kernel
theorem dL_law__2322 : decode cL_law_ 2322 = .ok (.aload_n 1, 1) := by decide +kernel
theorem dL_law__2323 : decode cL_law_ 2323 = .ok (.aload_n 0, 1) := by decide +kernel
theorem dL_law__2324 : decode cL_law_ 2324 = .ok (.iload 4, 2) := by decide +kernel
theorem dL_law__2326 : decode cL_law_ 2326 = .ok (.iconst 1, 1) := by decide +kernel
theorem dL_law__2327 : decode cL_law_ 2327 = .ok (.iadd, 1) := by decide +kernel
theorem dL_law__2328 : decode cL_law_ 2328 = .ok (.iaload, 1) := by decide +kernel
theorem dL_law__2329 : decode cL_law_ 2329 = .ok (.invokevirtual 235, 3) := by decide +kernel
theorem dL_law__2332 : decode cL_law_ 2332 = .ok (.aload_n 2, 1) := by decide +kernel
theorem dL_law__2333 : decode cL_law_ 2333 = .ok (.aload_n 0, 1) := by decide +kernel
theorem dL_law__2334 : decode cL_law_ 2334 = .ok (.iload 4, 2) := by decide +kernel
theorem dL_law__2336 : decode cL_law_ 2336 = .ok (.iconst 1, 1) := by decide +kernel
theorem dL_law__2337 : decode cL_law_ 2337 = .ok (.iadd, 1) := by decide +kernel
theorem dL_law__2338 : decode cL_law_ 2338 = .ok (.iaload, 1) := by decide +kernel
theorem dL_law__2339 : decode cL_law_ 2339 = .ok (.invokevirtual 238, 3) := by decide +kernel
theorem dL_law__2342 : decode cL_law_ 2342 = .ok (.if_icmp .eq 5, 3) := by decide +kernel
theorem dL_law__2345 : decode cL_law_ 2345 = .ok (.iconst 0, 1) := by decide +kernel
theorem dL_law__2346 : decode cL_law_ 2346 = .ok (.ireturn, 1) := by decide +kernel
theorem dL_law__2347 : decode cL_law_ 2347 = .ok (.iinc 4 10, 3) := by decide +kernel
theorem dL_law__2350 : decode cL_law_ 2350 = .ok (.goto (-2327), 3) := by decide +kernel
theorem dL_law__2353 : decode cL_law_ 2353 = .ok (.iconst 1, 1) := by decide +kernel
theorem dL_law__2354 : decode cL_law_ 2354 = .ok (.ireturn, 1) := by decide +kernel
noncomputable def r_L_op_0 (x4 : Int32) (m : Mem) : Option Mem :=
  if inb (x4 + 1) (m 100 1 0).toNatClampNeg = true then (if inb (x4 + 2) (m 100 1 0).toNatClampNeg = true then (if inb (x4 + 3) (m 100 1 0).toNatClampNeg = true then (if inb (x4 + 4) (m 100 1 0).toNatClampNeg = true then (if inb (x4 + 5) (m 100 1 0).toNatClampNeg = true then (bd2 (r_X11_feed (m 100 0 ((x4 + 1).toNatClampNeg)) (m 100 0 ((x4 + 2).toNatClampNeg)) (m 100 0 ((x4 + 3).toNatClampNeg)) (m 100 0 ((x4 + 4).toNatClampNeg)) (m 100 0 ((x4 + 5).toNatClampNeg)) m) fun z8 m7 => (if inb (x4 + 1) (m7 100 1 0).toNatClampNeg = true then (if inb (x4 + 2) (m7 100 1 0).toNatClampNeg = true then (if inb (x4 + 3) (m7 100 1 0).toNatClampNeg = true then (if inb (x4 + 4) (m7 100 1 0).toNatClampNeg = true then (if inb (x4 + 5) (m7 100 1 0).toNatClampNeg = true then (bd2 (r_X12_feed (m7 100 0 ((x4 + 1).toNatClampNeg)) (m7 100 0 ((x4 + 2).toNatClampNeg)) (m7 100 0 ((x4 + 3).toNatClampNeg)) (m7 100 0 ((x4 + 4).toNatClampNeg)) (m7 100 0 ((x4 + 5).toNatClampNeg)) m7) fun z16 m15 => (if z8 = z16 then (some m15) else (none))) else none) else none) else none) else none) else none)) else none) else none) else none) else none) else none
set_option maxHeartbeats 4000000 in
set_option maxRecDepth 20000 in
theorem ok_L_op_0 (x4 : Int32) (m : Mem) {m1 : Mem} (h : r_L_op_0 x4 m = some m1) {u v : Nat} (hu : u + 120 ≤ 601024) (hv : v + 3000 ≤ 7293034) {o : Ou} {M' : Mem} (kb : Xj RL cL_law_ 8 (some .boolean) 2048 84000 601024 7293034 (u + 120) (v + 3000) 23 [(0, vR 100 0), (1, vR 11 0), (2, vR 12 0), (3, vR 92 0), (4, vI (x4 + 10))] [] m1 o M') : Xj RL cL_law_ 8 (some .boolean) 2048 84000 601024 7293034 u v 204 [(0, vR 100 0), (1, vR 11 0), (2, vR 12 0), (3, vR 92 0), (4, vI x4)] [] m o M' := by
  unfold r_L_op_0 at h
  refine xj_aload_n 1 dL_law__204 rfl ?_
  refine xj_aload_n 0 dL_law__205 rfl ?_
  refine xj_iload 4 dL_law__206 rfl ?_
  refine xj_iconst (z := 1) dL_law__208 (by decide) ?_
  refine xj_iadd dL_law__209 ?_
  by_cases c1 : inb (x4 + 1) (m 100 1 0).toNatClampNeg = true
  case neg => rw [if_neg c1] at h; cases h
  rw [if_pos c1] at h
  refine xg_ialdS (z := (m 100 0 ((x4 + 1).toNatClampNeg))) (n := (x4 + 1).toNatClampNeg) dL_law__210 (inb_in c1) rfl rfl ?_
  refine xj_aload_n 0 dL_law__211 rfl ?_
  refine xj_iload 4 dL_law__212 rfl ?_
  refine xj_iconst (z := 2) dL_law__214 (by decide) ?_
  refine xj_iadd dL_law__215 ?_
  by_cases c2 : inb (x4 + 2) (m 100 1 0).toNatClampNeg = true
  case neg => rw [if_neg c2] at h; cases h
  rw [if_pos c2] at h
  refine xg_ialdS (z := (m 100 0 ((x4 + 2).toNatClampNeg))) (n := (x4 + 2).toNatClampNeg) dL_law__216 (inb_in c2) rfl rfl ?_
  refine xj_aload_n 0 dL_law__217 rfl ?_
  refine xj_iload 4 dL_law__218 rfl ?_
  refine xj_iconst (z := 3) dL_law__220 (by decide) ?_
  refine xj_iadd dL_law__221 ?_
  by_cases c3 : inb (x4 + 3) (m 100 1 0).toNatClampNeg = true
  case neg => rw [if_neg c3] at h; cases h
  rw [if_pos c3] at h
  refine xg_ialdS (z := (m 100 0 ((x4 + 3).toNatClampNeg))) (n := (x4 + 3).toNatClampNeg) dL_law__222 (inb_in c3) rfl rfl ?_
  refine xj_aload_n 0 dL_law__223 rfl ?_
  refine xj_iload 4 dL_law__224 rfl ?_
  refine xj_iconst (z := 4) dL_law__226 (by decide) ?_
  refine xj_iadd dL_law__227 ?_
  by_cases c4 : inb (x4 + 4) (m 100 1 0).toNatClampNeg = true
  case neg => rw [if_neg c4] at h; cases h
  rw [if_pos c4] at h
  refine xg_ialdS (z := (m 100 0 ((x4 + 4).toNatClampNeg))) (n := (x4 + 4).toNatClampNeg) dL_law__228 (inb_in c4) rfl rfl ?_
  refine xj_aload_n 0 dL_law__229 rfl ?_
  refine xj_iload 4 dL_law__230 rfl ?_
  refine xj_iconst (z := 5) dL_law__232 (by decide) ?_
  refine xj_iadd dL_law__233 ?_
  by_cases c5 : inb (x4 + 5) (m 100 1 0).toNatClampNeg = true
  case neg => rw [if_neg c5] at h; cases h
  rw [if_pos c5] at h
  refine xg_ialdS (z := (m 100 0 ((x4 + 5).toNatClampNeg))) (n := (x4 + 5).toNatClampNeg) dL_law__234 (inb_in c5) rfl rfl ?_
  obtain ⟨z8, m7, e6, h⟩ := bd2_some h
  refine xc_Vi0 (st := []) (ok_X11_feed (m 100 0 ((x4 + 1).toNatClampNeg)) (m 100 0 ((x4 + 2).toNatClampNeg)) (m 100 0 ((x4 + 3).toNatClampNeg)) (m 100 0 ((x4 + 4).toNatClampNeg)) (m 100 0 ((x4 + 5).toNatClampNeg)) m e6) dL_law__235 cv_L_105 rfl rfl (Nat.le_of_ble_eq_true rfl) (by decide) (by decide) (by omega) (by omega) ?_
  refine xj_aload_n 2 dL_law__238 rfl ?_
  refine xj_aload_n 0 dL_law__239 rfl ?_
  refine xj_iload 4 dL_law__240 rfl ?_
  refine xj_iconst (z := 1) dL_law__242 (by decide) ?_
  refine xj_iadd dL_law__243 ?_
  by_cases c9 : inb (x4 + 1) (m7 100 1 0).toNatClampNeg = true
  case neg => rw [if_neg c9] at h; cases h
  rw [if_pos c9] at h
  refine xg_ialdS (z := (m7 100 0 ((x4 + 1).toNatClampNeg))) (n := (x4 + 1).toNatClampNeg) dL_law__244 (inb_in c9) rfl rfl ?_
  refine xj_aload_n 0 dL_law__245 rfl ?_
  refine xj_iload 4 dL_law__246 rfl ?_
  refine xj_iconst (z := 2) dL_law__248 (by decide) ?_
  refine xj_iadd dL_law__249 ?_
  by_cases c10 : inb (x4 + 2) (m7 100 1 0).toNatClampNeg = true
  case neg => rw [if_neg c10] at h; cases h
  rw [if_pos c10] at h
  refine xg_ialdS (z := (m7 100 0 ((x4 + 2).toNatClampNeg))) (n := (x4 + 2).toNatClampNeg) dL_law__250 (inb_in c10) rfl rfl ?_
  refine xj_aload_n 0 dL_law__251 rfl ?_
  refine xj_iload 4 dL_law__252 rfl ?_
  refine xj_iconst (z := 3) dL_law__254 (by decide) ?_
  refine xj_iadd dL_law__255 ?_
  by_cases c11 : inb (x4 + 3) (m7 100 1 0).toNatClampNeg = true
  case neg => rw [if_neg c11] at h; cases h
  rw [if_pos c11] at h
  refine xg_ialdS (z := (m7 100 0 ((x4 + 3).toNatClampNeg))) (n := (x4 + 3).toNatClampNeg) dL_law__256 (inb_in c11) rfl rfl ?_
  refine xj_aload_n 0 dL_law__257 rfl ?_
  refine xj_iload 4 dL_law__258 rfl ?_
  refine xj_iconst (z := 4) dL_law__260 (by decide) ?_
  refine xj_iadd dL_law__261 ?_
  by_cases c12 : inb (x4 + 4) (m7 100 1 0).toNatClampNeg = true
  case neg => rw [if_neg c12] at h; cases h
  rw [if_pos c12] at h
  refine xg_ialdS (z := (m7 100 0 ((x4 + 4).toNatClampNeg))) (n := (x4 + 4).toNatClampNeg) dL_law__262 (inb_in c12) rfl rfl ?_
  refine xj_aload_n 0 dL_law__263 rfl ?_
  refine xj_iload 4 dL_law__264 rfl ?_
  refine xj_iconst (z := 5) dL_law__266 (by decide) ?_
  refine xj_iadd dL_law__267 ?_
  by_cases c13 : inb (x4 + 5) (m7 100 1 0).toNatClampNeg = true
  case neg => rw [if_neg c13] at h; cases h
  rw [if_pos c13] at h
  refine xg_ialdS (z := (m7 100 0 ((x4 + 5).toNatClampNeg))) (n := (x4 + 5).toNatClampNeg) dL_law__268 (inb_in c13) rfl rfl ?_
  obtain ⟨z16, m15, e14, h⟩ := bd2_some h
  refine xc_Vi0 (st := [vI z8]) (ok_X12_feed (m7 100 0 ((x4 + 1).toNatClampNeg)) (m7 100 0 ((x4 + 2).toNatClampNeg)) (m7 100 0 ((x4 + 3).toNatClampNeg)) (m7 100 0 ((x4 + 4).toNatClampNeg)) (m7 100 0 ((x4 + 5).toNatClampNeg)) m7 e14) dL_law__269 cv_L_109 rfl rfl (Nat.le_of_ble_eq_true rfl) (by decide) (by decide) (by omega) (by omega) ?_
  refine xj_icmp_eq (tgt := 2347) dL_law__272 (by decide) (fun c17 => ?_) (fun c17 => ?_)
  · rw [if_pos c17] at h
    refine xj_iinc (z := x4 + 10) (ls' := [(4, vI (x4 + 10)), (0, vR 100 0), (1, vR 11 0), (2, vR 12 0), (3, vR 92 0)]) 4 dL_law__2347 rfl rfl (by decide) rfl ?_
    refine xj_goto (tgt := 23) dL_law__2350 (by decide) ?_
    cases h
    refine xj_widen (u2 := u + 120) (v2 := v + 3000) (by omega) (by omega) ?_
    refine xj_pick (ls' := [(0, vR 100 0), (1, vR 11 0), (2, vR 12 0), (3, vR 92 0), (4, vI (x4 + 10))]) [1, 2, 3, 4, 0] rfl ?_
    exact kb
  · rw [if_neg c17] at h
    cases h
noncomputable def r_L_op_1 (x4 : Int32) (m : Mem) : Option Mem :=
  if inb (x4 + 1) (m 100 1 0).toNatClampNeg = true then (bd2 (r_L_land (m 100 0 ((x4 + 1).toNatClampNeg)) m) fun z2 m3 => (if inb (x4 + 1) (m3 100 1 0).toNatClampNeg = true then (bd2 (r_X12_land (m3 100 0 ((x4 + 1).toNatClampNeg)) m3) fun z8 m7 => (if (r_X12_thrown m7) = z2 then (if z2 = 0 then (if (lg_cmp (jL (m7 92 0 0) (m7 92 0 1)) z8.toInt64) = 0 then (some m7) else (none)) else (some m7)) else (none))) else none)) else none
set_option maxHeartbeats 4000000 in
set_option maxRecDepth 20000 in
theorem ok_L_op_1 (x4 : Int32) (m : Mem) {m1 : Mem} (h : r_L_op_1 x4 m = some m1) {u v : Nat} (hu : u + 120 ≤ 601024) (hv : v + 3000 ≤ 7293034) {o : Ou} {M' : Mem} (kb : Xj RL cL_law_ 8 (some .boolean) 2048 84000 601024 7293034 (u + 120) (v + 3000) 23 [(0, vR 100 0), (1, vR 11 0), (2, vR 12 0), (3, vR 92 0), (4, vI (x4 + 10))] [] m1 o M') : Xj RL cL_law_ 8 (some .boolean) 2048 84000 601024 7293034 u v 277 [(0, vR 100 0), (1, vR 11 0), (2, vR 12 0), (3, vR 92 0), (4, vI x4)] [] m o M' := by
  unfold r_L_op_1 at h
  refine xj_aload_n 1 dL_law__277 rfl ?_
  refine xj_aload_n 0 dL_law__278 rfl ?_
  refine xj_iload 4 dL_law__279 rfl ?_
  refine xj_iconst (z := 1) dL_law__281 (by decide) ?_
  refine xj_iadd dL_law__282 ?_
  by_cases c1 : inb (x4 + 1) (m 100 1 0).toNatClampNeg = true
  case neg => rw [if_neg c1] at h; cases h
  rw [if_pos c1] at h
  refine xg_ialdS (z := (m 100 0 ((x4 + 1).toNatClampNeg))) (n := (x4 + 1).toNatClampNeg) dL_law__283 (inb_in c1) rfl rfl ?_
  refine xj_aload_n 3 dL_law__284 rfl ?_
  obtain ⟨z2, m3, e4, h⟩ := bd2_some h
  refine xc_Hi (st := []) (ok_L_land (m 100 0 ((x4 + 1).toNatClampNeg)) m e4) dL_law__285 ch_110 rfl rfl (Nat.le_of_ble_eq_true rfl) (by decide) (by decide) (by omega) (by omega) ?_
  refine xj_istore (ls' := [(5, vI z2), (0, vR 100 0), (1, vR 11 0), (2, vR 12 0), (3, vR 92 0), (4, vI x4)]) dL_law__288 (by decide) rfl ?_
  refine xj_aload_n 3 dL_law__290 rfl ?_
  refine xj_aload_n 1 dL_law__291 rfl ?_
  refine xj_iload 5 dL_law__292 rfl ?_
  refine xj_iconst (z := 1) dL_law__294 (by decide) ?_
  refine xj_iadd dL_law__295 ?_
  by_cases c5 : inb (x4 + 1) (m3 100 1 0).toNatClampNeg = true
  case neg => rw [if_neg c5] at h; cases h
  rw [if_pos c5] at h
  refine xg_ialdS (z := (m3 100 0 ((x4 + 1).toNatClampNeg))) (n := (x4 + 1).toNatClampNeg) dL_law__296 (inb_in c5) rfl rfl ?_
  obtain ⟨z8, m7, e6, h⟩ := bd2_some h
  refine xc_Vi0 (st := []) (ok_X12_land (m3 100 0 ((x4 + 1).toNatClampNeg)) m3 e6) dL_law__297 cv_L_115 rfl rfl (Nat.le_of_ble_eq_true rfl) (by decide) (by decide) (by omega) (by omega) ?_
  refine xj_istore (ls' := [(6, vI z8), (5, vI z2), (0, vR 100 0), (1, vR 11 0), (2, vR 12 0), (3, vR 92 0), (4, vI x4)]) dL_law__300 (by decide) rfl ?_
  refine xj_aload_n 4 dL_law__302 rfl ?_
  refine xc_Vi0 (st := []) (ok_X12_thrown m7 rfl) dL_law__303 cv_L_116 rfl rfl (Nat.le_of_ble_eq_true rfl) (by decide) (by decide) (by omega) (by omega) ?_
  refine xj_iload 1 dL_law__306 rfl ?_
  refine xj_icmp_eq (tgt := 313) dL_law__308 (by decide) (fun c9 => ?_) (fun c9 => ?_)
  · rw [if_pos c9] at h
    refine xj_iload 1 dL_law__313 rfl ?_
    refine xj_if_ne (tgt := 330) dL_law__315 (by decide) (fun c10 => ?_) (fun c10 => ?_)
    · rw [if_neg c10] at h
      refine xj_goto (tgt := 2347) dL_law__330 (by decide) ?_
      refine xj_iinc (z := x4 + 10) (ls' := [(4, vI (x4 + 10)), (6, vI z8), (5, vI z2), (0, vR 100 0), (1, vR 11 0), (2, vR 12 0), (3, vR 92 0)]) 6 dL_law__2347 rfl rfl (by decide) rfl ?_
      refine xj_goto (tgt := 23) dL_law__2350 (by decide) ?_
      cases h
      refine xj_widen (u2 := u + 120) (v2 := v + 3000) (by omega) (by omega) ?_
      refine xj_pick (ls' := [(0, vR 100 0), (1, vR 11 0), (2, vR 12 0), (3, vR 92 0), (4, vI (x4 + 10))]) [3, 4, 5, 6, 0] rfl ?_
      exact kb
    · rw [if_pos c10] at h
      refine xj_aload_n 5 dL_law__318 rfl ?_
      refine xj_iconst (z := 0) dL_law__319 (by decide) ?_
      refine xj_lald0 (z := (jL (m7 92 0 0) (m7 92 0 1))) dL_law__320 rfl ?_
      refine xj_iload 0 dL_law__321 rfl ?_
      refine xj_i2l dL_law__323 ?_
      refine xj_lcmp dL_law__324 ?_
      refine xj_if_eq (tgt := 330) dL_law__325 (by decide) (fun c11 => ?_) (fun c11 => ?_)
      · rw [if_pos c11] at h
        refine xj_goto (tgt := 2347) dL_law__330 (by decide) ?_
        refine xj_iinc (z := x4 + 10) (ls' := [(4, vI (x4 + 10)), (6, vI z8), (5, vI z2), (0, vR 100 0), (1, vR 11 0), (2, vR 12 0), (3, vR 92 0)]) 6 dL_law__2347 rfl rfl (by decide) rfl ?_
        refine xj_goto (tgt := 23) dL_law__2350 (by decide) ?_
        cases h
        refine xj_widen (u2 := u + 120) (v2 := v + 3000) (by omega) (by omega) ?_
        refine xj_pick (ls' := [(0, vR 100 0), (1, vR 11 0), (2, vR 12 0), (3, vR 92 0), (4, vI (x4 + 10))]) [3, 4, 5, 6, 0] rfl ?_
        exact kb
      · rw [if_neg c11] at h
        cases h
  · rw [if_neg c9] at h
    cases h
noncomputable def r_L_op_2 (x4 : Int32) (m : Mem) : Option Mem :=
  if inb (x4 + 1) (m 100 1 0).toNatClampNeg = true then (bd2 (r_L_law (m 100 0 ((x4 + 1).toNatClampNeg)) m) fun z2 m3 => (if inb (x4 + 1) (m3 100 1 0).toNatClampNeg = true then (bd2 (r_X12_law (m3 100 0 ((x4 + 1).toNatClampNeg)) m3) fun z8 m7 => (if (r_X12_thrown m7) = z2 then (if z2 = 0 then (if (lg_cmp (jL (m7 92 0 0) (m7 92 0 1)) z8.toInt64) = 0 then (some m7) else (none)) else (some m7)) else (none))) else none)) else none
set_option maxHeartbeats 4000000 in
set_option maxRecDepth 20000 in
theorem ok_L_op_2 (x4 : Int32) (m : Mem) {m1 : Mem} (h : r_L_op_2 x4 m = some m1) {u v : Nat} (hu : u + 120 ≤ 601024) (hv : v + 3000 ≤ 7293034) {o : Ou} {M' : Mem} (kb : Xj RL cL_law_ 8 (some .boolean) 2048 84000 601024 7293034 (u + 120) (v + 3000) 23 [(0, vR 100 0), (1, vR 11 0), (2, vR 12 0), (3, vR 92 0), (4, vI (x4 + 10))] [] m1 o M') : Xj RL cL_law_ 8 (some .boolean) 2048 84000 601024 7293034 u v 333 [(0, vR 100 0), (1, vR 11 0), (2, vR 12 0), (3, vR 92 0), (4, vI x4)] [] m o M' := by
  unfold r_L_op_2 at h
  refine xj_aload_n 1 dL_law__333 rfl ?_
  refine xj_aload_n 0 dL_law__334 rfl ?_
  refine xj_iload 4 dL_law__335 rfl ?_
  refine xj_iconst (z := 1) dL_law__337 (by decide) ?_
  refine xj_iadd dL_law__338 ?_
  by_cases c1 : inb (x4 + 1) (m 100 1 0).toNatClampNeg = true
  case neg => rw [if_neg c1] at h; cases h
  rw [if_pos c1] at h
  refine xg_ialdS (z := (m 100 0 ((x4 + 1).toNatClampNeg))) (n := (x4 + 1).toNatClampNeg) dL_law__339 (inb_in c1) rfl rfl ?_
  refine xj_aload_n 3 dL_law__340 rfl ?_
  obtain ⟨z2, m3, e4, h⟩ := bd2_some h
  refine xc_Hi (st := []) (ok_L_law (m 100 0 ((x4 + 1).toNatClampNeg)) m e4) dL_law__341 ch_120 rfl rfl (Nat.le_of_ble_eq_true rfl) (by decide) (by decide) (by omega) (by omega) ?_
  refine xj_istore (ls' := [(5, vI z2), (0, vR 100 0), (1, vR 11 0), (2, vR 12 0), (3, vR 92 0), (4, vI x4)]) dL_law__344 (by decide) rfl ?_
  refine xj_aload_n 3 dL_law__346 rfl ?_
  refine xj_aload_n 1 dL_law__347 rfl ?_
  refine xj_iload 5 dL_law__348 rfl ?_
  refine xj_iconst (z := 1) dL_law__350 (by decide) ?_
  refine xj_iadd dL_law__351 ?_
  by_cases c5 : inb (x4 + 1) (m3 100 1 0).toNatClampNeg = true
  case neg => rw [if_neg c5] at h; cases h
  rw [if_pos c5] at h
  refine xg_ialdS (z := (m3 100 0 ((x4 + 1).toNatClampNeg))) (n := (x4 + 1).toNatClampNeg) dL_law__352 (inb_in c5) rfl rfl ?_
  obtain ⟨z8, m7, e6, h⟩ := bd2_some h
  refine xc_Vi0 (st := []) (ok_X12_law (m3 100 0 ((x4 + 1).toNatClampNeg)) m3 e6) dL_law__353 cv_L_122 rfl rfl (Nat.le_of_ble_eq_true rfl) (by decide) (by decide) (by omega) (by omega) ?_
  refine xj_istore (ls' := [(6, vI z8), (5, vI z2), (0, vR 100 0), (1, vR 11 0), (2, vR 12 0), (3, vR 92 0), (4, vI x4)]) dL_law__356 (by decide) rfl ?_
  refine xj_aload_n 4 dL_law__358 rfl ?_
  refine xc_Vi0 (st := []) (ok_X12_thrown m7 rfl) dL_law__359 cv_L_116 rfl rfl (Nat.le_of_ble_eq_true rfl) (by decide) (by decide) (by omega) (by omega) ?_
  refine xj_iload 1 dL_law__362 rfl ?_
  refine xj_icmp_eq (tgt := 369) dL_law__364 (by decide) (fun c9 => ?_) (fun c9 => ?_)
  · rw [if_pos c9] at h
    refine xj_iload 1 dL_law__369 rfl ?_
    refine xj_if_ne (tgt := 386) dL_law__371 (by decide) (fun c10 => ?_) (fun c10 => ?_)
    · rw [if_neg c10] at h
      refine xj_goto (tgt := 2347) dL_law__386 (by decide) ?_
      refine xj_iinc (z := x4 + 10) (ls' := [(4, vI (x4 + 10)), (6, vI z8), (5, vI z2), (0, vR 100 0), (1, vR 11 0), (2, vR 12 0), (3, vR 92 0)]) 6 dL_law__2347 rfl rfl (by decide) rfl ?_
      refine xj_goto (tgt := 23) dL_law__2350 (by decide) ?_
      cases h
      refine xj_widen (u2 := u + 120) (v2 := v + 3000) (by omega) (by omega) ?_
      refine xj_pick (ls' := [(0, vR 100 0), (1, vR 11 0), (2, vR 12 0), (3, vR 92 0), (4, vI (x4 + 10))]) [3, 4, 5, 6, 0] rfl ?_
      exact kb
    · rw [if_pos c10] at h
      refine xj_aload_n 5 dL_law__374 rfl ?_
      refine xj_iconst (z := 0) dL_law__375 (by decide) ?_
      refine xj_lald0 (z := (jL (m7 92 0 0) (m7 92 0 1))) dL_law__376 rfl ?_
      refine xj_iload 0 dL_law__377 rfl ?_
      refine xj_i2l dL_law__379 ?_
      refine xj_lcmp dL_law__380 ?_
      refine xj_if_eq (tgt := 386) dL_law__381 (by decide) (fun c11 => ?_) (fun c11 => ?_)
      · rw [if_pos c11] at h
        refine xj_goto (tgt := 2347) dL_law__386 (by decide) ?_
        refine xj_iinc (z := x4 + 10) (ls' := [(4, vI (x4 + 10)), (6, vI z8), (5, vI z2), (0, vR 100 0), (1, vR 11 0), (2, vR 12 0), (3, vR 92 0)]) 6 dL_law__2347 rfl rfl (by decide) rfl ?_
        refine xj_goto (tgt := 23) dL_law__2350 (by decide) ?_
        cases h
        refine xj_widen (u2 := u + 120) (v2 := v + 3000) (by omega) (by omega) ?_
        refine xj_pick (ls' := [(0, vR 100 0), (1, vR 11 0), (2, vR 12 0), (3, vR 92 0), (4, vI (x4 + 10))]) [3, 4, 5, 6, 0] rfl ?_
        exact kb
      · rw [if_neg c11] at h
        cases h
  · rw [if_neg c9] at h
    cases h
noncomputable def r_L_op_3 (x4 : Int32) (m : Mem) : Option Mem :=
  if inb (x4 + 1) (m 100 1 0).toNatClampNeg = true then (bd2 (r_L_work (m 100 0 ((x4 + 1).toNatClampNeg)) m) fun z2 m3 => (if inb (x4 + 1) (m3 100 1 0).toNatClampNeg = true then (bd2 (r_X12_work (m3 100 0 ((x4 + 1).toNatClampNeg)) m3) fun z8 m7 => (if (r_X12_thrown m7) = z2 then (if z2 = 0 then (if (lg_cmp (jL (m7 92 0 0) (m7 92 0 1)) z8.toInt64) = 0 then (some m7) else (none)) else (some m7)) else (none))) else none)) else none
set_option maxHeartbeats 4000000 in
set_option maxRecDepth 20000 in
theorem ok_L_op_3 (x4 : Int32) (m : Mem) {m1 : Mem} (h : r_L_op_3 x4 m = some m1) {u v : Nat} (hu : u + 120 ≤ 601024) (hv : v + 3000 ≤ 7293034) {o : Ou} {M' : Mem} (kb : Xj RL cL_law_ 8 (some .boolean) 2048 84000 601024 7293034 (u + 120) (v + 3000) 23 [(0, vR 100 0), (1, vR 11 0), (2, vR 12 0), (3, vR 92 0), (4, vI (x4 + 10))] [] m1 o M') : Xj RL cL_law_ 8 (some .boolean) 2048 84000 601024 7293034 u v 389 [(0, vR 100 0), (1, vR 11 0), (2, vR 12 0), (3, vR 92 0), (4, vI x4)] [] m o M' := by
  unfold r_L_op_3 at h
  refine xj_aload_n 1 dL_law__389 rfl ?_
  refine xj_aload_n 0 dL_law__390 rfl ?_
  refine xj_iload 4 dL_law__391 rfl ?_
  refine xj_iconst (z := 1) dL_law__393 (by decide) ?_
  refine xj_iadd dL_law__394 ?_
  by_cases c1 : inb (x4 + 1) (m 100 1 0).toNatClampNeg = true
  case neg => rw [if_neg c1] at h; cases h
  rw [if_pos c1] at h
  refine xg_ialdS (z := (m 100 0 ((x4 + 1).toNatClampNeg))) (n := (x4 + 1).toNatClampNeg) dL_law__395 (inb_in c1) rfl rfl ?_
  refine xj_aload_n 3 dL_law__396 rfl ?_
  obtain ⟨z2, m3, e4, h⟩ := bd2_some h
  refine xc_Hi (st := []) (ok_L_work (m 100 0 ((x4 + 1).toNatClampNeg)) m e4) dL_law__397 ch_123 rfl rfl (Nat.le_of_ble_eq_true rfl) (by decide) (by decide) (by omega) (by omega) ?_
  refine xj_istore (ls' := [(5, vI z2), (0, vR 100 0), (1, vR 11 0), (2, vR 12 0), (3, vR 92 0), (4, vI x4)]) dL_law__400 (by decide) rfl ?_
  refine xj_aload_n 3 dL_law__402 rfl ?_
  refine xj_aload_n 1 dL_law__403 rfl ?_
  refine xj_iload 5 dL_law__404 rfl ?_
  refine xj_iconst (z := 1) dL_law__406 (by decide) ?_
  refine xj_iadd dL_law__407 ?_
  by_cases c5 : inb (x4 + 1) (m3 100 1 0).toNatClampNeg = true
  case neg => rw [if_neg c5] at h; cases h
  rw [if_pos c5] at h
  refine xg_ialdS (z := (m3 100 0 ((x4 + 1).toNatClampNeg))) (n := (x4 + 1).toNatClampNeg) dL_law__408 (inb_in c5) rfl rfl ?_
  obtain ⟨z8, m7, e6, h⟩ := bd2_some h
  refine xc_Vi0 (st := []) (ok_X12_work (m3 100 0 ((x4 + 1).toNatClampNeg)) m3 e6) dL_law__409 cv_L_125 rfl rfl (Nat.le_of_ble_eq_true rfl) (by decide) (by decide) (by omega) (by omega) ?_
  refine xj_istore (ls' := [(6, vI z8), (5, vI z2), (0, vR 100 0), (1, vR 11 0), (2, vR 12 0), (3, vR 92 0), (4, vI x4)]) dL_law__412 (by decide) rfl ?_
  refine xj_aload_n 4 dL_law__414 rfl ?_
  refine xc_Vi0 (st := []) (ok_X12_thrown m7 rfl) dL_law__415 cv_L_116 rfl rfl (Nat.le_of_ble_eq_true rfl) (by decide) (by decide) (by omega) (by omega) ?_
  refine xj_iload 1 dL_law__418 rfl ?_
  refine xj_icmp_eq (tgt := 425) dL_law__420 (by decide) (fun c9 => ?_) (fun c9 => ?_)
  · rw [if_pos c9] at h
    refine xj_iload 1 dL_law__425 rfl ?_
    refine xj_if_ne (tgt := 442) dL_law__427 (by decide) (fun c10 => ?_) (fun c10 => ?_)
    · rw [if_neg c10] at h
      refine xj_goto (tgt := 2347) dL_law__442 (by decide) ?_
      refine xj_iinc (z := x4 + 10) (ls' := [(4, vI (x4 + 10)), (6, vI z8), (5, vI z2), (0, vR 100 0), (1, vR 11 0), (2, vR 12 0), (3, vR 92 0)]) 6 dL_law__2347 rfl rfl (by decide) rfl ?_
      refine xj_goto (tgt := 23) dL_law__2350 (by decide) ?_
      cases h
      refine xj_widen (u2 := u + 120) (v2 := v + 3000) (by omega) (by omega) ?_
      refine xj_pick (ls' := [(0, vR 100 0), (1, vR 11 0), (2, vR 12 0), (3, vR 92 0), (4, vI (x4 + 10))]) [3, 4, 5, 6, 0] rfl ?_
      exact kb
    · rw [if_pos c10] at h
      refine xj_aload_n 5 dL_law__430 rfl ?_
      refine xj_iconst (z := 0) dL_law__431 (by decide) ?_
      refine xj_lald0 (z := (jL (m7 92 0 0) (m7 92 0 1))) dL_law__432 rfl ?_
      refine xj_iload 0 dL_law__433 rfl ?_
      refine xj_i2l dL_law__435 ?_
      refine xj_lcmp dL_law__436 ?_
      refine xj_if_eq (tgt := 442) dL_law__437 (by decide) (fun c11 => ?_) (fun c11 => ?_)
      · rw [if_pos c11] at h
        refine xj_goto (tgt := 2347) dL_law__442 (by decide) ?_
        refine xj_iinc (z := x4 + 10) (ls' := [(4, vI (x4 + 10)), (6, vI z8), (5, vI z2), (0, vR 100 0), (1, vR 11 0), (2, vR 12 0), (3, vR 92 0)]) 6 dL_law__2347 rfl rfl (by decide) rfl ?_
        refine xj_goto (tgt := 23) dL_law__2350 (by decide) ?_
        cases h
        refine xj_widen (u2 := u + 120) (v2 := v + 3000) (by omega) (by omega) ?_
        refine xj_pick (ls' := [(0, vR 100 0), (1, vR 11 0), (2, vR 12 0), (3, vR 92 0), (4, vI (x4 + 10))]) [3, 4, 5, 6, 0] rfl ?_
        exact kb
      · rw [if_neg c11] at h
        cases h
  · rw [if_neg c9] at h
    cases h
noncomputable def r_L_op_4 (x4 : Int32) (m : Mem) : Option Mem :=
  if inb (x4 + 1) (m 100 1 0).toNatClampNeg = true then (bd2 (r_L_book (m 100 0 ((x4 + 1).toNatClampNeg)) m) fun z2 m3 => (if inb (x4 + 1) (m3 100 1 0).toNatClampNeg = true then (bd2 (r_X12_book (m3 100 0 ((x4 + 1).toNatClampNeg)) m3) fun z8 m7 => (if (r_X12_thrown m7) = z2 then (if z2 = 0 then (if (lg_cmp (jL (m7 92 0 0) (m7 92 0 1)) z8.toInt64) = 0 then (some m7) else (none)) else (some m7)) else (none))) else none)) else none
set_option maxHeartbeats 4000000 in
set_option maxRecDepth 20000 in
theorem ok_L_op_4 (x4 : Int32) (m : Mem) {m1 : Mem} (h : r_L_op_4 x4 m = some m1) {u v : Nat} (hu : u + 120 ≤ 601024) (hv : v + 3000 ≤ 7293034) {o : Ou} {M' : Mem} (kb : Xj RL cL_law_ 8 (some .boolean) 2048 84000 601024 7293034 (u + 120) (v + 3000) 23 [(0, vR 100 0), (1, vR 11 0), (2, vR 12 0), (3, vR 92 0), (4, vI (x4 + 10))] [] m1 o M') : Xj RL cL_law_ 8 (some .boolean) 2048 84000 601024 7293034 u v 445 [(0, vR 100 0), (1, vR 11 0), (2, vR 12 0), (3, vR 92 0), (4, vI x4)] [] m o M' := by
  unfold r_L_op_4 at h
  refine xj_aload_n 1 dL_law__445 rfl ?_
  refine xj_aload_n 0 dL_law__446 rfl ?_
  refine xj_iload 4 dL_law__447 rfl ?_
  refine xj_iconst (z := 1) dL_law__449 (by decide) ?_
  refine xj_iadd dL_law__450 ?_
  by_cases c1 : inb (x4 + 1) (m 100 1 0).toNatClampNeg = true
  case neg => rw [if_neg c1] at h; cases h
  rw [if_pos c1] at h
  refine xg_ialdS (z := (m 100 0 ((x4 + 1).toNatClampNeg))) (n := (x4 + 1).toNatClampNeg) dL_law__451 (inb_in c1) rfl rfl ?_
  refine xj_aload_n 3 dL_law__452 rfl ?_
  obtain ⟨z2, m3, e4, h⟩ := bd2_some h
  refine xc_Hi (st := []) (ok_L_book (m 100 0 ((x4 + 1).toNatClampNeg)) m e4) dL_law__453 ch_126 rfl rfl (Nat.le_of_ble_eq_true rfl) (by decide) (by decide) (by omega) (by omega) ?_
  refine xj_istore (ls' := [(5, vI z2), (0, vR 100 0), (1, vR 11 0), (2, vR 12 0), (3, vR 92 0), (4, vI x4)]) dL_law__456 (by decide) rfl ?_
  refine xj_aload_n 3 dL_law__458 rfl ?_
  refine xj_aload_n 1 dL_law__459 rfl ?_
  refine xj_iload 5 dL_law__460 rfl ?_
  refine xj_iconst (z := 1) dL_law__462 (by decide) ?_
  refine xj_iadd dL_law__463 ?_
  by_cases c5 : inb (x4 + 1) (m3 100 1 0).toNatClampNeg = true
  case neg => rw [if_neg c5] at h; cases h
  rw [if_pos c5] at h
  refine xg_ialdS (z := (m3 100 0 ((x4 + 1).toNatClampNeg))) (n := (x4 + 1).toNatClampNeg) dL_law__464 (inb_in c5) rfl rfl ?_
  obtain ⟨z8, m7, e6, h⟩ := bd2_some h
  refine xc_Vi0 (st := []) (ok_X12_book (m3 100 0 ((x4 + 1).toNatClampNeg)) m3 e6) dL_law__465 cv_L_128 rfl rfl (Nat.le_of_ble_eq_true rfl) (by decide) (by decide) (by omega) (by omega) ?_
  refine xj_istore (ls' := [(6, vI z8), (5, vI z2), (0, vR 100 0), (1, vR 11 0), (2, vR 12 0), (3, vR 92 0), (4, vI x4)]) dL_law__468 (by decide) rfl ?_
  refine xj_aload_n 4 dL_law__470 rfl ?_
  refine xc_Vi0 (st := []) (ok_X12_thrown m7 rfl) dL_law__471 cv_L_116 rfl rfl (Nat.le_of_ble_eq_true rfl) (by decide) (by decide) (by omega) (by omega) ?_
  refine xj_iload 1 dL_law__474 rfl ?_
  refine xj_icmp_eq (tgt := 481) dL_law__476 (by decide) (fun c9 => ?_) (fun c9 => ?_)
  · rw [if_pos c9] at h
    refine xj_iload 1 dL_law__481 rfl ?_
    refine xj_if_ne (tgt := 498) dL_law__483 (by decide) (fun c10 => ?_) (fun c10 => ?_)
    · rw [if_neg c10] at h
      refine xj_goto (tgt := 2347) dL_law__498 (by decide) ?_
      refine xj_iinc (z := x4 + 10) (ls' := [(4, vI (x4 + 10)), (6, vI z8), (5, vI z2), (0, vR 100 0), (1, vR 11 0), (2, vR 12 0), (3, vR 92 0)]) 6 dL_law__2347 rfl rfl (by decide) rfl ?_
      refine xj_goto (tgt := 23) dL_law__2350 (by decide) ?_
      cases h
      refine xj_widen (u2 := u + 120) (v2 := v + 3000) (by omega) (by omega) ?_
      refine xj_pick (ls' := [(0, vR 100 0), (1, vR 11 0), (2, vR 12 0), (3, vR 92 0), (4, vI (x4 + 10))]) [3, 4, 5, 6, 0] rfl ?_
      exact kb
    · rw [if_pos c10] at h
      refine xj_aload_n 5 dL_law__486 rfl ?_
      refine xj_iconst (z := 0) dL_law__487 (by decide) ?_
      refine xj_lald0 (z := (jL (m7 92 0 0) (m7 92 0 1))) dL_law__488 rfl ?_
      refine xj_iload 0 dL_law__489 rfl ?_
      refine xj_i2l dL_law__491 ?_
      refine xj_lcmp dL_law__492 ?_
      refine xj_if_eq (tgt := 498) dL_law__493 (by decide) (fun c11 => ?_) (fun c11 => ?_)
      · rw [if_pos c11] at h
        refine xj_goto (tgt := 2347) dL_law__498 (by decide) ?_
        refine xj_iinc (z := x4 + 10) (ls' := [(4, vI (x4 + 10)), (6, vI z8), (5, vI z2), (0, vR 100 0), (1, vR 11 0), (2, vR 12 0), (3, vR 92 0)]) 6 dL_law__2347 rfl rfl (by decide) rfl ?_
        refine xj_goto (tgt := 23) dL_law__2350 (by decide) ?_
        cases h
        refine xj_widen (u2 := u + 120) (v2 := v + 3000) (by omega) (by omega) ?_
        refine xj_pick (ls' := [(0, vR 100 0), (1, vR 11 0), (2, vR 12 0), (3, vR 92 0), (4, vI (x4 + 10))]) [3, 4, 5, 6, 0] rfl ?_
        exact kb
      · rw [if_neg c11] at h
        cases h
  · rw [if_neg c9] at h
    cases h
noncomputable def r_L_op_5 (x4 : Int32) (m : Mem) : Option Mem :=
  bd2 (r_X12_fault m) fun z3 m2 => (if (r_X11_fault m) = z3 then (some m2) else (none))
set_option maxHeartbeats 4000000 in
set_option maxRecDepth 20000 in
theorem ok_L_op_5 (x4 : Int32) (m : Mem) {m1 : Mem} (h : r_L_op_5 x4 m = some m1) {u v : Nat} (hu : u + 120 ≤ 601024) (hv : v + 3000 ≤ 7293034) {o : Ou} {M' : Mem} (kb : Xj RL cL_law_ 8 (some .boolean) 2048 84000 601024 7293034 (u + 120) (v + 3000) 23 [(0, vR 100 0), (1, vR 11 0), (2, vR 12 0), (3, vR 92 0), (4, vI (x4 + 10))] [] m1 o M') : Xj RL cL_law_ 8 (some .boolean) 2048 84000 601024 7293034 u v 501 [(0, vR 100 0), (1, vR 11 0), (2, vR 12 0), (3, vR 92 0), (4, vI x4)] [] m o M' := by
  unfold r_L_op_5 at h
  refine xj_aload_n 1 dL_law__501 rfl ?_
  refine xc_Vi0 (st := []) (ok_X11_fault m rfl) dL_law__502 cv_L_129 rfl rfl (Nat.le_of_ble_eq_true rfl) (by decide) (by decide) (by omega) (by omega) ?_
  refine xj_aload_n 2 dL_law__505 rfl ?_
  obtain ⟨z3, m2, e1, h⟩ := bd2_some h
  refine xc_Vi0 (st := [vI (r_X11_fault m)]) (ok_X12_fault m e1) dL_law__506 cv_L_132 rfl rfl (Nat.le_of_ble_eq_true rfl) (by decide) (by decide) (by omega) (by omega) ?_
  refine xj_icmp_eq (tgt := 2347) dL_law__509 (by decide) (fun c4 => ?_) (fun c4 => ?_)
  · rw [if_pos c4] at h
    refine xj_iinc (z := x4 + 10) (ls' := [(4, vI (x4 + 10)), (0, vR 100 0), (1, vR 11 0), (2, vR 12 0), (3, vR 92 0)]) 4 dL_law__2347 rfl rfl (by decide) rfl ?_
    refine xj_goto (tgt := 23) dL_law__2350 (by decide) ?_
    cases h
    refine xj_widen (u2 := u + 120) (v2 := v + 3000) (by omega) (by omega) ?_
    refine xj_pick (ls' := [(0, vR 100 0), (1, vR 11 0), (2, vR 12 0), (3, vR 92 0), (4, vI (x4 + 10))]) [1, 2, 3, 4, 0] rfl ?_
    exact kb
  · rw [if_neg c4] at h
    cases h
noncomputable def r_L_op_6 (x4 : Int32) (m : Mem) : Option Mem :=
  bd2 (r_X11_undo m) fun z3 m2 => (bd2 (r_X12_undo m2) fun z6 m5 => (if z3 = z6 then (some m5) else (none)))
set_option maxHeartbeats 4000000 in
set_option maxRecDepth 20000 in
theorem ok_L_op_6 (x4 : Int32) (m : Mem) {m1 : Mem} (h : r_L_op_6 x4 m = some m1) {u v : Nat} (hu : u + 120 ≤ 601024) (hv : v + 3000 ≤ 7293034) {o : Ou} {M' : Mem} (kb : Xj RL cL_law_ 8 (some .boolean) 2048 84000 601024 7293034 (u + 120) (v + 3000) 23 [(0, vR 100 0), (1, vR 11 0), (2, vR 12 0), (3, vR 92 0), (4, vI (x4 + 10))] [] m1 o M') : Xj RL cL_law_ 8 (some .boolean) 2048 84000 601024 7293034 u v 514 [(0, vR 100 0), (1, vR 11 0), (2, vR 12 0), (3, vR 92 0), (4, vI x4)] [] m o M' := by
  unfold r_L_op_6 at h
  refine xj_aload_n 1 dL_law__514 rfl ?_
  obtain ⟨z3, m2, e1, h⟩ := bd2_some h
  refine xc_Vi0 (st := []) (ok_X11_undo m e1) dL_law__515 cv_L_133 rfl rfl (Nat.le_of_ble_eq_true rfl) (by decide) (by decide) (by omega) (by omega) ?_
  refine xj_aload_n 2 dL_law__518 rfl ?_
  obtain ⟨z6, m5, e4, h⟩ := bd2_some h
  refine xc_Vi0 (st := [vI z3]) (ok_X12_undo m2 e4) dL_law__519 cv_L_136 rfl rfl (Nat.le_of_ble_eq_true rfl) (by decide) (by decide) (by omega) (by omega) ?_
  refine xj_icmp_eq (tgt := 2347) dL_law__522 (by decide) (fun c7 => ?_) (fun c7 => ?_)
  · rw [if_pos c7] at h
    refine xj_iinc (z := x4 + 10) (ls' := [(4, vI (x4 + 10)), (0, vR 100 0), (1, vR 11 0), (2, vR 12 0), (3, vR 92 0)]) 4 dL_law__2347 rfl rfl (by decide) rfl ?_
    refine xj_goto (tgt := 23) dL_law__2350 (by decide) ?_
    cases h
    refine xj_widen (u2 := u + 120) (v2 := v + 3000) (by omega) (by omega) ?_
    refine xj_pick (ls' := [(0, vR 100 0), (1, vR 11 0), (2, vR 12 0), (3, vR 92 0), (4, vI (x4 + 10))]) [1, 2, 3, 4, 0] rfl ?_
    exact kb
  · rw [if_neg c7] at h
    cases h
noncomputable def r_L_op_7 (x4 : Int32) (m : Mem) : Option Mem :=
  if inb (x4 + 1) (m 100 1 0).toNatClampNeg = true then (bd2 (r_L_told (m 100 0 ((x4 + 1).toNatClampNeg)) m) fun z2 m3 => (if inb (x4 + 1) (m3 100 1 0).toNatClampNeg = true then (bd2 (r_X12_told (m3 100 0 ((x4 + 1).toNatClampNeg)) m3) fun z8 m7 => (if (r_X12_thrown m7) = z2 then (if z2 = 0 then (if (lg_cmp (jL (m7 92 0 0) (m7 92 0 1)) z8.toInt64) = 0 then (some m7) else (none)) else (some m7)) else (none))) else none)) else none
set_option maxHeartbeats 4000000 in
set_option maxRecDepth 20000 in
theorem ok_L_op_7 (x4 : Int32) (m : Mem) {m1 : Mem} (h : r_L_op_7 x4 m = some m1) {u v : Nat} (hu : u + 120 ≤ 601024) (hv : v + 3000 ≤ 7293034) {o : Ou} {M' : Mem} (kb : Xj RL cL_law_ 8 (some .boolean) 2048 84000 601024 7293034 (u + 120) (v + 3000) 23 [(0, vR 100 0), (1, vR 11 0), (2, vR 12 0), (3, vR 92 0), (4, vI (x4 + 10))] [] m1 o M') : Xj RL cL_law_ 8 (some .boolean) 2048 84000 601024 7293034 u v 527 [(0, vR 100 0), (1, vR 11 0), (2, vR 12 0), (3, vR 92 0), (4, vI x4)] [] m o M' := by
  unfold r_L_op_7 at h
  refine xj_aload_n 1 dL_law__527 rfl ?_
  refine xj_aload_n 0 dL_law__528 rfl ?_
  refine xj_iload 4 dL_law__529 rfl ?_
  refine xj_iconst (z := 1) dL_law__531 (by decide) ?_
  refine xj_iadd dL_law__532 ?_
  by_cases c1 : inb (x4 + 1) (m 100 1 0).toNatClampNeg = true
  case neg => rw [if_neg c1] at h; cases h
  rw [if_pos c1] at h
  refine xg_ialdS (z := (m 100 0 ((x4 + 1).toNatClampNeg))) (n := (x4 + 1).toNatClampNeg) dL_law__533 (inb_in c1) rfl rfl ?_
  refine xj_aload_n 3 dL_law__534 rfl ?_
  obtain ⟨z2, m3, e4, h⟩ := bd2_some h
  refine xc_Hi (st := []) (ok_L_told (m 100 0 ((x4 + 1).toNatClampNeg)) m e4) dL_law__535 ch_137 rfl rfl (Nat.le_of_ble_eq_true rfl) (by decide) (by decide) (by omega) (by omega) ?_
  refine xj_istore (ls' := [(5, vI z2), (0, vR 100 0), (1, vR 11 0), (2, vR 12 0), (3, vR 92 0), (4, vI x4)]) dL_law__538 (by decide) rfl ?_
  refine xj_aload_n 3 dL_law__540 rfl ?_
  refine xj_aload_n 1 dL_law__541 rfl ?_
  refine xj_iload 5 dL_law__542 rfl ?_
  refine xj_iconst (z := 1) dL_law__544 (by decide) ?_
  refine xj_iadd dL_law__545 ?_
  by_cases c5 : inb (x4 + 1) (m3 100 1 0).toNatClampNeg = true
  case neg => rw [if_neg c5] at h; cases h
  rw [if_pos c5] at h
  refine xg_ialdS (z := (m3 100 0 ((x4 + 1).toNatClampNeg))) (n := (x4 + 1).toNatClampNeg) dL_law__546 (inb_in c5) rfl rfl ?_
  obtain ⟨z8, m7, e6, h⟩ := bd2_some h
  refine xc_Vi0 (st := []) (ok_X12_told (m3 100 0 ((x4 + 1).toNatClampNeg)) m3 e6) dL_law__547 cv_L_139 rfl rfl (Nat.le_of_ble_eq_true rfl) (by decide) (by decide) (by omega) (by omega) ?_
  refine xj_istore (ls' := [(6, vI z8), (5, vI z2), (0, vR 100 0), (1, vR 11 0), (2, vR 12 0), (3, vR 92 0), (4, vI x4)]) dL_law__550 (by decide) rfl ?_
  refine xj_aload_n 4 dL_law__552 rfl ?_
  refine xc_Vi0 (st := []) (ok_X12_thrown m7 rfl) dL_law__553 cv_L_116 rfl rfl (Nat.le_of_ble_eq_true rfl) (by decide) (by decide) (by omega) (by omega) ?_
  refine xj_iload 1 dL_law__556 rfl ?_
  refine xj_icmp_eq (tgt := 563) dL_law__558 (by decide) (fun c9 => ?_) (fun c9 => ?_)
  · rw [if_pos c9] at h
    refine xj_iload 1 dL_law__563 rfl ?_
    refine xj_if_ne (tgt := 580) dL_law__565 (by decide) (fun c10 => ?_) (fun c10 => ?_)
    · rw [if_neg c10] at h
      refine xj_goto (tgt := 2347) dL_law__580 (by decide) ?_
      refine xj_iinc (z := x4 + 10) (ls' := [(4, vI (x4 + 10)), (6, vI z8), (5, vI z2), (0, vR 100 0), (1, vR 11 0), (2, vR 12 0), (3, vR 92 0)]) 6 dL_law__2347 rfl rfl (by decide) rfl ?_
      refine xj_goto (tgt := 23) dL_law__2350 (by decide) ?_
      cases h
      refine xj_widen (u2 := u + 120) (v2 := v + 3000) (by omega) (by omega) ?_
      refine xj_pick (ls' := [(0, vR 100 0), (1, vR 11 0), (2, vR 12 0), (3, vR 92 0), (4, vI (x4 + 10))]) [3, 4, 5, 6, 0] rfl ?_
      exact kb
    · rw [if_pos c10] at h
      refine xj_aload_n 5 dL_law__568 rfl ?_
      refine xj_iconst (z := 0) dL_law__569 (by decide) ?_
      refine xj_lald0 (z := (jL (m7 92 0 0) (m7 92 0 1))) dL_law__570 rfl ?_
      refine xj_iload 0 dL_law__571 rfl ?_
      refine xj_i2l dL_law__573 ?_
      refine xj_lcmp dL_law__574 ?_
      refine xj_if_eq (tgt := 580) dL_law__575 (by decide) (fun c11 => ?_) (fun c11 => ?_)
      · rw [if_pos c11] at h
        refine xj_goto (tgt := 2347) dL_law__580 (by decide) ?_
        refine xj_iinc (z := x4 + 10) (ls' := [(4, vI (x4 + 10)), (6, vI z8), (5, vI z2), (0, vR 100 0), (1, vR 11 0), (2, vR 12 0), (3, vR 92 0)]) 6 dL_law__2347 rfl rfl (by decide) rfl ?_
        refine xj_goto (tgt := 23) dL_law__2350 (by decide) ?_
        cases h
        refine xj_widen (u2 := u + 120) (v2 := v + 3000) (by omega) (by omega) ?_
        refine xj_pick (ls' := [(0, vR 100 0), (1, vR 11 0), (2, vR 12 0), (3, vR 92 0), (4, vI (x4 + 10))]) [3, 4, 5, 6, 0] rfl ?_
        exact kb
      · rw [if_neg c11] at h
        cases h
  · rw [if_neg c9] at h
    cases h
noncomputable def r_L_op_8 (x4 : Int32) (m : Mem) : Option Mem :=
  if inb (x4 + 1) (m 100 1 0).toNatClampNeg = true then (if inb (x4 + 2) (m 100 1 0).toNatClampNeg = true then (bd2 (r_L_place (m 100 0 ((x4 + 1).toNatClampNeg)) (m 100 0 ((x4 + 2).toNatClampNeg)) m) fun z3 m4 => (if inb (x4 + 1) (m4 100 1 0).toNatClampNeg = true then (if inb (x4 + 2) (m4 100 1 0).toNatClampNeg = true then (bd2 (r_X12_place (m4 100 0 ((x4 + 1).toNatClampNeg)) (m4 100 0 ((x4 + 2).toNatClampNeg)) m4) fun z10 m9 => (if (r_X12_thrown m9) = z3 then (if z3 = 0 then (if (lg_cmp (jL (m9 92 0 0) (m9 92 0 1)) z10.toInt64) = 0 then (some m9) else (none)) else (some m9)) else (none))) else none) else none)) else none) else none
set_option maxHeartbeats 4000000 in
set_option maxRecDepth 20000 in
theorem ok_L_op_8 (x4 : Int32) (m : Mem) {m1 : Mem} (h : r_L_op_8 x4 m = some m1) {u v : Nat} (hu : u + 120 ≤ 601024) (hv : v + 3000 ≤ 7293034) {o : Ou} {M' : Mem} (kb : Xj RL cL_law_ 8 (some .boolean) 2048 84000 601024 7293034 (u + 120) (v + 3000) 23 [(0, vR 100 0), (1, vR 11 0), (2, vR 12 0), (3, vR 92 0), (4, vI (x4 + 10))] [] m1 o M') : Xj RL cL_law_ 8 (some .boolean) 2048 84000 601024 7293034 u v 583 [(0, vR 100 0), (1, vR 11 0), (2, vR 12 0), (3, vR 92 0), (4, vI x4)] [] m o M' := by
  unfold r_L_op_8 at h
  refine xj_aload_n 1 dL_law__583 rfl ?_
  refine xj_aload_n 0 dL_law__584 rfl ?_
  refine xj_iload 4 dL_law__585 rfl ?_
  refine xj_iconst (z := 1) dL_law__587 (by decide) ?_
  refine xj_iadd dL_law__588 ?_
  by_cases c1 : inb (x4 + 1) (m 100 1 0).toNatClampNeg = true
  case neg => rw [if_neg c1] at h; cases h
  rw [if_pos c1] at h
  refine xg_ialdS (z := (m 100 0 ((x4 + 1).toNatClampNeg))) (n := (x4 + 1).toNatClampNeg) dL_law__589 (inb_in c1) rfl rfl ?_
  refine xj_aload_n 0 dL_law__590 rfl ?_
  refine xj_iload 4 dL_law__591 rfl ?_
  refine xj_iconst (z := 2) dL_law__593 (by decide) ?_
  refine xj_iadd dL_law__594 ?_
  by_cases c2 : inb (x4 + 2) (m 100 1 0).toNatClampNeg = true
  case neg => rw [if_neg c2] at h; cases h
  rw [if_pos c2] at h
  refine xg_ialdS (z := (m 100 0 ((x4 + 2).toNatClampNeg))) (n := (x4 + 2).toNatClampNeg) dL_law__595 (inb_in c2) rfl rfl ?_
  refine xj_aload_n 3 dL_law__596 rfl ?_
  obtain ⟨z3, m4, e5, h⟩ := bd2_some h
  refine xc_Hi (st := []) (ok_L_place (m 100 0 ((x4 + 1).toNatClampNeg)) (m 100 0 ((x4 + 2).toNatClampNeg)) m e5) dL_law__597 ch_140 rfl rfl (Nat.le_of_ble_eq_true rfl) (by decide) (by decide) (by omega) (by omega) ?_
  refine xj_istore (ls' := [(5, vI z3), (0, vR 100 0), (1, vR 11 0), (2, vR 12 0), (3, vR 92 0), (4, vI x4)]) dL_law__600 (by decide) rfl ?_
  refine xj_aload_n 3 dL_law__602 rfl ?_
  refine xj_aload_n 1 dL_law__603 rfl ?_
  refine xj_iload 5 dL_law__604 rfl ?_
  refine xj_iconst (z := 1) dL_law__606 (by decide) ?_
  refine xj_iadd dL_law__607 ?_
  by_cases c6 : inb (x4 + 1) (m4 100 1 0).toNatClampNeg = true
  case neg => rw [if_neg c6] at h; cases h
  rw [if_pos c6] at h
  refine xg_ialdS (z := (m4 100 0 ((x4 + 1).toNatClampNeg))) (n := (x4 + 1).toNatClampNeg) dL_law__608 (inb_in c6) rfl rfl ?_
  refine xj_aload_n 1 dL_law__609 rfl ?_
  refine xj_iload 5 dL_law__610 rfl ?_
  refine xj_iconst (z := 2) dL_law__612 (by decide) ?_
  refine xj_iadd dL_law__613 ?_
  by_cases c7 : inb (x4 + 2) (m4 100 1 0).toNatClampNeg = true
  case neg => rw [if_neg c7] at h; cases h
  rw [if_pos c7] at h
  refine xg_ialdS (z := (m4 100 0 ((x4 + 2).toNatClampNeg))) (n := (x4 + 2).toNatClampNeg) dL_law__614 (inb_in c7) rfl rfl ?_
  obtain ⟨z10, m9, e8, h⟩ := bd2_some h
  refine xc_Vi0 (st := []) (ok_X12_place (m4 100 0 ((x4 + 1).toNatClampNeg)) (m4 100 0 ((x4 + 2).toNatClampNeg)) m4 e8) dL_law__615 cv_L_143 rfl rfl (Nat.le_of_ble_eq_true rfl) (by decide) (by decide) (by omega) (by omega) ?_
  refine xj_istore (ls' := [(6, vI z10), (5, vI z3), (0, vR 100 0), (1, vR 11 0), (2, vR 12 0), (3, vR 92 0), (4, vI x4)]) dL_law__618 (by decide) rfl ?_
  refine xj_aload_n 4 dL_law__620 rfl ?_
  refine xc_Vi0 (st := []) (ok_X12_thrown m9 rfl) dL_law__621 cv_L_116 rfl rfl (Nat.le_of_ble_eq_true rfl) (by decide) (by decide) (by omega) (by omega) ?_
  refine xj_iload 1 dL_law__624 rfl ?_
  refine xj_icmp_eq (tgt := 631) dL_law__626 (by decide) (fun c11 => ?_) (fun c11 => ?_)
  · rw [if_pos c11] at h
    refine xj_iload 1 dL_law__631 rfl ?_
    refine xj_if_ne (tgt := 648) dL_law__633 (by decide) (fun c12 => ?_) (fun c12 => ?_)
    · rw [if_neg c12] at h
      refine xj_goto (tgt := 2347) dL_law__648 (by decide) ?_
      refine xj_iinc (z := x4 + 10) (ls' := [(4, vI (x4 + 10)), (6, vI z10), (5, vI z3), (0, vR 100 0), (1, vR 11 0), (2, vR 12 0), (3, vR 92 0)]) 6 dL_law__2347 rfl rfl (by decide) rfl ?_
      refine xj_goto (tgt := 23) dL_law__2350 (by decide) ?_
      cases h
      refine xj_widen (u2 := u + 120) (v2 := v + 3000) (by omega) (by omega) ?_
      refine xj_pick (ls' := [(0, vR 100 0), (1, vR 11 0), (2, vR 12 0), (3, vR 92 0), (4, vI (x4 + 10))]) [3, 4, 5, 6, 0] rfl ?_
      exact kb
    · rw [if_pos c12] at h
      refine xj_aload_n 5 dL_law__636 rfl ?_
      refine xj_iconst (z := 0) dL_law__637 (by decide) ?_
      refine xj_lald0 (z := (jL (m9 92 0 0) (m9 92 0 1))) dL_law__638 rfl ?_
      refine xj_iload 0 dL_law__639 rfl ?_
      refine xj_i2l dL_law__641 ?_
      refine xj_lcmp dL_law__642 ?_
      refine xj_if_eq (tgt := 648) dL_law__643 (by decide) (fun c13 => ?_) (fun c13 => ?_)
      · rw [if_pos c13] at h
        refine xj_goto (tgt := 2347) dL_law__648 (by decide) ?_
        refine xj_iinc (z := x4 + 10) (ls' := [(4, vI (x4 + 10)), (6, vI z10), (5, vI z3), (0, vR 100 0), (1, vR 11 0), (2, vR 12 0), (3, vR 92 0)]) 6 dL_law__2347 rfl rfl (by decide) rfl ?_
        refine xj_goto (tgt := 23) dL_law__2350 (by decide) ?_
        cases h
        refine xj_widen (u2 := u + 120) (v2 := v + 3000) (by omega) (by omega) ?_
        refine xj_pick (ls' := [(0, vR 100 0), (1, vR 11 0), (2, vR 12 0), (3, vR 92 0), (4, vI (x4 + 10))]) [3, 4, 5, 6, 0] rfl ?_
        exact kb
      · rw [if_neg c13] at h
        cases h
  · rw [if_neg c11] at h
    cases h
noncomputable def r_L_op_9 (x4 : Int32) (m : Mem) : Option Mem :=
  if inb (x4 + 1) (m 100 1 0).toNatClampNeg = true then (if inb (x4 + 2) (m 100 1 0).toNatClampNeg = true then (bd2 (r_L_ditch (m 100 0 ((x4 + 1).toNatClampNeg)) (m 100 0 ((x4 + 2).toNatClampNeg)) m) fun z3 m4 => (if inb (x4 + 1) (m4 100 1 0).toNatClampNeg = true then (if inb (x4 + 2) (m4 100 1 0).toNatClampNeg = true then (bd2 (r_X12_ditch (m4 100 0 ((x4 + 1).toNatClampNeg)) (m4 100 0 ((x4 + 2).toNatClampNeg)) m4) fun z10 m9 => (if (r_X12_thrown m9) = z3 then (if z3 = 0 then (if (lg_cmp (jL (m9 92 0 0) (m9 92 0 1)) z10.toInt64) = 0 then (some m9) else (none)) else (some m9)) else (none))) else none) else none)) else none) else none
set_option maxHeartbeats 4000000 in
set_option maxRecDepth 20000 in
theorem ok_L_op_9 (x4 : Int32) (m : Mem) {m1 : Mem} (h : r_L_op_9 x4 m = some m1) {u v : Nat} (hu : u + 120 ≤ 601024) (hv : v + 3000 ≤ 7293034) {o : Ou} {M' : Mem} (kb : Xj RL cL_law_ 8 (some .boolean) 2048 84000 601024 7293034 (u + 120) (v + 3000) 23 [(0, vR 100 0), (1, vR 11 0), (2, vR 12 0), (3, vR 92 0), (4, vI (x4 + 10))] [] m1 o M') : Xj RL cL_law_ 8 (some .boolean) 2048 84000 601024 7293034 u v 651 [(0, vR 100 0), (1, vR 11 0), (2, vR 12 0), (3, vR 92 0), (4, vI x4)] [] m o M' := by
  unfold r_L_op_9 at h
  refine xj_aload_n 1 dL_law__651 rfl ?_
  refine xj_aload_n 0 dL_law__652 rfl ?_
  refine xj_iload 4 dL_law__653 rfl ?_
  refine xj_iconst (z := 1) dL_law__655 (by decide) ?_
  refine xj_iadd dL_law__656 ?_
  by_cases c1 : inb (x4 + 1) (m 100 1 0).toNatClampNeg = true
  case neg => rw [if_neg c1] at h; cases h
  rw [if_pos c1] at h
  refine xg_ialdS (z := (m 100 0 ((x4 + 1).toNatClampNeg))) (n := (x4 + 1).toNatClampNeg) dL_law__657 (inb_in c1) rfl rfl ?_
  refine xj_aload_n 0 dL_law__658 rfl ?_
  refine xj_iload 4 dL_law__659 rfl ?_
  refine xj_iconst (z := 2) dL_law__661 (by decide) ?_
  refine xj_iadd dL_law__662 ?_
  by_cases c2 : inb (x4 + 2) (m 100 1 0).toNatClampNeg = true
  case neg => rw [if_neg c2] at h; cases h
  rw [if_pos c2] at h
  refine xg_ialdS (z := (m 100 0 ((x4 + 2).toNatClampNeg))) (n := (x4 + 2).toNatClampNeg) dL_law__663 (inb_in c2) rfl rfl ?_
  refine xj_aload_n 3 dL_law__664 rfl ?_
  obtain ⟨z3, m4, e5, h⟩ := bd2_some h
  refine xc_Hi (st := []) (ok_L_ditch (m 100 0 ((x4 + 1).toNatClampNeg)) (m 100 0 ((x4 + 2).toNatClampNeg)) m e5) dL_law__665 ch_144 rfl rfl (Nat.le_of_ble_eq_true rfl) (by decide) (by decide) (by omega) (by omega) ?_
  refine xj_istore (ls' := [(5, vI z3), (0, vR 100 0), (1, vR 11 0), (2, vR 12 0), (3, vR 92 0), (4, vI x4)]) dL_law__668 (by decide) rfl ?_
  refine xj_aload_n 3 dL_law__670 rfl ?_
  refine xj_aload_n 1 dL_law__671 rfl ?_
  refine xj_iload 5 dL_law__672 rfl ?_
  refine xj_iconst (z := 1) dL_law__674 (by decide) ?_
  refine xj_iadd dL_law__675 ?_
  by_cases c6 : inb (x4 + 1) (m4 100 1 0).toNatClampNeg = true
  case neg => rw [if_neg c6] at h; cases h
  rw [if_pos c6] at h
  refine xg_ialdS (z := (m4 100 0 ((x4 + 1).toNatClampNeg))) (n := (x4 + 1).toNatClampNeg) dL_law__676 (inb_in c6) rfl rfl ?_
  refine xj_aload_n 1 dL_law__677 rfl ?_
  refine xj_iload 5 dL_law__678 rfl ?_
  refine xj_iconst (z := 2) dL_law__680 (by decide) ?_
  refine xj_iadd dL_law__681 ?_
  by_cases c7 : inb (x4 + 2) (m4 100 1 0).toNatClampNeg = true
  case neg => rw [if_neg c7] at h; cases h
  rw [if_pos c7] at h
  refine xg_ialdS (z := (m4 100 0 ((x4 + 2).toNatClampNeg))) (n := (x4 + 2).toNatClampNeg) dL_law__682 (inb_in c7) rfl rfl ?_
  obtain ⟨z10, m9, e8, h⟩ := bd2_some h
  refine xc_Vi0 (st := []) (ok_X12_ditch (m4 100 0 ((x4 + 1).toNatClampNeg)) (m4 100 0 ((x4 + 2).toNatClampNeg)) m4 e8) dL_law__683 cv_L_146 rfl rfl (Nat.le_of_ble_eq_true rfl) (by decide) (by decide) (by omega) (by omega) ?_
  refine xj_istore (ls' := [(6, vI z10), (5, vI z3), (0, vR 100 0), (1, vR 11 0), (2, vR 12 0), (3, vR 92 0), (4, vI x4)]) dL_law__686 (by decide) rfl ?_
  refine xj_aload_n 4 dL_law__688 rfl ?_
  refine xc_Vi0 (st := []) (ok_X12_thrown m9 rfl) dL_law__689 cv_L_116 rfl rfl (Nat.le_of_ble_eq_true rfl) (by decide) (by decide) (by omega) (by omega) ?_
  refine xj_iload 1 dL_law__692 rfl ?_
  refine xj_icmp_eq (tgt := 699) dL_law__694 (by decide) (fun c11 => ?_) (fun c11 => ?_)
  · rw [if_pos c11] at h
    refine xj_iload 1 dL_law__699 rfl ?_
    refine xj_if_ne (tgt := 716) dL_law__701 (by decide) (fun c12 => ?_) (fun c12 => ?_)
    · rw [if_neg c12] at h
      refine xj_goto (tgt := 2347) dL_law__716 (by decide) ?_
      refine xj_iinc (z := x4 + 10) (ls' := [(4, vI (x4 + 10)), (6, vI z10), (5, vI z3), (0, vR 100 0), (1, vR 11 0), (2, vR 12 0), (3, vR 92 0)]) 6 dL_law__2347 rfl rfl (by decide) rfl ?_
      refine xj_goto (tgt := 23) dL_law__2350 (by decide) ?_
      cases h
      refine xj_widen (u2 := u + 120) (v2 := v + 3000) (by omega) (by omega) ?_
      refine xj_pick (ls' := [(0, vR 100 0), (1, vR 11 0), (2, vR 12 0), (3, vR 92 0), (4, vI (x4 + 10))]) [3, 4, 5, 6, 0] rfl ?_
      exact kb
    · rw [if_pos c12] at h
      refine xj_aload_n 5 dL_law__704 rfl ?_
      refine xj_iconst (z := 0) dL_law__705 (by decide) ?_
      refine xj_lald0 (z := (jL (m9 92 0 0) (m9 92 0 1))) dL_law__706 rfl ?_
      refine xj_iload 0 dL_law__707 rfl ?_
      refine xj_i2l dL_law__709 ?_
      refine xj_lcmp dL_law__710 ?_
      refine xj_if_eq (tgt := 716) dL_law__711 (by decide) (fun c13 => ?_) (fun c13 => ?_)
      · rw [if_pos c13] at h
        refine xj_goto (tgt := 2347) dL_law__716 (by decide) ?_
        refine xj_iinc (z := x4 + 10) (ls' := [(4, vI (x4 + 10)), (6, vI z10), (5, vI z3), (0, vR 100 0), (1, vR 11 0), (2, vR 12 0), (3, vR 92 0)]) 6 dL_law__2347 rfl rfl (by decide) rfl ?_
        refine xj_goto (tgt := 23) dL_law__2350 (by decide) ?_
        cases h
        refine xj_widen (u2 := u + 120) (v2 := v + 3000) (by omega) (by omega) ?_
        refine xj_pick (ls' := [(0, vR 100 0), (1, vR 11 0), (2, vR 12 0), (3, vR 92 0), (4, vI (x4 + 10))]) [3, 4, 5, 6, 0] rfl ?_
        exact kb
      · rw [if_neg c13] at h
        cases h
  · rw [if_neg c11] at h
    cases h
noncomputable def r_L_op_10 (x4 : Int32) (m : Mem) : Option Mem :=
  if inb (x4 + 1) (m 100 1 0).toNatClampNeg = true then (if inb (x4 + 2) (m 100 1 0).toNatClampNeg = true then (bd2 (r_L_person (m 100 0 ((x4 + 1).toNatClampNeg)) (m 100 0 ((x4 + 2).toNatClampNeg)) m) fun z3 m4 => (if inb (x4 + 1) (m4 100 1 0).toNatClampNeg = true then (if inb (x4 + 2) (m4 100 1 0).toNatClampNeg = true then (bd2 (r_X12_person (m4 100 0 ((x4 + 1).toNatClampNeg)) (m4 100 0 ((x4 + 2).toNatClampNeg)) m4) fun z10 m9 => (if (r_X12_thrown m9) = z3 then (if z3 = 0 then (if (lg_cmp (jL (m9 92 0 0) (m9 92 0 1)) z10.toInt64) = 0 then (some m9) else (none)) else (some m9)) else (none))) else none) else none)) else none) else none
set_option maxHeartbeats 4000000 in
set_option maxRecDepth 20000 in
theorem ok_L_op_10 (x4 : Int32) (m : Mem) {m1 : Mem} (h : r_L_op_10 x4 m = some m1) {u v : Nat} (hu : u + 120 ≤ 601024) (hv : v + 3000 ≤ 7293034) {o : Ou} {M' : Mem} (kb : Xj RL cL_law_ 8 (some .boolean) 2048 84000 601024 7293034 (u + 120) (v + 3000) 23 [(0, vR 100 0), (1, vR 11 0), (2, vR 12 0), (3, vR 92 0), (4, vI (x4 + 10))] [] m1 o M') : Xj RL cL_law_ 8 (some .boolean) 2048 84000 601024 7293034 u v 719 [(0, vR 100 0), (1, vR 11 0), (2, vR 12 0), (3, vR 92 0), (4, vI x4)] [] m o M' := by
  unfold r_L_op_10 at h
  refine xj_aload_n 1 dL_law__719 rfl ?_
  refine xj_aload_n 0 dL_law__720 rfl ?_
  refine xj_iload 4 dL_law__721 rfl ?_
  refine xj_iconst (z := 1) dL_law__723 (by decide) ?_
  refine xj_iadd dL_law__724 ?_
  by_cases c1 : inb (x4 + 1) (m 100 1 0).toNatClampNeg = true
  case neg => rw [if_neg c1] at h; cases h
  rw [if_pos c1] at h
  refine xg_ialdS (z := (m 100 0 ((x4 + 1).toNatClampNeg))) (n := (x4 + 1).toNatClampNeg) dL_law__725 (inb_in c1) rfl rfl ?_
  refine xj_aload_n 0 dL_law__726 rfl ?_
  refine xj_iload 4 dL_law__727 rfl ?_
  refine xj_iconst (z := 2) dL_law__729 (by decide) ?_
  refine xj_iadd dL_law__730 ?_
  by_cases c2 : inb (x4 + 2) (m 100 1 0).toNatClampNeg = true
  case neg => rw [if_neg c2] at h; cases h
  rw [if_pos c2] at h
  refine xg_ialdS (z := (m 100 0 ((x4 + 2).toNatClampNeg))) (n := (x4 + 2).toNatClampNeg) dL_law__731 (inb_in c2) rfl rfl ?_
  refine xj_aload_n 3 dL_law__732 rfl ?_
  obtain ⟨z3, m4, e5, h⟩ := bd2_some h
  refine xc_Hi (st := []) (ok_L_person (m 100 0 ((x4 + 1).toNatClampNeg)) (m 100 0 ((x4 + 2).toNatClampNeg)) m e5) dL_law__733 ch_147 rfl rfl (Nat.le_of_ble_eq_true rfl) (by decide) (by decide) (by omega) (by omega) ?_
  refine xj_istore (ls' := [(5, vI z3), (0, vR 100 0), (1, vR 11 0), (2, vR 12 0), (3, vR 92 0), (4, vI x4)]) dL_law__736 (by decide) rfl ?_
  refine xj_aload_n 3 dL_law__738 rfl ?_
  refine xj_aload_n 1 dL_law__739 rfl ?_
  refine xj_iload 5 dL_law__740 rfl ?_
  refine xj_iconst (z := 1) dL_law__742 (by decide) ?_
  refine xj_iadd dL_law__743 ?_
  by_cases c6 : inb (x4 + 1) (m4 100 1 0).toNatClampNeg = true
  case neg => rw [if_neg c6] at h; cases h
  rw [if_pos c6] at h
  refine xg_ialdS (z := (m4 100 0 ((x4 + 1).toNatClampNeg))) (n := (x4 + 1).toNatClampNeg) dL_law__744 (inb_in c6) rfl rfl ?_
  refine xj_aload_n 1 dL_law__745 rfl ?_
  refine xj_iload 5 dL_law__746 rfl ?_
  refine xj_iconst (z := 2) dL_law__748 (by decide) ?_
  refine xj_iadd dL_law__749 ?_
  by_cases c7 : inb (x4 + 2) (m4 100 1 0).toNatClampNeg = true
  case neg => rw [if_neg c7] at h; cases h
  rw [if_pos c7] at h
  refine xg_ialdS (z := (m4 100 0 ((x4 + 2).toNatClampNeg))) (n := (x4 + 2).toNatClampNeg) dL_law__750 (inb_in c7) rfl rfl ?_
  obtain ⟨z10, m9, e8, h⟩ := bd2_some h
  refine xc_Vi0 (st := []) (ok_X12_person (m4 100 0 ((x4 + 1).toNatClampNeg)) (m4 100 0 ((x4 + 2).toNatClampNeg)) m4 e8) dL_law__751 cv_L_149 rfl rfl (Nat.le_of_ble_eq_true rfl) (by decide) (by decide) (by omega) (by omega) ?_
  refine xj_istore (ls' := [(6, vI z10), (5, vI z3), (0, vR 100 0), (1, vR 11 0), (2, vR 12 0), (3, vR 92 0), (4, vI x4)]) dL_law__754 (by decide) rfl ?_
  refine xj_aload_n 4 dL_law__756 rfl ?_
  refine xc_Vi0 (st := []) (ok_X12_thrown m9 rfl) dL_law__757 cv_L_116 rfl rfl (Nat.le_of_ble_eq_true rfl) (by decide) (by decide) (by omega) (by omega) ?_
  refine xj_iload 1 dL_law__760 rfl ?_
  refine xj_icmp_eq (tgt := 767) dL_law__762 (by decide) (fun c11 => ?_) (fun c11 => ?_)
  · rw [if_pos c11] at h
    refine xj_iload 1 dL_law__767 rfl ?_
    refine xj_if_ne (tgt := 784) dL_law__769 (by decide) (fun c12 => ?_) (fun c12 => ?_)
    · rw [if_neg c12] at h
      refine xj_goto (tgt := 2347) dL_law__784 (by decide) ?_
      refine xj_iinc (z := x4 + 10) (ls' := [(4, vI (x4 + 10)), (6, vI z10), (5, vI z3), (0, vR 100 0), (1, vR 11 0), (2, vR 12 0), (3, vR 92 0)]) 6 dL_law__2347 rfl rfl (by decide) rfl ?_
      refine xj_goto (tgt := 23) dL_law__2350 (by decide) ?_
      cases h
      refine xj_widen (u2 := u + 120) (v2 := v + 3000) (by omega) (by omega) ?_
      refine xj_pick (ls' := [(0, vR 100 0), (1, vR 11 0), (2, vR 12 0), (3, vR 92 0), (4, vI (x4 + 10))]) [3, 4, 5, 6, 0] rfl ?_
      exact kb
    · rw [if_pos c12] at h
      refine xj_aload_n 5 dL_law__772 rfl ?_
      refine xj_iconst (z := 0) dL_law__773 (by decide) ?_
      refine xj_lald0 (z := (jL (m9 92 0 0) (m9 92 0 1))) dL_law__774 rfl ?_
      refine xj_iload 0 dL_law__775 rfl ?_
      refine xj_i2l dL_law__777 ?_
      refine xj_lcmp dL_law__778 ?_
      refine xj_if_eq (tgt := 784) dL_law__779 (by decide) (fun c13 => ?_) (fun c13 => ?_)
      · rw [if_pos c13] at h
        refine xj_goto (tgt := 2347) dL_law__784 (by decide) ?_
        refine xj_iinc (z := x4 + 10) (ls' := [(4, vI (x4 + 10)), (6, vI z10), (5, vI z3), (0, vR 100 0), (1, vR 11 0), (2, vR 12 0), (3, vR 92 0)]) 6 dL_law__2347 rfl rfl (by decide) rfl ?_
        refine xj_goto (tgt := 23) dL_law__2350 (by decide) ?_
        cases h
        refine xj_widen (u2 := u + 120) (v2 := v + 3000) (by omega) (by omega) ?_
        refine xj_pick (ls' := [(0, vR 100 0), (1, vR 11 0), (2, vR 12 0), (3, vR 92 0), (4, vI (x4 + 10))]) [3, 4, 5, 6, 0] rfl ?_
        exact kb
      · rw [if_neg c13] at h
        cases h
  · rw [if_neg c11] at h
    cases h
noncomputable def r_L_op_11 (x4 : Int32) (m : Mem) : Option Mem :=
  if inb (x4 + 1) (m 100 1 0).toNatClampNeg = true then (if inb (x4 + 2) (m 100 1 0).toNatClampNeg = true then (bd2 (r_L_belief (m 100 0 ((x4 + 1).toNatClampNeg)) (m 100 0 ((x4 + 2).toNatClampNeg)) m) fun z3 m4 => (if inb (x4 + 1) (m4 100 1 0).toNatClampNeg = true then (if inb (x4 + 2) (m4 100 1 0).toNatClampNeg = true then (bd2 (r_X12_belief (m4 100 0 ((x4 + 1).toNatClampNeg)) (m4 100 0 ((x4 + 2).toNatClampNeg)) m4) fun z10 m9 => (if (r_X12_thrown m9) = z3 then (if z3 = 0 then (if (lg_cmp (jL (m9 92 0 0) (m9 92 0 1)) z10.toInt64) = 0 then (some m9) else (none)) else (some m9)) else (none))) else none) else none)) else none) else none
set_option maxHeartbeats 4000000 in
set_option maxRecDepth 20000 in
theorem ok_L_op_11 (x4 : Int32) (m : Mem) {m1 : Mem} (h : r_L_op_11 x4 m = some m1) {u v : Nat} (hu : u + 120 ≤ 601024) (hv : v + 3000 ≤ 7293034) {o : Ou} {M' : Mem} (kb : Xj RL cL_law_ 8 (some .boolean) 2048 84000 601024 7293034 (u + 120) (v + 3000) 23 [(0, vR 100 0), (1, vR 11 0), (2, vR 12 0), (3, vR 92 0), (4, vI (x4 + 10))] [] m1 o M') : Xj RL cL_law_ 8 (some .boolean) 2048 84000 601024 7293034 u v 787 [(0, vR 100 0), (1, vR 11 0), (2, vR 12 0), (3, vR 92 0), (4, vI x4)] [] m o M' := by
  unfold r_L_op_11 at h
  refine xj_aload_n 1 dL_law__787 rfl ?_
  refine xj_aload_n 0 dL_law__788 rfl ?_
  refine xj_iload 4 dL_law__789 rfl ?_
  refine xj_iconst (z := 1) dL_law__791 (by decide) ?_
  refine xj_iadd dL_law__792 ?_
  by_cases c1 : inb (x4 + 1) (m 100 1 0).toNatClampNeg = true
  case neg => rw [if_neg c1] at h; cases h
  rw [if_pos c1] at h
  refine xg_ialdS (z := (m 100 0 ((x4 + 1).toNatClampNeg))) (n := (x4 + 1).toNatClampNeg) dL_law__793 (inb_in c1) rfl rfl ?_
  refine xj_aload_n 0 dL_law__794 rfl ?_
  refine xj_iload 4 dL_law__795 rfl ?_
  refine xj_iconst (z := 2) dL_law__797 (by decide) ?_
  refine xj_iadd dL_law__798 ?_
  by_cases c2 : inb (x4 + 2) (m 100 1 0).toNatClampNeg = true
  case neg => rw [if_neg c2] at h; cases h
  rw [if_pos c2] at h
  refine xg_ialdS (z := (m 100 0 ((x4 + 2).toNatClampNeg))) (n := (x4 + 2).toNatClampNeg) dL_law__799 (inb_in c2) rfl rfl ?_
  refine xj_aload_n 3 dL_law__800 rfl ?_
  obtain ⟨z3, m4, e5, h⟩ := bd2_some h
  refine xc_Hi (st := []) (ok_L_belief (m 100 0 ((x4 + 1).toNatClampNeg)) (m 100 0 ((x4 + 2).toNatClampNeg)) m e5) dL_law__801 ch_150 rfl rfl (Nat.le_of_ble_eq_true rfl) (by decide) (by decide) (by omega) (by omega) ?_
  refine xj_istore (ls' := [(5, vI z3), (0, vR 100 0), (1, vR 11 0), (2, vR 12 0), (3, vR 92 0), (4, vI x4)]) dL_law__804 (by decide) rfl ?_
  refine xj_aload_n 3 dL_law__806 rfl ?_
  refine xj_aload_n 1 dL_law__807 rfl ?_
  refine xj_iload 5 dL_law__808 rfl ?_
  refine xj_iconst (z := 1) dL_law__810 (by decide) ?_
  refine xj_iadd dL_law__811 ?_
  by_cases c6 : inb (x4 + 1) (m4 100 1 0).toNatClampNeg = true
  case neg => rw [if_neg c6] at h; cases h
  rw [if_pos c6] at h
  refine xg_ialdS (z := (m4 100 0 ((x4 + 1).toNatClampNeg))) (n := (x4 + 1).toNatClampNeg) dL_law__812 (inb_in c6) rfl rfl ?_
  refine xj_aload_n 1 dL_law__813 rfl ?_
  refine xj_iload 5 dL_law__814 rfl ?_
  refine xj_iconst (z := 2) dL_law__816 (by decide) ?_
  refine xj_iadd dL_law__817 ?_
  by_cases c7 : inb (x4 + 2) (m4 100 1 0).toNatClampNeg = true
  case neg => rw [if_neg c7] at h; cases h
  rw [if_pos c7] at h
  refine xg_ialdS (z := (m4 100 0 ((x4 + 2).toNatClampNeg))) (n := (x4 + 2).toNatClampNeg) dL_law__818 (inb_in c7) rfl rfl ?_
  obtain ⟨z10, m9, e8, h⟩ := bd2_some h
  refine xc_Vi0 (st := []) (ok_X12_belief (m4 100 0 ((x4 + 1).toNatClampNeg)) (m4 100 0 ((x4 + 2).toNatClampNeg)) m4 e8) dL_law__819 cv_L_152 rfl rfl (Nat.le_of_ble_eq_true rfl) (by decide) (by decide) (by omega) (by omega) ?_
  refine xj_istore (ls' := [(6, vI z10), (5, vI z3), (0, vR 100 0), (1, vR 11 0), (2, vR 12 0), (3, vR 92 0), (4, vI x4)]) dL_law__822 (by decide) rfl ?_
  refine xj_aload_n 4 dL_law__824 rfl ?_
  refine xc_Vi0 (st := []) (ok_X12_thrown m9 rfl) dL_law__825 cv_L_116 rfl rfl (Nat.le_of_ble_eq_true rfl) (by decide) (by decide) (by omega) (by omega) ?_
  refine xj_iload 1 dL_law__828 rfl ?_
  refine xj_icmp_eq (tgt := 835) dL_law__830 (by decide) (fun c11 => ?_) (fun c11 => ?_)
  · rw [if_pos c11] at h
    refine xj_iload 1 dL_law__835 rfl ?_
    refine xj_if_ne (tgt := 852) dL_law__837 (by decide) (fun c12 => ?_) (fun c12 => ?_)
    · rw [if_neg c12] at h
      refine xj_goto (tgt := 2347) dL_law__852 (by decide) ?_
      refine xj_iinc (z := x4 + 10) (ls' := [(4, vI (x4 + 10)), (6, vI z10), (5, vI z3), (0, vR 100 0), (1, vR 11 0), (2, vR 12 0), (3, vR 92 0)]) 6 dL_law__2347 rfl rfl (by decide) rfl ?_
      refine xj_goto (tgt := 23) dL_law__2350 (by decide) ?_
      cases h
      refine xj_widen (u2 := u + 120) (v2 := v + 3000) (by omega) (by omega) ?_
      refine xj_pick (ls' := [(0, vR 100 0), (1, vR 11 0), (2, vR 12 0), (3, vR 92 0), (4, vI (x4 + 10))]) [3, 4, 5, 6, 0] rfl ?_
      exact kb
    · rw [if_pos c12] at h
      refine xj_aload_n 5 dL_law__840 rfl ?_
      refine xj_iconst (z := 0) dL_law__841 (by decide) ?_
      refine xj_lald0 (z := (jL (m9 92 0 0) (m9 92 0 1))) dL_law__842 rfl ?_
      refine xj_iload 0 dL_law__843 rfl ?_
      refine xj_i2l dL_law__845 ?_
      refine xj_lcmp dL_law__846 ?_
      refine xj_if_eq (tgt := 852) dL_law__847 (by decide) (fun c13 => ?_) (fun c13 => ?_)
      · rw [if_pos c13] at h
        refine xj_goto (tgt := 2347) dL_law__852 (by decide) ?_
        refine xj_iinc (z := x4 + 10) (ls' := [(4, vI (x4 + 10)), (6, vI z10), (5, vI z3), (0, vR 100 0), (1, vR 11 0), (2, vR 12 0), (3, vR 92 0)]) 6 dL_law__2347 rfl rfl (by decide) rfl ?_
        refine xj_goto (tgt := 23) dL_law__2350 (by decide) ?_
        cases h
        refine xj_widen (u2 := u + 120) (v2 := v + 3000) (by omega) (by omega) ?_
        refine xj_pick (ls' := [(0, vR 100 0), (1, vR 11 0), (2, vR 12 0), (3, vR 92 0), (4, vI (x4 + 10))]) [3, 4, 5, 6, 0] rfl ?_
        exact kb
      · rw [if_neg c13] at h
        cases h
  · rw [if_neg c11] at h
    cases h
noncomputable def r_L_op_12 (x4 : Int32) (m : Mem) : Option Mem :=
  if inb (x4 + 1) (m 100 1 0).toNatClampNeg = true then (if inb (x4 + 2) (m 100 1 0).toNatClampNeg = true then (bd2 (r_L_pull (m 100 0 ((x4 + 1).toNatClampNeg)) (m 100 0 ((x4 + 2).toNatClampNeg)) m) fun z3 m4 => (if inb (x4 + 1) (m4 100 1 0).toNatClampNeg = true then (if inb (x4 + 2) (m4 100 1 0).toNatClampNeg = true then (bd2 (r_X12_pull (m4 100 0 ((x4 + 1).toNatClampNeg)) (m4 100 0 ((x4 + 2).toNatClampNeg)) m4) fun z10 m9 => (if (r_X12_thrown m9) = z3 then (if z3 = 0 then (if (lg_cmp (jL (m9 92 0 0) (m9 92 0 1)) z10.toInt64) = 0 then (some m9) else (none)) else (some m9)) else (none))) else none) else none)) else none) else none
set_option maxHeartbeats 4000000 in
set_option maxRecDepth 20000 in
theorem ok_L_op_12 (x4 : Int32) (m : Mem) {m1 : Mem} (h : r_L_op_12 x4 m = some m1) {u v : Nat} (hu : u + 120 ≤ 601024) (hv : v + 3000 ≤ 7293034) {o : Ou} {M' : Mem} (kb : Xj RL cL_law_ 8 (some .boolean) 2048 84000 601024 7293034 (u + 120) (v + 3000) 23 [(0, vR 100 0), (1, vR 11 0), (2, vR 12 0), (3, vR 92 0), (4, vI (x4 + 10))] [] m1 o M') : Xj RL cL_law_ 8 (some .boolean) 2048 84000 601024 7293034 u v 855 [(0, vR 100 0), (1, vR 11 0), (2, vR 12 0), (3, vR 92 0), (4, vI x4)] [] m o M' := by
  unfold r_L_op_12 at h
  refine xj_aload_n 1 dL_law__855 rfl ?_
  refine xj_aload_n 0 dL_law__856 rfl ?_
  refine xj_iload 4 dL_law__857 rfl ?_
  refine xj_iconst (z := 1) dL_law__859 (by decide) ?_
  refine xj_iadd dL_law__860 ?_
  by_cases c1 : inb (x4 + 1) (m 100 1 0).toNatClampNeg = true
  case neg => rw [if_neg c1] at h; cases h
  rw [if_pos c1] at h
  refine xg_ialdS (z := (m 100 0 ((x4 + 1).toNatClampNeg))) (n := (x4 + 1).toNatClampNeg) dL_law__861 (inb_in c1) rfl rfl ?_
  refine xj_aload_n 0 dL_law__862 rfl ?_
  refine xj_iload 4 dL_law__863 rfl ?_
  refine xj_iconst (z := 2) dL_law__865 (by decide) ?_
  refine xj_iadd dL_law__866 ?_
  by_cases c2 : inb (x4 + 2) (m 100 1 0).toNatClampNeg = true
  case neg => rw [if_neg c2] at h; cases h
  rw [if_pos c2] at h
  refine xg_ialdS (z := (m 100 0 ((x4 + 2).toNatClampNeg))) (n := (x4 + 2).toNatClampNeg) dL_law__867 (inb_in c2) rfl rfl ?_
  refine xj_aload_n 3 dL_law__868 rfl ?_
  obtain ⟨z3, m4, e5, h⟩ := bd2_some h
  refine xc_Hi (st := []) (ok_L_pull (m 100 0 ((x4 + 1).toNatClampNeg)) (m 100 0 ((x4 + 2).toNatClampNeg)) m e5) dL_law__869 ch_153 rfl rfl (Nat.le_of_ble_eq_true rfl) (by decide) (by decide) (by omega) (by omega) ?_
  refine xj_istore (ls' := [(5, vI z3), (0, vR 100 0), (1, vR 11 0), (2, vR 12 0), (3, vR 92 0), (4, vI x4)]) dL_law__872 (by decide) rfl ?_
  refine xj_aload_n 3 dL_law__874 rfl ?_
  refine xj_aload_n 1 dL_law__875 rfl ?_
  refine xj_iload 5 dL_law__876 rfl ?_
  refine xj_iconst (z := 1) dL_law__878 (by decide) ?_
  refine xj_iadd dL_law__879 ?_
  by_cases c6 : inb (x4 + 1) (m4 100 1 0).toNatClampNeg = true
  case neg => rw [if_neg c6] at h; cases h
  rw [if_pos c6] at h
  refine xg_ialdS (z := (m4 100 0 ((x4 + 1).toNatClampNeg))) (n := (x4 + 1).toNatClampNeg) dL_law__880 (inb_in c6) rfl rfl ?_
  refine xj_aload_n 1 dL_law__881 rfl ?_
  refine xj_iload 5 dL_law__882 rfl ?_
  refine xj_iconst (z := 2) dL_law__884 (by decide) ?_
  refine xj_iadd dL_law__885 ?_
  by_cases c7 : inb (x4 + 2) (m4 100 1 0).toNatClampNeg = true
  case neg => rw [if_neg c7] at h; cases h
  rw [if_pos c7] at h
  refine xg_ialdS (z := (m4 100 0 ((x4 + 2).toNatClampNeg))) (n := (x4 + 2).toNatClampNeg) dL_law__886 (inb_in c7) rfl rfl ?_
  obtain ⟨z10, m9, e8, h⟩ := bd2_some h
  refine xc_Vi0 (st := []) (ok_X12_pull (m4 100 0 ((x4 + 1).toNatClampNeg)) (m4 100 0 ((x4 + 2).toNatClampNeg)) m4 e8) dL_law__887 cv_L_155 rfl rfl (Nat.le_of_ble_eq_true rfl) (by decide) (by decide) (by omega) (by omega) ?_
  refine xj_istore (ls' := [(6, vI z10), (5, vI z3), (0, vR 100 0), (1, vR 11 0), (2, vR 12 0), (3, vR 92 0), (4, vI x4)]) dL_law__890 (by decide) rfl ?_
  refine xj_aload_n 4 dL_law__892 rfl ?_
  refine xc_Vi0 (st := []) (ok_X12_thrown m9 rfl) dL_law__893 cv_L_116 rfl rfl (Nat.le_of_ble_eq_true rfl) (by decide) (by decide) (by omega) (by omega) ?_
  refine xj_iload 1 dL_law__896 rfl ?_
  refine xj_icmp_eq (tgt := 903) dL_law__898 (by decide) (fun c11 => ?_) (fun c11 => ?_)
  · rw [if_pos c11] at h
    refine xj_iload 1 dL_law__903 rfl ?_
    refine xj_if_ne (tgt := 920) dL_law__905 (by decide) (fun c12 => ?_) (fun c12 => ?_)
    · rw [if_neg c12] at h
      refine xj_goto (tgt := 2347) dL_law__920 (by decide) ?_
      refine xj_iinc (z := x4 + 10) (ls' := [(4, vI (x4 + 10)), (6, vI z10), (5, vI z3), (0, vR 100 0), (1, vR 11 0), (2, vR 12 0), (3, vR 92 0)]) 6 dL_law__2347 rfl rfl (by decide) rfl ?_
      refine xj_goto (tgt := 23) dL_law__2350 (by decide) ?_
      cases h
      refine xj_widen (u2 := u + 120) (v2 := v + 3000) (by omega) (by omega) ?_
      refine xj_pick (ls' := [(0, vR 100 0), (1, vR 11 0), (2, vR 12 0), (3, vR 92 0), (4, vI (x4 + 10))]) [3, 4, 5, 6, 0] rfl ?_
      exact kb
    · rw [if_pos c12] at h
      refine xj_aload_n 5 dL_law__908 rfl ?_
      refine xj_iconst (z := 0) dL_law__909 (by decide) ?_
      refine xj_lald0 (z := (jL (m9 92 0 0) (m9 92 0 1))) dL_law__910 rfl ?_
      refine xj_iload 0 dL_law__911 rfl ?_
      refine xj_i2l dL_law__913 ?_
      refine xj_lcmp dL_law__914 ?_
      refine xj_if_eq (tgt := 920) dL_law__915 (by decide) (fun c13 => ?_) (fun c13 => ?_)
      · rw [if_pos c13] at h
        refine xj_goto (tgt := 2347) dL_law__920 (by decide) ?_
        refine xj_iinc (z := x4 + 10) (ls' := [(4, vI (x4 + 10)), (6, vI z10), (5, vI z3), (0, vR 100 0), (1, vR 11 0), (2, vR 12 0), (3, vR 92 0)]) 6 dL_law__2347 rfl rfl (by decide) rfl ?_
        refine xj_goto (tgt := 23) dL_law__2350 (by decide) ?_
        cases h
        refine xj_widen (u2 := u + 120) (v2 := v + 3000) (by omega) (by omega) ?_
        refine xj_pick (ls' := [(0, vR 100 0), (1, vR 11 0), (2, vR 12 0), (3, vR 92 0), (4, vI (x4 + 10))]) [3, 4, 5, 6, 0] rfl ?_
        exact kb
      · rw [if_neg c13] at h
        cases h
  · rw [if_neg c11] at h
    cases h
noncomputable def r_L_op_13 (x4 : Int32) (m : Mem) : Option Mem :=
  if inb (x4 + 1) (m 100 1 0).toNatClampNeg = true then (if inb (x4 + 2) (m 100 1 0).toNatClampNeg = true then (if inb (x4 + 3) (m 100 1 0).toNatClampNeg = true then (if inb (x4 + 4) (m 100 1 0).toNatClampNeg = true then (if inb (x4 + 5) (m 100 1 0).toNatClampNeg = true then (if inb (x4 + 6) (m 100 1 0).toNatClampNeg = true then (if inb (x4 + 7) (m 100 1 0).toNatClampNeg = true then (if inb (x4 + 8) (m 100 1 0).toNatClampNeg = true then (if inb (x4 + 9) (m 100 1 0).toNatClampNeg = true then (bd2 (r_L_would (m 100 0 ((x4 + 1).toNatClampNeg)) (m 100 0 ((x4 + 2).toNatClampNeg)) (m 100 0 ((x4 + 3).toNatClampNeg)) (m 100 0 ((x4 + 4).toNatClampNeg)) (m 100 0 ((x4 + 5).toNatClampNeg)) (m 100 0 ((x4 + 6).toNatClampNeg)) (m 100 0 ((x4 + 7).toNatClampNeg)) (m 100 0 ((x4 + 8).toNatClampNeg)) (m 100 0 ((x4 + 9).toNatClampNeg)) m) fun z10 m11 => (if inb (x4 + 1) (m11 100 1 0).toNatClampNeg = true then (if inb (x4 + 2) (m11 100 1 0).toNatClampNeg = true then (if inb (x4 + 3) (m11 100 1 0).toNatClampNeg = true then (if inb (x4 + 4) (m11 100 1 0).toNatClampNeg = true then (if inb (x4 + 5) (m11 100 1 0).toNatClampNeg = true then (if inb (x4 + 6) (m11 100 1 0).toNatClampNeg = true then (if inb (x4 + 7) (m11 100 1 0).toNatClampNeg = true then (if inb (x4 + 8) (m11 100 1 0).toNatClampNeg = true then (if inb (x4 + 9) (m11 100 1 0).toNatClampNeg = true then (bd2 (r_X12_would (m11 100 0 ((x4 + 1).toNatClampNeg)) (m11 100 0 ((x4 + 2).toNatClampNeg)) (m11 100 0 ((x4 + 3).toNatClampNeg)) (m11 100 0 ((x4 + 4).toNatClampNeg)) (m11 100 0 ((x4 + 5).toNatClampNeg)) (m11 100 0 ((x4 + 6).toNatClampNeg)) (m11 100 0 ((x4 + 7).toNatClampNeg)) (m11 100 0 ((x4 + 8).toNatClampNeg)) (m11 100 0 ((x4 + 9).toNatClampNeg)) m11) fun z24 m23 => (if (r_X12_thrown m23) = z10 then (if z10 = 0 then (if (lg_cmp (jL (m23 92 0 0) (m23 92 0 1)) z24.toInt64) = 0 then (some m23) else (none)) else (some m23)) else (none))) else none) else none) else none) else none) else none) else none) else none) else none) else none)) else none) else none) else none) else none) else none) else none) else none) else none) else none
set_option maxHeartbeats 4000000 in
set_option maxRecDepth 20000 in
theorem ok_L_op_13 (x4 : Int32) (m : Mem) {m1 : Mem} (h : r_L_op_13 x4 m = some m1) {u v : Nat} (hu : u + 120 ≤ 601024) (hv : v + 3000 ≤ 7293034) {o : Ou} {M' : Mem} (kb : Xj RL cL_law_ 8 (some .boolean) 2048 84000 601024 7293034 (u + 120) (v + 3000) 23 [(0, vR 100 0), (1, vR 11 0), (2, vR 12 0), (3, vR 92 0), (4, vI (x4 + 10))] [] m1 o M') : Xj RL cL_law_ 8 (some .boolean) 2048 84000 601024 7293034 u v 923 [(0, vR 100 0), (1, vR 11 0), (2, vR 12 0), (3, vR 92 0), (4, vI x4)] [] m o M' := by
  unfold r_L_op_13 at h
  refine xj_aload_n 1 dL_law__923 rfl ?_
  refine xj_aload_n 0 dL_law__924 rfl ?_
  refine xj_iload 4 dL_law__925 rfl ?_
  refine xj_iconst (z := 1) dL_law__927 (by decide) ?_
  refine xj_iadd dL_law__928 ?_
  by_cases c1 : inb (x4 + 1) (m 100 1 0).toNatClampNeg = true
  case neg => rw [if_neg c1] at h; cases h
  rw [if_pos c1] at h
  refine xg_ialdS (z := (m 100 0 ((x4 + 1).toNatClampNeg))) (n := (x4 + 1).toNatClampNeg) dL_law__929 (inb_in c1) rfl rfl ?_
  refine xj_aload_n 0 dL_law__930 rfl ?_
  refine xj_iload 4 dL_law__931 rfl ?_
  refine xj_iconst (z := 2) dL_law__933 (by decide) ?_
  refine xj_iadd dL_law__934 ?_
  by_cases c2 : inb (x4 + 2) (m 100 1 0).toNatClampNeg = true
  case neg => rw [if_neg c2] at h; cases h
  rw [if_pos c2] at h
  refine xg_ialdS (z := (m 100 0 ((x4 + 2).toNatClampNeg))) (n := (x4 + 2).toNatClampNeg) dL_law__935 (inb_in c2) rfl rfl ?_
  refine xj_aload_n 0 dL_law__936 rfl ?_
  refine xj_iload 4 dL_law__937 rfl ?_
  refine xj_iconst (z := 3) dL_law__939 (by decide) ?_
  refine xj_iadd dL_law__940 ?_
  by_cases c3 : inb (x4 + 3) (m 100 1 0).toNatClampNeg = true
  case neg => rw [if_neg c3] at h; cases h
  rw [if_pos c3] at h
  refine xg_ialdS (z := (m 100 0 ((x4 + 3).toNatClampNeg))) (n := (x4 + 3).toNatClampNeg) dL_law__941 (inb_in c3) rfl rfl ?_
  refine xj_aload_n 0 dL_law__942 rfl ?_
  refine xj_iload 4 dL_law__943 rfl ?_
  refine xj_iconst (z := 4) dL_law__945 (by decide) ?_
  refine xj_iadd dL_law__946 ?_
  by_cases c4 : inb (x4 + 4) (m 100 1 0).toNatClampNeg = true
  case neg => rw [if_neg c4] at h; cases h
  rw [if_pos c4] at h
  refine xg_ialdS (z := (m 100 0 ((x4 + 4).toNatClampNeg))) (n := (x4 + 4).toNatClampNeg) dL_law__947 (inb_in c4) rfl rfl ?_
  refine xj_aload_n 0 dL_law__948 rfl ?_
  refine xj_iload 4 dL_law__949 rfl ?_
  refine xj_iconst (z := 5) dL_law__951 (by decide) ?_
  refine xj_iadd dL_law__952 ?_
  by_cases c5 : inb (x4 + 5) (m 100 1 0).toNatClampNeg = true
  case neg => rw [if_neg c5] at h; cases h
  rw [if_pos c5] at h
  refine xg_ialdS (z := (m 100 0 ((x4 + 5).toNatClampNeg))) (n := (x4 + 5).toNatClampNeg) dL_law__953 (inb_in c5) rfl rfl ?_
  refine xj_aload_n 0 dL_law__954 rfl ?_
  refine xj_iload 4 dL_law__955 rfl ?_
  refine xj_bipush (z := 6) dL_law__957 (by decide) ?_
  refine xj_iadd dL_law__959 ?_
  by_cases c6 : inb (x4 + 6) (m 100 1 0).toNatClampNeg = true
  case neg => rw [if_neg c6] at h; cases h
  rw [if_pos c6] at h
  refine xg_ialdS (z := (m 100 0 ((x4 + 6).toNatClampNeg))) (n := (x4 + 6).toNatClampNeg) dL_law__960 (inb_in c6) rfl rfl ?_
  refine xj_aload_n 0 dL_law__961 rfl ?_
  refine xj_iload 4 dL_law__962 rfl ?_
  refine xj_bipush (z := 7) dL_law__964 (by decide) ?_
  refine xj_iadd dL_law__966 ?_
  by_cases c7 : inb (x4 + 7) (m 100 1 0).toNatClampNeg = true
  case neg => rw [if_neg c7] at h; cases h
  rw [if_pos c7] at h
  refine xg_ialdS (z := (m 100 0 ((x4 + 7).toNatClampNeg))) (n := (x4 + 7).toNatClampNeg) dL_law__967 (inb_in c7) rfl rfl ?_
  refine xj_aload_n 0 dL_law__968 rfl ?_
  refine xj_iload 4 dL_law__969 rfl ?_
  refine xj_bipush (z := 8) dL_law__971 (by decide) ?_
  refine xj_iadd dL_law__973 ?_
  by_cases c8 : inb (x4 + 8) (m 100 1 0).toNatClampNeg = true
  case neg => rw [if_neg c8] at h; cases h
  rw [if_pos c8] at h
  refine xg_ialdS (z := (m 100 0 ((x4 + 8).toNatClampNeg))) (n := (x4 + 8).toNatClampNeg) dL_law__974 (inb_in c8) rfl rfl ?_
  refine xj_aload_n 0 dL_law__975 rfl ?_
  refine xj_iload 4 dL_law__976 rfl ?_
  refine xj_bipush (z := 9) dL_law__978 (by decide) ?_
  refine xj_iadd dL_law__980 ?_
  by_cases c9 : inb (x4 + 9) (m 100 1 0).toNatClampNeg = true
  case neg => rw [if_neg c9] at h; cases h
  rw [if_pos c9] at h
  refine xg_ialdS (z := (m 100 0 ((x4 + 9).toNatClampNeg))) (n := (x4 + 9).toNatClampNeg) dL_law__981 (inb_in c9) rfl rfl ?_
  refine xj_aload_n 3 dL_law__982 rfl ?_
  obtain ⟨z10, m11, e12, h⟩ := bd2_some h
  refine xc_Hi (st := []) (ok_L_would (m 100 0 ((x4 + 1).toNatClampNeg)) (m 100 0 ((x4 + 2).toNatClampNeg)) (m 100 0 ((x4 + 3).toNatClampNeg)) (m 100 0 ((x4 + 4).toNatClampNeg)) (m 100 0 ((x4 + 5).toNatClampNeg)) (m 100 0 ((x4 + 6).toNatClampNeg)) (m 100 0 ((x4 + 7).toNatClampNeg)) (m 100 0 ((x4 + 8).toNatClampNeg)) (m 100 0 ((x4 + 9).toNatClampNeg)) m e12) dL_law__983 ch_156 rfl rfl (Nat.le_of_ble_eq_true rfl) (by decide) (by decide) (by omega) (by omega) ?_
  refine xj_istore (ls' := [(5, vI z10), (0, vR 100 0), (1, vR 11 0), (2, vR 12 0), (3, vR 92 0), (4, vI x4)]) dL_law__986 (by decide) rfl ?_
  refine xj_aload_n 3 dL_law__988 rfl ?_
  refine xj_aload_n 1 dL_law__989 rfl ?_
  refine xj_iload 5 dL_law__990 rfl ?_
  refine xj_iconst (z := 1) dL_law__992 (by decide) ?_
  refine xj_iadd dL_law__993 ?_
  by_cases c13 : inb (x4 + 1) (m11 100 1 0).toNatClampNeg = true
  case neg => rw [if_neg c13] at h; cases h
  rw [if_pos c13] at h
  refine xg_ialdS (z := (m11 100 0 ((x4 + 1).toNatClampNeg))) (n := (x4 + 1).toNatClampNeg) dL_law__994 (inb_in c13) rfl rfl ?_
  refine xj_aload_n 1 dL_law__995 rfl ?_
  refine xj_iload 5 dL_law__996 rfl ?_
  refine xj_iconst (z := 2) dL_law__998 (by decide) ?_
  refine xj_iadd dL_law__999 ?_
  by_cases c14 : inb (x4 + 2) (m11 100 1 0).toNatClampNeg = true
  case neg => rw [if_neg c14] at h; cases h
  rw [if_pos c14] at h
  refine xg_ialdS (z := (m11 100 0 ((x4 + 2).toNatClampNeg))) (n := (x4 + 2).toNatClampNeg) dL_law__1000 (inb_in c14) rfl rfl ?_
  refine xj_aload_n 1 dL_law__1001 rfl ?_
  refine xj_iload 5 dL_law__1002 rfl ?_
  refine xj_iconst (z := 3) dL_law__1004 (by decide) ?_
  refine xj_iadd dL_law__1005 ?_
  by_cases c15 : inb (x4 + 3) (m11 100 1 0).toNatClampNeg = true
  case neg => rw [if_neg c15] at h; cases h
  rw [if_pos c15] at h
  refine xg_ialdS (z := (m11 100 0 ((x4 + 3).toNatClampNeg))) (n := (x4 + 3).toNatClampNeg) dL_law__1006 (inb_in c15) rfl rfl ?_
  refine xj_aload_n 1 dL_law__1007 rfl ?_
  refine xj_iload 5 dL_law__1008 rfl ?_
  refine xj_iconst (z := 4) dL_law__1010 (by decide) ?_
  refine xj_iadd dL_law__1011 ?_
  by_cases c16 : inb (x4 + 4) (m11 100 1 0).toNatClampNeg = true
  case neg => rw [if_neg c16] at h; cases h
  rw [if_pos c16] at h
  refine xg_ialdS (z := (m11 100 0 ((x4 + 4).toNatClampNeg))) (n := (x4 + 4).toNatClampNeg) dL_law__1012 (inb_in c16) rfl rfl ?_
  refine xj_aload_n 1 dL_law__1013 rfl ?_
  refine xj_iload 5 dL_law__1014 rfl ?_
  refine xj_iconst (z := 5) dL_law__1016 (by decide) ?_
  refine xj_iadd dL_law__1017 ?_
  by_cases c17 : inb (x4 + 5) (m11 100 1 0).toNatClampNeg = true
  case neg => rw [if_neg c17] at h; cases h
  rw [if_pos c17] at h
  refine xg_ialdS (z := (m11 100 0 ((x4 + 5).toNatClampNeg))) (n := (x4 + 5).toNatClampNeg) dL_law__1018 (inb_in c17) rfl rfl ?_
  refine xj_aload_n 1 dL_law__1019 rfl ?_
  refine xj_iload 5 dL_law__1020 rfl ?_
  refine xj_bipush (z := 6) dL_law__1022 (by decide) ?_
  refine xj_iadd dL_law__1024 ?_
  by_cases c18 : inb (x4 + 6) (m11 100 1 0).toNatClampNeg = true
  case neg => rw [if_neg c18] at h; cases h
  rw [if_pos c18] at h
  refine xg_ialdS (z := (m11 100 0 ((x4 + 6).toNatClampNeg))) (n := (x4 + 6).toNatClampNeg) dL_law__1025 (inb_in c18) rfl rfl ?_
  refine xj_aload_n 1 dL_law__1026 rfl ?_
  refine xj_iload 5 dL_law__1027 rfl ?_
  refine xj_bipush (z := 7) dL_law__1029 (by decide) ?_
  refine xj_iadd dL_law__1031 ?_
  by_cases c19 : inb (x4 + 7) (m11 100 1 0).toNatClampNeg = true
  case neg => rw [if_neg c19] at h; cases h
  rw [if_pos c19] at h
  refine xg_ialdS (z := (m11 100 0 ((x4 + 7).toNatClampNeg))) (n := (x4 + 7).toNatClampNeg) dL_law__1032 (inb_in c19) rfl rfl ?_
  refine xj_aload_n 1 dL_law__1033 rfl ?_
  refine xj_iload 5 dL_law__1034 rfl ?_
  refine xj_bipush (z := 8) dL_law__1036 (by decide) ?_
  refine xj_iadd dL_law__1038 ?_
  by_cases c20 : inb (x4 + 8) (m11 100 1 0).toNatClampNeg = true
  case neg => rw [if_neg c20] at h; cases h
  rw [if_pos c20] at h
  refine xg_ialdS (z := (m11 100 0 ((x4 + 8).toNatClampNeg))) (n := (x4 + 8).toNatClampNeg) dL_law__1039 (inb_in c20) rfl rfl ?_
  refine xj_aload_n 1 dL_law__1040 rfl ?_
  refine xj_iload 5 dL_law__1041 rfl ?_
  refine xj_bipush (z := 9) dL_law__1043 (by decide) ?_
  refine xj_iadd dL_law__1045 ?_
  by_cases c21 : inb (x4 + 9) (m11 100 1 0).toNatClampNeg = true
  case neg => rw [if_neg c21] at h; cases h
  rw [if_pos c21] at h
  refine xg_ialdS (z := (m11 100 0 ((x4 + 9).toNatClampNeg))) (n := (x4 + 9).toNatClampNeg) dL_law__1046 (inb_in c21) rfl rfl ?_
  obtain ⟨z24, m23, e22, h⟩ := bd2_some h
  refine xc_Vi0 (st := []) (ok_X12_would (m11 100 0 ((x4 + 1).toNatClampNeg)) (m11 100 0 ((x4 + 2).toNatClampNeg)) (m11 100 0 ((x4 + 3).toNatClampNeg)) (m11 100 0 ((x4 + 4).toNatClampNeg)) (m11 100 0 ((x4 + 5).toNatClampNeg)) (m11 100 0 ((x4 + 6).toNatClampNeg)) (m11 100 0 ((x4 + 7).toNatClampNeg)) (m11 100 0 ((x4 + 8).toNatClampNeg)) (m11 100 0 ((x4 + 9).toNatClampNeg)) m11 e22) dL_law__1047 cv_L_159 rfl rfl (Nat.le_of_ble_eq_true rfl) (by decide) (by decide) (by omega) (by omega) ?_
  refine xj_istore (ls' := [(6, vI z24), (5, vI z10), (0, vR 100 0), (1, vR 11 0), (2, vR 12 0), (3, vR 92 0), (4, vI x4)]) dL_law__1050 (by decide) rfl ?_
  refine xj_aload_n 4 dL_law__1052 rfl ?_
  refine xc_Vi0 (st := []) (ok_X12_thrown m23 rfl) dL_law__1053 cv_L_116 rfl rfl (Nat.le_of_ble_eq_true rfl) (by decide) (by decide) (by omega) (by omega) ?_
  refine xj_iload 1 dL_law__1056 rfl ?_
  refine xj_icmp_eq (tgt := 1063) dL_law__1058 (by decide) (fun c25 => ?_) (fun c25 => ?_)
  · rw [if_pos c25] at h
    refine xj_iload 1 dL_law__1063 rfl ?_
    refine xj_if_ne (tgt := 1080) dL_law__1065 (by decide) (fun c26 => ?_) (fun c26 => ?_)
    · rw [if_neg c26] at h
      refine xj_goto (tgt := 2347) dL_law__1080 (by decide) ?_
      refine xj_iinc (z := x4 + 10) (ls' := [(4, vI (x4 + 10)), (6, vI z24), (5, vI z10), (0, vR 100 0), (1, vR 11 0), (2, vR 12 0), (3, vR 92 0)]) 6 dL_law__2347 rfl rfl (by decide) rfl ?_
      refine xj_goto (tgt := 23) dL_law__2350 (by decide) ?_
      cases h
      refine xj_widen (u2 := u + 120) (v2 := v + 3000) (by omega) (by omega) ?_
      refine xj_pick (ls' := [(0, vR 100 0), (1, vR 11 0), (2, vR 12 0), (3, vR 92 0), (4, vI (x4 + 10))]) [3, 4, 5, 6, 0] rfl ?_
      exact kb
    · rw [if_pos c26] at h
      refine xj_aload_n 5 dL_law__1068 rfl ?_
      refine xj_iconst (z := 0) dL_law__1069 (by decide) ?_
      refine xj_lald0 (z := (jL (m23 92 0 0) (m23 92 0 1))) dL_law__1070 rfl ?_
      refine xj_iload 0 dL_law__1071 rfl ?_
      refine xj_i2l dL_law__1073 ?_
      refine xj_lcmp dL_law__1074 ?_
      refine xj_if_eq (tgt := 1080) dL_law__1075 (by decide) (fun c27 => ?_) (fun c27 => ?_)
      · rw [if_pos c27] at h
        refine xj_goto (tgt := 2347) dL_law__1080 (by decide) ?_
        refine xj_iinc (z := x4 + 10) (ls' := [(4, vI (x4 + 10)), (6, vI z24), (5, vI z10), (0, vR 100 0), (1, vR 11 0), (2, vR 12 0), (3, vR 92 0)]) 6 dL_law__2347 rfl rfl (by decide) rfl ?_
        refine xj_goto (tgt := 23) dL_law__2350 (by decide) ?_
        cases h
        refine xj_widen (u2 := u + 120) (v2 := v + 3000) (by omega) (by omega) ?_
        refine xj_pick (ls' := [(0, vR 100 0), (1, vR 11 0), (2, vR 12 0), (3, vR 92 0), (4, vI (x4 + 10))]) [3, 4, 5, 6, 0] rfl ?_
        exact kb
      · rw [if_neg c27] at h
        cases h
  · rw [if_neg c25] at h
    cases h
noncomputable def r_L_op_14 (x4 : Int32) (m : Mem) : Option Mem :=
  if inb (x4 + 1) (m 100 1 0).toNatClampNeg = true then (bd2 (r_L_course (m 100 0 ((x4 + 1).toNatClampNeg)) m) fun z2 m3 => (if inb (x4 + 1) (m3 100 1 0).toNatClampNeg = true then (bd2 (r_X12_course (m3 100 0 ((x4 + 1).toNatClampNeg)) m3) fun z8 m7 => (if (r_X12_thrown m7) = z2 then (if z2 = 0 then (if (lg_cmp (jL (m7 92 0 0) (m7 92 0 1)) z8.toInt64) = 0 then (some m7) else (none)) else (some m7)) else (none))) else none)) else none
set_option maxHeartbeats 4000000 in
set_option maxRecDepth 20000 in
theorem ok_L_op_14 (x4 : Int32) (m : Mem) {m1 : Mem} (h : r_L_op_14 x4 m = some m1) {u v : Nat} (hu : u + 120 ≤ 601024) (hv : v + 3000 ≤ 7293034) {o : Ou} {M' : Mem} (kb : Xj RL cL_law_ 8 (some .boolean) 2048 84000 601024 7293034 (u + 120) (v + 3000) 23 [(0, vR 100 0), (1, vR 11 0), (2, vR 12 0), (3, vR 92 0), (4, vI (x4 + 10))] [] m1 o M') : Xj RL cL_law_ 8 (some .boolean) 2048 84000 601024 7293034 u v 1083 [(0, vR 100 0), (1, vR 11 0), (2, vR 12 0), (3, vR 92 0), (4, vI x4)] [] m o M' := by
  unfold r_L_op_14 at h
  refine xj_aload_n 1 dL_law__1083 rfl ?_
  refine xj_aload_n 0 dL_law__1084 rfl ?_
  refine xj_iload 4 dL_law__1085 rfl ?_
  refine xj_iconst (z := 1) dL_law__1087 (by decide) ?_
  refine xj_iadd dL_law__1088 ?_
  by_cases c1 : inb (x4 + 1) (m 100 1 0).toNatClampNeg = true
  case neg => rw [if_neg c1] at h; cases h
  rw [if_pos c1] at h
  refine xg_ialdS (z := (m 100 0 ((x4 + 1).toNatClampNeg))) (n := (x4 + 1).toNatClampNeg) dL_law__1089 (inb_in c1) rfl rfl ?_
  refine xj_aload_n 3 dL_law__1090 rfl ?_
  obtain ⟨z2, m3, e4, h⟩ := bd2_some h
  refine xc_Hi (st := []) (ok_L_course (m 100 0 ((x4 + 1).toNatClampNeg)) m e4) dL_law__1091 ch_160 rfl rfl (Nat.le_of_ble_eq_true rfl) (by decide) (by decide) (by omega) (by omega) ?_
  refine xj_istore (ls' := [(5, vI z2), (0, vR 100 0), (1, vR 11 0), (2, vR 12 0), (3, vR 92 0), (4, vI x4)]) dL_law__1094 (by decide) rfl ?_
  refine xj_aload_n 3 dL_law__1096 rfl ?_
  refine xj_aload_n 1 dL_law__1097 rfl ?_
  refine xj_iload 5 dL_law__1098 rfl ?_
  refine xj_iconst (z := 1) dL_law__1100 (by decide) ?_
  refine xj_iadd dL_law__1101 ?_
  by_cases c5 : inb (x4 + 1) (m3 100 1 0).toNatClampNeg = true
  case neg => rw [if_neg c5] at h; cases h
  rw [if_pos c5] at h
  refine xg_ialdS (z := (m3 100 0 ((x4 + 1).toNatClampNeg))) (n := (x4 + 1).toNatClampNeg) dL_law__1102 (inb_in c5) rfl rfl ?_
  obtain ⟨z8, m7, e6, h⟩ := bd2_some h
  refine xc_Vi0 (st := []) (ok_X12_course (m3 100 0 ((x4 + 1).toNatClampNeg)) m3 e6) dL_law__1103 cv_L_162 rfl rfl (Nat.le_of_ble_eq_true rfl) (by decide) (by decide) (by omega) (by omega) ?_
  refine xj_istore (ls' := [(6, vI z8), (5, vI z2), (0, vR 100 0), (1, vR 11 0), (2, vR 12 0), (3, vR 92 0), (4, vI x4)]) dL_law__1106 (by decide) rfl ?_
  refine xj_aload_n 4 dL_law__1108 rfl ?_
  refine xc_Vi0 (st := []) (ok_X12_thrown m7 rfl) dL_law__1109 cv_L_116 rfl rfl (Nat.le_of_ble_eq_true rfl) (by decide) (by decide) (by omega) (by omega) ?_
  refine xj_iload 1 dL_law__1112 rfl ?_
  refine xj_icmp_eq (tgt := 1119) dL_law__1114 (by decide) (fun c9 => ?_) (fun c9 => ?_)
  · rw [if_pos c9] at h
    refine xj_iload 1 dL_law__1119 rfl ?_
    refine xj_if_ne (tgt := 1136) dL_law__1121 (by decide) (fun c10 => ?_) (fun c10 => ?_)
    · rw [if_neg c10] at h
      refine xj_goto (tgt := 2347) dL_law__1136 (by decide) ?_
      refine xj_iinc (z := x4 + 10) (ls' := [(4, vI (x4 + 10)), (6, vI z8), (5, vI z2), (0, vR 100 0), (1, vR 11 0), (2, vR 12 0), (3, vR 92 0)]) 6 dL_law__2347 rfl rfl (by decide) rfl ?_
      refine xj_goto (tgt := 23) dL_law__2350 (by decide) ?_
      cases h
      refine xj_widen (u2 := u + 120) (v2 := v + 3000) (by omega) (by omega) ?_
      refine xj_pick (ls' := [(0, vR 100 0), (1, vR 11 0), (2, vR 12 0), (3, vR 92 0), (4, vI (x4 + 10))]) [3, 4, 5, 6, 0] rfl ?_
      exact kb
    · rw [if_pos c10] at h
      refine xj_aload_n 5 dL_law__1124 rfl ?_
      refine xj_iconst (z := 0) dL_law__1125 (by decide) ?_
      refine xj_lald0 (z := (jL (m7 92 0 0) (m7 92 0 1))) dL_law__1126 rfl ?_
      refine xj_iload 0 dL_law__1127 rfl ?_
      refine xj_i2l dL_law__1129 ?_
      refine xj_lcmp dL_law__1130 ?_
      refine xj_if_eq (tgt := 1136) dL_law__1131 (by decide) (fun c11 => ?_) (fun c11 => ?_)
      · rw [if_pos c11] at h
        refine xj_goto (tgt := 2347) dL_law__1136 (by decide) ?_
        refine xj_iinc (z := x4 + 10) (ls' := [(4, vI (x4 + 10)), (6, vI z8), (5, vI z2), (0, vR 100 0), (1, vR 11 0), (2, vR 12 0), (3, vR 92 0)]) 6 dL_law__2347 rfl rfl (by decide) rfl ?_
        refine xj_goto (tgt := 23) dL_law__2350 (by decide) ?_
        cases h
        refine xj_widen (u2 := u + 120) (v2 := v + 3000) (by omega) (by omega) ?_
        refine xj_pick (ls' := [(0, vR 100 0), (1, vR 11 0), (2, vR 12 0), (3, vR 92 0), (4, vI (x4 + 10))]) [3, 4, 5, 6, 0] rfl ?_
        exact kb
      · rw [if_neg c11] at h
        cases h
  · rw [if_neg c9] at h
    cases h
noncomputable def r_L_op_15 (x4 : Int32) (m : Mem) : Option Mem :=
  if inb (x4 + 1) (m 100 1 0).toNatClampNeg = true then (if inb (x4 + 2) (m 100 1 0).toNatClampNeg = true then (bd2 (r_L_ahead (m 100 0 ((x4 + 1).toNatClampNeg)) (m 100 0 ((x4 + 2).toNatClampNeg)) m) fun z3 m4 => (if inb (x4 + 1) (m4 100 1 0).toNatClampNeg = true then (if inb (x4 + 2) (m4 100 1 0).toNatClampNeg = true then (bd2 (r_X12_ahead (m4 100 0 ((x4 + 1).toNatClampNeg)) (m4 100 0 ((x4 + 2).toNatClampNeg)) m4) fun z10 m9 => (if (r_X12_thrown m9) = z3 then (if z3 = 0 then (if (lg_cmp (jL (m9 92 0 0) (m9 92 0 1)) z10.toInt64) = 0 then (some m9) else (none)) else (some m9)) else (none))) else none) else none)) else none) else none
set_option maxHeartbeats 4000000 in
set_option maxRecDepth 20000 in
theorem ok_L_op_15 (x4 : Int32) (m : Mem) {m1 : Mem} (h : r_L_op_15 x4 m = some m1) {u v : Nat} (hu : u + 120 ≤ 601024) (hv : v + 3000 ≤ 7293034) {o : Ou} {M' : Mem} (kb : Xj RL cL_law_ 8 (some .boolean) 2048 84000 601024 7293034 (u + 120) (v + 3000) 23 [(0, vR 100 0), (1, vR 11 0), (2, vR 12 0), (3, vR 92 0), (4, vI (x4 + 10))] [] m1 o M') : Xj RL cL_law_ 8 (some .boolean) 2048 84000 601024 7293034 u v 1139 [(0, vR 100 0), (1, vR 11 0), (2, vR 12 0), (3, vR 92 0), (4, vI x4)] [] m o M' := by
  unfold r_L_op_15 at h
  refine xj_aload_n 1 dL_law__1139 rfl ?_
  refine xj_aload_n 0 dL_law__1140 rfl ?_
  refine xj_iload 4 dL_law__1141 rfl ?_
  refine xj_iconst (z := 1) dL_law__1143 (by decide) ?_
  refine xj_iadd dL_law__1144 ?_
  by_cases c1 : inb (x4 + 1) (m 100 1 0).toNatClampNeg = true
  case neg => rw [if_neg c1] at h; cases h
  rw [if_pos c1] at h
  refine xg_ialdS (z := (m 100 0 ((x4 + 1).toNatClampNeg))) (n := (x4 + 1).toNatClampNeg) dL_law__1145 (inb_in c1) rfl rfl ?_
  refine xj_aload_n 0 dL_law__1146 rfl ?_
  refine xj_iload 4 dL_law__1147 rfl ?_
  refine xj_iconst (z := 2) dL_law__1149 (by decide) ?_
  refine xj_iadd dL_law__1150 ?_
  by_cases c2 : inb (x4 + 2) (m 100 1 0).toNatClampNeg = true
  case neg => rw [if_neg c2] at h; cases h
  rw [if_pos c2] at h
  refine xg_ialdS (z := (m 100 0 ((x4 + 2).toNatClampNeg))) (n := (x4 + 2).toNatClampNeg) dL_law__1151 (inb_in c2) rfl rfl ?_
  refine xj_aload_n 3 dL_law__1152 rfl ?_
  obtain ⟨z3, m4, e5, h⟩ := bd2_some h
  refine xc_Hi (st := []) (ok_L_ahead (m 100 0 ((x4 + 1).toNatClampNeg)) (m 100 0 ((x4 + 2).toNatClampNeg)) m e5) dL_law__1153 ch_163 rfl rfl (Nat.le_of_ble_eq_true rfl) (by decide) (by decide) (by omega) (by omega) ?_
  refine xj_istore (ls' := [(5, vI z3), (0, vR 100 0), (1, vR 11 0), (2, vR 12 0), (3, vR 92 0), (4, vI x4)]) dL_law__1156 (by decide) rfl ?_
  refine xj_aload_n 3 dL_law__1158 rfl ?_
  refine xj_aload_n 1 dL_law__1159 rfl ?_
  refine xj_iload 5 dL_law__1160 rfl ?_
  refine xj_iconst (z := 1) dL_law__1162 (by decide) ?_
  refine xj_iadd dL_law__1163 ?_
  by_cases c6 : inb (x4 + 1) (m4 100 1 0).toNatClampNeg = true
  case neg => rw [if_neg c6] at h; cases h
  rw [if_pos c6] at h
  refine xg_ialdS (z := (m4 100 0 ((x4 + 1).toNatClampNeg))) (n := (x4 + 1).toNatClampNeg) dL_law__1164 (inb_in c6) rfl rfl ?_
  refine xj_aload_n 1 dL_law__1165 rfl ?_
  refine xj_iload 5 dL_law__1166 rfl ?_
  refine xj_iconst (z := 2) dL_law__1168 (by decide) ?_
  refine xj_iadd dL_law__1169 ?_
  by_cases c7 : inb (x4 + 2) (m4 100 1 0).toNatClampNeg = true
  case neg => rw [if_neg c7] at h; cases h
  rw [if_pos c7] at h
  refine xg_ialdS (z := (m4 100 0 ((x4 + 2).toNatClampNeg))) (n := (x4 + 2).toNatClampNeg) dL_law__1170 (inb_in c7) rfl rfl ?_
  obtain ⟨z10, m9, e8, h⟩ := bd2_some h
  refine xc_Vi0 (st := []) (ok_X12_ahead (m4 100 0 ((x4 + 1).toNatClampNeg)) (m4 100 0 ((x4 + 2).toNatClampNeg)) m4 e8) dL_law__1171 cv_L_165 rfl rfl (Nat.le_of_ble_eq_true rfl) (by decide) (by decide) (by omega) (by omega) ?_
  refine xj_istore (ls' := [(6, vI z10), (5, vI z3), (0, vR 100 0), (1, vR 11 0), (2, vR 12 0), (3, vR 92 0), (4, vI x4)]) dL_law__1174 (by decide) rfl ?_
  refine xj_aload_n 4 dL_law__1176 rfl ?_
  refine xc_Vi0 (st := []) (ok_X12_thrown m9 rfl) dL_law__1177 cv_L_116 rfl rfl (Nat.le_of_ble_eq_true rfl) (by decide) (by decide) (by omega) (by omega) ?_
  refine xj_iload 1 dL_law__1180 rfl ?_
  refine xj_icmp_eq (tgt := 1187) dL_law__1182 (by decide) (fun c11 => ?_) (fun c11 => ?_)
  · rw [if_pos c11] at h
    refine xj_iload 1 dL_law__1187 rfl ?_
    refine xj_if_ne (tgt := 1204) dL_law__1189 (by decide) (fun c12 => ?_) (fun c12 => ?_)
    · rw [if_neg c12] at h
      refine xj_goto (tgt := 2347) dL_law__1204 (by decide) ?_
      refine xj_iinc (z := x4 + 10) (ls' := [(4, vI (x4 + 10)), (6, vI z10), (5, vI z3), (0, vR 100 0), (1, vR 11 0), (2, vR 12 0), (3, vR 92 0)]) 6 dL_law__2347 rfl rfl (by decide) rfl ?_
      refine xj_goto (tgt := 23) dL_law__2350 (by decide) ?_
      cases h
      refine xj_widen (u2 := u + 120) (v2 := v + 3000) (by omega) (by omega) ?_
      refine xj_pick (ls' := [(0, vR 100 0), (1, vR 11 0), (2, vR 12 0), (3, vR 92 0), (4, vI (x4 + 10))]) [3, 4, 5, 6, 0] rfl ?_
      exact kb
    · rw [if_pos c12] at h
      refine xj_aload_n 5 dL_law__1192 rfl ?_
      refine xj_iconst (z := 0) dL_law__1193 (by decide) ?_
      refine xj_lald0 (z := (jL (m9 92 0 0) (m9 92 0 1))) dL_law__1194 rfl ?_
      refine xj_iload 0 dL_law__1195 rfl ?_
      refine xj_i2l dL_law__1197 ?_
      refine xj_lcmp dL_law__1198 ?_
      refine xj_if_eq (tgt := 1204) dL_law__1199 (by decide) (fun c13 => ?_) (fun c13 => ?_)
      · rw [if_pos c13] at h
        refine xj_goto (tgt := 2347) dL_law__1204 (by decide) ?_
        refine xj_iinc (z := x4 + 10) (ls' := [(4, vI (x4 + 10)), (6, vI z10), (5, vI z3), (0, vR 100 0), (1, vR 11 0), (2, vR 12 0), (3, vR 92 0)]) 6 dL_law__2347 rfl rfl (by decide) rfl ?_
        refine xj_goto (tgt := 23) dL_law__2350 (by decide) ?_
        cases h
        refine xj_widen (u2 := u + 120) (v2 := v + 3000) (by omega) (by omega) ?_
        refine xj_pick (ls' := [(0, vR 100 0), (1, vR 11 0), (2, vR 12 0), (3, vR 92 0), (4, vI (x4 + 10))]) [3, 4, 5, 6, 0] rfl ?_
        exact kb
      · rw [if_neg c13] at h
        cases h
  · rw [if_neg c11] at h
    cases h
noncomputable def r_L_op_16 (x4 : Int32) (m : Mem) : Option Mem :=
  bd2 (r_X11_stays m) fun z3 m2 => (bd2 (r_X12_stays m2) fun z6 m5 => (if z3 = z6 then (some m5) else (none)))
set_option maxHeartbeats 4000000 in
set_option maxRecDepth 20000 in
theorem ok_L_op_16 (x4 : Int32) (m : Mem) {m1 : Mem} (h : r_L_op_16 x4 m = some m1) {u v : Nat} (hu : u + 120 ≤ 601024) (hv : v + 3000 ≤ 7293034) {o : Ou} {M' : Mem} (kb : Xj RL cL_law_ 8 (some .boolean) 2048 84000 601024 7293034 (u + 120) (v + 3000) 23 [(0, vR 100 0), (1, vR 11 0), (2, vR 12 0), (3, vR 92 0), (4, vI (x4 + 10))] [] m1 o M') : Xj RL cL_law_ 8 (some .boolean) 2048 84000 601024 7293034 u v 1207 [(0, vR 100 0), (1, vR 11 0), (2, vR 12 0), (3, vR 92 0), (4, vI x4)] [] m o M' := by
  unfold r_L_op_16 at h
  refine xj_aload_n 1 dL_law__1207 rfl ?_
  obtain ⟨z3, m2, e1, h⟩ := bd2_some h
  refine xc_Vi0 (st := []) (ok_X11_stays m e1) dL_law__1208 cv_L_166 rfl rfl (Nat.le_of_ble_eq_true rfl) (by decide) (by decide) (by omega) (by omega) ?_
  refine xj_aload_n 2 dL_law__1211 rfl ?_
  obtain ⟨z6, m5, e4, h⟩ := bd2_some h
  refine xc_Vi0 (st := [vI z3]) (ok_X12_stays m2 e4) dL_law__1212 cv_L_169 rfl rfl (Nat.le_of_ble_eq_true rfl) (by decide) (by decide) (by omega) (by omega) ?_
  refine xj_icmp_eq (tgt := 2347) dL_law__1215 (by decide) (fun c7 => ?_) (fun c7 => ?_)
  · rw [if_pos c7] at h
    refine xj_iinc (z := x4 + 10) (ls' := [(4, vI (x4 + 10)), (0, vR 100 0), (1, vR 11 0), (2, vR 12 0), (3, vR 92 0)]) 4 dL_law__2347 rfl rfl (by decide) rfl ?_
    refine xj_goto (tgt := 23) dL_law__2350 (by decide) ?_
    cases h
    refine xj_widen (u2 := u + 120) (v2 := v + 3000) (by omega) (by omega) ?_
    refine xj_pick (ls' := [(0, vR 100 0), (1, vR 11 0), (2, vR 12 0), (3, vR 92 0), (4, vI (x4 + 10))]) [1, 2, 3, 4, 0] rfl ?_
    exact kb
  · rw [if_neg c7] at h
    cases h
noncomputable def r_L_op_17 (x4 : Int32) (m : Mem) : Option Mem :=
  if inb (x4 + 1) (m 100 1 0).toNatClampNeg = true then (if inb (x4 + 2) (m 100 1 0).toNatClampNeg = true then (if inb (x4 + 3) (m 100 1 0).toNatClampNeg = true then (bd2 (r_L_tellings (m 100 0 ((x4 + 1).toNatClampNeg)) (m 100 0 ((x4 + 2).toNatClampNeg)) (m 100 0 ((x4 + 3).toNatClampNeg)) m) fun z4 m5 => (if inb (x4 + 1) (m5 100 1 0).toNatClampNeg = true then (if inb (x4 + 2) (m5 100 1 0).toNatClampNeg = true then (if inb (x4 + 3) (m5 100 1 0).toNatClampNeg = true then (bd2 (r_X12_tellings (m5 100 0 ((x4 + 1).toNatClampNeg)) (m5 100 0 ((x4 + 2).toNatClampNeg)) (m5 100 0 ((x4 + 3).toNatClampNeg)) m5) fun z12 m11 => (if (r_X12_thrown m11) = z4 then (if z4 = 0 then (if (lg_cmp (jL (m11 92 0 0) (m11 92 0 1)) z12.toInt64) = 0 then (some m11) else (none)) else (some m11)) else (none))) else none) else none) else none)) else none) else none) else none
set_option maxHeartbeats 4000000 in
set_option maxRecDepth 20000 in
theorem ok_L_op_17 (x4 : Int32) (m : Mem) {m1 : Mem} (h : r_L_op_17 x4 m = some m1) {u v : Nat} (hu : u + 120 ≤ 601024) (hv : v + 3000 ≤ 7293034) {o : Ou} {M' : Mem} (kb : Xj RL cL_law_ 8 (some .boolean) 2048 84000 601024 7293034 (u + 120) (v + 3000) 23 [(0, vR 100 0), (1, vR 11 0), (2, vR 12 0), (3, vR 92 0), (4, vI (x4 + 10))] [] m1 o M') : Xj RL cL_law_ 8 (some .boolean) 2048 84000 601024 7293034 u v 1220 [(0, vR 100 0), (1, vR 11 0), (2, vR 12 0), (3, vR 92 0), (4, vI x4)] [] m o M' := by
  unfold r_L_op_17 at h
  refine xj_aload_n 1 dL_law__1220 rfl ?_
  refine xj_aload_n 0 dL_law__1221 rfl ?_
  refine xj_iload 4 dL_law__1222 rfl ?_
  refine xj_iconst (z := 1) dL_law__1224 (by decide) ?_
  refine xj_iadd dL_law__1225 ?_
  by_cases c1 : inb (x4 + 1) (m 100 1 0).toNatClampNeg = true
  case neg => rw [if_neg c1] at h; cases h
  rw [if_pos c1] at h
  refine xg_ialdS (z := (m 100 0 ((x4 + 1).toNatClampNeg))) (n := (x4 + 1).toNatClampNeg) dL_law__1226 (inb_in c1) rfl rfl ?_
  refine xj_aload_n 0 dL_law__1227 rfl ?_
  refine xj_iload 4 dL_law__1228 rfl ?_
  refine xj_iconst (z := 2) dL_law__1230 (by decide) ?_
  refine xj_iadd dL_law__1231 ?_
  by_cases c2 : inb (x4 + 2) (m 100 1 0).toNatClampNeg = true
  case neg => rw [if_neg c2] at h; cases h
  rw [if_pos c2] at h
  refine xg_ialdS (z := (m 100 0 ((x4 + 2).toNatClampNeg))) (n := (x4 + 2).toNatClampNeg) dL_law__1232 (inb_in c2) rfl rfl ?_
  refine xj_aload_n 0 dL_law__1233 rfl ?_
  refine xj_iload 4 dL_law__1234 rfl ?_
  refine xj_iconst (z := 3) dL_law__1236 (by decide) ?_
  refine xj_iadd dL_law__1237 ?_
  by_cases c3 : inb (x4 + 3) (m 100 1 0).toNatClampNeg = true
  case neg => rw [if_neg c3] at h; cases h
  rw [if_pos c3] at h
  refine xg_ialdS (z := (m 100 0 ((x4 + 3).toNatClampNeg))) (n := (x4 + 3).toNatClampNeg) dL_law__1238 (inb_in c3) rfl rfl ?_
  refine xj_aload_n 3 dL_law__1239 rfl ?_
  obtain ⟨z4, m5, e6, h⟩ := bd2_some h
  refine xc_Hi (st := []) (ok_L_tellings (m 100 0 ((x4 + 1).toNatClampNeg)) (m 100 0 ((x4 + 2).toNatClampNeg)) (m 100 0 ((x4 + 3).toNatClampNeg)) m e6) dL_law__1240 ch_170 rfl rfl (Nat.le_of_ble_eq_true rfl) (by decide) (by decide) (by omega) (by omega) ?_
  refine xj_istore (ls' := [(5, vI z4), (0, vR 100 0), (1, vR 11 0), (2, vR 12 0), (3, vR 92 0), (4, vI x4)]) dL_law__1243 (by decide) rfl ?_
  refine xj_aload_n 3 dL_law__1245 rfl ?_
  refine xj_aload_n 1 dL_law__1246 rfl ?_
  refine xj_iload 5 dL_law__1247 rfl ?_
  refine xj_iconst (z := 1) dL_law__1249 (by decide) ?_
  refine xj_iadd dL_law__1250 ?_
  by_cases c7 : inb (x4 + 1) (m5 100 1 0).toNatClampNeg = true
  case neg => rw [if_neg c7] at h; cases h
  rw [if_pos c7] at h
  refine xg_ialdS (z := (m5 100 0 ((x4 + 1).toNatClampNeg))) (n := (x4 + 1).toNatClampNeg) dL_law__1251 (inb_in c7) rfl rfl ?_
  refine xj_aload_n 1 dL_law__1252 rfl ?_
  refine xj_iload 5 dL_law__1253 rfl ?_
  refine xj_iconst (z := 2) dL_law__1255 (by decide) ?_
  refine xj_iadd dL_law__1256 ?_
  by_cases c8 : inb (x4 + 2) (m5 100 1 0).toNatClampNeg = true
  case neg => rw [if_neg c8] at h; cases h
  rw [if_pos c8] at h
  refine xg_ialdS (z := (m5 100 0 ((x4 + 2).toNatClampNeg))) (n := (x4 + 2).toNatClampNeg) dL_law__1257 (inb_in c8) rfl rfl ?_
  refine xj_aload_n 1 dL_law__1258 rfl ?_
  refine xj_iload 5 dL_law__1259 rfl ?_
  refine xj_iconst (z := 3) dL_law__1261 (by decide) ?_
  refine xj_iadd dL_law__1262 ?_
  by_cases c9 : inb (x4 + 3) (m5 100 1 0).toNatClampNeg = true
  case neg => rw [if_neg c9] at h; cases h
  rw [if_pos c9] at h
  refine xg_ialdS (z := (m5 100 0 ((x4 + 3).toNatClampNeg))) (n := (x4 + 3).toNatClampNeg) dL_law__1263 (inb_in c9) rfl rfl ?_
  obtain ⟨z12, m11, e10, h⟩ := bd2_some h
  refine xc_Vi0 (st := []) (ok_X12_tellings (m5 100 0 ((x4 + 1).toNatClampNeg)) (m5 100 0 ((x4 + 2).toNatClampNeg)) (m5 100 0 ((x4 + 3).toNatClampNeg)) m5 e10) dL_law__1264 cv_L_173 rfl rfl (Nat.le_of_ble_eq_true rfl) (by decide) (by decide) (by omega) (by omega) ?_
  refine xj_istore (ls' := [(6, vI z12), (5, vI z4), (0, vR 100 0), (1, vR 11 0), (2, vR 12 0), (3, vR 92 0), (4, vI x4)]) dL_law__1267 (by decide) rfl ?_
  refine xj_aload_n 4 dL_law__1269 rfl ?_
  refine xc_Vi0 (st := []) (ok_X12_thrown m11 rfl) dL_law__1270 cv_L_116 rfl rfl (Nat.le_of_ble_eq_true rfl) (by decide) (by decide) (by omega) (by omega) ?_
  refine xj_iload 1 dL_law__1273 rfl ?_
  refine xj_icmp_eq (tgt := 1280) dL_law__1275 (by decide) (fun c13 => ?_) (fun c13 => ?_)
  · rw [if_pos c13] at h
    refine xj_iload 1 dL_law__1280 rfl ?_
    refine xj_if_ne (tgt := 1297) dL_law__1282 (by decide) (fun c14 => ?_) (fun c14 => ?_)
    · rw [if_neg c14] at h
      refine xj_goto (tgt := 2347) dL_law__1297 (by decide) ?_
      refine xj_iinc (z := x4 + 10) (ls' := [(4, vI (x4 + 10)), (6, vI z12), (5, vI z4), (0, vR 100 0), (1, vR 11 0), (2, vR 12 0), (3, vR 92 0)]) 6 dL_law__2347 rfl rfl (by decide) rfl ?_
      refine xj_goto (tgt := 23) dL_law__2350 (by decide) ?_
      cases h
      refine xj_widen (u2 := u + 120) (v2 := v + 3000) (by omega) (by omega) ?_
      refine xj_pick (ls' := [(0, vR 100 0), (1, vR 11 0), (2, vR 12 0), (3, vR 92 0), (4, vI (x4 + 10))]) [3, 4, 5, 6, 0] rfl ?_
      exact kb
    · rw [if_pos c14] at h
      refine xj_aload_n 5 dL_law__1285 rfl ?_
      refine xj_iconst (z := 0) dL_law__1286 (by decide) ?_
      refine xj_lald0 (z := (jL (m11 92 0 0) (m11 92 0 1))) dL_law__1287 rfl ?_
      refine xj_iload 0 dL_law__1288 rfl ?_
      refine xj_i2l dL_law__1290 ?_
      refine xj_lcmp dL_law__1291 ?_
      refine xj_if_eq (tgt := 1297) dL_law__1292 (by decide) (fun c15 => ?_) (fun c15 => ?_)
      · rw [if_pos c15] at h
        refine xj_goto (tgt := 2347) dL_law__1297 (by decide) ?_
        refine xj_iinc (z := x4 + 10) (ls' := [(4, vI (x4 + 10)), (6, vI z12), (5, vI z4), (0, vR 100 0), (1, vR 11 0), (2, vR 12 0), (3, vR 92 0)]) 6 dL_law__2347 rfl rfl (by decide) rfl ?_
        refine xj_goto (tgt := 23) dL_law__2350 (by decide) ?_
        cases h
        refine xj_widen (u2 := u + 120) (v2 := v + 3000) (by omega) (by omega) ?_
        refine xj_pick (ls' := [(0, vR 100 0), (1, vR 11 0), (2, vR 12 0), (3, vR 92 0), (4, vI (x4 + 10))]) [3, 4, 5, 6, 0] rfl ?_
        exact kb
      · rw [if_neg c15] at h
        cases h
  · rw [if_neg c13] at h
    cases h
noncomputable def r_L_op_18 (x4 : Int32) (m : Mem) : Option Mem :=
  if inb (x4 + 1) (m 100 1 0).toNatClampNeg = true then (bd2 (r_L_silence (m 100 0 ((x4 + 1).toNatClampNeg)) m) fun z2 m3 => (if inb (x4 + 1) (m3 100 1 0).toNatClampNeg = true then (bd2 (r_X12_silence (m3 100 0 ((x4 + 1).toNatClampNeg)) m3) fun z8 m7 => (if (r_X12_thrown m7) = z2 then (if z2 = 0 then (if (lg_cmp (jL (m7 92 0 0) (m7 92 0 1)) z8.toInt64) = 0 then (some m7) else (none)) else (some m7)) else (none))) else none)) else none
set_option maxHeartbeats 4000000 in
set_option maxRecDepth 20000 in
theorem ok_L_op_18 (x4 : Int32) (m : Mem) {m1 : Mem} (h : r_L_op_18 x4 m = some m1) {u v : Nat} (hu : u + 120 ≤ 601024) (hv : v + 3000 ≤ 7293034) {o : Ou} {M' : Mem} (kb : Xj RL cL_law_ 8 (some .boolean) 2048 84000 601024 7293034 (u + 120) (v + 3000) 23 [(0, vR 100 0), (1, vR 11 0), (2, vR 12 0), (3, vR 92 0), (4, vI (x4 + 10))] [] m1 o M') : Xj RL cL_law_ 8 (some .boolean) 2048 84000 601024 7293034 u v 1300 [(0, vR 100 0), (1, vR 11 0), (2, vR 12 0), (3, vR 92 0), (4, vI x4)] [] m o M' := by
  unfold r_L_op_18 at h
  refine xj_aload_n 1 dL_law__1300 rfl ?_
  refine xj_aload_n 0 dL_law__1301 rfl ?_
  refine xj_iload 4 dL_law__1302 rfl ?_
  refine xj_iconst (z := 1) dL_law__1304 (by decide) ?_
  refine xj_iadd dL_law__1305 ?_
  by_cases c1 : inb (x4 + 1) (m 100 1 0).toNatClampNeg = true
  case neg => rw [if_neg c1] at h; cases h
  rw [if_pos c1] at h
  refine xg_ialdS (z := (m 100 0 ((x4 + 1).toNatClampNeg))) (n := (x4 + 1).toNatClampNeg) dL_law__1306 (inb_in c1) rfl rfl ?_
  refine xj_aload_n 3 dL_law__1307 rfl ?_
  obtain ⟨z2, m3, e4, h⟩ := bd2_some h
  refine xc_Hi (st := []) (ok_L_silence (m 100 0 ((x4 + 1).toNatClampNeg)) m e4) dL_law__1308 ch_174 rfl rfl (Nat.le_of_ble_eq_true rfl) (by decide) (by decide) (by omega) (by omega) ?_
  refine xj_istore (ls' := [(5, vI z2), (0, vR 100 0), (1, vR 11 0), (2, vR 12 0), (3, vR 92 0), (4, vI x4)]) dL_law__1311 (by decide) rfl ?_
  refine xj_aload_n 3 dL_law__1313 rfl ?_
  refine xj_aload_n 1 dL_law__1314 rfl ?_
  refine xj_iload 5 dL_law__1315 rfl ?_
  refine xj_iconst (z := 1) dL_law__1317 (by decide) ?_
  refine xj_iadd dL_law__1318 ?_
  by_cases c5 : inb (x4 + 1) (m3 100 1 0).toNatClampNeg = true
  case neg => rw [if_neg c5] at h; cases h
  rw [if_pos c5] at h
  refine xg_ialdS (z := (m3 100 0 ((x4 + 1).toNatClampNeg))) (n := (x4 + 1).toNatClampNeg) dL_law__1319 (inb_in c5) rfl rfl ?_
  obtain ⟨z8, m7, e6, h⟩ := bd2_some h
  refine xc_Vi0 (st := []) (ok_X12_silence (m3 100 0 ((x4 + 1).toNatClampNeg)) m3 e6) dL_law__1320 cv_L_176 rfl rfl (Nat.le_of_ble_eq_true rfl) (by decide) (by decide) (by omega) (by omega) ?_
  refine xj_istore (ls' := [(6, vI z8), (5, vI z2), (0, vR 100 0), (1, vR 11 0), (2, vR 12 0), (3, vR 92 0), (4, vI x4)]) dL_law__1323 (by decide) rfl ?_
  refine xj_aload_n 4 dL_law__1325 rfl ?_
  refine xc_Vi0 (st := []) (ok_X12_thrown m7 rfl) dL_law__1326 cv_L_116 rfl rfl (Nat.le_of_ble_eq_true rfl) (by decide) (by decide) (by omega) (by omega) ?_
  refine xj_iload 1 dL_law__1329 rfl ?_
  refine xj_icmp_eq (tgt := 1336) dL_law__1331 (by decide) (fun c9 => ?_) (fun c9 => ?_)
  · rw [if_pos c9] at h
    refine xj_iload 1 dL_law__1336 rfl ?_
    refine xj_if_ne (tgt := 1353) dL_law__1338 (by decide) (fun c10 => ?_) (fun c10 => ?_)
    · rw [if_neg c10] at h
      refine xj_goto (tgt := 2347) dL_law__1353 (by decide) ?_
      refine xj_iinc (z := x4 + 10) (ls' := [(4, vI (x4 + 10)), (6, vI z8), (5, vI z2), (0, vR 100 0), (1, vR 11 0), (2, vR 12 0), (3, vR 92 0)]) 6 dL_law__2347 rfl rfl (by decide) rfl ?_
      refine xj_goto (tgt := 23) dL_law__2350 (by decide) ?_
      cases h
      refine xj_widen (u2 := u + 120) (v2 := v + 3000) (by omega) (by omega) ?_
      refine xj_pick (ls' := [(0, vR 100 0), (1, vR 11 0), (2, vR 12 0), (3, vR 92 0), (4, vI (x4 + 10))]) [3, 4, 5, 6, 0] rfl ?_
      exact kb
    · rw [if_pos c10] at h
      refine xj_aload_n 5 dL_law__1341 rfl ?_
      refine xj_iconst (z := 0) dL_law__1342 (by decide) ?_
      refine xj_lald0 (z := (jL (m7 92 0 0) (m7 92 0 1))) dL_law__1343 rfl ?_
      refine xj_iload 0 dL_law__1344 rfl ?_
      refine xj_i2l dL_law__1346 ?_
      refine xj_lcmp dL_law__1347 ?_
      refine xj_if_eq (tgt := 1353) dL_law__1348 (by decide) (fun c11 => ?_) (fun c11 => ?_)
      · rw [if_pos c11] at h
        refine xj_goto (tgt := 2347) dL_law__1353 (by decide) ?_
        refine xj_iinc (z := x4 + 10) (ls' := [(4, vI (x4 + 10)), (6, vI z8), (5, vI z2), (0, vR 100 0), (1, vR 11 0), (2, vR 12 0), (3, vR 92 0)]) 6 dL_law__2347 rfl rfl (by decide) rfl ?_
        refine xj_goto (tgt := 23) dL_law__2350 (by decide) ?_
        cases h
        refine xj_widen (u2 := u + 120) (v2 := v + 3000) (by omega) (by omega) ?_
        refine xj_pick (ls' := [(0, vR 100 0), (1, vR 11 0), (2, vR 12 0), (3, vR 92 0), (4, vI (x4 + 10))]) [3, 4, 5, 6, 0] rfl ?_
        exact kb
      · rw [if_neg c11] at h
        cases h
  · rw [if_neg c9] at h
    cases h
noncomputable def r_L_op_19 (x4 : Int32) (m : Mem) : Option Mem :=
  if inb (x4 + 1) (m 100 1 0).toNatClampNeg = true then (bd2 (r_L_who (m 100 0 ((x4 + 1).toNatClampNeg)) m) fun z2 m3 => (if inb (x4 + 1) (m3 100 1 0).toNatClampNeg = true then (bd2 (r_X12_who (m3 100 0 ((x4 + 1).toNatClampNeg)) m3) fun z8 m7 => (if (r_X12_thrown m7) = z2 then (if z2 = 0 then (if (lg_cmp (jL (m7 92 0 0) (m7 92 0 1)) z8.toInt64) = 0 then (some m7) else (none)) else (some m7)) else (none))) else none)) else none
set_option maxHeartbeats 4000000 in
set_option maxRecDepth 20000 in
theorem ok_L_op_19 (x4 : Int32) (m : Mem) {m1 : Mem} (h : r_L_op_19 x4 m = some m1) {u v : Nat} (hu : u + 120 ≤ 601024) (hv : v + 3000 ≤ 7293034) {o : Ou} {M' : Mem} (kb : Xj RL cL_law_ 8 (some .boolean) 2048 84000 601024 7293034 (u + 120) (v + 3000) 23 [(0, vR 100 0), (1, vR 11 0), (2, vR 12 0), (3, vR 92 0), (4, vI (x4 + 10))] [] m1 o M') : Xj RL cL_law_ 8 (some .boolean) 2048 84000 601024 7293034 u v 1356 [(0, vR 100 0), (1, vR 11 0), (2, vR 12 0), (3, vR 92 0), (4, vI x4)] [] m o M' := by
  unfold r_L_op_19 at h
  refine xj_aload_n 1 dL_law__1356 rfl ?_
  refine xj_aload_n 0 dL_law__1357 rfl ?_
  refine xj_iload 4 dL_law__1358 rfl ?_
  refine xj_iconst (z := 1) dL_law__1360 (by decide) ?_
  refine xj_iadd dL_law__1361 ?_
  by_cases c1 : inb (x4 + 1) (m 100 1 0).toNatClampNeg = true
  case neg => rw [if_neg c1] at h; cases h
  rw [if_pos c1] at h
  refine xg_ialdS (z := (m 100 0 ((x4 + 1).toNatClampNeg))) (n := (x4 + 1).toNatClampNeg) dL_law__1362 (inb_in c1) rfl rfl ?_
  refine xj_aload_n 3 dL_law__1363 rfl ?_
  obtain ⟨z2, m3, e4, h⟩ := bd2_some h
  refine xc_Hi (st := []) (ok_L_who (m 100 0 ((x4 + 1).toNatClampNeg)) m e4) dL_law__1364 ch_177 rfl rfl (Nat.le_of_ble_eq_true rfl) (by decide) (by decide) (by omega) (by omega) ?_
  refine xj_istore (ls' := [(5, vI z2), (0, vR 100 0), (1, vR 11 0), (2, vR 12 0), (3, vR 92 0), (4, vI x4)]) dL_law__1367 (by decide) rfl ?_
  refine xj_aload_n 3 dL_law__1369 rfl ?_
  refine xj_aload_n 1 dL_law__1370 rfl ?_
  refine xj_iload 5 dL_law__1371 rfl ?_
  refine xj_iconst (z := 1) dL_law__1373 (by decide) ?_
  refine xj_iadd dL_law__1374 ?_
  by_cases c5 : inb (x4 + 1) (m3 100 1 0).toNatClampNeg = true
  case neg => rw [if_neg c5] at h; cases h
  rw [if_pos c5] at h
  refine xg_ialdS (z := (m3 100 0 ((x4 + 1).toNatClampNeg))) (n := (x4 + 1).toNatClampNeg) dL_law__1375 (inb_in c5) rfl rfl ?_
  obtain ⟨z8, m7, e6, h⟩ := bd2_some h
  refine xc_Vi0 (st := []) (ok_X12_who (m3 100 0 ((x4 + 1).toNatClampNeg)) m3 e6) dL_law__1376 cv_L_179 rfl rfl (Nat.le_of_ble_eq_true rfl) (by decide) (by decide) (by omega) (by omega) ?_
  refine xj_istore (ls' := [(6, vI z8), (5, vI z2), (0, vR 100 0), (1, vR 11 0), (2, vR 12 0), (3, vR 92 0), (4, vI x4)]) dL_law__1379 (by decide) rfl ?_
  refine xj_aload_n 4 dL_law__1381 rfl ?_
  refine xc_Vi0 (st := []) (ok_X12_thrown m7 rfl) dL_law__1382 cv_L_116 rfl rfl (Nat.le_of_ble_eq_true rfl) (by decide) (by decide) (by omega) (by omega) ?_
  refine xj_iload 1 dL_law__1385 rfl ?_
  refine xj_icmp_eq (tgt := 1392) dL_law__1387 (by decide) (fun c9 => ?_) (fun c9 => ?_)
  · rw [if_pos c9] at h
    refine xj_iload 1 dL_law__1392 rfl ?_
    refine xj_if_ne (tgt := 1409) dL_law__1394 (by decide) (fun c10 => ?_) (fun c10 => ?_)
    · rw [if_neg c10] at h
      refine xj_goto (tgt := 2347) dL_law__1409 (by decide) ?_
      refine xj_iinc (z := x4 + 10) (ls' := [(4, vI (x4 + 10)), (6, vI z8), (5, vI z2), (0, vR 100 0), (1, vR 11 0), (2, vR 12 0), (3, vR 92 0)]) 6 dL_law__2347 rfl rfl (by decide) rfl ?_
      refine xj_goto (tgt := 23) dL_law__2350 (by decide) ?_
      cases h
      refine xj_widen (u2 := u + 120) (v2 := v + 3000) (by omega) (by omega) ?_
      refine xj_pick (ls' := [(0, vR 100 0), (1, vR 11 0), (2, vR 12 0), (3, vR 92 0), (4, vI (x4 + 10))]) [3, 4, 5, 6, 0] rfl ?_
      exact kb
    · rw [if_pos c10] at h
      refine xj_aload_n 5 dL_law__1397 rfl ?_
      refine xj_iconst (z := 0) dL_law__1398 (by decide) ?_
      refine xj_lald0 (z := (jL (m7 92 0 0) (m7 92 0 1))) dL_law__1399 rfl ?_
      refine xj_iload 0 dL_law__1400 rfl ?_
      refine xj_i2l dL_law__1402 ?_
      refine xj_lcmp dL_law__1403 ?_
      refine xj_if_eq (tgt := 1409) dL_law__1404 (by decide) (fun c11 => ?_) (fun c11 => ?_)
      · rw [if_pos c11] at h
        refine xj_goto (tgt := 2347) dL_law__1409 (by decide) ?_
        refine xj_iinc (z := x4 + 10) (ls' := [(4, vI (x4 + 10)), (6, vI z8), (5, vI z2), (0, vR 100 0), (1, vR 11 0), (2, vR 12 0), (3, vR 92 0)]) 6 dL_law__2347 rfl rfl (by decide) rfl ?_
        refine xj_goto (tgt := 23) dL_law__2350 (by decide) ?_
        cases h
        refine xj_widen (u2 := u + 120) (v2 := v + 3000) (by omega) (by omega) ?_
        refine xj_pick (ls' := [(0, vR 100 0), (1, vR 11 0), (2, vR 12 0), (3, vR 92 0), (4, vI (x4 + 10))]) [3, 4, 5, 6, 0] rfl ?_
        exact kb
      · rw [if_neg c11] at h
        cases h
  · rw [if_neg c9] at h
    cases h
noncomputable def r_L_op_20 (x4 : Int32) (m : Mem) : Option Mem :=
  if inb (x4 + 1) (m 100 1 0).toNatClampNeg = true then (bd2 (r_L_look (m 100 0 ((x4 + 1).toNatClampNeg)) m) fun z2 m3 => (if inb (x4 + 1) (m3 100 1 0).toNatClampNeg = true then (bd2 (r_X12_look (m3 100 0 ((x4 + 1).toNatClampNeg)) m3) fun z8 m7 => (if (r_X12_thrown m7) = z2 then (if z2 = 0 then (if (lg_cmp (jL (m7 92 0 0) (m7 92 0 1)) z8.toInt64) = 0 then (some m7) else (none)) else (some m7)) else (none))) else none)) else none
set_option maxHeartbeats 4000000 in
set_option maxRecDepth 20000 in
theorem ok_L_op_20 (x4 : Int32) (m : Mem) {m1 : Mem} (h : r_L_op_20 x4 m = some m1) {u v : Nat} (hu : u + 120 ≤ 601024) (hv : v + 3000 ≤ 7293034) {o : Ou} {M' : Mem} (kb : Xj RL cL_law_ 8 (some .boolean) 2048 84000 601024 7293034 (u + 120) (v + 3000) 23 [(0, vR 100 0), (1, vR 11 0), (2, vR 12 0), (3, vR 92 0), (4, vI (x4 + 10))] [] m1 o M') : Xj RL cL_law_ 8 (some .boolean) 2048 84000 601024 7293034 u v 1412 [(0, vR 100 0), (1, vR 11 0), (2, vR 12 0), (3, vR 92 0), (4, vI x4)] [] m o M' := by
  unfold r_L_op_20 at h
  refine xj_aload_n 1 dL_law__1412 rfl ?_
  refine xj_aload_n 0 dL_law__1413 rfl ?_
  refine xj_iload 4 dL_law__1414 rfl ?_
  refine xj_iconst (z := 1) dL_law__1416 (by decide) ?_
  refine xj_iadd dL_law__1417 ?_
  by_cases c1 : inb (x4 + 1) (m 100 1 0).toNatClampNeg = true
  case neg => rw [if_neg c1] at h; cases h
  rw [if_pos c1] at h
  refine xg_ialdS (z := (m 100 0 ((x4 + 1).toNatClampNeg))) (n := (x4 + 1).toNatClampNeg) dL_law__1418 (inb_in c1) rfl rfl ?_
  refine xj_aload_n 3 dL_law__1419 rfl ?_
  obtain ⟨z2, m3, e4, h⟩ := bd2_some h
  refine xc_Hi (st := []) (ok_L_look (m 100 0 ((x4 + 1).toNatClampNeg)) m e4) dL_law__1420 ch_180 rfl rfl (Nat.le_of_ble_eq_true rfl) (by decide) (by decide) (by omega) (by omega) ?_
  refine xj_istore (ls' := [(5, vI z2), (0, vR 100 0), (1, vR 11 0), (2, vR 12 0), (3, vR 92 0), (4, vI x4)]) dL_law__1423 (by decide) rfl ?_
  refine xj_aload_n 3 dL_law__1425 rfl ?_
  refine xj_aload_n 1 dL_law__1426 rfl ?_
  refine xj_iload 5 dL_law__1427 rfl ?_
  refine xj_iconst (z := 1) dL_law__1429 (by decide) ?_
  refine xj_iadd dL_law__1430 ?_
  by_cases c5 : inb (x4 + 1) (m3 100 1 0).toNatClampNeg = true
  case neg => rw [if_neg c5] at h; cases h
  rw [if_pos c5] at h
  refine xg_ialdS (z := (m3 100 0 ((x4 + 1).toNatClampNeg))) (n := (x4 + 1).toNatClampNeg) dL_law__1431 (inb_in c5) rfl rfl ?_
  obtain ⟨z8, m7, e6, h⟩ := bd2_some h
  refine xc_Vi0 (st := []) (ok_X12_look (m3 100 0 ((x4 + 1).toNatClampNeg)) m3 e6) dL_law__1432 cv_L_182 rfl rfl (Nat.le_of_ble_eq_true rfl) (by decide) (by decide) (by omega) (by omega) ?_
  refine xj_istore (ls' := [(6, vI z8), (5, vI z2), (0, vR 100 0), (1, vR 11 0), (2, vR 12 0), (3, vR 92 0), (4, vI x4)]) dL_law__1435 (by decide) rfl ?_
  refine xj_aload_n 4 dL_law__1437 rfl ?_
  refine xc_Vi0 (st := []) (ok_X12_thrown m7 rfl) dL_law__1438 cv_L_116 rfl rfl (Nat.le_of_ble_eq_true rfl) (by decide) (by decide) (by omega) (by omega) ?_
  refine xj_iload 1 dL_law__1441 rfl ?_
  refine xj_icmp_eq (tgt := 1448) dL_law__1443 (by decide) (fun c9 => ?_) (fun c9 => ?_)
  · rw [if_pos c9] at h
    refine xj_iload 1 dL_law__1448 rfl ?_
    refine xj_if_ne (tgt := 1465) dL_law__1450 (by decide) (fun c10 => ?_) (fun c10 => ?_)
    · rw [if_neg c10] at h
      refine xj_goto (tgt := 2347) dL_law__1465 (by decide) ?_
      refine xj_iinc (z := x4 + 10) (ls' := [(4, vI (x4 + 10)), (6, vI z8), (5, vI z2), (0, vR 100 0), (1, vR 11 0), (2, vR 12 0), (3, vR 92 0)]) 6 dL_law__2347 rfl rfl (by decide) rfl ?_
      refine xj_goto (tgt := 23) dL_law__2350 (by decide) ?_
      cases h
      refine xj_widen (u2 := u + 120) (v2 := v + 3000) (by omega) (by omega) ?_
      refine xj_pick (ls' := [(0, vR 100 0), (1, vR 11 0), (2, vR 12 0), (3, vR 92 0), (4, vI (x4 + 10))]) [3, 4, 5, 6, 0] rfl ?_
      exact kb
    · rw [if_pos c10] at h
      refine xj_aload_n 5 dL_law__1453 rfl ?_
      refine xj_iconst (z := 0) dL_law__1454 (by decide) ?_
      refine xj_lald0 (z := (jL (m7 92 0 0) (m7 92 0 1))) dL_law__1455 rfl ?_
      refine xj_iload 0 dL_law__1456 rfl ?_
      refine xj_i2l dL_law__1458 ?_
      refine xj_lcmp dL_law__1459 ?_
      refine xj_if_eq (tgt := 1465) dL_law__1460 (by decide) (fun c11 => ?_) (fun c11 => ?_)
      · rw [if_pos c11] at h
        refine xj_goto (tgt := 2347) dL_law__1465 (by decide) ?_
        refine xj_iinc (z := x4 + 10) (ls' := [(4, vI (x4 + 10)), (6, vI z8), (5, vI z2), (0, vR 100 0), (1, vR 11 0), (2, vR 12 0), (3, vR 92 0)]) 6 dL_law__2347 rfl rfl (by decide) rfl ?_
        refine xj_goto (tgt := 23) dL_law__2350 (by decide) ?_
        cases h
        refine xj_widen (u2 := u + 120) (v2 := v + 3000) (by omega) (by omega) ?_
        refine xj_pick (ls' := [(0, vR 100 0), (1, vR 11 0), (2, vR 12 0), (3, vR 92 0), (4, vI (x4 + 10))]) [3, 4, 5, 6, 0] rfl ?_
        exact kb
      · rw [if_neg c11] at h
        cases h
  · rw [if_neg c9] at h
    cases h
noncomputable def r_L_op_21 (x4 : Int32) (m : Mem) : Option Mem :=
  if inb (x4 + 1) (m 100 1 0).toNatClampNeg = true then (if inb (x4 + 2) (m 100 1 0).toNatClampNeg = true then (bd2 (r_L_digs (m 100 0 ((x4 + 1).toNatClampNeg)) (m 100 0 ((x4 + 2).toNatClampNeg)) m) fun z3 m4 => (if inb (x4 + 1) (m4 100 1 0).toNatClampNeg = true then (if inb (x4 + 2) (m4 100 1 0).toNatClampNeg = true then (bd2 (r_X12_digs (m4 100 0 ((x4 + 1).toNatClampNeg)) (m4 100 0 ((x4 + 2).toNatClampNeg)) m4) fun z10 m9 => (if (r_X12_thrown m9) = z3 then (if z3 = 0 then (if (lg_cmp (jL (m9 92 0 0) (m9 92 0 1)) z10.toInt64) = 0 then (some m9) else (none)) else (some m9)) else (none))) else none) else none)) else none) else none
set_option maxHeartbeats 4000000 in
set_option maxRecDepth 20000 in
theorem ok_L_op_21 (x4 : Int32) (m : Mem) {m1 : Mem} (h : r_L_op_21 x4 m = some m1) {u v : Nat} (hu : u + 120 ≤ 601024) (hv : v + 3000 ≤ 7293034) {o : Ou} {M' : Mem} (kb : Xj RL cL_law_ 8 (some .boolean) 2048 84000 601024 7293034 (u + 120) (v + 3000) 23 [(0, vR 100 0), (1, vR 11 0), (2, vR 12 0), (3, vR 92 0), (4, vI (x4 + 10))] [] m1 o M') : Xj RL cL_law_ 8 (some .boolean) 2048 84000 601024 7293034 u v 1468 [(0, vR 100 0), (1, vR 11 0), (2, vR 12 0), (3, vR 92 0), (4, vI x4)] [] m o M' := by
  unfold r_L_op_21 at h
  refine xj_aload_n 1 dL_law__1468 rfl ?_
  refine xj_aload_n 0 dL_law__1469 rfl ?_
  refine xj_iload 4 dL_law__1470 rfl ?_
  refine xj_iconst (z := 1) dL_law__1472 (by decide) ?_
  refine xj_iadd dL_law__1473 ?_
  by_cases c1 : inb (x4 + 1) (m 100 1 0).toNatClampNeg = true
  case neg => rw [if_neg c1] at h; cases h
  rw [if_pos c1] at h
  refine xg_ialdS (z := (m 100 0 ((x4 + 1).toNatClampNeg))) (n := (x4 + 1).toNatClampNeg) dL_law__1474 (inb_in c1) rfl rfl ?_
  refine xj_aload_n 0 dL_law__1475 rfl ?_
  refine xj_iload 4 dL_law__1476 rfl ?_
  refine xj_iconst (z := 2) dL_law__1478 (by decide) ?_
  refine xj_iadd dL_law__1479 ?_
  by_cases c2 : inb (x4 + 2) (m 100 1 0).toNatClampNeg = true
  case neg => rw [if_neg c2] at h; cases h
  rw [if_pos c2] at h
  refine xg_ialdS (z := (m 100 0 ((x4 + 2).toNatClampNeg))) (n := (x4 + 2).toNatClampNeg) dL_law__1480 (inb_in c2) rfl rfl ?_
  refine xj_aload_n 3 dL_law__1481 rfl ?_
  obtain ⟨z3, m4, e5, h⟩ := bd2_some h
  refine xc_Hi (st := []) (ok_L_digs (m 100 0 ((x4 + 1).toNatClampNeg)) (m 100 0 ((x4 + 2).toNatClampNeg)) m e5) dL_law__1482 ch_183 rfl rfl (Nat.le_of_ble_eq_true rfl) (by decide) (by decide) (by omega) (by omega) ?_
  refine xj_istore (ls' := [(5, vI z3), (0, vR 100 0), (1, vR 11 0), (2, vR 12 0), (3, vR 92 0), (4, vI x4)]) dL_law__1485 (by decide) rfl ?_
  refine xj_aload_n 3 dL_law__1487 rfl ?_
  refine xj_aload_n 1 dL_law__1488 rfl ?_
  refine xj_iload 5 dL_law__1489 rfl ?_
  refine xj_iconst (z := 1) dL_law__1491 (by decide) ?_
  refine xj_iadd dL_law__1492 ?_
  by_cases c6 : inb (x4 + 1) (m4 100 1 0).toNatClampNeg = true
  case neg => rw [if_neg c6] at h; cases h
  rw [if_pos c6] at h
  refine xg_ialdS (z := (m4 100 0 ((x4 + 1).toNatClampNeg))) (n := (x4 + 1).toNatClampNeg) dL_law__1493 (inb_in c6) rfl rfl ?_
  refine xj_aload_n 1 dL_law__1494 rfl ?_
  refine xj_iload 5 dL_law__1495 rfl ?_
  refine xj_iconst (z := 2) dL_law__1497 (by decide) ?_
  refine xj_iadd dL_law__1498 ?_
  by_cases c7 : inb (x4 + 2) (m4 100 1 0).toNatClampNeg = true
  case neg => rw [if_neg c7] at h; cases h
  rw [if_pos c7] at h
  refine xg_ialdS (z := (m4 100 0 ((x4 + 2).toNatClampNeg))) (n := (x4 + 2).toNatClampNeg) dL_law__1499 (inb_in c7) rfl rfl ?_
  obtain ⟨z10, m9, e8, h⟩ := bd2_some h
  refine xc_Vi0 (st := []) (ok_X12_digs (m4 100 0 ((x4 + 1).toNatClampNeg)) (m4 100 0 ((x4 + 2).toNatClampNeg)) m4 e8) dL_law__1500 cv_L_185 rfl rfl (Nat.le_of_ble_eq_true rfl) (by decide) (by decide) (by omega) (by omega) ?_
  refine xj_istore (ls' := [(6, vI z10), (5, vI z3), (0, vR 100 0), (1, vR 11 0), (2, vR 12 0), (3, vR 92 0), (4, vI x4)]) dL_law__1503 (by decide) rfl ?_
  refine xj_aload_n 4 dL_law__1505 rfl ?_
  refine xc_Vi0 (st := []) (ok_X12_thrown m9 rfl) dL_law__1506 cv_L_116 rfl rfl (Nat.le_of_ble_eq_true rfl) (by decide) (by decide) (by omega) (by omega) ?_
  refine xj_iload 1 dL_law__1509 rfl ?_
  refine xj_icmp_eq (tgt := 1516) dL_law__1511 (by decide) (fun c11 => ?_) (fun c11 => ?_)
  · rw [if_pos c11] at h
    refine xj_iload 1 dL_law__1516 rfl ?_
    refine xj_if_ne (tgt := 1533) dL_law__1518 (by decide) (fun c12 => ?_) (fun c12 => ?_)
    · rw [if_neg c12] at h
      refine xj_goto (tgt := 2347) dL_law__1533 (by decide) ?_
      refine xj_iinc (z := x4 + 10) (ls' := [(4, vI (x4 + 10)), (6, vI z10), (5, vI z3), (0, vR 100 0), (1, vR 11 0), (2, vR 12 0), (3, vR 92 0)]) 6 dL_law__2347 rfl rfl (by decide) rfl ?_
      refine xj_goto (tgt := 23) dL_law__2350 (by decide) ?_
      cases h
      refine xj_widen (u2 := u + 120) (v2 := v + 3000) (by omega) (by omega) ?_
      refine xj_pick (ls' := [(0, vR 100 0), (1, vR 11 0), (2, vR 12 0), (3, vR 92 0), (4, vI (x4 + 10))]) [3, 4, 5, 6, 0] rfl ?_
      exact kb
    · rw [if_pos c12] at h
      refine xj_aload_n 5 dL_law__1521 rfl ?_
      refine xj_iconst (z := 0) dL_law__1522 (by decide) ?_
      refine xj_lald0 (z := (jL (m9 92 0 0) (m9 92 0 1))) dL_law__1523 rfl ?_
      refine xj_iload 0 dL_law__1524 rfl ?_
      refine xj_i2l dL_law__1526 ?_
      refine xj_lcmp dL_law__1527 ?_
      refine xj_if_eq (tgt := 1533) dL_law__1528 (by decide) (fun c13 => ?_) (fun c13 => ?_)
      · rw [if_pos c13] at h
        refine xj_goto (tgt := 2347) dL_law__1533 (by decide) ?_
        refine xj_iinc (z := x4 + 10) (ls' := [(4, vI (x4 + 10)), (6, vI z10), (5, vI z3), (0, vR 100 0), (1, vR 11 0), (2, vR 12 0), (3, vR 92 0)]) 6 dL_law__2347 rfl rfl (by decide) rfl ?_
        refine xj_goto (tgt := 23) dL_law__2350 (by decide) ?_
        cases h
        refine xj_widen (u2 := u + 120) (v2 := v + 3000) (by omega) (by omega) ?_
        refine xj_pick (ls' := [(0, vR 100 0), (1, vR 11 0), (2, vR 12 0), (3, vR 92 0), (4, vI (x4 + 10))]) [3, 4, 5, 6, 0] rfl ?_
        exact kb
      · rw [if_neg c13] at h
        cases h
  · rw [if_neg c11] at h
    cases h
noncomputable def r_L_op_22 (x4 : Int32) (m : Mem) : Option Mem :=
  if inb (x4 + 1) (m 100 1 0).toNatClampNeg = true then (if inb (x4 + 2) (m 100 1 0).toNatClampNeg = true then (bd2 (r_L_way (m 100 0 ((x4 + 1).toNatClampNeg)) (m 100 0 ((x4 + 2).toNatClampNeg)) m) fun z3 m4 => (if inb (x4 + 1) (m4 100 1 0).toNatClampNeg = true then (if inb (x4 + 2) (m4 100 1 0).toNatClampNeg = true then (bd2 (r_X12_way (m4 100 0 ((x4 + 1).toNatClampNeg)) (m4 100 0 ((x4 + 2).toNatClampNeg)) m4) fun z10 m9 => (if (r_X12_thrown m9) = z3 then (if z3 = 0 then (if (lg_cmp (jL (m9 92 0 0) (m9 92 0 1)) z10.toInt64) = 0 then (some m9) else (none)) else (some m9)) else (none))) else none) else none)) else none) else none
set_option maxHeartbeats 4000000 in
set_option maxRecDepth 20000 in
theorem ok_L_op_22 (x4 : Int32) (m : Mem) {m1 : Mem} (h : r_L_op_22 x4 m = some m1) {u v : Nat} (hu : u + 120 ≤ 601024) (hv : v + 3000 ≤ 7293034) {o : Ou} {M' : Mem} (kb : Xj RL cL_law_ 8 (some .boolean) 2048 84000 601024 7293034 (u + 120) (v + 3000) 23 [(0, vR 100 0), (1, vR 11 0), (2, vR 12 0), (3, vR 92 0), (4, vI (x4 + 10))] [] m1 o M') : Xj RL cL_law_ 8 (some .boolean) 2048 84000 601024 7293034 u v 1536 [(0, vR 100 0), (1, vR 11 0), (2, vR 12 0), (3, vR 92 0), (4, vI x4)] [] m o M' := by
  unfold r_L_op_22 at h
  refine xj_aload_n 1 dL_law__1536 rfl ?_
  refine xj_aload_n 0 dL_law__1537 rfl ?_
  refine xj_iload 4 dL_law__1538 rfl ?_
  refine xj_iconst (z := 1) dL_law__1540 (by decide) ?_
  refine xj_iadd dL_law__1541 ?_
  by_cases c1 : inb (x4 + 1) (m 100 1 0).toNatClampNeg = true
  case neg => rw [if_neg c1] at h; cases h
  rw [if_pos c1] at h
  refine xg_ialdS (z := (m 100 0 ((x4 + 1).toNatClampNeg))) (n := (x4 + 1).toNatClampNeg) dL_law__1542 (inb_in c1) rfl rfl ?_
  refine xj_aload_n 0 dL_law__1543 rfl ?_
  refine xj_iload 4 dL_law__1544 rfl ?_
  refine xj_iconst (z := 2) dL_law__1546 (by decide) ?_
  refine xj_iadd dL_law__1547 ?_
  by_cases c2 : inb (x4 + 2) (m 100 1 0).toNatClampNeg = true
  case neg => rw [if_neg c2] at h; cases h
  rw [if_pos c2] at h
  refine xg_ialdS (z := (m 100 0 ((x4 + 2).toNatClampNeg))) (n := (x4 + 2).toNatClampNeg) dL_law__1548 (inb_in c2) rfl rfl ?_
  refine xj_aload_n 3 dL_law__1549 rfl ?_
  obtain ⟨z3, m4, e5, h⟩ := bd2_some h
  refine xc_Hi (st := []) (ok_L_way (m 100 0 ((x4 + 1).toNatClampNeg)) (m 100 0 ((x4 + 2).toNatClampNeg)) m e5) dL_law__1550 ch_186 rfl rfl (Nat.le_of_ble_eq_true rfl) (by decide) (by decide) (by omega) (by omega) ?_
  refine xj_istore (ls' := [(5, vI z3), (0, vR 100 0), (1, vR 11 0), (2, vR 12 0), (3, vR 92 0), (4, vI x4)]) dL_law__1553 (by decide) rfl ?_
  refine xj_aload_n 3 dL_law__1555 rfl ?_
  refine xj_aload_n 1 dL_law__1556 rfl ?_
  refine xj_iload 5 dL_law__1557 rfl ?_
  refine xj_iconst (z := 1) dL_law__1559 (by decide) ?_
  refine xj_iadd dL_law__1560 ?_
  by_cases c6 : inb (x4 + 1) (m4 100 1 0).toNatClampNeg = true
  case neg => rw [if_neg c6] at h; cases h
  rw [if_pos c6] at h
  refine xg_ialdS (z := (m4 100 0 ((x4 + 1).toNatClampNeg))) (n := (x4 + 1).toNatClampNeg) dL_law__1561 (inb_in c6) rfl rfl ?_
  refine xj_aload_n 1 dL_law__1562 rfl ?_
  refine xj_iload 5 dL_law__1563 rfl ?_
  refine xj_iconst (z := 2) dL_law__1565 (by decide) ?_
  refine xj_iadd dL_law__1566 ?_
  by_cases c7 : inb (x4 + 2) (m4 100 1 0).toNatClampNeg = true
  case neg => rw [if_neg c7] at h; cases h
  rw [if_pos c7] at h
  refine xg_ialdS (z := (m4 100 0 ((x4 + 2).toNatClampNeg))) (n := (x4 + 2).toNatClampNeg) dL_law__1567 (inb_in c7) rfl rfl ?_
  obtain ⟨z10, m9, e8, h⟩ := bd2_some h
  refine xc_Vi0 (st := []) (ok_X12_way (m4 100 0 ((x4 + 1).toNatClampNeg)) (m4 100 0 ((x4 + 2).toNatClampNeg)) m4 e8) dL_law__1568 cv_L_188 rfl rfl (Nat.le_of_ble_eq_true rfl) (by decide) (by decide) (by omega) (by omega) ?_
  refine xj_istore (ls' := [(6, vI z10), (5, vI z3), (0, vR 100 0), (1, vR 11 0), (2, vR 12 0), (3, vR 92 0), (4, vI x4)]) dL_law__1571 (by decide) rfl ?_
  refine xj_aload_n 4 dL_law__1573 rfl ?_
  refine xc_Vi0 (st := []) (ok_X12_thrown m9 rfl) dL_law__1574 cv_L_116 rfl rfl (Nat.le_of_ble_eq_true rfl) (by decide) (by decide) (by omega) (by omega) ?_
  refine xj_iload 1 dL_law__1577 rfl ?_
  refine xj_icmp_eq (tgt := 1584) dL_law__1579 (by decide) (fun c11 => ?_) (fun c11 => ?_)
  · rw [if_pos c11] at h
    refine xj_iload 1 dL_law__1584 rfl ?_
    refine xj_if_ne (tgt := 1601) dL_law__1586 (by decide) (fun c12 => ?_) (fun c12 => ?_)
    · rw [if_neg c12] at h
      refine xj_goto (tgt := 2347) dL_law__1601 (by decide) ?_
      refine xj_iinc (z := x4 + 10) (ls' := [(4, vI (x4 + 10)), (6, vI z10), (5, vI z3), (0, vR 100 0), (1, vR 11 0), (2, vR 12 0), (3, vR 92 0)]) 6 dL_law__2347 rfl rfl (by decide) rfl ?_
      refine xj_goto (tgt := 23) dL_law__2350 (by decide) ?_
      cases h
      refine xj_widen (u2 := u + 120) (v2 := v + 3000) (by omega) (by omega) ?_
      refine xj_pick (ls' := [(0, vR 100 0), (1, vR 11 0), (2, vR 12 0), (3, vR 92 0), (4, vI (x4 + 10))]) [3, 4, 5, 6, 0] rfl ?_
      exact kb
    · rw [if_pos c12] at h
      refine xj_aload_n 5 dL_law__1589 rfl ?_
      refine xj_iconst (z := 0) dL_law__1590 (by decide) ?_
      refine xj_lald0 (z := (jL (m9 92 0 0) (m9 92 0 1))) dL_law__1591 rfl ?_
      refine xj_iload 0 dL_law__1592 rfl ?_
      refine xj_i2l dL_law__1594 ?_
      refine xj_lcmp dL_law__1595 ?_
      refine xj_if_eq (tgt := 1601) dL_law__1596 (by decide) (fun c13 => ?_) (fun c13 => ?_)
      · rw [if_pos c13] at h
        refine xj_goto (tgt := 2347) dL_law__1601 (by decide) ?_
        refine xj_iinc (z := x4 + 10) (ls' := [(4, vI (x4 + 10)), (6, vI z10), (5, vI z3), (0, vR 100 0), (1, vR 11 0), (2, vR 12 0), (3, vR 92 0)]) 6 dL_law__2347 rfl rfl (by decide) rfl ?_
        refine xj_goto (tgt := 23) dL_law__2350 (by decide) ?_
        cases h
        refine xj_widen (u2 := u + 120) (v2 := v + 3000) (by omega) (by omega) ?_
        refine xj_pick (ls' := [(0, vR 100 0), (1, vR 11 0), (2, vR 12 0), (3, vR 92 0), (4, vI (x4 + 10))]) [3, 4, 5, 6, 0] rfl ?_
        exact kb
      · rw [if_neg c13] at h
        cases h
  · rw [if_neg c11] at h
    cases h
noncomputable def r_L_op_23 (x4 : Int32) (m : Mem) : Option Mem :=
  if inb (x4 + 1) (m 100 1 0).toNatClampNeg = true then (if inb (x4 + 2) (m 100 1 0).toNatClampNeg = true then (if inb (x4 + 3) (m 100 1 0).toNatClampNeg = true then (bd2 (r_L_meet (m 100 0 ((x4 + 1).toNatClampNeg)) (m 100 0 ((x4 + 2).toNatClampNeg)) (m 100 0 ((x4 + 3).toNatClampNeg)) m) fun z4 m5 => (if inb (x4 + 1) (m5 100 1 0).toNatClampNeg = true then (if inb (x4 + 2) (m5 100 1 0).toNatClampNeg = true then (if inb (x4 + 3) (m5 100 1 0).toNatClampNeg = true then (bd2 (r_X12_meet (m5 100 0 ((x4 + 1).toNatClampNeg)) (m5 100 0 ((x4 + 2).toNatClampNeg)) (m5 100 0 ((x4 + 3).toNatClampNeg)) m5) fun z12 m11 => (if (r_X12_thrown m11) = z4 then (if z4 = 0 then (if (lg_cmp (jL (m11 92 0 0) (m11 92 0 1)) z12.toInt64) = 0 then (some m11) else (none)) else (some m11)) else (none))) else none) else none) else none)) else none) else none) else none
set_option maxHeartbeats 4000000 in
set_option maxRecDepth 20000 in
theorem ok_L_op_23 (x4 : Int32) (m : Mem) {m1 : Mem} (h : r_L_op_23 x4 m = some m1) {u v : Nat} (hu : u + 120 ≤ 601024) (hv : v + 3000 ≤ 7293034) {o : Ou} {M' : Mem} (kb : Xj RL cL_law_ 8 (some .boolean) 2048 84000 601024 7293034 (u + 120) (v + 3000) 23 [(0, vR 100 0), (1, vR 11 0), (2, vR 12 0), (3, vR 92 0), (4, vI (x4 + 10))] [] m1 o M') : Xj RL cL_law_ 8 (some .boolean) 2048 84000 601024 7293034 u v 1604 [(0, vR 100 0), (1, vR 11 0), (2, vR 12 0), (3, vR 92 0), (4, vI x4)] [] m o M' := by
  unfold r_L_op_23 at h
  refine xj_aload_n 1 dL_law__1604 rfl ?_
  refine xj_aload_n 0 dL_law__1605 rfl ?_
  refine xj_iload 4 dL_law__1606 rfl ?_
  refine xj_iconst (z := 1) dL_law__1608 (by decide) ?_
  refine xj_iadd dL_law__1609 ?_
  by_cases c1 : inb (x4 + 1) (m 100 1 0).toNatClampNeg = true
  case neg => rw [if_neg c1] at h; cases h
  rw [if_pos c1] at h
  refine xg_ialdS (z := (m 100 0 ((x4 + 1).toNatClampNeg))) (n := (x4 + 1).toNatClampNeg) dL_law__1610 (inb_in c1) rfl rfl ?_
  refine xj_aload_n 0 dL_law__1611 rfl ?_
  refine xj_iload 4 dL_law__1612 rfl ?_
  refine xj_iconst (z := 2) dL_law__1614 (by decide) ?_
  refine xj_iadd dL_law__1615 ?_
  by_cases c2 : inb (x4 + 2) (m 100 1 0).toNatClampNeg = true
  case neg => rw [if_neg c2] at h; cases h
  rw [if_pos c2] at h
  refine xg_ialdS (z := (m 100 0 ((x4 + 2).toNatClampNeg))) (n := (x4 + 2).toNatClampNeg) dL_law__1616 (inb_in c2) rfl rfl ?_
  refine xj_aload_n 0 dL_law__1617 rfl ?_
  refine xj_iload 4 dL_law__1618 rfl ?_
  refine xj_iconst (z := 3) dL_law__1620 (by decide) ?_
  refine xj_iadd dL_law__1621 ?_
  by_cases c3 : inb (x4 + 3) (m 100 1 0).toNatClampNeg = true
  case neg => rw [if_neg c3] at h; cases h
  rw [if_pos c3] at h
  refine xg_ialdS (z := (m 100 0 ((x4 + 3).toNatClampNeg))) (n := (x4 + 3).toNatClampNeg) dL_law__1622 (inb_in c3) rfl rfl ?_
  refine xj_aload_n 3 dL_law__1623 rfl ?_
  obtain ⟨z4, m5, e6, h⟩ := bd2_some h
  refine xc_Hi (st := []) (ok_L_meet (m 100 0 ((x4 + 1).toNatClampNeg)) (m 100 0 ((x4 + 2).toNatClampNeg)) (m 100 0 ((x4 + 3).toNatClampNeg)) m e6) dL_law__1624 ch_189 rfl rfl (Nat.le_of_ble_eq_true rfl) (by decide) (by decide) (by omega) (by omega) ?_
  refine xj_istore (ls' := [(5, vI z4), (0, vR 100 0), (1, vR 11 0), (2, vR 12 0), (3, vR 92 0), (4, vI x4)]) dL_law__1627 (by decide) rfl ?_
  refine xj_aload_n 3 dL_law__1629 rfl ?_
  refine xj_aload_n 1 dL_law__1630 rfl ?_
  refine xj_iload 5 dL_law__1631 rfl ?_
  refine xj_iconst (z := 1) dL_law__1633 (by decide) ?_
  refine xj_iadd dL_law__1634 ?_
  by_cases c7 : inb (x4 + 1) (m5 100 1 0).toNatClampNeg = true
  case neg => rw [if_neg c7] at h; cases h
  rw [if_pos c7] at h
  refine xg_ialdS (z := (m5 100 0 ((x4 + 1).toNatClampNeg))) (n := (x4 + 1).toNatClampNeg) dL_law__1635 (inb_in c7) rfl rfl ?_
  refine xj_aload_n 1 dL_law__1636 rfl ?_
  refine xj_iload 5 dL_law__1637 rfl ?_
  refine xj_iconst (z := 2) dL_law__1639 (by decide) ?_
  refine xj_iadd dL_law__1640 ?_
  by_cases c8 : inb (x4 + 2) (m5 100 1 0).toNatClampNeg = true
  case neg => rw [if_neg c8] at h; cases h
  rw [if_pos c8] at h
  refine xg_ialdS (z := (m5 100 0 ((x4 + 2).toNatClampNeg))) (n := (x4 + 2).toNatClampNeg) dL_law__1641 (inb_in c8) rfl rfl ?_
  refine xj_aload_n 1 dL_law__1642 rfl ?_
  refine xj_iload 5 dL_law__1643 rfl ?_
  refine xj_iconst (z := 3) dL_law__1645 (by decide) ?_
  refine xj_iadd dL_law__1646 ?_
  by_cases c9 : inb (x4 + 3) (m5 100 1 0).toNatClampNeg = true
  case neg => rw [if_neg c9] at h; cases h
  rw [if_pos c9] at h
  refine xg_ialdS (z := (m5 100 0 ((x4 + 3).toNatClampNeg))) (n := (x4 + 3).toNatClampNeg) dL_law__1647 (inb_in c9) rfl rfl ?_
  obtain ⟨z12, m11, e10, h⟩ := bd2_some h
  refine xc_Vi0 (st := []) (ok_X12_meet (m5 100 0 ((x4 + 1).toNatClampNeg)) (m5 100 0 ((x4 + 2).toNatClampNeg)) (m5 100 0 ((x4 + 3).toNatClampNeg)) m5 e10) dL_law__1648 cv_L_191 rfl rfl (Nat.le_of_ble_eq_true rfl) (by decide) (by decide) (by omega) (by omega) ?_
  refine xj_istore (ls' := [(6, vI z12), (5, vI z4), (0, vR 100 0), (1, vR 11 0), (2, vR 12 0), (3, vR 92 0), (4, vI x4)]) dL_law__1651 (by decide) rfl ?_
  refine xj_aload_n 4 dL_law__1653 rfl ?_
  refine xc_Vi0 (st := []) (ok_X12_thrown m11 rfl) dL_law__1654 cv_L_116 rfl rfl (Nat.le_of_ble_eq_true rfl) (by decide) (by decide) (by omega) (by omega) ?_
  refine xj_iload 1 dL_law__1657 rfl ?_
  refine xj_icmp_eq (tgt := 1664) dL_law__1659 (by decide) (fun c13 => ?_) (fun c13 => ?_)
  · rw [if_pos c13] at h
    refine xj_iload 1 dL_law__1664 rfl ?_
    refine xj_if_ne (tgt := 1681) dL_law__1666 (by decide) (fun c14 => ?_) (fun c14 => ?_)
    · rw [if_neg c14] at h
      refine xj_goto (tgt := 2347) dL_law__1681 (by decide) ?_
      refine xj_iinc (z := x4 + 10) (ls' := [(4, vI (x4 + 10)), (6, vI z12), (5, vI z4), (0, vR 100 0), (1, vR 11 0), (2, vR 12 0), (3, vR 92 0)]) 6 dL_law__2347 rfl rfl (by decide) rfl ?_
      refine xj_goto (tgt := 23) dL_law__2350 (by decide) ?_
      cases h
      refine xj_widen (u2 := u + 120) (v2 := v + 3000) (by omega) (by omega) ?_
      refine xj_pick (ls' := [(0, vR 100 0), (1, vR 11 0), (2, vR 12 0), (3, vR 92 0), (4, vI (x4 + 10))]) [3, 4, 5, 6, 0] rfl ?_
      exact kb
    · rw [if_pos c14] at h
      refine xj_aload_n 5 dL_law__1669 rfl ?_
      refine xj_iconst (z := 0) dL_law__1670 (by decide) ?_
      refine xj_lald0 (z := (jL (m11 92 0 0) (m11 92 0 1))) dL_law__1671 rfl ?_
      refine xj_iload 0 dL_law__1672 rfl ?_
      refine xj_i2l dL_law__1674 ?_
      refine xj_lcmp dL_law__1675 ?_
      refine xj_if_eq (tgt := 1681) dL_law__1676 (by decide) (fun c15 => ?_) (fun c15 => ?_)
      · rw [if_pos c15] at h
        refine xj_goto (tgt := 2347) dL_law__1681 (by decide) ?_
        refine xj_iinc (z := x4 + 10) (ls' := [(4, vI (x4 + 10)), (6, vI z12), (5, vI z4), (0, vR 100 0), (1, vR 11 0), (2, vR 12 0), (3, vR 92 0)]) 6 dL_law__2347 rfl rfl (by decide) rfl ?_
        refine xj_goto (tgt := 23) dL_law__2350 (by decide) ?_
        cases h
        refine xj_widen (u2 := u + 120) (v2 := v + 3000) (by omega) (by omega) ?_
        refine xj_pick (ls' := [(0, vR 100 0), (1, vR 11 0), (2, vR 12 0), (3, vR 92 0), (4, vI (x4 + 10))]) [3, 4, 5, 6, 0] rfl ?_
        exact kb
      · rw [if_neg c15] at h
        cases h
  · rw [if_neg c13] at h
    cases h
noncomputable def r_L_op_24 (x4 : Int32) (m : Mem) : Option Mem :=
  bd2 (r_X11_sight m) fun z3 m2 => (bd2 (r_X12_sight m2) fun z6 m5 => (if z3 = z6 then (some m5) else (none)))
set_option maxHeartbeats 4000000 in
set_option maxRecDepth 20000 in
theorem ok_L_op_24 (x4 : Int32) (m : Mem) {m1 : Mem} (h : r_L_op_24 x4 m = some m1) {u v : Nat} (hu : u + 120 ≤ 601024) (hv : v + 3000 ≤ 7293034) {o : Ou} {M' : Mem} (kb : Xj RL cL_law_ 8 (some .boolean) 2048 84000 601024 7293034 (u + 120) (v + 3000) 23 [(0, vR 100 0), (1, vR 11 0), (2, vR 12 0), (3, vR 92 0), (4, vI (x4 + 10))] [] m1 o M') : Xj RL cL_law_ 8 (some .boolean) 2048 84000 601024 7293034 u v 1684 [(0, vR 100 0), (1, vR 11 0), (2, vR 12 0), (3, vR 92 0), (4, vI x4)] [] m o M' := by
  unfold r_L_op_24 at h
  refine xj_aload_n 1 dL_law__1684 rfl ?_
  obtain ⟨z3, m2, e1, h⟩ := bd2_some h
  refine xc_Vi0 (st := []) (ok_X11_sight m e1) dL_law__1685 cv_L_192 rfl rfl (Nat.le_of_ble_eq_true rfl) (by decide) (by decide) (by omega) (by omega) ?_
  refine xj_aload_n 2 dL_law__1688 rfl ?_
  obtain ⟨z6, m5, e4, h⟩ := bd2_some h
  refine xc_Vi0 (st := [vI z3]) (ok_X12_sight m2 e4) dL_law__1689 cv_L_195 rfl rfl (Nat.le_of_ble_eq_true rfl) (by decide) (by decide) (by omega) (by omega) ?_
  refine xj_icmp_eq (tgt := 2347) dL_law__1692 (by decide) (fun c7 => ?_) (fun c7 => ?_)
  · rw [if_pos c7] at h
    refine xj_iinc (z := x4 + 10) (ls' := [(4, vI (x4 + 10)), (0, vR 100 0), (1, vR 11 0), (2, vR 12 0), (3, vR 92 0)]) 4 dL_law__2347 rfl rfl (by decide) rfl ?_
    refine xj_goto (tgt := 23) dL_law__2350 (by decide) ?_
    cases h
    refine xj_widen (u2 := u + 120) (v2 := v + 3000) (by omega) (by omega) ?_
    refine xj_pick (ls' := [(0, vR 100 0), (1, vR 11 0), (2, vR 12 0), (3, vR 92 0), (4, vI (x4 + 10))]) [1, 2, 3, 4, 0] rfl ?_
    exact kb
  · rw [if_neg c7] at h
    cases h
noncomputable def r_L_op_25 (x4 : Int32) (m : Mem) : Option Mem :=
  if inb (x4 + 1) (m 100 1 0).toNatClampNeg = true then (if inb (x4 + 2) (m 100 1 0).toNatClampNeg = true then (if inb (x4 + 3) (m 100 1 0).toNatClampNeg = true then (bd2 (r_L_seen (m 100 0 ((x4 + 1).toNatClampNeg)) (m 100 0 ((x4 + 2).toNatClampNeg)) (m 100 0 ((x4 + 3).toNatClampNeg)) m) fun z4 m5 => (if inb (x4 + 1) (m5 100 1 0).toNatClampNeg = true then (if inb (x4 + 2) (m5 100 1 0).toNatClampNeg = true then (if inb (x4 + 3) (m5 100 1 0).toNatClampNeg = true then (bd2 (r_X12_seen (m5 100 0 ((x4 + 1).toNatClampNeg)) (m5 100 0 ((x4 + 2).toNatClampNeg)) (m5 100 0 ((x4 + 3).toNatClampNeg)) m5) fun z12 m11 => (if (r_X12_thrown m11) = z4 then (if z4 = 0 then (if (lg_cmp (jL (m11 92 0 0) (m11 92 0 1)) z12) = 0 then (some m11) else (none)) else (some m11)) else (none))) else none) else none) else none)) else none) else none) else none
set_option maxHeartbeats 4000000 in
set_option maxRecDepth 20000 in
theorem ok_L_op_25 (x4 : Int32) (m : Mem) {m1 : Mem} (h : r_L_op_25 x4 m = some m1) {u v : Nat} (hu : u + 120 ≤ 601024) (hv : v + 3000 ≤ 7293034) {o : Ou} {M' : Mem} (kb : Xj RL cL_law_ 8 (some .boolean) 2048 84000 601024 7293034 (u + 120) (v + 3000) 23 [(0, vR 100 0), (1, vR 11 0), (2, vR 12 0), (3, vR 92 0), (4, vI (x4 + 10))] [] m1 o M') : Xj RL cL_law_ 8 (some .boolean) 2048 84000 601024 7293034 u v 1697 [(0, vR 100 0), (1, vR 11 0), (2, vR 12 0), (3, vR 92 0), (4, vI x4)] [] m o M' := by
  unfold r_L_op_25 at h
  refine xj_aload_n 1 dL_law__1697 rfl ?_
  refine xj_aload_n 0 dL_law__1698 rfl ?_
  refine xj_iload 4 dL_law__1699 rfl ?_
  refine xj_iconst (z := 1) dL_law__1701 (by decide) ?_
  refine xj_iadd dL_law__1702 ?_
  by_cases c1 : inb (x4 + 1) (m 100 1 0).toNatClampNeg = true
  case neg => rw [if_neg c1] at h; cases h
  rw [if_pos c1] at h
  refine xg_ialdS (z := (m 100 0 ((x4 + 1).toNatClampNeg))) (n := (x4 + 1).toNatClampNeg) dL_law__1703 (inb_in c1) rfl rfl ?_
  refine xj_aload_n 0 dL_law__1704 rfl ?_
  refine xj_iload 4 dL_law__1705 rfl ?_
  refine xj_iconst (z := 2) dL_law__1707 (by decide) ?_
  refine xj_iadd dL_law__1708 ?_
  by_cases c2 : inb (x4 + 2) (m 100 1 0).toNatClampNeg = true
  case neg => rw [if_neg c2] at h; cases h
  rw [if_pos c2] at h
  refine xg_ialdS (z := (m 100 0 ((x4 + 2).toNatClampNeg))) (n := (x4 + 2).toNatClampNeg) dL_law__1709 (inb_in c2) rfl rfl ?_
  refine xj_aload_n 0 dL_law__1710 rfl ?_
  refine xj_iload 4 dL_law__1711 rfl ?_
  refine xj_iconst (z := 3) dL_law__1713 (by decide) ?_
  refine xj_iadd dL_law__1714 ?_
  by_cases c3 : inb (x4 + 3) (m 100 1 0).toNatClampNeg = true
  case neg => rw [if_neg c3] at h; cases h
  rw [if_pos c3] at h
  refine xg_ialdS (z := (m 100 0 ((x4 + 3).toNatClampNeg))) (n := (x4 + 3).toNatClampNeg) dL_law__1715 (inb_in c3) rfl rfl ?_
  refine xj_aload_n 3 dL_law__1716 rfl ?_
  obtain ⟨z4, m5, e6, h⟩ := bd2_some h
  refine xc_Hi (st := []) (ok_L_seen (m 100 0 ((x4 + 1).toNatClampNeg)) (m 100 0 ((x4 + 2).toNatClampNeg)) (m 100 0 ((x4 + 3).toNatClampNeg)) m e6) dL_law__1717 ch_196 rfl rfl (Nat.le_of_ble_eq_true rfl) (by decide) (by decide) (by omega) (by omega) ?_
  refine xj_istore (ls' := [(5, vI z4), (0, vR 100 0), (1, vR 11 0), (2, vR 12 0), (3, vR 92 0), (4, vI x4)]) dL_law__1720 (by decide) rfl ?_
  refine xj_aload_n 3 dL_law__1722 rfl ?_
  refine xj_aload_n 1 dL_law__1723 rfl ?_
  refine xj_iload 5 dL_law__1724 rfl ?_
  refine xj_iconst (z := 1) dL_law__1726 (by decide) ?_
  refine xj_iadd dL_law__1727 ?_
  by_cases c7 : inb (x4 + 1) (m5 100 1 0).toNatClampNeg = true
  case neg => rw [if_neg c7] at h; cases h
  rw [if_pos c7] at h
  refine xg_ialdS (z := (m5 100 0 ((x4 + 1).toNatClampNeg))) (n := (x4 + 1).toNatClampNeg) dL_law__1728 (inb_in c7) rfl rfl ?_
  refine xj_aload_n 1 dL_law__1729 rfl ?_
  refine xj_iload 5 dL_law__1730 rfl ?_
  refine xj_iconst (z := 2) dL_law__1732 (by decide) ?_
  refine xj_iadd dL_law__1733 ?_
  by_cases c8 : inb (x4 + 2) (m5 100 1 0).toNatClampNeg = true
  case neg => rw [if_neg c8] at h; cases h
  rw [if_pos c8] at h
  refine xg_ialdS (z := (m5 100 0 ((x4 + 2).toNatClampNeg))) (n := (x4 + 2).toNatClampNeg) dL_law__1734 (inb_in c8) rfl rfl ?_
  refine xj_aload_n 1 dL_law__1735 rfl ?_
  refine xj_iload 5 dL_law__1736 rfl ?_
  refine xj_iconst (z := 3) dL_law__1738 (by decide) ?_
  refine xj_iadd dL_law__1739 ?_
  by_cases c9 : inb (x4 + 3) (m5 100 1 0).toNatClampNeg = true
  case neg => rw [if_neg c9] at h; cases h
  rw [if_pos c9] at h
  refine xg_ialdS (z := (m5 100 0 ((x4 + 3).toNatClampNeg))) (n := (x4 + 3).toNatClampNeg) dL_law__1740 (inb_in c9) rfl rfl ?_
  obtain ⟨z12, m11, e10, h⟩ := bd2_some h
  refine xc_Vl0 (st := []) (ok_X12_seen (m5 100 0 ((x4 + 1).toNatClampNeg)) (m5 100 0 ((x4 + 2).toNatClampNeg)) (m5 100 0 ((x4 + 3).toNatClampNeg)) m5 e10) dL_law__1741 cv_L_198 rfl rfl (Nat.le_of_ble_eq_true rfl) (by decide) (by decide) (by omega) (by omega) ?_
  refine xj_lstore (ls' := [(6, vL z12), (5, vI z4), (0, vR 100 0), (1, vR 11 0), (2, vR 12 0), (3, vR 92 0), (4, vI x4)]) dL_law__1744 (by decide) rfl ?_
  refine xj_aload_n 4 dL_law__1746 rfl ?_
  refine xc_Vi0 (st := []) (ok_X12_thrown m11 rfl) dL_law__1747 cv_L_116 rfl rfl (Nat.le_of_ble_eq_true rfl) (by decide) (by decide) (by omega) (by omega) ?_
  refine xj_iload 1 dL_law__1750 rfl ?_
  refine xj_icmp_eq (tgt := 1757) dL_law__1752 (by decide) (fun c13 => ?_) (fun c13 => ?_)
  · rw [if_pos c13] at h
    refine xj_iload 1 dL_law__1757 rfl ?_
    refine xj_if_ne (tgt := 1773) dL_law__1759 (by decide) (fun c14 => ?_) (fun c14 => ?_)
    · rw [if_neg c14] at h
      refine xj_goto (tgt := 2347) dL_law__1773 (by decide) ?_
      refine xj_iinc (z := x4 + 10) (ls' := [(4, vI (x4 + 10)), (6, vL z12), (5, vI z4), (0, vR 100 0), (1, vR 11 0), (2, vR 12 0), (3, vR 92 0)]) 6 dL_law__2347 rfl rfl (by decide) rfl ?_
      refine xj_goto (tgt := 23) dL_law__2350 (by decide) ?_
      cases h
      refine xj_widen (u2 := u + 120) (v2 := v + 3000) (by omega) (by omega) ?_
      refine xj_pick (ls' := [(0, vR 100 0), (1, vR 11 0), (2, vR 12 0), (3, vR 92 0), (4, vI (x4 + 10))]) [3, 4, 5, 6, 0] rfl ?_
      exact kb
    · rw [if_pos c14] at h
      refine xj_aload_n 5 dL_law__1762 rfl ?_
      refine xj_iconst (z := 0) dL_law__1763 (by decide) ?_
      refine xj_lald0 (z := (jL (m11 92 0 0) (m11 92 0 1))) dL_law__1764 rfl ?_
      refine xj_lload 0 dL_law__1765 rfl ?_
      refine xj_lcmp dL_law__1767 ?_
      refine xj_if_eq (tgt := 1773) dL_law__1768 (by decide) (fun c15 => ?_) (fun c15 => ?_)
      · rw [if_pos c15] at h
        refine xj_goto (tgt := 2347) dL_law__1773 (by decide) ?_
        refine xj_iinc (z := x4 + 10) (ls' := [(4, vI (x4 + 10)), (6, vL z12), (5, vI z4), (0, vR 100 0), (1, vR 11 0), (2, vR 12 0), (3, vR 92 0)]) 6 dL_law__2347 rfl rfl (by decide) rfl ?_
        refine xj_goto (tgt := 23) dL_law__2350 (by decide) ?_
        cases h
        refine xj_widen (u2 := u + 120) (v2 := v + 3000) (by omega) (by omega) ?_
        refine xj_pick (ls' := [(0, vR 100 0), (1, vR 11 0), (2, vR 12 0), (3, vR 92 0), (4, vI (x4 + 10))]) [3, 4, 5, 6, 0] rfl ?_
        exact kb
      · rw [if_neg c15] at h
        cases h
  · rw [if_neg c13] at h
    cases h
noncomputable def r_L_op_26 (x4 : Int32) (m : Mem) : Option Mem :=
  if inb (x4 + 1) (m 100 1 0).toNatClampNeg = true then (if inb (x4 + 2) (m 100 1 0).toNatClampNeg = true then (bd2 (r_L_leaders (m 100 0 ((x4 + 1).toNatClampNeg)) (m 100 0 ((x4 + 2).toNatClampNeg)) m) fun z3 m4 => (if inb (x4 + 1) (m4 100 1 0).toNatClampNeg = true then (if inb (x4 + 2) (m4 100 1 0).toNatClampNeg = true then (bd2 (r_X12_leaders (m4 100 0 ((x4 + 1).toNatClampNeg)) (m4 100 0 ((x4 + 2).toNatClampNeg)) m4) fun z10 m9 => (if (r_X12_thrown m9) = z3 then (if z3 = 0 then (if (lg_cmp (jL (m9 92 0 0) (m9 92 0 1)) z10.toInt64) = 0 then (some m9) else (none)) else (some m9)) else (none))) else none) else none)) else none) else none
set_option maxHeartbeats 4000000 in
set_option maxRecDepth 20000 in
theorem ok_L_op_26 (x4 : Int32) (m : Mem) {m1 : Mem} (h : r_L_op_26 x4 m = some m1) {u v : Nat} (hu : u + 120 ≤ 601024) (hv : v + 3000 ≤ 7293034) {o : Ou} {M' : Mem} (kb : Xj RL cL_law_ 8 (some .boolean) 2048 84000 601024 7293034 (u + 120) (v + 3000) 23 [(0, vR 100 0), (1, vR 11 0), (2, vR 12 0), (3, vR 92 0), (4, vI (x4 + 10))] [] m1 o M') : Xj RL cL_law_ 8 (some .boolean) 2048 84000 601024 7293034 u v 1776 [(0, vR 100 0), (1, vR 11 0), (2, vR 12 0), (3, vR 92 0), (4, vI x4)] [] m o M' := by
  unfold r_L_op_26 at h
  refine xj_aload_n 1 dL_law__1776 rfl ?_
  refine xj_aload_n 0 dL_law__1777 rfl ?_
  refine xj_iload 4 dL_law__1778 rfl ?_
  refine xj_iconst (z := 1) dL_law__1780 (by decide) ?_
  refine xj_iadd dL_law__1781 ?_
  by_cases c1 : inb (x4 + 1) (m 100 1 0).toNatClampNeg = true
  case neg => rw [if_neg c1] at h; cases h
  rw [if_pos c1] at h
  refine xg_ialdS (z := (m 100 0 ((x4 + 1).toNatClampNeg))) (n := (x4 + 1).toNatClampNeg) dL_law__1782 (inb_in c1) rfl rfl ?_
  refine xj_aload_n 0 dL_law__1783 rfl ?_
  refine xj_iload 4 dL_law__1784 rfl ?_
  refine xj_iconst (z := 2) dL_law__1786 (by decide) ?_
  refine xj_iadd dL_law__1787 ?_
  by_cases c2 : inb (x4 + 2) (m 100 1 0).toNatClampNeg = true
  case neg => rw [if_neg c2] at h; cases h
  rw [if_pos c2] at h
  refine xg_ialdS (z := (m 100 0 ((x4 + 2).toNatClampNeg))) (n := (x4 + 2).toNatClampNeg) dL_law__1788 (inb_in c2) rfl rfl ?_
  refine xj_aload_n 3 dL_law__1789 rfl ?_
  obtain ⟨z3, m4, e5, h⟩ := bd2_some h
  refine xc_Hi (st := []) (ok_L_leaders (m 100 0 ((x4 + 1).toNatClampNeg)) (m 100 0 ((x4 + 2).toNatClampNeg)) m e5) dL_law__1790 ch_199 rfl rfl (Nat.le_of_ble_eq_true rfl) (by decide) (by decide) (by omega) (by omega) ?_
  refine xj_istore (ls' := [(5, vI z3), (0, vR 100 0), (1, vR 11 0), (2, vR 12 0), (3, vR 92 0), (4, vI x4)]) dL_law__1793 (by decide) rfl ?_
  refine xj_aload_n 3 dL_law__1795 rfl ?_
  refine xj_aload_n 1 dL_law__1796 rfl ?_
  refine xj_iload 5 dL_law__1797 rfl ?_
  refine xj_iconst (z := 1) dL_law__1799 (by decide) ?_
  refine xj_iadd dL_law__1800 ?_
  by_cases c6 : inb (x4 + 1) (m4 100 1 0).toNatClampNeg = true
  case neg => rw [if_neg c6] at h; cases h
  rw [if_pos c6] at h
  refine xg_ialdS (z := (m4 100 0 ((x4 + 1).toNatClampNeg))) (n := (x4 + 1).toNatClampNeg) dL_law__1801 (inb_in c6) rfl rfl ?_
  refine xj_aload_n 1 dL_law__1802 rfl ?_
  refine xj_iload 5 dL_law__1803 rfl ?_
  refine xj_iconst (z := 2) dL_law__1805 (by decide) ?_
  refine xj_iadd dL_law__1806 ?_
  by_cases c7 : inb (x4 + 2) (m4 100 1 0).toNatClampNeg = true
  case neg => rw [if_neg c7] at h; cases h
  rw [if_pos c7] at h
  refine xg_ialdS (z := (m4 100 0 ((x4 + 2).toNatClampNeg))) (n := (x4 + 2).toNatClampNeg) dL_law__1807 (inb_in c7) rfl rfl ?_
  obtain ⟨z10, m9, e8, h⟩ := bd2_some h
  refine xc_Vi0 (st := []) (ok_X12_leaders (m4 100 0 ((x4 + 1).toNatClampNeg)) (m4 100 0 ((x4 + 2).toNatClampNeg)) m4 e8) dL_law__1808 cv_L_201 rfl rfl (Nat.le_of_ble_eq_true rfl) (by decide) (by decide) (by omega) (by omega) ?_
  refine xj_istore (ls' := [(6, vI z10), (5, vI z3), (0, vR 100 0), (1, vR 11 0), (2, vR 12 0), (3, vR 92 0), (4, vI x4)]) dL_law__1811 (by decide) rfl ?_
  refine xj_aload_n 4 dL_law__1813 rfl ?_
  refine xc_Vi0 (st := []) (ok_X12_thrown m9 rfl) dL_law__1814 cv_L_116 rfl rfl (Nat.le_of_ble_eq_true rfl) (by decide) (by decide) (by omega) (by omega) ?_
  refine xj_iload 1 dL_law__1817 rfl ?_
  refine xj_icmp_eq (tgt := 1824) dL_law__1819 (by decide) (fun c11 => ?_) (fun c11 => ?_)
  · rw [if_pos c11] at h
    refine xj_iload 1 dL_law__1824 rfl ?_
    refine xj_if_ne (tgt := 1841) dL_law__1826 (by decide) (fun c12 => ?_) (fun c12 => ?_)
    · rw [if_neg c12] at h
      refine xj_goto (tgt := 2347) dL_law__1841 (by decide) ?_
      refine xj_iinc (z := x4 + 10) (ls' := [(4, vI (x4 + 10)), (6, vI z10), (5, vI z3), (0, vR 100 0), (1, vR 11 0), (2, vR 12 0), (3, vR 92 0)]) 6 dL_law__2347 rfl rfl (by decide) rfl ?_
      refine xj_goto (tgt := 23) dL_law__2350 (by decide) ?_
      cases h
      refine xj_widen (u2 := u + 120) (v2 := v + 3000) (by omega) (by omega) ?_
      refine xj_pick (ls' := [(0, vR 100 0), (1, vR 11 0), (2, vR 12 0), (3, vR 92 0), (4, vI (x4 + 10))]) [3, 4, 5, 6, 0] rfl ?_
      exact kb
    · rw [if_pos c12] at h
      refine xj_aload_n 5 dL_law__1829 rfl ?_
      refine xj_iconst (z := 0) dL_law__1830 (by decide) ?_
      refine xj_lald0 (z := (jL (m9 92 0 0) (m9 92 0 1))) dL_law__1831 rfl ?_
      refine xj_iload 0 dL_law__1832 rfl ?_
      refine xj_i2l dL_law__1834 ?_
      refine xj_lcmp dL_law__1835 ?_
      refine xj_if_eq (tgt := 1841) dL_law__1836 (by decide) (fun c13 => ?_) (fun c13 => ?_)
      · rw [if_pos c13] at h
        refine xj_goto (tgt := 2347) dL_law__1841 (by decide) ?_
        refine xj_iinc (z := x4 + 10) (ls' := [(4, vI (x4 + 10)), (6, vI z10), (5, vI z3), (0, vR 100 0), (1, vR 11 0), (2, vR 12 0), (3, vR 92 0)]) 6 dL_law__2347 rfl rfl (by decide) rfl ?_
        refine xj_goto (tgt := 23) dL_law__2350 (by decide) ?_
        cases h
        refine xj_widen (u2 := u + 120) (v2 := v + 3000) (by omega) (by omega) ?_
        refine xj_pick (ls' := [(0, vR 100 0), (1, vR 11 0), (2, vR 12 0), (3, vR 92 0), (4, vI (x4 + 10))]) [3, 4, 5, 6, 0] rfl ?_
        exact kb
      · rw [if_neg c13] at h
        cases h
  · rw [if_neg c11] at h
    cases h
noncomputable def r_L_op_27 (x4 : Int32) (m : Mem) : Option Mem :=
  if inb (x4 + 1) (m 100 1 0).toNatClampNeg = true then (if inb (x4 + 2) (m 100 1 0).toNatClampNeg = true then (if inb (x4 + 3) (m 100 1 0).toNatClampNeg = true then (bd2 (r_L_share (m 100 0 ((x4 + 1).toNatClampNeg)) (m 100 0 ((x4 + 2).toNatClampNeg)) (m 100 0 ((x4 + 3).toNatClampNeg)) m) fun z4 m5 => (if inb (x4 + 1) (m5 100 1 0).toNatClampNeg = true then (if inb (x4 + 2) (m5 100 1 0).toNatClampNeg = true then (if inb (x4 + 3) (m5 100 1 0).toNatClampNeg = true then (bd2 (r_X12_share (m5 100 0 ((x4 + 1).toNatClampNeg)) (m5 100 0 ((x4 + 2).toNatClampNeg)) (m5 100 0 ((x4 + 3).toNatClampNeg)) m5) fun z12 m11 => (if (r_X12_thrown m11) = z4 then (if z4 = 0 then (if (lg_cmp (jL (m11 92 0 0) (m11 92 0 1)) z12.toInt64) = 0 then (some m11) else (none)) else (some m11)) else (none))) else none) else none) else none)) else none) else none) else none
set_option maxHeartbeats 4000000 in
set_option maxRecDepth 20000 in
theorem ok_L_op_27 (x4 : Int32) (m : Mem) {m1 : Mem} (h : r_L_op_27 x4 m = some m1) {u v : Nat} (hu : u + 120 ≤ 601024) (hv : v + 3000 ≤ 7293034) {o : Ou} {M' : Mem} (kb : Xj RL cL_law_ 8 (some .boolean) 2048 84000 601024 7293034 (u + 120) (v + 3000) 23 [(0, vR 100 0), (1, vR 11 0), (2, vR 12 0), (3, vR 92 0), (4, vI (x4 + 10))] [] m1 o M') : Xj RL cL_law_ 8 (some .boolean) 2048 84000 601024 7293034 u v 1844 [(0, vR 100 0), (1, vR 11 0), (2, vR 12 0), (3, vR 92 0), (4, vI x4)] [] m o M' := by
  unfold r_L_op_27 at h
  refine xj_aload_n 1 dL_law__1844 rfl ?_
  refine xj_aload_n 0 dL_law__1845 rfl ?_
  refine xj_iload 4 dL_law__1846 rfl ?_
  refine xj_iconst (z := 1) dL_law__1848 (by decide) ?_
  refine xj_iadd dL_law__1849 ?_
  by_cases c1 : inb (x4 + 1) (m 100 1 0).toNatClampNeg = true
  case neg => rw [if_neg c1] at h; cases h
  rw [if_pos c1] at h
  refine xg_ialdS (z := (m 100 0 ((x4 + 1).toNatClampNeg))) (n := (x4 + 1).toNatClampNeg) dL_law__1850 (inb_in c1) rfl rfl ?_
  refine xj_aload_n 0 dL_law__1851 rfl ?_
  refine xj_iload 4 dL_law__1852 rfl ?_
  refine xj_iconst (z := 2) dL_law__1854 (by decide) ?_
  refine xj_iadd dL_law__1855 ?_
  by_cases c2 : inb (x4 + 2) (m 100 1 0).toNatClampNeg = true
  case neg => rw [if_neg c2] at h; cases h
  rw [if_pos c2] at h
  refine xg_ialdS (z := (m 100 0 ((x4 + 2).toNatClampNeg))) (n := (x4 + 2).toNatClampNeg) dL_law__1856 (inb_in c2) rfl rfl ?_
  refine xj_aload_n 0 dL_law__1857 rfl ?_
  refine xj_iload 4 dL_law__1858 rfl ?_
  refine xj_iconst (z := 3) dL_law__1860 (by decide) ?_
  refine xj_iadd dL_law__1861 ?_
  by_cases c3 : inb (x4 + 3) (m 100 1 0).toNatClampNeg = true
  case neg => rw [if_neg c3] at h; cases h
  rw [if_pos c3] at h
  refine xg_ialdS (z := (m 100 0 ((x4 + 3).toNatClampNeg))) (n := (x4 + 3).toNatClampNeg) dL_law__1862 (inb_in c3) rfl rfl ?_
  refine xj_aload_n 3 dL_law__1863 rfl ?_
  obtain ⟨z4, m5, e6, h⟩ := bd2_some h
  refine xc_Hi (st := []) (ok_L_share (m 100 0 ((x4 + 1).toNatClampNeg)) (m 100 0 ((x4 + 2).toNatClampNeg)) (m 100 0 ((x4 + 3).toNatClampNeg)) m e6) dL_law__1864 ch_202 rfl rfl (Nat.le_of_ble_eq_true rfl) (by decide) (by decide) (by omega) (by omega) ?_
  refine xj_istore (ls' := [(5, vI z4), (0, vR 100 0), (1, vR 11 0), (2, vR 12 0), (3, vR 92 0), (4, vI x4)]) dL_law__1867 (by decide) rfl ?_
  refine xj_aload_n 3 dL_law__1869 rfl ?_
  refine xj_aload_n 1 dL_law__1870 rfl ?_
  refine xj_iload 5 dL_law__1871 rfl ?_
  refine xj_iconst (z := 1) dL_law__1873 (by decide) ?_
  refine xj_iadd dL_law__1874 ?_
  by_cases c7 : inb (x4 + 1) (m5 100 1 0).toNatClampNeg = true
  case neg => rw [if_neg c7] at h; cases h
  rw [if_pos c7] at h
  refine xg_ialdS (z := (m5 100 0 ((x4 + 1).toNatClampNeg))) (n := (x4 + 1).toNatClampNeg) dL_law__1875 (inb_in c7) rfl rfl ?_
  refine xj_aload_n 1 dL_law__1876 rfl ?_
  refine xj_iload 5 dL_law__1877 rfl ?_
  refine xj_iconst (z := 2) dL_law__1879 (by decide) ?_
  refine xj_iadd dL_law__1880 ?_
  by_cases c8 : inb (x4 + 2) (m5 100 1 0).toNatClampNeg = true
  case neg => rw [if_neg c8] at h; cases h
  rw [if_pos c8] at h
  refine xg_ialdS (z := (m5 100 0 ((x4 + 2).toNatClampNeg))) (n := (x4 + 2).toNatClampNeg) dL_law__1881 (inb_in c8) rfl rfl ?_
  refine xj_aload_n 1 dL_law__1882 rfl ?_
  refine xj_iload 5 dL_law__1883 rfl ?_
  refine xj_iconst (z := 3) dL_law__1885 (by decide) ?_
  refine xj_iadd dL_law__1886 ?_
  by_cases c9 : inb (x4 + 3) (m5 100 1 0).toNatClampNeg = true
  case neg => rw [if_neg c9] at h; cases h
  rw [if_pos c9] at h
  refine xg_ialdS (z := (m5 100 0 ((x4 + 3).toNatClampNeg))) (n := (x4 + 3).toNatClampNeg) dL_law__1887 (inb_in c9) rfl rfl ?_
  obtain ⟨z12, m11, e10, h⟩ := bd2_some h
  refine xc_Vi0 (st := []) (ok_X12_share (m5 100 0 ((x4 + 1).toNatClampNeg)) (m5 100 0 ((x4 + 2).toNatClampNeg)) (m5 100 0 ((x4 + 3).toNatClampNeg)) m5 e10) dL_law__1888 cv_L_204 rfl rfl (Nat.le_of_ble_eq_true rfl) (by decide) (by decide) (by omega) (by omega) ?_
  refine xj_istore (ls' := [(6, vI z12), (5, vI z4), (0, vR 100 0), (1, vR 11 0), (2, vR 12 0), (3, vR 92 0), (4, vI x4)]) dL_law__1891 (by decide) rfl ?_
  refine xj_aload_n 4 dL_law__1893 rfl ?_
  refine xc_Vi0 (st := []) (ok_X12_thrown m11 rfl) dL_law__1894 cv_L_116 rfl rfl (Nat.le_of_ble_eq_true rfl) (by decide) (by decide) (by omega) (by omega) ?_
  refine xj_iload 1 dL_law__1897 rfl ?_
  refine xj_icmp_eq (tgt := 1904) dL_law__1899 (by decide) (fun c13 => ?_) (fun c13 => ?_)
  · rw [if_pos c13] at h
    refine xj_iload 1 dL_law__1904 rfl ?_
    refine xj_if_ne (tgt := 1921) dL_law__1906 (by decide) (fun c14 => ?_) (fun c14 => ?_)
    · rw [if_neg c14] at h
      refine xj_goto (tgt := 2347) dL_law__1921 (by decide) ?_
      refine xj_iinc (z := x4 + 10) (ls' := [(4, vI (x4 + 10)), (6, vI z12), (5, vI z4), (0, vR 100 0), (1, vR 11 0), (2, vR 12 0), (3, vR 92 0)]) 6 dL_law__2347 rfl rfl (by decide) rfl ?_
      refine xj_goto (tgt := 23) dL_law__2350 (by decide) ?_
      cases h
      refine xj_widen (u2 := u + 120) (v2 := v + 3000) (by omega) (by omega) ?_
      refine xj_pick (ls' := [(0, vR 100 0), (1, vR 11 0), (2, vR 12 0), (3, vR 92 0), (4, vI (x4 + 10))]) [3, 4, 5, 6, 0] rfl ?_
      exact kb
    · rw [if_pos c14] at h
      refine xj_aload_n 5 dL_law__1909 rfl ?_
      refine xj_iconst (z := 0) dL_law__1910 (by decide) ?_
      refine xj_lald0 (z := (jL (m11 92 0 0) (m11 92 0 1))) dL_law__1911 rfl ?_
      refine xj_iload 0 dL_law__1912 rfl ?_
      refine xj_i2l dL_law__1914 ?_
      refine xj_lcmp dL_law__1915 ?_
      refine xj_if_eq (tgt := 1921) dL_law__1916 (by decide) (fun c15 => ?_) (fun c15 => ?_)
      · rw [if_pos c15] at h
        refine xj_goto (tgt := 2347) dL_law__1921 (by decide) ?_
        refine xj_iinc (z := x4 + 10) (ls' := [(4, vI (x4 + 10)), (6, vI z12), (5, vI z4), (0, vR 100 0), (1, vR 11 0), (2, vR 12 0), (3, vR 92 0)]) 6 dL_law__2347 rfl rfl (by decide) rfl ?_
        refine xj_goto (tgt := 23) dL_law__2350 (by decide) ?_
        cases h
        refine xj_widen (u2 := u + 120) (v2 := v + 3000) (by omega) (by omega) ?_
        refine xj_pick (ls' := [(0, vR 100 0), (1, vR 11 0), (2, vR 12 0), (3, vR 92 0), (4, vI (x4 + 10))]) [3, 4, 5, 6, 0] rfl ?_
        exact kb
      · rw [if_neg c15] at h
        cases h
  · rw [if_neg c13] at h
    cases h
noncomputable def r_L_op_28 (x4 : Int32) (m : Mem) : Option Mem :=
  if inb (x4 + 1) (m 100 1 0).toNatClampNeg = true then (if inb (x4 + 2) (m 100 1 0).toNatClampNeg = true then (bd2 (r_L_right (m 100 0 ((x4 + 1).toNatClampNeg)) (m 100 0 ((x4 + 2).toNatClampNeg)) m) fun z3 m4 => (if inb (x4 + 1) (m4 100 1 0).toNatClampNeg = true then (if inb (x4 + 2) (m4 100 1 0).toNatClampNeg = true then (bd2 (r_X12_right (m4 100 0 ((x4 + 1).toNatClampNeg)) (m4 100 0 ((x4 + 2).toNatClampNeg)) m4) fun z10 m9 => (if (r_X12_thrown m9) = z3 then (if z3 = 0 then (if (lg_cmp (jL (m9 92 0 0) (m9 92 0 1)) z10.toInt64) = 0 then (some m9) else (none)) else (some m9)) else (none))) else none) else none)) else none) else none
set_option maxHeartbeats 4000000 in
set_option maxRecDepth 20000 in
theorem ok_L_op_28 (x4 : Int32) (m : Mem) {m1 : Mem} (h : r_L_op_28 x4 m = some m1) {u v : Nat} (hu : u + 120 ≤ 601024) (hv : v + 3000 ≤ 7293034) {o : Ou} {M' : Mem} (kb : Xj RL cL_law_ 8 (some .boolean) 2048 84000 601024 7293034 (u + 120) (v + 3000) 23 [(0, vR 100 0), (1, vR 11 0), (2, vR 12 0), (3, vR 92 0), (4, vI (x4 + 10))] [] m1 o M') : Xj RL cL_law_ 8 (some .boolean) 2048 84000 601024 7293034 u v 1924 [(0, vR 100 0), (1, vR 11 0), (2, vR 12 0), (3, vR 92 0), (4, vI x4)] [] m o M' := by
  unfold r_L_op_28 at h
  refine xj_aload_n 1 dL_law__1924 rfl ?_
  refine xj_aload_n 0 dL_law__1925 rfl ?_
  refine xj_iload 4 dL_law__1926 rfl ?_
  refine xj_iconst (z := 1) dL_law__1928 (by decide) ?_
  refine xj_iadd dL_law__1929 ?_
  by_cases c1 : inb (x4 + 1) (m 100 1 0).toNatClampNeg = true
  case neg => rw [if_neg c1] at h; cases h
  rw [if_pos c1] at h
  refine xg_ialdS (z := (m 100 0 ((x4 + 1).toNatClampNeg))) (n := (x4 + 1).toNatClampNeg) dL_law__1930 (inb_in c1) rfl rfl ?_
  refine xj_aload_n 0 dL_law__1931 rfl ?_
  refine xj_iload 4 dL_law__1932 rfl ?_
  refine xj_iconst (z := 2) dL_law__1934 (by decide) ?_
  refine xj_iadd dL_law__1935 ?_
  by_cases c2 : inb (x4 + 2) (m 100 1 0).toNatClampNeg = true
  case neg => rw [if_neg c2] at h; cases h
  rw [if_pos c2] at h
  refine xg_ialdS (z := (m 100 0 ((x4 + 2).toNatClampNeg))) (n := (x4 + 2).toNatClampNeg) dL_law__1936 (inb_in c2) rfl rfl ?_
  refine xj_aload_n 3 dL_law__1937 rfl ?_
  obtain ⟨z3, m4, e5, h⟩ := bd2_some h
  refine xc_Hi (st := []) (ok_L_right (m 100 0 ((x4 + 1).toNatClampNeg)) (m 100 0 ((x4 + 2).toNatClampNeg)) m e5) dL_law__1938 ch_205 rfl rfl (Nat.le_of_ble_eq_true rfl) (by decide) (by decide) (by omega) (by omega) ?_
  refine xj_istore (ls' := [(5, vI z3), (0, vR 100 0), (1, vR 11 0), (2, vR 12 0), (3, vR 92 0), (4, vI x4)]) dL_law__1941 (by decide) rfl ?_
  refine xj_aload_n 3 dL_law__1943 rfl ?_
  refine xj_aload_n 1 dL_law__1944 rfl ?_
  refine xj_iload 5 dL_law__1945 rfl ?_
  refine xj_iconst (z := 1) dL_law__1947 (by decide) ?_
  refine xj_iadd dL_law__1948 ?_
  by_cases c6 : inb (x4 + 1) (m4 100 1 0).toNatClampNeg = true
  case neg => rw [if_neg c6] at h; cases h
  rw [if_pos c6] at h
  refine xg_ialdS (z := (m4 100 0 ((x4 + 1).toNatClampNeg))) (n := (x4 + 1).toNatClampNeg) dL_law__1949 (inb_in c6) rfl rfl ?_
  refine xj_aload_n 1 dL_law__1950 rfl ?_
  refine xj_iload 5 dL_law__1951 rfl ?_
  refine xj_iconst (z := 2) dL_law__1953 (by decide) ?_
  refine xj_iadd dL_law__1954 ?_
  by_cases c7 : inb (x4 + 2) (m4 100 1 0).toNatClampNeg = true
  case neg => rw [if_neg c7] at h; cases h
  rw [if_pos c7] at h
  refine xg_ialdS (z := (m4 100 0 ((x4 + 2).toNatClampNeg))) (n := (x4 + 2).toNatClampNeg) dL_law__1955 (inb_in c7) rfl rfl ?_
  obtain ⟨z10, m9, e8, h⟩ := bd2_some h
  refine xc_Vi0 (st := []) (ok_X12_right (m4 100 0 ((x4 + 1).toNatClampNeg)) (m4 100 0 ((x4 + 2).toNatClampNeg)) m4 e8) dL_law__1956 cv_L_207 rfl rfl (Nat.le_of_ble_eq_true rfl) (by decide) (by decide) (by omega) (by omega) ?_
  refine xj_istore (ls' := [(6, vI z10), (5, vI z3), (0, vR 100 0), (1, vR 11 0), (2, vR 12 0), (3, vR 92 0), (4, vI x4)]) dL_law__1959 (by decide) rfl ?_
  refine xj_aload_n 4 dL_law__1961 rfl ?_
  refine xc_Vi0 (st := []) (ok_X12_thrown m9 rfl) dL_law__1962 cv_L_116 rfl rfl (Nat.le_of_ble_eq_true rfl) (by decide) (by decide) (by omega) (by omega) ?_
  refine xj_iload 1 dL_law__1965 rfl ?_
  refine xj_icmp_eq (tgt := 1972) dL_law__1967 (by decide) (fun c11 => ?_) (fun c11 => ?_)
  · rw [if_pos c11] at h
    refine xj_iload 1 dL_law__1972 rfl ?_
    refine xj_if_ne (tgt := 1989) dL_law__1974 (by decide) (fun c12 => ?_) (fun c12 => ?_)
    · rw [if_neg c12] at h
      refine xj_goto (tgt := 2347) dL_law__1989 (by decide) ?_
      refine xj_iinc (z := x4 + 10) (ls' := [(4, vI (x4 + 10)), (6, vI z10), (5, vI z3), (0, vR 100 0), (1, vR 11 0), (2, vR 12 0), (3, vR 92 0)]) 6 dL_law__2347 rfl rfl (by decide) rfl ?_
      refine xj_goto (tgt := 23) dL_law__2350 (by decide) ?_
      cases h
      refine xj_widen (u2 := u + 120) (v2 := v + 3000) (by omega) (by omega) ?_
      refine xj_pick (ls' := [(0, vR 100 0), (1, vR 11 0), (2, vR 12 0), (3, vR 92 0), (4, vI (x4 + 10))]) [3, 4, 5, 6, 0] rfl ?_
      exact kb
    · rw [if_pos c12] at h
      refine xj_aload_n 5 dL_law__1977 rfl ?_
      refine xj_iconst (z := 0) dL_law__1978 (by decide) ?_
      refine xj_lald0 (z := (jL (m9 92 0 0) (m9 92 0 1))) dL_law__1979 rfl ?_
      refine xj_iload 0 dL_law__1980 rfl ?_
      refine xj_i2l dL_law__1982 ?_
      refine xj_lcmp dL_law__1983 ?_
      refine xj_if_eq (tgt := 1989) dL_law__1984 (by decide) (fun c13 => ?_) (fun c13 => ?_)
      · rw [if_pos c13] at h
        refine xj_goto (tgt := 2347) dL_law__1989 (by decide) ?_
        refine xj_iinc (z := x4 + 10) (ls' := [(4, vI (x4 + 10)), (6, vI z10), (5, vI z3), (0, vR 100 0), (1, vR 11 0), (2, vR 12 0), (3, vR 92 0)]) 6 dL_law__2347 rfl rfl (by decide) rfl ?_
        refine xj_goto (tgt := 23) dL_law__2350 (by decide) ?_
        cases h
        refine xj_widen (u2 := u + 120) (v2 := v + 3000) (by omega) (by omega) ?_
        refine xj_pick (ls' := [(0, vR 100 0), (1, vR 11 0), (2, vR 12 0), (3, vR 92 0), (4, vI (x4 + 10))]) [3, 4, 5, 6, 0] rfl ?_
        exact kb
      · rw [if_neg c13] at h
        cases h
  · rw [if_neg c11] at h
    cases h
noncomputable def r_L_op_29 (x4 : Int32) (m : Mem) : Option Mem :=
  if inb (x4 + 1) (m 100 1 0).toNatClampNeg = true then (bd2 (r_L_blank (m 100 0 ((x4 + 1).toNatClampNeg)) m) fun z2 m3 => (if inb (x4 + 1) (m3 100 1 0).toNatClampNeg = true then (bd2 (r_X12_blank (m3 100 0 ((x4 + 1).toNatClampNeg)) m3) fun z8 m7 => (if (r_X12_thrown m7) = z2 then (if z2 = 0 then (if (lg_cmp (jL (m7 92 0 0) (m7 92 0 1)) z8.toInt64) = 0 then (some m7) else (none)) else (some m7)) else (none))) else none)) else none
set_option maxHeartbeats 4000000 in
set_option maxRecDepth 20000 in
theorem ok_L_op_29 (x4 : Int32) (m : Mem) {m1 : Mem} (h : r_L_op_29 x4 m = some m1) {u v : Nat} (hu : u + 120 ≤ 601024) (hv : v + 3000 ≤ 7293034) {o : Ou} {M' : Mem} (kb : Xj RL cL_law_ 8 (some .boolean) 2048 84000 601024 7293034 (u + 120) (v + 3000) 23 [(0, vR 100 0), (1, vR 11 0), (2, vR 12 0), (3, vR 92 0), (4, vI (x4 + 10))] [] m1 o M') : Xj RL cL_law_ 8 (some .boolean) 2048 84000 601024 7293034 u v 1992 [(0, vR 100 0), (1, vR 11 0), (2, vR 12 0), (3, vR 92 0), (4, vI x4)] [] m o M' := by
  unfold r_L_op_29 at h
  refine xj_aload_n 1 dL_law__1992 rfl ?_
  refine xj_aload_n 0 dL_law__1993 rfl ?_
  refine xj_iload 4 dL_law__1994 rfl ?_
  refine xj_iconst (z := 1) dL_law__1996 (by decide) ?_
  refine xj_iadd dL_law__1997 ?_
  by_cases c1 : inb (x4 + 1) (m 100 1 0).toNatClampNeg = true
  case neg => rw [if_neg c1] at h; cases h
  rw [if_pos c1] at h
  refine xg_ialdS (z := (m 100 0 ((x4 + 1).toNatClampNeg))) (n := (x4 + 1).toNatClampNeg) dL_law__1998 (inb_in c1) rfl rfl ?_
  refine xj_aload_n 3 dL_law__1999 rfl ?_
  obtain ⟨z2, m3, e4, h⟩ := bd2_some h
  refine xc_Hi (st := []) (ok_L_blank (m 100 0 ((x4 + 1).toNatClampNeg)) m e4) dL_law__2000 ch_208 rfl rfl (Nat.le_of_ble_eq_true rfl) (by decide) (by decide) (by omega) (by omega) ?_
  refine xj_istore (ls' := [(5, vI z2), (0, vR 100 0), (1, vR 11 0), (2, vR 12 0), (3, vR 92 0), (4, vI x4)]) dL_law__2003 (by decide) rfl ?_
  refine xj_aload_n 3 dL_law__2005 rfl ?_
  refine xj_aload_n 1 dL_law__2006 rfl ?_
  refine xj_iload 5 dL_law__2007 rfl ?_
  refine xj_iconst (z := 1) dL_law__2009 (by decide) ?_
  refine xj_iadd dL_law__2010 ?_
  by_cases c5 : inb (x4 + 1) (m3 100 1 0).toNatClampNeg = true
  case neg => rw [if_neg c5] at h; cases h
  rw [if_pos c5] at h
  refine xg_ialdS (z := (m3 100 0 ((x4 + 1).toNatClampNeg))) (n := (x4 + 1).toNatClampNeg) dL_law__2011 (inb_in c5) rfl rfl ?_
  obtain ⟨z8, m7, e6, h⟩ := bd2_some h
  refine xc_Vi0 (st := []) (ok_X12_blank (m3 100 0 ((x4 + 1).toNatClampNeg)) m3 e6) dL_law__2012 cv_L_210 rfl rfl (Nat.le_of_ble_eq_true rfl) (by decide) (by decide) (by omega) (by omega) ?_
  refine xj_istore (ls' := [(6, vI z8), (5, vI z2), (0, vR 100 0), (1, vR 11 0), (2, vR 12 0), (3, vR 92 0), (4, vI x4)]) dL_law__2015 (by decide) rfl ?_
  refine xj_aload_n 4 dL_law__2017 rfl ?_
  refine xc_Vi0 (st := []) (ok_X12_thrown m7 rfl) dL_law__2018 cv_L_116 rfl rfl (Nat.le_of_ble_eq_true rfl) (by decide) (by decide) (by omega) (by omega) ?_
  refine xj_iload 1 dL_law__2021 rfl ?_
  refine xj_icmp_eq (tgt := 2028) dL_law__2023 (by decide) (fun c9 => ?_) (fun c9 => ?_)
  · rw [if_pos c9] at h
    refine xj_iload 1 dL_law__2028 rfl ?_
    refine xj_if_ne (tgt := 2045) dL_law__2030 (by decide) (fun c10 => ?_) (fun c10 => ?_)
    · rw [if_neg c10] at h
      refine xj_goto (tgt := 2347) dL_law__2045 (by decide) ?_
      refine xj_iinc (z := x4 + 10) (ls' := [(4, vI (x4 + 10)), (6, vI z8), (5, vI z2), (0, vR 100 0), (1, vR 11 0), (2, vR 12 0), (3, vR 92 0)]) 6 dL_law__2347 rfl rfl (by decide) rfl ?_
      refine xj_goto (tgt := 23) dL_law__2350 (by decide) ?_
      cases h
      refine xj_widen (u2 := u + 120) (v2 := v + 3000) (by omega) (by omega) ?_
      refine xj_pick (ls' := [(0, vR 100 0), (1, vR 11 0), (2, vR 12 0), (3, vR 92 0), (4, vI (x4 + 10))]) [3, 4, 5, 6, 0] rfl ?_
      exact kb
    · rw [if_pos c10] at h
      refine xj_aload_n 5 dL_law__2033 rfl ?_
      refine xj_iconst (z := 0) dL_law__2034 (by decide) ?_
      refine xj_lald0 (z := (jL (m7 92 0 0) (m7 92 0 1))) dL_law__2035 rfl ?_
      refine xj_iload 0 dL_law__2036 rfl ?_
      refine xj_i2l dL_law__2038 ?_
      refine xj_lcmp dL_law__2039 ?_
      refine xj_if_eq (tgt := 2045) dL_law__2040 (by decide) (fun c11 => ?_) (fun c11 => ?_)
      · rw [if_pos c11] at h
        refine xj_goto (tgt := 2347) dL_law__2045 (by decide) ?_
        refine xj_iinc (z := x4 + 10) (ls' := [(4, vI (x4 + 10)), (6, vI z8), (5, vI z2), (0, vR 100 0), (1, vR 11 0), (2, vR 12 0), (3, vR 92 0)]) 6 dL_law__2347 rfl rfl (by decide) rfl ?_
        refine xj_goto (tgt := 23) dL_law__2350 (by decide) ?_
        cases h
        refine xj_widen (u2 := u + 120) (v2 := v + 3000) (by omega) (by omega) ?_
        refine xj_pick (ls' := [(0, vR 100 0), (1, vR 11 0), (2, vR 12 0), (3, vR 92 0), (4, vI (x4 + 10))]) [3, 4, 5, 6, 0] rfl ?_
        exact kb
      · rw [if_neg c11] at h
        cases h
  · rw [if_neg c9] at h
    cases h
noncomputable def r_L_op_30 (x4 : Int32) (m : Mem) : Option Mem :=
  bd2 (r_X11_uphill m) fun z3 m2 => (bd2 (r_X12_uphill m2) fun z6 m5 => (if z3 = z6 then (some m5) else (none)))
set_option maxHeartbeats 4000000 in
set_option maxRecDepth 20000 in
theorem ok_L_op_30 (x4 : Int32) (m : Mem) {m1 : Mem} (h : r_L_op_30 x4 m = some m1) {u v : Nat} (hu : u + 120 ≤ 601024) (hv : v + 3000 ≤ 7293034) {o : Ou} {M' : Mem} (kb : Xj RL cL_law_ 8 (some .boolean) 2048 84000 601024 7293034 (u + 120) (v + 3000) 23 [(0, vR 100 0), (1, vR 11 0), (2, vR 12 0), (3, vR 92 0), (4, vI (x4 + 10))] [] m1 o M') : Xj RL cL_law_ 8 (some .boolean) 2048 84000 601024 7293034 u v 2048 [(0, vR 100 0), (1, vR 11 0), (2, vR 12 0), (3, vR 92 0), (4, vI x4)] [] m o M' := by
  unfold r_L_op_30 at h
  refine xj_aload_n 1 dL_law__2048 rfl ?_
  obtain ⟨z3, m2, e1, h⟩ := bd2_some h
  refine xc_Vi0 (st := []) (ok_X11_uphill m e1) dL_law__2049 cv_L_211 rfl rfl (Nat.le_of_ble_eq_true rfl) (by decide) (by decide) (by omega) (by omega) ?_
  refine xj_aload_n 2 dL_law__2052 rfl ?_
  obtain ⟨z6, m5, e4, h⟩ := bd2_some h
  refine xc_Vi0 (st := [vI z3]) (ok_X12_uphill m2 e4) dL_law__2053 cv_L_214 rfl rfl (Nat.le_of_ble_eq_true rfl) (by decide) (by decide) (by omega) (by omega) ?_
  refine xj_icmp_eq (tgt := 2347) dL_law__2056 (by decide) (fun c7 => ?_) (fun c7 => ?_)
  · rw [if_pos c7] at h
    refine xj_iinc (z := x4 + 10) (ls' := [(4, vI (x4 + 10)), (0, vR 100 0), (1, vR 11 0), (2, vR 12 0), (3, vR 92 0)]) 4 dL_law__2347 rfl rfl (by decide) rfl ?_
    refine xj_goto (tgt := 23) dL_law__2350 (by decide) ?_
    cases h
    refine xj_widen (u2 := u + 120) (v2 := v + 3000) (by omega) (by omega) ?_
    refine xj_pick (ls' := [(0, vR 100 0), (1, vR 11 0), (2, vR 12 0), (3, vR 92 0), (4, vI (x4 + 10))]) [1, 2, 3, 4, 0] rfl ?_
    exact kb
  · rw [if_neg c7] at h
    cases h
noncomputable def r_L_op_31 (x4 : Int32) (m : Mem) : Option Mem :=
  if inb (x4 + 1) (m 100 1 0).toNatClampNeg = true then (if inb (x4 + 2) (m 100 1 0).toNatClampNeg = true then (if inb (x4 + 3) (m 100 1 0).toNatClampNeg = true then (if inb (x4 + 4) (m 100 1 0).toNatClampNeg = true then (bd2 (r_L_year (m 100 0 ((x4 + 1).toNatClampNeg)) (m 100 0 ((x4 + 2).toNatClampNeg)) (m 100 0 ((x4 + 3).toNatClampNeg)) (m 100 0 ((x4 + 4).toNatClampNeg)) m) fun z5 m6 => (if inb (x4 + 1) (m6 100 1 0).toNatClampNeg = true then (if inb (x4 + 2) (m6 100 1 0).toNatClampNeg = true then (if inb (x4 + 3) (m6 100 1 0).toNatClampNeg = true then (if inb (x4 + 4) (m6 100 1 0).toNatClampNeg = true then (bd2 (r_X12_year (m6 100 0 ((x4 + 1).toNatClampNeg)) (m6 100 0 ((x4 + 2).toNatClampNeg)) (m6 100 0 ((x4 + 3).toNatClampNeg)) (m6 100 0 ((x4 + 4).toNatClampNeg)) m6) fun z14 m13 => (if (r_X12_thrown m13) = z5 then (if z5 = 0 then (if (lg_cmp (jL (m13 92 0 0) (m13 92 0 1)) z14.toInt64) = 0 then (some m13) else (none)) else (some m13)) else (none))) else none) else none) else none) else none)) else none) else none) else none) else none
set_option maxHeartbeats 4000000 in
set_option maxRecDepth 20000 in
theorem ok_L_op_31 (x4 : Int32) (m : Mem) {m1 : Mem} (h : r_L_op_31 x4 m = some m1) {u v : Nat} (hu : u + 120 ≤ 601024) (hv : v + 3000 ≤ 7293034) {o : Ou} {M' : Mem} (kb : Xj RL cL_law_ 8 (some .boolean) 2048 84000 601024 7293034 (u + 120) (v + 3000) 23 [(0, vR 100 0), (1, vR 11 0), (2, vR 12 0), (3, vR 92 0), (4, vI (x4 + 10))] [] m1 o M') : Xj RL cL_law_ 8 (some .boolean) 2048 84000 601024 7293034 u v 2061 [(0, vR 100 0), (1, vR 11 0), (2, vR 12 0), (3, vR 92 0), (4, vI x4)] [] m o M' := by
  unfold r_L_op_31 at h
  refine xj_aload_n 1 dL_law__2061 rfl ?_
  refine xj_aload_n 0 dL_law__2062 rfl ?_
  refine xj_iload 4 dL_law__2063 rfl ?_
  refine xj_iconst (z := 1) dL_law__2065 (by decide) ?_
  refine xj_iadd dL_law__2066 ?_
  by_cases c1 : inb (x4 + 1) (m 100 1 0).toNatClampNeg = true
  case neg => rw [if_neg c1] at h; cases h
  rw [if_pos c1] at h
  refine xg_ialdS (z := (m 100 0 ((x4 + 1).toNatClampNeg))) (n := (x4 + 1).toNatClampNeg) dL_law__2067 (inb_in c1) rfl rfl ?_
  refine xj_aload_n 0 dL_law__2068 rfl ?_
  refine xj_iload 4 dL_law__2069 rfl ?_
  refine xj_iconst (z := 2) dL_law__2071 (by decide) ?_
  refine xj_iadd dL_law__2072 ?_
  by_cases c2 : inb (x4 + 2) (m 100 1 0).toNatClampNeg = true
  case neg => rw [if_neg c2] at h; cases h
  rw [if_pos c2] at h
  refine xg_ialdS (z := (m 100 0 ((x4 + 2).toNatClampNeg))) (n := (x4 + 2).toNatClampNeg) dL_law__2073 (inb_in c2) rfl rfl ?_
  refine xj_aload_n 0 dL_law__2074 rfl ?_
  refine xj_iload 4 dL_law__2075 rfl ?_
  refine xj_iconst (z := 3) dL_law__2077 (by decide) ?_
  refine xj_iadd dL_law__2078 ?_
  by_cases c3 : inb (x4 + 3) (m 100 1 0).toNatClampNeg = true
  case neg => rw [if_neg c3] at h; cases h
  rw [if_pos c3] at h
  refine xg_ialdS (z := (m 100 0 ((x4 + 3).toNatClampNeg))) (n := (x4 + 3).toNatClampNeg) dL_law__2079 (inb_in c3) rfl rfl ?_
  refine xj_aload_n 0 dL_law__2080 rfl ?_
  refine xj_iload 4 dL_law__2081 rfl ?_
  refine xj_iconst (z := 4) dL_law__2083 (by decide) ?_
  refine xj_iadd dL_law__2084 ?_
  by_cases c4 : inb (x4 + 4) (m 100 1 0).toNatClampNeg = true
  case neg => rw [if_neg c4] at h; cases h
  rw [if_pos c4] at h
  refine xg_ialdS (z := (m 100 0 ((x4 + 4).toNatClampNeg))) (n := (x4 + 4).toNatClampNeg) dL_law__2085 (inb_in c4) rfl rfl ?_
  refine xj_aload_n 3 dL_law__2086 rfl ?_
  obtain ⟨z5, m6, e7, h⟩ := bd2_some h
  refine xc_Hi (st := []) (ok_L_year (m 100 0 ((x4 + 1).toNatClampNeg)) (m 100 0 ((x4 + 2).toNatClampNeg)) (m 100 0 ((x4 + 3).toNatClampNeg)) (m 100 0 ((x4 + 4).toNatClampNeg)) m e7) dL_law__2087 ch_215 rfl rfl (Nat.le_of_ble_eq_true rfl) (by decide) (by decide) (by omega) (by omega) ?_
  refine xj_istore (ls' := [(5, vI z5), (0, vR 100 0), (1, vR 11 0), (2, vR 12 0), (3, vR 92 0), (4, vI x4)]) dL_law__2090 (by decide) rfl ?_
  refine xj_aload_n 3 dL_law__2092 rfl ?_
  refine xj_aload_n 1 dL_law__2093 rfl ?_
  refine xj_iload 5 dL_law__2094 rfl ?_
  refine xj_iconst (z := 1) dL_law__2096 (by decide) ?_
  refine xj_iadd dL_law__2097 ?_
  by_cases c8 : inb (x4 + 1) (m6 100 1 0).toNatClampNeg = true
  case neg => rw [if_neg c8] at h; cases h
  rw [if_pos c8] at h
  refine xg_ialdS (z := (m6 100 0 ((x4 + 1).toNatClampNeg))) (n := (x4 + 1).toNatClampNeg) dL_law__2098 (inb_in c8) rfl rfl ?_
  refine xj_aload_n 1 dL_law__2099 rfl ?_
  refine xj_iload 5 dL_law__2100 rfl ?_
  refine xj_iconst (z := 2) dL_law__2102 (by decide) ?_
  refine xj_iadd dL_law__2103 ?_
  by_cases c9 : inb (x4 + 2) (m6 100 1 0).toNatClampNeg = true
  case neg => rw [if_neg c9] at h; cases h
  rw [if_pos c9] at h
  refine xg_ialdS (z := (m6 100 0 ((x4 + 2).toNatClampNeg))) (n := (x4 + 2).toNatClampNeg) dL_law__2104 (inb_in c9) rfl rfl ?_
  refine xj_aload_n 1 dL_law__2105 rfl ?_
  refine xj_iload 5 dL_law__2106 rfl ?_
  refine xj_iconst (z := 3) dL_law__2108 (by decide) ?_
  refine xj_iadd dL_law__2109 ?_
  by_cases c10 : inb (x4 + 3) (m6 100 1 0).toNatClampNeg = true
  case neg => rw [if_neg c10] at h; cases h
  rw [if_pos c10] at h
  refine xg_ialdS (z := (m6 100 0 ((x4 + 3).toNatClampNeg))) (n := (x4 + 3).toNatClampNeg) dL_law__2110 (inb_in c10) rfl rfl ?_
  refine xj_aload_n 1 dL_law__2111 rfl ?_
  refine xj_iload 5 dL_law__2112 rfl ?_
  refine xj_iconst (z := 4) dL_law__2114 (by decide) ?_
  refine xj_iadd dL_law__2115 ?_
  by_cases c11 : inb (x4 + 4) (m6 100 1 0).toNatClampNeg = true
  case neg => rw [if_neg c11] at h; cases h
  rw [if_pos c11] at h
  refine xg_ialdS (z := (m6 100 0 ((x4 + 4).toNatClampNeg))) (n := (x4 + 4).toNatClampNeg) dL_law__2116 (inb_in c11) rfl rfl ?_
  obtain ⟨z14, m13, e12, h⟩ := bd2_some h
  refine xc_Vi0 (st := []) (ok_X12_year (m6 100 0 ((x4 + 1).toNatClampNeg)) (m6 100 0 ((x4 + 2).toNatClampNeg)) (m6 100 0 ((x4 + 3).toNatClampNeg)) (m6 100 0 ((x4 + 4).toNatClampNeg)) m6 e12) dL_law__2117 cv_L_218 rfl rfl (Nat.le_of_ble_eq_true rfl) (by decide) (by decide) (by omega) (by omega) ?_
  refine xj_istore (ls' := [(6, vI z14), (5, vI z5), (0, vR 100 0), (1, vR 11 0), (2, vR 12 0), (3, vR 92 0), (4, vI x4)]) dL_law__2120 (by decide) rfl ?_
  refine xj_aload_n 4 dL_law__2122 rfl ?_
  refine xc_Vi0 (st := []) (ok_X12_thrown m13 rfl) dL_law__2123 cv_L_116 rfl rfl (Nat.le_of_ble_eq_true rfl) (by decide) (by decide) (by omega) (by omega) ?_
  refine xj_iload 1 dL_law__2126 rfl ?_
  refine xj_icmp_eq (tgt := 2133) dL_law__2128 (by decide) (fun c15 => ?_) (fun c15 => ?_)
  · rw [if_pos c15] at h
    refine xj_iload 1 dL_law__2133 rfl ?_
    refine xj_if_ne (tgt := 2150) dL_law__2135 (by decide) (fun c16 => ?_) (fun c16 => ?_)
    · rw [if_neg c16] at h
      refine xj_goto (tgt := 2347) dL_law__2150 (by decide) ?_
      refine xj_iinc (z := x4 + 10) (ls' := [(4, vI (x4 + 10)), (6, vI z14), (5, vI z5), (0, vR 100 0), (1, vR 11 0), (2, vR 12 0), (3, vR 92 0)]) 6 dL_law__2347 rfl rfl (by decide) rfl ?_
      refine xj_goto (tgt := 23) dL_law__2350 (by decide) ?_
      cases h
      refine xj_widen (u2 := u + 120) (v2 := v + 3000) (by omega) (by omega) ?_
      refine xj_pick (ls' := [(0, vR 100 0), (1, vR 11 0), (2, vR 12 0), (3, vR 92 0), (4, vI (x4 + 10))]) [3, 4, 5, 6, 0] rfl ?_
      exact kb
    · rw [if_pos c16] at h
      refine xj_aload_n 5 dL_law__2138 rfl ?_
      refine xj_iconst (z := 0) dL_law__2139 (by decide) ?_
      refine xj_lald0 (z := (jL (m13 92 0 0) (m13 92 0 1))) dL_law__2140 rfl ?_
      refine xj_iload 0 dL_law__2141 rfl ?_
      refine xj_i2l dL_law__2143 ?_
      refine xj_lcmp dL_law__2144 ?_
      refine xj_if_eq (tgt := 2150) dL_law__2145 (by decide) (fun c17 => ?_) (fun c17 => ?_)
      · rw [if_pos c17] at h
        refine xj_goto (tgt := 2347) dL_law__2150 (by decide) ?_
        refine xj_iinc (z := x4 + 10) (ls' := [(4, vI (x4 + 10)), (6, vI z14), (5, vI z5), (0, vR 100 0), (1, vR 11 0), (2, vR 12 0), (3, vR 92 0)]) 6 dL_law__2347 rfl rfl (by decide) rfl ?_
        refine xj_goto (tgt := 23) dL_law__2350 (by decide) ?_
        cases h
        refine xj_widen (u2 := u + 120) (v2 := v + 3000) (by omega) (by omega) ?_
        refine xj_pick (ls' := [(0, vR 100 0), (1, vR 11 0), (2, vR 12 0), (3, vR 92 0), (4, vI (x4 + 10))]) [3, 4, 5, 6, 0] rfl ?_
        exact kb
      · rw [if_neg c17] at h
        cases h
  · rw [if_neg c15] at h
    cases h
noncomputable def r_L_op_32 (x4 : Int32) (m : Mem) : Option Mem :=
  if inb (x4 + 1) (m 100 1 0).toNatClampNeg = true then (if inb (x4 + 2) (m 100 1 0).toNatClampNeg = true then (if inb (x4 + 3) (m 100 1 0).toNatClampNeg = true then (if inb (x4 + 4) (m 100 1 0).toNatClampNeg = true then (if inb (x4 + 5) (m 100 1 0).toNatClampNeg = true then (if inb (x4 + 6) (m 100 1 0).toNatClampNeg = true then (bd2 (r_L_span (m 100 0 ((x4 + 1).toNatClampNeg)) (m 100 0 ((x4 + 2).toNatClampNeg)) (m 100 0 ((x4 + 3).toNatClampNeg)) (m 100 0 ((x4 + 4).toNatClampNeg)) (m 100 0 ((x4 + 5).toNatClampNeg)) (m 100 0 ((x4 + 6).toNatClampNeg)) m) fun z7 m8 => (if inb (x4 + 1) (m8 100 1 0).toNatClampNeg = true then (if inb (x4 + 2) (m8 100 1 0).toNatClampNeg = true then (if inb (x4 + 3) (m8 100 1 0).toNatClampNeg = true then (if inb (x4 + 4) (m8 100 1 0).toNatClampNeg = true then (if inb (x4 + 5) (m8 100 1 0).toNatClampNeg = true then (if inb (x4 + 6) (m8 100 1 0).toNatClampNeg = true then (bd2 (r_X12_span (m8 100 0 ((x4 + 1).toNatClampNeg)) (m8 100 0 ((x4 + 2).toNatClampNeg)) (m8 100 0 ((x4 + 3).toNatClampNeg)) (m8 100 0 ((x4 + 4).toNatClampNeg)) (m8 100 0 ((x4 + 5).toNatClampNeg)) (m8 100 0 ((x4 + 6).toNatClampNeg)) m8) fun z18 m17 => (if (r_X12_thrown m17) = z7 then (if z7 = 0 then (if (lg_cmp (jL (m17 92 0 0) (m17 92 0 1)) z18.toInt64) = 0 then (some m17) else (none)) else (some m17)) else (none))) else none) else none) else none) else none) else none) else none)) else none) else none) else none) else none) else none) else none
set_option maxHeartbeats 4000000 in
set_option maxRecDepth 20000 in
theorem ok_L_op_32 (x4 : Int32) (m : Mem) {m1 : Mem} (h : r_L_op_32 x4 m = some m1) {u v : Nat} (hu : u + 120 ≤ 601024) (hv : v + 3000 ≤ 7293034) {o : Ou} {M' : Mem} (kb : Xj RL cL_law_ 8 (some .boolean) 2048 84000 601024 7293034 (u + 120) (v + 3000) 23 [(0, vR 100 0), (1, vR 11 0), (2, vR 12 0), (3, vR 92 0), (4, vI (x4 + 10))] [] m1 o M') : Xj RL cL_law_ 8 (some .boolean) 2048 84000 601024 7293034 u v 2153 [(0, vR 100 0), (1, vR 11 0), (2, vR 12 0), (3, vR 92 0), (4, vI x4)] [] m o M' := by
  unfold r_L_op_32 at h
  refine xj_aload_n 1 dL_law__2153 rfl ?_
  refine xj_aload_n 0 dL_law__2154 rfl ?_
  refine xj_iload 4 dL_law__2155 rfl ?_
  refine xj_iconst (z := 1) dL_law__2157 (by decide) ?_
  refine xj_iadd dL_law__2158 ?_
  by_cases c1 : inb (x4 + 1) (m 100 1 0).toNatClampNeg = true
  case neg => rw [if_neg c1] at h; cases h
  rw [if_pos c1] at h
  refine xg_ialdS (z := (m 100 0 ((x4 + 1).toNatClampNeg))) (n := (x4 + 1).toNatClampNeg) dL_law__2159 (inb_in c1) rfl rfl ?_
  refine xj_aload_n 0 dL_law__2160 rfl ?_
  refine xj_iload 4 dL_law__2161 rfl ?_
  refine xj_iconst (z := 2) dL_law__2163 (by decide) ?_
  refine xj_iadd dL_law__2164 ?_
  by_cases c2 : inb (x4 + 2) (m 100 1 0).toNatClampNeg = true
  case neg => rw [if_neg c2] at h; cases h
  rw [if_pos c2] at h
  refine xg_ialdS (z := (m 100 0 ((x4 + 2).toNatClampNeg))) (n := (x4 + 2).toNatClampNeg) dL_law__2165 (inb_in c2) rfl rfl ?_
  refine xj_aload_n 0 dL_law__2166 rfl ?_
  refine xj_iload 4 dL_law__2167 rfl ?_
  refine xj_iconst (z := 3) dL_law__2169 (by decide) ?_
  refine xj_iadd dL_law__2170 ?_
  by_cases c3 : inb (x4 + 3) (m 100 1 0).toNatClampNeg = true
  case neg => rw [if_neg c3] at h; cases h
  rw [if_pos c3] at h
  refine xg_ialdS (z := (m 100 0 ((x4 + 3).toNatClampNeg))) (n := (x4 + 3).toNatClampNeg) dL_law__2171 (inb_in c3) rfl rfl ?_
  refine xj_aload_n 0 dL_law__2172 rfl ?_
  refine xj_iload 4 dL_law__2173 rfl ?_
  refine xj_iconst (z := 4) dL_law__2175 (by decide) ?_
  refine xj_iadd dL_law__2176 ?_
  by_cases c4 : inb (x4 + 4) (m 100 1 0).toNatClampNeg = true
  case neg => rw [if_neg c4] at h; cases h
  rw [if_pos c4] at h
  refine xg_ialdS (z := (m 100 0 ((x4 + 4).toNatClampNeg))) (n := (x4 + 4).toNatClampNeg) dL_law__2177 (inb_in c4) rfl rfl ?_
  refine xj_aload_n 0 dL_law__2178 rfl ?_
  refine xj_iload 4 dL_law__2179 rfl ?_
  refine xj_iconst (z := 5) dL_law__2181 (by decide) ?_
  refine xj_iadd dL_law__2182 ?_
  by_cases c5 : inb (x4 + 5) (m 100 1 0).toNatClampNeg = true
  case neg => rw [if_neg c5] at h; cases h
  rw [if_pos c5] at h
  refine xg_ialdS (z := (m 100 0 ((x4 + 5).toNatClampNeg))) (n := (x4 + 5).toNatClampNeg) dL_law__2183 (inb_in c5) rfl rfl ?_
  refine xj_aload_n 0 dL_law__2184 rfl ?_
  refine xj_iload 4 dL_law__2185 rfl ?_
  refine xj_bipush (z := 6) dL_law__2187 (by decide) ?_
  refine xj_iadd dL_law__2189 ?_
  by_cases c6 : inb (x4 + 6) (m 100 1 0).toNatClampNeg = true
  case neg => rw [if_neg c6] at h; cases h
  rw [if_pos c6] at h
  refine xg_ialdS (z := (m 100 0 ((x4 + 6).toNatClampNeg))) (n := (x4 + 6).toNatClampNeg) dL_law__2190 (inb_in c6) rfl rfl ?_
  refine xj_aload_n 3 dL_law__2191 rfl ?_
  obtain ⟨z7, m8, e9, h⟩ := bd2_some h
  refine xc_Hi (st := []) (ok_L_span (m 100 0 ((x4 + 1).toNatClampNeg)) (m 100 0 ((x4 + 2).toNatClampNeg)) (m 100 0 ((x4 + 3).toNatClampNeg)) (m 100 0 ((x4 + 4).toNatClampNeg)) (m 100 0 ((x4 + 5).toNatClampNeg)) (m 100 0 ((x4 + 6).toNatClampNeg)) m e9) dL_law__2192 ch_219 rfl rfl (Nat.le_of_ble_eq_true rfl) (by decide) (by decide) (by omega) (by omega) ?_
  refine xj_istore (ls' := [(5, vI z7), (0, vR 100 0), (1, vR 11 0), (2, vR 12 0), (3, vR 92 0), (4, vI x4)]) dL_law__2195 (by decide) rfl ?_
  refine xj_aload_n 3 dL_law__2197 rfl ?_
  refine xj_aload_n 1 dL_law__2198 rfl ?_
  refine xj_iload 5 dL_law__2199 rfl ?_
  refine xj_iconst (z := 1) dL_law__2201 (by decide) ?_
  refine xj_iadd dL_law__2202 ?_
  by_cases c10 : inb (x4 + 1) (m8 100 1 0).toNatClampNeg = true
  case neg => rw [if_neg c10] at h; cases h
  rw [if_pos c10] at h
  refine xg_ialdS (z := (m8 100 0 ((x4 + 1).toNatClampNeg))) (n := (x4 + 1).toNatClampNeg) dL_law__2203 (inb_in c10) rfl rfl ?_
  refine xj_aload_n 1 dL_law__2204 rfl ?_
  refine xj_iload 5 dL_law__2205 rfl ?_
  refine xj_iconst (z := 2) dL_law__2207 (by decide) ?_
  refine xj_iadd dL_law__2208 ?_
  by_cases c11 : inb (x4 + 2) (m8 100 1 0).toNatClampNeg = true
  case neg => rw [if_neg c11] at h; cases h
  rw [if_pos c11] at h
  refine xg_ialdS (z := (m8 100 0 ((x4 + 2).toNatClampNeg))) (n := (x4 + 2).toNatClampNeg) dL_law__2209 (inb_in c11) rfl rfl ?_
  refine xj_aload_n 1 dL_law__2210 rfl ?_
  refine xj_iload 5 dL_law__2211 rfl ?_
  refine xj_iconst (z := 3) dL_law__2213 (by decide) ?_
  refine xj_iadd dL_law__2214 ?_
  by_cases c12 : inb (x4 + 3) (m8 100 1 0).toNatClampNeg = true
  case neg => rw [if_neg c12] at h; cases h
  rw [if_pos c12] at h
  refine xg_ialdS (z := (m8 100 0 ((x4 + 3).toNatClampNeg))) (n := (x4 + 3).toNatClampNeg) dL_law__2215 (inb_in c12) rfl rfl ?_
  refine xj_aload_n 1 dL_law__2216 rfl ?_
  refine xj_iload 5 dL_law__2217 rfl ?_
  refine xj_iconst (z := 4) dL_law__2219 (by decide) ?_
  refine xj_iadd dL_law__2220 ?_
  by_cases c13 : inb (x4 + 4) (m8 100 1 0).toNatClampNeg = true
  case neg => rw [if_neg c13] at h; cases h
  rw [if_pos c13] at h
  refine xg_ialdS (z := (m8 100 0 ((x4 + 4).toNatClampNeg))) (n := (x4 + 4).toNatClampNeg) dL_law__2221 (inb_in c13) rfl rfl ?_
  refine xj_aload_n 1 dL_law__2222 rfl ?_
  refine xj_iload 5 dL_law__2223 rfl ?_
  refine xj_iconst (z := 5) dL_law__2225 (by decide) ?_
  refine xj_iadd dL_law__2226 ?_
  by_cases c14 : inb (x4 + 5) (m8 100 1 0).toNatClampNeg = true
  case neg => rw [if_neg c14] at h; cases h
  rw [if_pos c14] at h
  refine xg_ialdS (z := (m8 100 0 ((x4 + 5).toNatClampNeg))) (n := (x4 + 5).toNatClampNeg) dL_law__2227 (inb_in c14) rfl rfl ?_
  refine xj_aload_n 1 dL_law__2228 rfl ?_
  refine xj_iload 5 dL_law__2229 rfl ?_
  refine xj_bipush (z := 6) dL_law__2231 (by decide) ?_
  refine xj_iadd dL_law__2233 ?_
  by_cases c15 : inb (x4 + 6) (m8 100 1 0).toNatClampNeg = true
  case neg => rw [if_neg c15] at h; cases h
  rw [if_pos c15] at h
  refine xg_ialdS (z := (m8 100 0 ((x4 + 6).toNatClampNeg))) (n := (x4 + 6).toNatClampNeg) dL_law__2234 (inb_in c15) rfl rfl ?_
  obtain ⟨z18, m17, e16, h⟩ := bd2_some h
  refine xc_Vi0 (st := []) (ok_X12_span (m8 100 0 ((x4 + 1).toNatClampNeg)) (m8 100 0 ((x4 + 2).toNatClampNeg)) (m8 100 0 ((x4 + 3).toNatClampNeg)) (m8 100 0 ((x4 + 4).toNatClampNeg)) (m8 100 0 ((x4 + 5).toNatClampNeg)) (m8 100 0 ((x4 + 6).toNatClampNeg)) m8 e16) dL_law__2235 cv_L_222 rfl rfl (Nat.le_of_ble_eq_true rfl) (by decide) (by decide) (by omega) (by omega) ?_
  refine xj_istore (ls' := [(6, vI z18), (5, vI z7), (0, vR 100 0), (1, vR 11 0), (2, vR 12 0), (3, vR 92 0), (4, vI x4)]) dL_law__2238 (by decide) rfl ?_
  refine xj_aload_n 4 dL_law__2240 rfl ?_
  refine xc_Vi0 (st := []) (ok_X12_thrown m17 rfl) dL_law__2241 cv_L_116 rfl rfl (Nat.le_of_ble_eq_true rfl) (by decide) (by decide) (by omega) (by omega) ?_
  refine xj_iload 1 dL_law__2244 rfl ?_
  refine xj_icmp_eq (tgt := 2251) dL_law__2246 (by decide) (fun c19 => ?_) (fun c19 => ?_)
  · rw [if_pos c19] at h
    refine xj_iload 1 dL_law__2251 rfl ?_
    refine xj_if_ne (tgt := 2268) dL_law__2253 (by decide) (fun c20 => ?_) (fun c20 => ?_)
    · rw [if_neg c20] at h
      refine xj_goto (tgt := 2347) dL_law__2268 (by decide) ?_
      refine xj_iinc (z := x4 + 10) (ls' := [(4, vI (x4 + 10)), (6, vI z18), (5, vI z7), (0, vR 100 0), (1, vR 11 0), (2, vR 12 0), (3, vR 92 0)]) 6 dL_law__2347 rfl rfl (by decide) rfl ?_
      refine xj_goto (tgt := 23) dL_law__2350 (by decide) ?_
      cases h
      refine xj_widen (u2 := u + 120) (v2 := v + 3000) (by omega) (by omega) ?_
      refine xj_pick (ls' := [(0, vR 100 0), (1, vR 11 0), (2, vR 12 0), (3, vR 92 0), (4, vI (x4 + 10))]) [3, 4, 5, 6, 0] rfl ?_
      exact kb
    · rw [if_pos c20] at h
      refine xj_aload_n 5 dL_law__2256 rfl ?_
      refine xj_iconst (z := 0) dL_law__2257 (by decide) ?_
      refine xj_lald0 (z := (jL (m17 92 0 0) (m17 92 0 1))) dL_law__2258 rfl ?_
      refine xj_iload 0 dL_law__2259 rfl ?_
      refine xj_i2l dL_law__2261 ?_
      refine xj_lcmp dL_law__2262 ?_
      refine xj_if_eq (tgt := 2268) dL_law__2263 (by decide) (fun c21 => ?_) (fun c21 => ?_)
      · rw [if_pos c21] at h
        refine xj_goto (tgt := 2347) dL_law__2268 (by decide) ?_
        refine xj_iinc (z := x4 + 10) (ls' := [(4, vI (x4 + 10)), (6, vI z18), (5, vI z7), (0, vR 100 0), (1, vR 11 0), (2, vR 12 0), (3, vR 92 0)]) 6 dL_law__2347 rfl rfl (by decide) rfl ?_
        refine xj_goto (tgt := 23) dL_law__2350 (by decide) ?_
        cases h
        refine xj_widen (u2 := u + 120) (v2 := v + 3000) (by omega) (by omega) ?_
        refine xj_pick (ls' := [(0, vR 100 0), (1, vR 11 0), (2, vR 12 0), (3, vR 92 0), (4, vI (x4 + 10))]) [3, 4, 5, 6, 0] rfl ?_
        exact kb
      · rw [if_neg c21] at h
        cases h
  · rw [if_neg c19] at h
    cases h
noncomputable def r_L_op_33 (x4 : Int32) (m : Mem) : Option Mem :=
  bd2 (r_X11_image m) fun z3 m2 => (bd2 (r_X12_image m2) fun z6 m5 => (if z3 = z6 then (some m5) else (none)))
set_option maxHeartbeats 4000000 in
set_option maxRecDepth 20000 in
theorem ok_L_op_33 (x4 : Int32) (m : Mem) {m1 : Mem} (h : r_L_op_33 x4 m = some m1) {u v : Nat} (hu : u + 120 ≤ 601024) (hv : v + 3000 ≤ 7293034) {o : Ou} {M' : Mem} (kb : Xj RL cL_law_ 8 (some .boolean) 2048 84000 601024 7293034 (u + 120) (v + 3000) 23 [(0, vR 100 0), (1, vR 11 0), (2, vR 12 0), (3, vR 92 0), (4, vI (x4 + 10))] [] m1 o M') : Xj RL cL_law_ 8 (some .boolean) 2048 84000 601024 7293034 u v 2271 [(0, vR 100 0), (1, vR 11 0), (2, vR 12 0), (3, vR 92 0), (4, vI x4)] [] m o M' := by
  unfold r_L_op_33 at h
  refine xj_aload_n 1 dL_law__2271 rfl ?_
  obtain ⟨z3, m2, e1, h⟩ := bd2_some h
  refine xc_Vi (st := []) (ok_X11_image m e1) dL_law__2272 cv_L_223 rfl rfl (Nat.le_of_ble_eq_true rfl) (by decide) (by decide) (by omega) (by omega) ?_
  refine xj_aload_n 2 dL_law__2275 rfl ?_
  obtain ⟨z6, m5, e4, h⟩ := bd2_some h
  refine xc_Vi0 (st := [vI z3]) (ok_X12_image m2 e4) dL_law__2276 cv_L_226 rfl rfl (Nat.le_of_ble_eq_true rfl) (by decide) (by decide) (by omega) (by omega) ?_
  refine xj_icmp_eq (tgt := 2347) dL_law__2279 (by decide) (fun c7 => ?_) (fun c7 => ?_)
  · rw [if_pos c7] at h
    refine xj_iinc (z := x4 + 10) (ls' := [(4, vI (x4 + 10)), (0, vR 100 0), (1, vR 11 0), (2, vR 12 0), (3, vR 92 0)]) 4 dL_law__2347 rfl rfl (by decide) rfl ?_
    refine xj_goto (tgt := 23) dL_law__2350 (by decide) ?_
    cases h
    refine xj_widen (u2 := u + 120) (v2 := v + 3000) (by omega) (by omega) ?_
    refine xj_pick (ls' := [(0, vR 100 0), (1, vR 11 0), (2, vR 12 0), (3, vR 92 0), (4, vI (x4 + 10))]) [1, 2, 3, 4, 0] rfl ?_
    exact kb
  · rw [if_neg c7] at h
    cases h
noncomputable def r_L_op_34 (x4 : Int32) (m : Mem) : Option Mem :=
  bd2 (r_X11_restore m) fun z3 m2 => (bd2 (r_X12_restore m2) fun z6 m5 => (if z3 = z6 then (some m5) else (none)))
set_option maxHeartbeats 4000000 in
set_option maxRecDepth 20000 in
theorem ok_L_op_34 (x4 : Int32) (m : Mem) {m1 : Mem} (h : r_L_op_34 x4 m = some m1) {u v : Nat} (hu : u + 120 ≤ 601024) (hv : v + 3000 ≤ 7293034) {o : Ou} {M' : Mem} (kb : Xj RL cL_law_ 8 (some .boolean) 2048 84000 601024 7293034 (u + 120) (v + 3000) 23 [(0, vR 100 0), (1, vR 11 0), (2, vR 12 0), (3, vR 92 0), (4, vI (x4 + 10))] [] m1 o M') : Xj RL cL_law_ 8 (some .boolean) 2048 84000 601024 7293034 u v 2284 [(0, vR 100 0), (1, vR 11 0), (2, vR 12 0), (3, vR 92 0), (4, vI x4)] [] m o M' := by
  unfold r_L_op_34 at h
  refine xj_aload_n 1 dL_law__2284 rfl ?_
  obtain ⟨z3, m2, e1, h⟩ := bd2_some h
  refine xc_Vi (st := []) (ok_X11_restore m e1) dL_law__2285 cv_L_227 rfl rfl (Nat.le_of_ble_eq_true rfl) (by decide) (by decide) (by omega) (by omega) ?_
  refine xj_aload_n 2 dL_law__2288 rfl ?_
  obtain ⟨z6, m5, e4, h⟩ := bd2_some h
  refine xc_Vi0 (st := [vI z3]) (ok_X12_restore m2 e4) dL_law__2289 cv_L_230 rfl rfl (Nat.le_of_ble_eq_true rfl) (by decide) (by decide) (by omega) (by omega) ?_
  refine xj_icmp_eq (tgt := 2347) dL_law__2292 (by decide) (fun c7 => ?_) (fun c7 => ?_)
  · rw [if_pos c7] at h
    refine xj_iinc (z := x4 + 10) (ls' := [(4, vI (x4 + 10)), (0, vR 100 0), (1, vR 11 0), (2, vR 12 0), (3, vR 92 0)]) 4 dL_law__2347 rfl rfl (by decide) rfl ?_
    refine xj_goto (tgt := 23) dL_law__2350 (by decide) ?_
    cases h
    refine xj_widen (u2 := u + 120) (v2 := v + 3000) (by omega) (by omega) ?_
    refine xj_pick (ls' := [(0, vR 100 0), (1, vR 11 0), (2, vR 12 0), (3, vR 92 0), (4, vI (x4 + 10))]) [1, 2, 3, 4, 0] rfl ?_
    exact kb
  · rw [if_neg c7] at h
    cases h
noncomputable def r_L_op_35 (x4 : Int32) (m : Mem) : Option Mem :=
  if inb (x4 + 1) (m 100 1 0).toNatClampNeg = true then (bd2 (r_X12_status (m 100 0 ((x4 + 1).toNatClampNeg)) m) fun z4 m3 => (if (r_X11_status (m 100 0 ((x4 + 1).toNatClampNeg)) m) = z4 then (some m3) else (none))) else none
set_option maxHeartbeats 4000000 in
set_option maxRecDepth 20000 in
theorem ok_L_op_35 (x4 : Int32) (m : Mem) {m1 : Mem} (h : r_L_op_35 x4 m = some m1) {u v : Nat} (hu : u + 120 ≤ 601024) (hv : v + 3000 ≤ 7293034) {o : Ou} {M' : Mem} (kb : Xj RL cL_law_ 8 (some .boolean) 2048 84000 601024 7293034 (u + 120) (v + 3000) 23 [(0, vR 100 0), (1, vR 11 0), (2, vR 12 0), (3, vR 92 0), (4, vI (x4 + 10))] [] m1 o M') : Xj RL cL_law_ 8 (some .boolean) 2048 84000 601024 7293034 u v 2297 [(0, vR 100 0), (1, vR 11 0), (2, vR 12 0), (3, vR 92 0), (4, vI x4)] [] m o M' := by
  unfold r_L_op_35 at h
  refine xj_aload_n 1 dL_law__2297 rfl ?_
  refine xj_aload_n 0 dL_law__2298 rfl ?_
  refine xj_iload 4 dL_law__2299 rfl ?_
  refine xj_iconst (z := 1) dL_law__2301 (by decide) ?_
  refine xj_iadd dL_law__2302 ?_
  by_cases c1 : inb (x4 + 1) (m 100 1 0).toNatClampNeg = true
  case neg => rw [if_neg c1] at h; cases h
  rw [if_pos c1] at h
  refine xg_ialdS (z := (m 100 0 ((x4 + 1).toNatClampNeg))) (n := (x4 + 1).toNatClampNeg) dL_law__2303 (inb_in c1) rfl rfl ?_
  refine xc_Vi0 (st := []) (ok_X11_status (m 100 0 ((x4 + 1).toNatClampNeg)) m rfl) dL_law__2304 cv_L_231 rfl rfl (Nat.le_of_ble_eq_true rfl) (by decide) (by decide) (by omega) (by omega) ?_
  refine xj_aload_n 2 dL_law__2307 rfl ?_
  refine xj_aload_n 0 dL_law__2308 rfl ?_
  refine xj_iload 4 dL_law__2309 rfl ?_
  refine xj_iconst (z := 1) dL_law__2311 (by decide) ?_
  refine xj_iadd dL_law__2312 ?_
  refine xg_ialdS (z := (m 100 0 ((x4 + 1).toNatClampNeg))) (n := (x4 + 1).toNatClampNeg) dL_law__2313 (inb_in c1) rfl rfl ?_
  obtain ⟨z4, m3, e2, h⟩ := bd2_some h
  refine xc_Vi0 (st := [vI (r_X11_status (m 100 0 ((x4 + 1).toNatClampNeg)) m)]) (ok_X12_status (m 100 0 ((x4 + 1).toNatClampNeg)) m e2) dL_law__2314 cv_L_234 rfl rfl (Nat.le_of_ble_eq_true rfl) (by decide) (by decide) (by omega) (by omega) ?_
  refine xj_icmp_eq (tgt := 2347) dL_law__2317 (by decide) (fun c5 => ?_) (fun c5 => ?_)
  · rw [if_pos c5] at h
    refine xj_iinc (z := x4 + 10) (ls' := [(4, vI (x4 + 10)), (0, vR 100 0), (1, vR 11 0), (2, vR 12 0), (3, vR 92 0)]) 4 dL_law__2347 rfl rfl (by decide) rfl ?_
    refine xj_goto (tgt := 23) dL_law__2350 (by decide) ?_
    cases h
    refine xj_widen (u2 := u + 120) (v2 := v + 3000) (by omega) (by omega) ?_
    refine xj_pick (ls' := [(0, vR 100 0), (1, vR 11 0), (2, vR 12 0), (3, vR 92 0), (4, vI (x4 + 10))]) [1, 2, 3, 4, 0] rfl ?_
    exact kb
  · rw [if_neg c5] at h
    cases h
noncomputable def r_L_op_36 (x4 : Int32) (m : Mem) : Option Mem :=
  if inb (x4 + 1) (m 100 1 0).toNatClampNeg = true then (bd2 (r_X12_count (m 100 0 ((x4 + 1).toNatClampNeg)) m) fun z4 m3 => (if (r_X11_count (m 100 0 ((x4 + 1).toNatClampNeg)) m) = z4 then (some m3) else (none))) else none
set_option maxHeartbeats 4000000 in
set_option maxRecDepth 20000 in
theorem ok_L_op_36 (x4 : Int32) (m : Mem) {m1 : Mem} (h : r_L_op_36 x4 m = some m1) {u v : Nat} (hu : u + 120 ≤ 601024) (hv : v + 3000 ≤ 7293034) {o : Ou} {M' : Mem} (kb : Xj RL cL_law_ 8 (some .boolean) 2048 84000 601024 7293034 (u + 120) (v + 3000) 23 [(0, vR 100 0), (1, vR 11 0), (2, vR 12 0), (3, vR 92 0), (4, vI (x4 + 10))] [] m1 o M') : Xj RL cL_law_ 8 (some .boolean) 2048 84000 601024 7293034 u v 2322 [(0, vR 100 0), (1, vR 11 0), (2, vR 12 0), (3, vR 92 0), (4, vI x4)] [] m o M' := by
  unfold r_L_op_36 at h
  refine xj_aload_n 1 dL_law__2322 rfl ?_
  refine xj_aload_n 0 dL_law__2323 rfl ?_
  refine xj_iload 4 dL_law__2324 rfl ?_
  refine xj_iconst (z := 1) dL_law__2326 (by decide) ?_
  refine xj_iadd dL_law__2327 ?_
  by_cases c1 : inb (x4 + 1) (m 100 1 0).toNatClampNeg = true
  case neg => rw [if_neg c1] at h; cases h
  rw [if_pos c1] at h
  refine xg_ialdS (z := (m 100 0 ((x4 + 1).toNatClampNeg))) (n := (x4 + 1).toNatClampNeg) dL_law__2328 (inb_in c1) rfl rfl ?_
  refine xc_Vi0 (st := []) (ok_X11_count (m 100 0 ((x4 + 1).toNatClampNeg)) m rfl) dL_law__2329 cv_L_235 rfl rfl (Nat.le_of_ble_eq_true rfl) (by decide) (by decide) (by omega) (by omega) ?_
  refine xj_aload_n 2 dL_law__2332 rfl ?_
  refine xj_aload_n 0 dL_law__2333 rfl ?_
  refine xj_iload 4 dL_law__2334 rfl ?_
  refine xj_iconst (z := 1) dL_law__2336 (by decide) ?_
  refine xj_iadd dL_law__2337 ?_
  refine xg_ialdS (z := (m 100 0 ((x4 + 1).toNatClampNeg))) (n := (x4 + 1).toNatClampNeg) dL_law__2338 (inb_in c1) rfl rfl ?_
  obtain ⟨z4, m3, e2, h⟩ := bd2_some h
  refine xc_Vi0 (st := [vI (r_X11_count (m 100 0 ((x4 + 1).toNatClampNeg)) m)]) (ok_X12_count (m 100 0 ((x4 + 1).toNatClampNeg)) m e2) dL_law__2339 cv_L_238 rfl rfl (Nat.le_of_ble_eq_true rfl) (by decide) (by decide) (by omega) (by omega) ?_
  refine xj_icmp_eq (tgt := 2347) dL_law__2342 (by decide) (fun c5 => ?_) (fun c5 => ?_)
  · rw [if_pos c5] at h
    refine xj_iinc (z := x4 + 10) (ls' := [(4, vI (x4 + 10)), (0, vR 100 0), (1, vR 11 0), (2, vR 12 0), (3, vR 92 0)]) 4 dL_law__2347 rfl rfl (by decide) rfl ?_
    refine xj_goto (tgt := 23) dL_law__2350 (by decide) ?_
    cases h
    refine xj_widen (u2 := u + 120) (v2 := v + 3000) (by omega) (by omega) ?_
    refine xj_pick (ls' := [(0, vR 100 0), (1, vR 11 0), (2, vR 12 0), (3, vR 92 0), (4, vI (x4 + 10))]) [1, 2, 3, 4, 0] rfl ?_
    exact kb
  · rw [if_neg c5] at h
    cases h
noncomputable def r_L_op_37 (x4 : Int32) (m : Mem) : Option Mem :=
  some m
set_option maxHeartbeats 4000000 in
set_option maxRecDepth 20000 in
theorem ok_L_op_37 (x4 : Int32) (m : Mem) {m1 : Mem} (h : r_L_op_37 x4 m = some m1) {u v : Nat} (hu : u + 120 ≤ 601024) (hv : v + 3000 ≤ 7293034) {o : Ou} {M' : Mem} (kb : Xj RL cL_law_ 8 (some .boolean) 2048 84000 601024 7293034 (u + 120) (v + 3000) 23 [(0, vR 100 0), (1, vR 11 0), (2, vR 12 0), (3, vR 92 0), (4, vI (x4 + 10))] [] m1 o M') : Xj RL cL_law_ 8 (some .boolean) 2048 84000 601024 7293034 u v 2347 [(0, vR 100 0), (1, vR 11 0), (2, vR 12 0), (3, vR 92 0), (4, vI x4)] [] m o M' := by
  unfold r_L_op_37 at h
  refine xj_iinc (z := x4 + 10) (ls' := [(4, vI (x4 + 10)), (0, vR 100 0), (1, vR 11 0), (2, vR 12 0), (3, vR 92 0)]) 4 dL_law__2347 rfl rfl (by decide) rfl ?_
  refine xj_goto (tgt := 23) dL_law__2350 (by decide) ?_
  cases h
  refine xj_widen (u2 := u + 120) (v2 := v + 3000) (by omega) (by omega) ?_
  refine xj_pick (ls' := [(0, vR 100 0), (1, vR 11 0), (2, vR 12 0), (3, vR 92 0), (4, vI (x4 + 10))]) [1, 2, 3, 4, 0] rfl ?_
  exact kb
noncomputable def r_L_step (x4 : Int32) (m : Mem) : Option Mem :=
  if inb x4 (m 100 1 0).toNatClampNeg = true then (if (m 100 0 x4.toNatClampNeg &&& 63) = 0 then r_L_op_0 x4 m else if (m 100 0 x4.toNatClampNeg &&& 63) = 1 then r_L_op_1 x4 m else if (m 100 0 x4.toNatClampNeg &&& 63) = 2 then r_L_op_2 x4 m else if (m 100 0 x4.toNatClampNeg &&& 63) = 3 then r_L_op_3 x4 m else if (m 100 0 x4.toNatClampNeg &&& 63) = 4 then r_L_op_4 x4 m else if (m 100 0 x4.toNatClampNeg &&& 63) = 5 then r_L_op_5 x4 m else if (m 100 0 x4.toNatClampNeg &&& 63) = 6 then r_L_op_6 x4 m else if (m 100 0 x4.toNatClampNeg &&& 63) = 7 then r_L_op_7 x4 m else if (m 100 0 x4.toNatClampNeg &&& 63) = 8 then r_L_op_8 x4 m else if (m 100 0 x4.toNatClampNeg &&& 63) = 9 then r_L_op_9 x4 m else if (m 100 0 x4.toNatClampNeg &&& 63) = 10 then r_L_op_10 x4 m else if (m 100 0 x4.toNatClampNeg &&& 63) = 11 then r_L_op_11 x4 m else if (m 100 0 x4.toNatClampNeg &&& 63) = 12 then r_L_op_12 x4 m else if (m 100 0 x4.toNatClampNeg &&& 63) = 13 then r_L_op_13 x4 m else if (m 100 0 x4.toNatClampNeg &&& 63) = 14 then r_L_op_14 x4 m else if (m 100 0 x4.toNatClampNeg &&& 63) = 15 then r_L_op_15 x4 m else if (m 100 0 x4.toNatClampNeg &&& 63) = 16 then r_L_op_16 x4 m else if (m 100 0 x4.toNatClampNeg &&& 63) = 17 then r_L_op_17 x4 m else if (m 100 0 x4.toNatClampNeg &&& 63) = 18 then r_L_op_18 x4 m else if (m 100 0 x4.toNatClampNeg &&& 63) = 19 then r_L_op_19 x4 m else if (m 100 0 x4.toNatClampNeg &&& 63) = 20 then r_L_op_20 x4 m else if (m 100 0 x4.toNatClampNeg &&& 63) = 21 then r_L_op_21 x4 m else if (m 100 0 x4.toNatClampNeg &&& 63) = 22 then r_L_op_22 x4 m else if (m 100 0 x4.toNatClampNeg &&& 63) = 23 then r_L_op_23 x4 m else if (m 100 0 x4.toNatClampNeg &&& 63) = 24 then r_L_op_24 x4 m else if (m 100 0 x4.toNatClampNeg &&& 63) = 25 then r_L_op_25 x4 m else if (m 100 0 x4.toNatClampNeg &&& 63) = 26 then r_L_op_26 x4 m else if (m 100 0 x4.toNatClampNeg &&& 63) = 27 then r_L_op_27 x4 m else if (m 100 0 x4.toNatClampNeg &&& 63) = 28 then r_L_op_28 x4 m else if (m 100 0 x4.toNatClampNeg &&& 63) = 29 then r_L_op_29 x4 m else if (m 100 0 x4.toNatClampNeg &&& 63) = 30 then r_L_op_30 x4 m else if (m 100 0 x4.toNatClampNeg &&& 63) = 31 then r_L_op_31 x4 m else if (m 100 0 x4.toNatClampNeg &&& 63) = 32 then r_L_op_32 x4 m else if (m 100 0 x4.toNatClampNeg &&& 63) = 33 then r_L_op_33 x4 m else if (m 100 0 x4.toNatClampNeg &&& 63) = 34 then r_L_op_34 x4 m else if (m 100 0 x4.toNatClampNeg &&& 63) = 35 then r_L_op_35 x4 m else if (m 100 0 x4.toNatClampNeg &&& 63) = 36 then r_L_op_36 x4 m else r_L_op_37 x4 m) else none
set_option maxHeartbeats 8000000 in
set_option maxRecDepth 20000 in
theorem ok_L_step (x4 : Int32) (m : Mem) {m1 : Mem} (h : r_L_step x4 m = some m1) {u v : Nat} (hu : u + 120 ≤ 601024) (hv : v + 3000 ≤ 7293034) {o : Ou} {M' : Mem} (kb : Xj RL cL_law_ 8 (some .boolean) 2048 84000 601024 7293034 (u + 120) (v + 3000) 23 [(0, vR 100 0), (1, vR 11 0), (2, vR 12 0), (3, vR 92 0), (4, vI (x4 + 10))] [] m1 o M') : Xj RL cL_law_ 8 (some .boolean) 2048 84000 601024 7293034 u v 33 [(0, vR 100 0), (1, vR 11 0), (2, vR 12 0), (3, vR 92 0), (4, vI x4)] [] m o M' := by
  unfold r_L_step at h
  by_cases c0 : inb x4 (m 100 1 0).toNatClampNeg = true
  case neg => rw [if_neg c0] at h; cases h
  rw [if_pos c0] at h
  refine xj_aload_n 0 dL_law__33 rfl ?_
  refine xj_iload 4 dL_law__34 rfl ?_
  refine xg_ialdS (z := m 100 0 x4.toNatClampNeg) (n := x4.toNatClampNeg) dL_law__36 (inb_in c0) rfl rfl ?_
  refine xj_bipush (z := 63) dL_law__37 (by decide) ?_
  refine xj_iand dL_law__39 ?_
  by_cases d0 : (m 100 0 x4.toNatClampNeg &&& 63) = 0
  · rw [if_pos d0] at h
    refine xj_tableIn (off := 164) (tgt := 204) dL_law__40 (by rw [d0]; decide) (by rw [d0]; decide) (by rw [d0]; decide) (by decide) ?_
    exact ok_L_op_0 x4 m h hu hv kb
  rw [if_neg d0] at h
  by_cases d1 : (m 100 0 x4.toNatClampNeg &&& 63) = 1
  · rw [if_pos d1] at h
    refine xj_tableIn (off := 237) (tgt := 277) dL_law__40 (by rw [d1]; decide) (by rw [d1]; decide) (by rw [d1]; decide) (by decide) ?_
    exact ok_L_op_1 x4 m h hu hv kb
  rw [if_neg d1] at h
  by_cases d2 : (m 100 0 x4.toNatClampNeg &&& 63) = 2
  · rw [if_pos d2] at h
    refine xj_tableIn (off := 293) (tgt := 333) dL_law__40 (by rw [d2]; decide) (by rw [d2]; decide) (by rw [d2]; decide) (by decide) ?_
    exact ok_L_op_2 x4 m h hu hv kb
  rw [if_neg d2] at h
  by_cases d3 : (m 100 0 x4.toNatClampNeg &&& 63) = 3
  · rw [if_pos d3] at h
    refine xj_tableIn (off := 349) (tgt := 389) dL_law__40 (by rw [d3]; decide) (by rw [d3]; decide) (by rw [d3]; decide) (by decide) ?_
    exact ok_L_op_3 x4 m h hu hv kb
  rw [if_neg d3] at h
  by_cases d4 : (m 100 0 x4.toNatClampNeg &&& 63) = 4
  · rw [if_pos d4] at h
    refine xj_tableIn (off := 405) (tgt := 445) dL_law__40 (by rw [d4]; decide) (by rw [d4]; decide) (by rw [d4]; decide) (by decide) ?_
    exact ok_L_op_4 x4 m h hu hv kb
  rw [if_neg d4] at h
  by_cases d5 : (m 100 0 x4.toNatClampNeg &&& 63) = 5
  · rw [if_pos d5] at h
    refine xj_tableIn (off := 461) (tgt := 501) dL_law__40 (by rw [d5]; decide) (by rw [d5]; decide) (by rw [d5]; decide) (by decide) ?_
    exact ok_L_op_5 x4 m h hu hv kb
  rw [if_neg d5] at h
  by_cases d6 : (m 100 0 x4.toNatClampNeg &&& 63) = 6
  · rw [if_pos d6] at h
    refine xj_tableIn (off := 474) (tgt := 514) dL_law__40 (by rw [d6]; decide) (by rw [d6]; decide) (by rw [d6]; decide) (by decide) ?_
    exact ok_L_op_6 x4 m h hu hv kb
  rw [if_neg d6] at h
  by_cases d7 : (m 100 0 x4.toNatClampNeg &&& 63) = 7
  · rw [if_pos d7] at h
    refine xj_tableIn (off := 487) (tgt := 527) dL_law__40 (by rw [d7]; decide) (by rw [d7]; decide) (by rw [d7]; decide) (by decide) ?_
    exact ok_L_op_7 x4 m h hu hv kb
  rw [if_neg d7] at h
  by_cases d8 : (m 100 0 x4.toNatClampNeg &&& 63) = 8
  · rw [if_pos d8] at h
    refine xj_tableIn (off := 543) (tgt := 583) dL_law__40 (by rw [d8]; decide) (by rw [d8]; decide) (by rw [d8]; decide) (by decide) ?_
    exact ok_L_op_8 x4 m h hu hv kb
  rw [if_neg d8] at h
  by_cases d9 : (m 100 0 x4.toNatClampNeg &&& 63) = 9
  · rw [if_pos d9] at h
    refine xj_tableIn (off := 611) (tgt := 651) dL_law__40 (by rw [d9]; decide) (by rw [d9]; decide) (by rw [d9]; decide) (by decide) ?_
    exact ok_L_op_9 x4 m h hu hv kb
  rw [if_neg d9] at h
  by_cases d10 : (m 100 0 x4.toNatClampNeg &&& 63) = 10
  · rw [if_pos d10] at h
    refine xj_tableIn (off := 679) (tgt := 719) dL_law__40 (by rw [d10]; decide) (by rw [d10]; decide) (by rw [d10]; decide) (by decide) ?_
    exact ok_L_op_10 x4 m h hu hv kb
  rw [if_neg d10] at h
  by_cases d11 : (m 100 0 x4.toNatClampNeg &&& 63) = 11
  · rw [if_pos d11] at h
    refine xj_tableIn (off := 747) (tgt := 787) dL_law__40 (by rw [d11]; decide) (by rw [d11]; decide) (by rw [d11]; decide) (by decide) ?_
    exact ok_L_op_11 x4 m h hu hv kb
  rw [if_neg d11] at h
  by_cases d12 : (m 100 0 x4.toNatClampNeg &&& 63) = 12
  · rw [if_pos d12] at h
    refine xj_tableIn (off := 815) (tgt := 855) dL_law__40 (by rw [d12]; decide) (by rw [d12]; decide) (by rw [d12]; decide) (by decide) ?_
    exact ok_L_op_12 x4 m h hu hv kb
  rw [if_neg d12] at h
  by_cases d13 : (m 100 0 x4.toNatClampNeg &&& 63) = 13
  · rw [if_pos d13] at h
    refine xj_tableIn (off := 883) (tgt := 923) dL_law__40 (by rw [d13]; decide) (by rw [d13]; decide) (by rw [d13]; decide) (by decide) ?_
    exact ok_L_op_13 x4 m h hu hv kb
  rw [if_neg d13] at h
  by_cases d14 : (m 100 0 x4.toNatClampNeg &&& 63) = 14
  · rw [if_pos d14] at h
    refine xj_tableIn (off := 1043) (tgt := 1083) dL_law__40 (by rw [d14]; decide) (by rw [d14]; decide) (by rw [d14]; decide) (by decide) ?_
    exact ok_L_op_14 x4 m h hu hv kb
  rw [if_neg d14] at h
  by_cases d15 : (m 100 0 x4.toNatClampNeg &&& 63) = 15
  · rw [if_pos d15] at h
    refine xj_tableIn (off := 1099) (tgt := 1139) dL_law__40 (by rw [d15]; decide) (by rw [d15]; decide) (by rw [d15]; decide) (by decide) ?_
    exact ok_L_op_15 x4 m h hu hv kb
  rw [if_neg d15] at h
  by_cases d16 : (m 100 0 x4.toNatClampNeg &&& 63) = 16
  · rw [if_pos d16] at h
    refine xj_tableIn (off := 1167) (tgt := 1207) dL_law__40 (by rw [d16]; decide) (by rw [d16]; decide) (by rw [d16]; decide) (by decide) ?_
    exact ok_L_op_16 x4 m h hu hv kb
  rw [if_neg d16] at h
  by_cases d17 : (m 100 0 x4.toNatClampNeg &&& 63) = 17
  · rw [if_pos d17] at h
    refine xj_tableIn (off := 1180) (tgt := 1220) dL_law__40 (by rw [d17]; decide) (by rw [d17]; decide) (by rw [d17]; decide) (by decide) ?_
    exact ok_L_op_17 x4 m h hu hv kb
  rw [if_neg d17] at h
  by_cases d18 : (m 100 0 x4.toNatClampNeg &&& 63) = 18
  · rw [if_pos d18] at h
    refine xj_tableIn (off := 1260) (tgt := 1300) dL_law__40 (by rw [d18]; decide) (by rw [d18]; decide) (by rw [d18]; decide) (by decide) ?_
    exact ok_L_op_18 x4 m h hu hv kb
  rw [if_neg d18] at h
  by_cases d19 : (m 100 0 x4.toNatClampNeg &&& 63) = 19
  · rw [if_pos d19] at h
    refine xj_tableIn (off := 1316) (tgt := 1356) dL_law__40 (by rw [d19]; decide) (by rw [d19]; decide) (by rw [d19]; decide) (by decide) ?_
    exact ok_L_op_19 x4 m h hu hv kb
  rw [if_neg d19] at h
  by_cases d20 : (m 100 0 x4.toNatClampNeg &&& 63) = 20
  · rw [if_pos d20] at h
    refine xj_tableIn (off := 1372) (tgt := 1412) dL_law__40 (by rw [d20]; decide) (by rw [d20]; decide) (by rw [d20]; decide) (by decide) ?_
    exact ok_L_op_20 x4 m h hu hv kb
  rw [if_neg d20] at h
  by_cases d21 : (m 100 0 x4.toNatClampNeg &&& 63) = 21
  · rw [if_pos d21] at h
    refine xj_tableIn (off := 1428) (tgt := 1468) dL_law__40 (by rw [d21]; decide) (by rw [d21]; decide) (by rw [d21]; decide) (by decide) ?_
    exact ok_L_op_21 x4 m h hu hv kb
  rw [if_neg d21] at h
  by_cases d22 : (m 100 0 x4.toNatClampNeg &&& 63) = 22
  · rw [if_pos d22] at h
    refine xj_tableIn (off := 1496) (tgt := 1536) dL_law__40 (by rw [d22]; decide) (by rw [d22]; decide) (by rw [d22]; decide) (by decide) ?_
    exact ok_L_op_22 x4 m h hu hv kb
  rw [if_neg d22] at h
  by_cases d23 : (m 100 0 x4.toNatClampNeg &&& 63) = 23
  · rw [if_pos d23] at h
    refine xj_tableIn (off := 1564) (tgt := 1604) dL_law__40 (by rw [d23]; decide) (by rw [d23]; decide) (by rw [d23]; decide) (by decide) ?_
    exact ok_L_op_23 x4 m h hu hv kb
  rw [if_neg d23] at h
  by_cases d24 : (m 100 0 x4.toNatClampNeg &&& 63) = 24
  · rw [if_pos d24] at h
    refine xj_tableIn (off := 1644) (tgt := 1684) dL_law__40 (by rw [d24]; decide) (by rw [d24]; decide) (by rw [d24]; decide) (by decide) ?_
    exact ok_L_op_24 x4 m h hu hv kb
  rw [if_neg d24] at h
  by_cases d25 : (m 100 0 x4.toNatClampNeg &&& 63) = 25
  · rw [if_pos d25] at h
    refine xj_tableIn (off := 1657) (tgt := 1697) dL_law__40 (by rw [d25]; decide) (by rw [d25]; decide) (by rw [d25]; decide) (by decide) ?_
    exact ok_L_op_25 x4 m h hu hv kb
  rw [if_neg d25] at h
  by_cases d26 : (m 100 0 x4.toNatClampNeg &&& 63) = 26
  · rw [if_pos d26] at h
    refine xj_tableIn (off := 1736) (tgt := 1776) dL_law__40 (by rw [d26]; decide) (by rw [d26]; decide) (by rw [d26]; decide) (by decide) ?_
    exact ok_L_op_26 x4 m h hu hv kb
  rw [if_neg d26] at h
  by_cases d27 : (m 100 0 x4.toNatClampNeg &&& 63) = 27
  · rw [if_pos d27] at h
    refine xj_tableIn (off := 1804) (tgt := 1844) dL_law__40 (by rw [d27]; decide) (by rw [d27]; decide) (by rw [d27]; decide) (by decide) ?_
    exact ok_L_op_27 x4 m h hu hv kb
  rw [if_neg d27] at h
  by_cases d28 : (m 100 0 x4.toNatClampNeg &&& 63) = 28
  · rw [if_pos d28] at h
    refine xj_tableIn (off := 1884) (tgt := 1924) dL_law__40 (by rw [d28]; decide) (by rw [d28]; decide) (by rw [d28]; decide) (by decide) ?_
    exact ok_L_op_28 x4 m h hu hv kb
  rw [if_neg d28] at h
  by_cases d29 : (m 100 0 x4.toNatClampNeg &&& 63) = 29
  · rw [if_pos d29] at h
    refine xj_tableIn (off := 1952) (tgt := 1992) dL_law__40 (by rw [d29]; decide) (by rw [d29]; decide) (by rw [d29]; decide) (by decide) ?_
    exact ok_L_op_29 x4 m h hu hv kb
  rw [if_neg d29] at h
  by_cases d30 : (m 100 0 x4.toNatClampNeg &&& 63) = 30
  · rw [if_pos d30] at h
    refine xj_tableIn (off := 2008) (tgt := 2048) dL_law__40 (by rw [d30]; decide) (by rw [d30]; decide) (by rw [d30]; decide) (by decide) ?_
    exact ok_L_op_30 x4 m h hu hv kb
  rw [if_neg d30] at h
  by_cases d31 : (m 100 0 x4.toNatClampNeg &&& 63) = 31
  · rw [if_pos d31] at h
    refine xj_tableIn (off := 2021) (tgt := 2061) dL_law__40 (by rw [d31]; decide) (by rw [d31]; decide) (by rw [d31]; decide) (by decide) ?_
    exact ok_L_op_31 x4 m h hu hv kb
  rw [if_neg d31] at h
  by_cases d32 : (m 100 0 x4.toNatClampNeg &&& 63) = 32
  · rw [if_pos d32] at h
    refine xj_tableIn (off := 2113) (tgt := 2153) dL_law__40 (by rw [d32]; decide) (by rw [d32]; decide) (by rw [d32]; decide) (by decide) ?_
    exact ok_L_op_32 x4 m h hu hv kb
  rw [if_neg d32] at h
  by_cases d33 : (m 100 0 x4.toNatClampNeg &&& 63) = 33
  · rw [if_pos d33] at h
    refine xj_tableIn (off := 2231) (tgt := 2271) dL_law__40 (by rw [d33]; decide) (by rw [d33]; decide) (by rw [d33]; decide) (by decide) ?_
    exact ok_L_op_33 x4 m h hu hv kb
  rw [if_neg d33] at h
  by_cases d34 : (m 100 0 x4.toNatClampNeg &&& 63) = 34
  · rw [if_pos d34] at h
    refine xj_tableIn (off := 2244) (tgt := 2284) dL_law__40 (by rw [d34]; decide) (by rw [d34]; decide) (by rw [d34]; decide) (by decide) ?_
    exact ok_L_op_34 x4 m h hu hv kb
  rw [if_neg d34] at h
  by_cases d35 : (m 100 0 x4.toNatClampNeg &&& 63) = 35
  · rw [if_pos d35] at h
    refine xj_tableIn (off := 2257) (tgt := 2297) dL_law__40 (by rw [d35]; decide) (by rw [d35]; decide) (by rw [d35]; decide) (by decide) ?_
    exact ok_L_op_35 x4 m h hu hv kb
  rw [if_neg d35] at h
  by_cases d36 : (m 100 0 x4.toNatClampNeg &&& 63) = 36
  · rw [if_pos d36] at h
    refine xj_tableIn (off := 2282) (tgt := 2322) dL_law__40 (by rw [d36]; decide) (by rw [d36]; decide) (by rw [d36]; decide) (by decide) ?_
    exact ok_L_op_36 x4 m h hu hv kb
  rw [if_neg d36] at h
  refine xj_tableOut (tgt := 2347) dL_law__40 ?_ (by decide) ?_
  · have nd0 := lv_neT d0 (show (0 : Int32).toInt = 0 by decide)
    have nd1 := lv_neT d1 (show (1 : Int32).toInt = 1 by decide)
    have nd2 := lv_neT d2 (show (2 : Int32).toInt = 2 by decide)
    have nd3 := lv_neT d3 (show (3 : Int32).toInt = 3 by decide)
    have nd4 := lv_neT d4 (show (4 : Int32).toInt = 4 by decide)
    have nd5 := lv_neT d5 (show (5 : Int32).toInt = 5 by decide)
    have nd6 := lv_neT d6 (show (6 : Int32).toInt = 6 by decide)
    have nd7 := lv_neT d7 (show (7 : Int32).toInt = 7 by decide)
    have nd8 := lv_neT d8 (show (8 : Int32).toInt = 8 by decide)
    have nd9 := lv_neT d9 (show (9 : Int32).toInt = 9 by decide)
    have nd10 := lv_neT d10 (show (10 : Int32).toInt = 10 by decide)
    have nd11 := lv_neT d11 (show (11 : Int32).toInt = 11 by decide)
    have nd12 := lv_neT d12 (show (12 : Int32).toInt = 12 by decide)
    have nd13 := lv_neT d13 (show (13 : Int32).toInt = 13 by decide)
    have nd14 := lv_neT d14 (show (14 : Int32).toInt = 14 by decide)
    have nd15 := lv_neT d15 (show (15 : Int32).toInt = 15 by decide)
    have nd16 := lv_neT d16 (show (16 : Int32).toInt = 16 by decide)
    have nd17 := lv_neT d17 (show (17 : Int32).toInt = 17 by decide)
    have nd18 := lv_neT d18 (show (18 : Int32).toInt = 18 by decide)
    have nd19 := lv_neT d19 (show (19 : Int32).toInt = 19 by decide)
    have nd20 := lv_neT d20 (show (20 : Int32).toInt = 20 by decide)
    have nd21 := lv_neT d21 (show (21 : Int32).toInt = 21 by decide)
    have nd22 := lv_neT d22 (show (22 : Int32).toInt = 22 by decide)
    have nd23 := lv_neT d23 (show (23 : Int32).toInt = 23 by decide)
    have nd24 := lv_neT d24 (show (24 : Int32).toInt = 24 by decide)
    have nd25 := lv_neT d25 (show (25 : Int32).toInt = 25 by decide)
    have nd26 := lv_neT d26 (show (26 : Int32).toInt = 26 by decide)
    have nd27 := lv_neT d27 (show (27 : Int32).toInt = 27 by decide)
    have nd28 := lv_neT d28 (show (28 : Int32).toInt = 28 by decide)
    have nd29 := lv_neT d29 (show (29 : Int32).toInt = 29 by decide)
    have nd30 := lv_neT d30 (show (30 : Int32).toInt = 30 by decide)
    have nd31 := lv_neT d31 (show (31 : Int32).toInt = 31 by decide)
    have nd32 := lv_neT d32 (show (32 : Int32).toInt = 32 by decide)
    have nd33 := lv_neT d33 (show (33 : Int32).toInt = 33 by decide)
    have nd34 := lv_neT d34 (show (34 : Int32).toInt = 34 by decide)
    have nd35 := lv_neT d35 (show (35 : Int32).toInt = 35 by decide)
    have nd36 := lv_neT d36 (show (36 : Int32).toInt = 36 by decide)
    omega
  exact ok_L_op_37 x4 m h hu hv kb
noncomputable def r_L_run : Nat → Int32 → Mem → Option Mem
  | 0, x4, m => if (m 100 1 0 - 10) < x4 then some m else none
  | n + 1, x4, m => if (m 100 1 0 - 10) < x4 then some m else bd1 (r_L_step x4 m) fun m1 => r_L_run n (x4 + 10) m1
theorem ok_L_run : ∀ (n : Nat) (x4 : Int32) (m : Mem) {m1 : Mem} (h : r_L_run n x4 m = some m1) {u v : Nat} (hu : u + 120 * n ≤ 601024) (hv : v + 3000 * n ≤ 7293034), Xj RL cL_law_ 8 (some .boolean) 2048 84000 601024 7293034 u v 23 [(0, vR 100 0), (1, vR 11 0), (2, vR 12 0), (3, vR 92 0), (4, vI x4)] [] m (.inl (some (vI 1))) m1
  | 0, x4, m, m1, h, u, v, hu, hv => by
    unfold r_L_run at h
    refine xj_iload 4 dL_law__23 rfl ?_
    refine xj_aload_n 0 dL_law__25 rfl ?_
    refine xj_lenS dL_law__26 ?_
    refine xj_bipush (z := 10) dL_law__27 (by decide) ?_
    refine xj_isub dL_law__29 ?_
    refine xj_icmp_gt (tgt := 2353) dL_law__30 (by decide) (fun c => ?_) (fun c => ?_)
    · rw [if_pos c] at h
      cases h
      refine xj_iconst (z := 1) dL_law__2353 (by decide) ?_
      exact xj_ireturn dL_law__2354 rfl (by omega) (by omega)
    · rw [if_neg c] at h
      cases h
  | n + 1, x4, m, m1, h, u, v, hu, hv => by
    unfold r_L_run at h
    refine xj_iload 4 dL_law__23 rfl ?_
    refine xj_aload_n 0 dL_law__25 rfl ?_
    refine xj_lenS dL_law__26 ?_
    refine xj_bipush (z := 10) dL_law__27 (by decide) ?_
    refine xj_isub dL_law__29 ?_
    refine xj_icmp_gt (tgt := 2353) dL_law__30 (by decide) (fun c => ?_) (fun c => ?_)
    · rw [if_pos c] at h
      cases h
      refine xj_iconst (z := 1) dL_law__2353 (by decide) ?_
      exact xj_ireturn dL_law__2354 rfl (by omega) (by omega)
    · rw [if_neg c] at h
      obtain ⟨m2, e1, h⟩ := bd1_some h
      exact ok_L_step x4 m e1 (by omega) (by omega) (ok_L_run n (x4 + 10) m2 h (by omega) (by omega))
noncomputable def r_L_law_ (m : Mem) : Option Mem :=
  if m 94 311 0 = 0 then (bd1 (r_X11_init (nw m 311 0)) fun m1 => if m1 94 11 0 = 0 then none else (if m1 94 312 0 = 0 then (bd1 (r_X12_init (nw m1 312 0)) fun m2 => if m2 94 12 0 = 0 then none else (if m2 94 92 0 = 0 then (r_L_run 512 0 (nw m2 92 0)) else none)) else none)) else none
set_option maxHeartbeats 4000000 in
theorem ok_L_law_ (m : Mem) {m' : Mem} (h : r_L_law_ m = some m') : Mt yL_law_ cL_law_ 8 (some .boolean) 2048 84000 601024 7293034 [vR 100 0] m (.inl (some (vI 1))) m' := by
  refine Mt.of (by decide) (Nat.le_of_ble_eq_true rfl) (by decide +kernel) (by decide +kernel) ?_
  show Xj RL cL_law_ 8 (some .boolean) 2048 84000 601024 7293034 0 0 0 [(0, vR 100 0)] [] m (.inl (some (vI 1))) m'
  unfold r_L_law_ at h
  by_cases c1 : m 94 311 0 = 0
  case neg => rw [if_neg c1] at h; cases h
  rw [if_pos c1] at h
  refine xj_new (k := 11) (i := 0) dL_law__0 ck_L_8 c1 (by decide) (by decide) ?_
  refine xj_dup dL_law__3 rfl ?_
  obtain ⟨m1, e1, h⟩ := bd1_some h
  refine xj_callI (st := [vR 311 0]) (ok_X11_init _ e1) dL_law__4 ci_L_101 rfl rfl (Nat.le_of_ble_eq_true rfl) (by decide) (by decide) (by decide) (by decide) ?_
  by_cases c2 : m1 94 11 0 = 0
  · rw [if_pos c2] at h; cases h
  rw [if_neg c2] at h
  refine xj_view (k := 11) (by decide) c2 ?_
  refine xj_astore_n (ls' := [(1, vR 11 0), (0, vR 100 0)]) dL_law__7 rfl (by decide) rfl ?_
  by_cases c3 : m1 94 312 0 = 0
  case neg => rw [if_neg c3] at h; cases h
  rw [if_pos c3] at h
  refine xj_new (k := 12) (i := 0) dL_law__8 ck_L_102 c3 (by decide) (by decide) ?_
  refine xj_dup dL_law__11 rfl ?_
  obtain ⟨m2, e2, h⟩ := bd1_some h
  refine xj_callI (st := [vR 312 0]) (ok_X12_init _ e2) dL_law__12 ci_L_104 rfl rfl (Nat.le_of_ble_eq_true rfl) (by decide) (by decide) (by decide) (by decide) ?_
  by_cases c4 : m2 94 12 0 = 0
  · rw [if_pos c4] at h; cases h
  rw [if_neg c4] at h
  refine xj_view (k := 12) (by decide) c4 ?_
  refine xj_astore_n (ls' := [(2, vR 12 0), (1, vR 11 0), (0, vR 100 0)]) dL_law__15 rfl (by decide) rfl ?_
  by_cases c5 : m2 94 92 0 = 0
  case neg => rw [if_neg c5] at h; cases h
  rw [if_pos c5] at h
  refine xj_iconst (z := 1) dL_law__16 (by decide) ?_
  refine xj_newl (k := 92) (i := 0) dL_law__17 wt_2007 rfl (by decide) c5 (by decide) (by decide) (by decide) (by decide) (by decide) ?_
  refine xj_astore_n (ls' := [(3, vR 92 0), (2, vR 12 0), (1, vR 11 0), (0, vR 100 0)]) dL_law__19 rfl (by decide) rfl ?_
  refine xj_iconst (z := 0) dL_law__20 (by decide) ?_
  refine xj_istore (ls' := [(4, vI 0), (3, vR 92 0), (2, vR 12 0), (1, vR 11 0), (0, vR 100 0)]) dL_law__21 (by decide) rfl ?_
  refine xj_pick (ls' := [(0, vR 100 0), (1, vR 11 0), (2, vR 12 0), (3, vR 92 0), (4, vI 0)]) [4, 3, 2, 1, 0] rfl ?_
  exact ok_L_run 512 0 _ h (by decide) (by decide)
