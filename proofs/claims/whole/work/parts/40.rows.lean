theorem wt_27 : (Jvm.Cond.instantiable "BeliefRiver" (17 : Nat)) ∈ W0 := W0_m (in_t1 (List.mem_of_getElem? (i := 27) rfl)) rfl
theorem wt_28 : (Jvm.Cond.methodLink "BeliefRiverLaw" (101 : Nat) ({ cls := "BeliefRiver", name := "<init>", desc := "()V" } : Jvm.MethodName)) ∈ W0 := W0_m (in_t1 (List.mem_of_getElem? (i := 28) rfl)) rfl
theorem wt_29 : (Jvm.Cond.instanceMethod ({ cls := "BeliefRiver", name := "<init>", desc := "()V" } : Jvm.MethodName)) ∈ W0 := W0_m (in_t1 (List.mem_of_getElem? (i := 29) rfl)) rfl
theorem wt_30 : (Jvm.Cond.code ({ cls := "BeliefRiver", name := "<init>", desc := "()V" } : Jvm.MethodName) prog_1_method_1_code (1 : Nat) (Option.none : Option Jvm.ClassFile.FieldType)) ∈ W0 := W0_m (in_t1 (List.mem_of_getElem? (i := 30) rfl)) rfl
theorem wt_1393 : (Jvm.Cond.instantiable "BeliefRiverModel" (52 : Nat)) ∈ W0 := W0_m (in_t6 (List.mem_of_getElem? (i := 193) rfl)) rfl
theorem wt_1394 : (Jvm.Cond.methodLink "BeliefRiverLaw" (104 : Nat) ({ cls := "BeliefRiverModel", name := "<init>", desc := "()V" } : Jvm.MethodName)) ∈ W0 := W0_m (in_t6 (List.mem_of_getElem? (i := 194) rfl)) rfl
theorem wt_1395 : (Jvm.Cond.instanceMethod ({ cls := "BeliefRiverModel", name := "<init>", desc := "()V" } : Jvm.MethodName)) ∈ W0 := W0_m (in_t6 (List.mem_of_getElem? (i := 195) rfl)) rfl
theorem wt_1396 : (Jvm.Cond.code ({ cls := "BeliefRiverModel", name := "<init>", desc := "()V" } : Jvm.MethodName) prog_14_method_1_code (1 : Nat) (Option.none : Option Jvm.ClassFile.FieldType)) ∈ W0 := W0_m (in_t6 (List.mem_of_getElem? (i := 196) rfl)) rfl
theorem wt_2007 : (Jvm.Cond.arrayClass Jvm.ClassFile.FieldType.long) ∈ W0 := W0_m (in_t9 (List.mem_of_getElem? (i := 87) rfl)) rfl
theorem ck_L_8 : CK RL 8 11 := ⟨_, _, _, cf_11, wt_26, wt_27, fun i j hj => match j, hj with | 0, _ => Or.inr ⟨⟨_, rfl, rfl⟩, _, rfl⟩ | 1, _ => Or.inr ⟨⟨_, rfl, rfl⟩, _, rfl⟩ | 2, _ => Or.inr ⟨⟨_, rfl, rfl⟩, _, rfl⟩ | 3, _ => Or.inr ⟨⟨_, rfl, rfl⟩, _, rfl⟩ | 4, _ => Or.inr ⟨⟨_, rfl, rfl⟩, _, rfl⟩ | 5, _ => Or.inr ⟨⟨_, rfl, rfl⟩, _, rfl⟩ | 6, _ => Or.inr ⟨⟨_, rfl, rfl⟩, _, rfl⟩ | 7, _ => Or.inr ⟨⟨_, rfl, rfl⟩, _, rfl⟩ | 8, _ => Or.inr ⟨⟨_, rfl, rfl⟩, _, rfl⟩ | 9, _ => Or.inr ⟨⟨_, rfl, rfl⟩, _, rfl⟩ | 10, _ => Or.inr ⟨⟨_, rfl, rfl⟩, _, rfl⟩ | 11, _ => Or.inr ⟨⟨_, rfl, rfl⟩, _, rfl⟩ | 12, _ => Or.inr ⟨⟨_, rfl, rfl⟩, _, rfl⟩ | 13, _ => Or.inr ⟨⟨_, rfl, rfl⟩, _, rfl⟩ | 14, _ => Or.inl ⟨rfl, rfl⟩ | 15, _ => Or.inl ⟨rfl, rfl⟩ | 16, _ => Or.inl ⟨rfl, rfl⟩ | n + 17, hj => absurd hj (by omega)⟩
theorem ci_L_101 : CI RL 101 yX11_init cX11_init 1 0 := ⟨wt_28, wt_29, wt_1, wt_30, by decide, by decide, by decide +kernel, rfl⟩
theorem ck_L_102 : CK RL 102 12 := ⟨_, _, _, cf_12, wt_1392, wt_1393, fun i j hj => match j, hj with | 0, _ => Or.inl ⟨rfl, rfl⟩ | 1, _ => Or.inl ⟨rfl, rfl⟩ | 2, _ => Or.inl ⟨rfl, rfl⟩ | 3, _ => Or.inl ⟨rfl, rfl⟩ | 4, _ => Or.inl ⟨rfl, rfl⟩ | 5, _ => Or.inl ⟨rfl, rfl⟩ | 6, _ => Or.inl ⟨rfl, rfl⟩ | 7, _ => Or.inl ⟨rfl, rfl⟩ | 8, _ => Or.inl ⟨rfl, rfl⟩ | 9, _ => Or.inr ⟨⟨_, rfl, rfl⟩, _, rfl⟩ | 10, _ => Or.inr ⟨⟨_, rfl, rfl⟩, _, rfl⟩ | 11, _ => Or.inr ⟨⟨_, rfl, rfl⟩, _, rfl⟩ | 12, _ => Or.inr ⟨⟨_, rfl, rfl⟩, _, rfl⟩ | 13, _ => Or.inr ⟨⟨_, rfl, rfl⟩, _, rfl⟩ | 14, _ => Or.inr ⟨⟨_, rfl, rfl⟩, _, rfl⟩ | 15, _ => Or.inr ⟨⟨_, rfl, rfl⟩, _, rfl⟩ | 16, _ => Or.inr ⟨⟨_, rfl, rfl⟩, _, rfl⟩ | 17, _ => Or.inr ⟨⟨_, rfl, rfl⟩, _, rfl⟩ | 18, _ => Or.inr ⟨⟨_, rfl, rfl⟩, _, rfl⟩ | 19, _ => Or.inr ⟨⟨_, rfl, rfl⟩, _, rfl⟩ | 20, _ => Or.inr ⟨⟨_, rfl, rfl⟩, _, rfl⟩ | 21, _ => Or.inl ⟨rfl, rfl⟩ | 22, _ => Or.inl ⟨rfl, rfl⟩ | 23, _ => Or.inr ⟨⟨_, rfl, rfl⟩, _, rfl⟩ | 24, _ => Or.inr ⟨⟨_, rfl, rfl⟩, _, rfl⟩ | 25, _ => Or.inr ⟨⟨_, rfl, rfl⟩, _, rfl⟩ | 26, _ => Or.inr ⟨⟨_, rfl, rfl⟩, _, rfl⟩ | 27, _ => Or.inr ⟨⟨_, rfl, rfl⟩, _, rfl⟩ | 28, _ => Or.inr ⟨⟨_, rfl, rfl⟩, _, rfl⟩ | 29, _ => Or.inr ⟨⟨_, rfl, rfl⟩, _, rfl⟩ | 30, _ => Or.inl ⟨rfl, rfl⟩ | 31, _ => Or.inr ⟨⟨_, rfl, rfl⟩, _, rfl⟩ | 32, _ => Or.inr ⟨⟨_, rfl, rfl⟩, _, rfl⟩ | 33, _ => Or.inr ⟨⟨_, rfl, rfl⟩, _, rfl⟩ | 34, _ => Or.inr ⟨⟨_, rfl, rfl⟩, _, rfl⟩ | 35, _ => Or.inl ⟨rfl, rfl⟩ | 36, _ => Or.inl ⟨rfl, rfl⟩ | 37, _ => Or.inl ⟨rfl, rfl⟩ | 38, _ => Or.inl ⟨rfl, rfl⟩ | 39, _ => Or.inl ⟨rfl, rfl⟩ | 40, _ => Or.inr ⟨⟨_, rfl, rfl⟩, _, rfl⟩ | 41, _ => Or.inr ⟨⟨_, rfl, rfl⟩, _, rfl⟩ | 42, _ => Or.inl ⟨rfl, rfl⟩ | 43, _ => Or.inl ⟨rfl, rfl⟩ | 44, _ => Or.inl ⟨rfl, rfl⟩ | 45, _ => Or.inr ⟨⟨_, rfl, rfl⟩, _, rfl⟩ | 46, _ => Or.inr ⟨⟨_, rfl, rfl⟩, _, rfl⟩ | 47, _ => Or.inl ⟨rfl, rfl⟩ | 48, _ => Or.inr ⟨⟨_, rfl, rfl⟩, _, rfl⟩ | 49, _ => Or.inr ⟨⟨_, rfl, rfl⟩, _, rfl⟩ | 50, _ => Or.inl ⟨rfl, rfl⟩ | 51, _ => Or.inl ⟨rfl, rfl⟩ | n + 52, hj => absurd hj (by omega)⟩
theorem ci_L_104 : CI RL 104 yX12_init cX12_init 1 0 := ⟨wt_1394, wt_1395, wt_14, wt_1396, by decide, by decide, by decide +kernel, rfl⟩
theorem dL_law__0 : decode cL_law_ 0 = .ok (.new 8, 3) := by decide +kernel
theorem dL_law__3 : decode cL_law_ 3 = .ok (.dup, 1) := by decide +kernel
theorem dL_law__4 : decode cL_law_ 4 = .ok (.invokespecial 101, 3) := by decide +kernel
theorem dL_law__7 : decode cL_law_ 7 = .ok (.astore_n 1, 1) := by decide +kernel
theorem dL_law__8 : decode cL_law_ 8 = .ok (.new 102, 3) := by decide +kernel
theorem dL_law__11 : decode cL_law_ 11 = .ok (.dup, 1) := by decide +kernel
theorem dL_law__12 : decode cL_law_ 12 = .ok (.invokespecial 104, 3) := by decide +kernel
theorem dL_law__15 : decode cL_law_ 15 = .ok (.astore_n 2, 1) := by decide +kernel
theorem dL_law__16 : decode cL_law_ 16 = .ok (.iconst 1, 1) := by decide +kernel
theorem dL_law__17 : decode cL_law_ 17 = .ok (.newarray .long, 2) := by decide +kernel
theorem dL_law__19 : decode cL_law_ 19 = .ok (.astore_n 3, 1) := by decide +kernel
theorem dL_law__20 : decode cL_law_ 20 = .ok (.iconst 0, 1) := by decide +kernel
theorem dL_law__21 : decode cL_law_ 21 = .ok (.istore 4, 2) := by decide +kernel
theorem dL_law__23 : decode cL_law_ 23 = .ok (.iload 4, 2) := by decide +kernel
theorem dL_law__25 : decode cL_law_ 25 = .ok (.aload_n 0, 1) := by decide +kernel
theorem dL_law__26 : decode cL_law_ 26 = .ok (.arraylength, 1) := by decide +kernel
theorem dL_law__27 : decode cL_law_ 27 = .ok (.bipush 10, 2) := by decide +kernel
theorem dL_law__29 : decode cL_law_ 29 = .ok (.isub, 1) := by decide +kernel
theorem dL_law__30 : decode cL_law_ 30 = .ok (.if_icmp .gt 2323, 3) := by decide +kernel
theorem dL_law__33 : decode cL_law_ 33 = .ok (.aload_n 0, 1) := by decide +kernel
theorem dL_law__34 : decode cL_law_ 34 = .ok (.iload 4, 2) := by decide +kernel
theorem dL_law__36 : decode cL_law_ 36 = .ok (.iaload, 1) := by decide +kernel
theorem dL_law__37 : decode cL_law_ 37 = .ok (.bipush 63, 2) := by decide +kernel
theorem dL_law__39 : decode cL_law_ 39 = .ok (.iand, 1) := by decide +kernel
theorem dL_law__40 : decode cL_law_ 40 = .ok (.tableswitch 2307 0 36 #[164, 237, 293, 349, 405, 461, 474, 487, 543, 611, 679, 747, 815, 883, 1043, 1099, 1167, 1180, 1260, 1316, 1372, 1428, 1496, 1564, 1644, 1657, 1736, 1804, 1884, 1952, 2008, 2021, 2113, 2231, 2244, 2257, 2282], 164) := by decide +kernel
theorem dL_law__204 : decode cL_law_ 204 = .ok (.aload_n 1, 1) := by decide +kernel
theorem dL_law__205 : decode cL_law_ 205 = .ok (.aload_n 0, 1) := by decide +kernel
theorem dL_law__206 : decode cL_law_ 206 = .ok (.iload 4, 2) := by decide +kernel
theorem dL_law__208 : decode cL_law_ 208 = .ok (.iconst 1, 1) := by decide +kernel
theorem dL_law__209 : decode cL_law_ 209 = .ok (.iadd, 1) := by decide +kernel
theorem dL_law__210 : decode cL_law_ 210 = .ok (.iaload, 1) := by decide +kernel
theorem dL_law__211 : decode cL_law_ 211 = .ok (.aload_n 0, 1) := by decide +kernel
theorem dL_law__212 : decode cL_law_ 212 = .ok (.iload 4, 2) := by decide +kernel
theorem dL_law__214 : decode cL_law_ 214 = .ok (.iconst 2, 1) := by decide +kernel
theorem dL_law__215 : decode cL_law_ 215 = .ok (.iadd, 1) := by decide +kernel
theorem dL_law__216 : decode cL_law_ 216 = .ok (.iaload, 1) := by decide +kernel
theorem dL_law__217 : decode cL_law_ 217 = .ok (.aload_n 0, 1) := by decide +kernel
theorem dL_law__218 : decode cL_law_ 218 = .ok (.iload 4, 2) := by decide +kernel
theorem dL_law__220 : decode cL_law_ 220 = .ok (.iconst 3, 1) := by decide +kernel
theorem dL_law__221 : decode cL_law_ 221 = .ok (.iadd, 1) := by decide +kernel
theorem dL_law__222 : decode cL_law_ 222 = .ok (.iaload, 1) := by decide +kernel
theorem dL_law__223 : decode cL_law_ 223 = .ok (.aload_n 0, 1) := by decide +kernel
theorem dL_law__224 : decode cL_law_ 224 = .ok (.iload 4, 2) := by decide +kernel
theorem dL_law__226 : decode cL_law_ 226 = .ok (.iconst 4, 1) := by decide +kernel
theorem dL_law__227 : decode cL_law_ 227 = .ok (.iadd, 1) := by decide +kernel
theorem dL_law__228 : decode cL_law_ 228 = .ok (.iaload, 1) := by decide +kernel
theorem dL_law__229 : decode cL_law_ 229 = .ok (.aload_n 0, 1) := by decide +kernel
theorem dL_law__230 : decode cL_law_ 230 = .ok (.iload 4, 2) := by decide +kernel
theorem dL_law__232 : decode cL_law_ 232 = .ok (.iconst 5, 1) := by decide +kernel
theorem dL_law__233 : decode cL_law_ 233 = .ok (.iadd, 1) := by decide +kernel
theorem dL_law__234 : decode cL_law_ 234 = .ok (.iaload, 1) := by decide +kernel
theorem dL_law__235 : decode cL_law_ 235 = .ok (.invokevirtual 105, 3) := by decide +kernel
theorem dL_law__238 : decode cL_law_ 238 = .ok (.aload_n 2, 1) := by decide +kernel
theorem dL_law__239 : decode cL_law_ 239 = .ok (.aload_n 0, 1) := by decide +kernel
theorem dL_law__240 : decode cL_law_ 240 = .ok (.iload 4, 2) := by decide +kernel
theorem dL_law__242 : decode cL_law_ 242 = .ok (.iconst 1, 1) := by decide +kernel
theorem dL_law__243 : decode cL_law_ 243 = .ok (.iadd, 1) := by decide +kernel
theorem dL_law__244 : decode cL_law_ 244 = .ok (.iaload, 1) := by decide +kernel
theorem dL_law__245 : decode cL_law_ 245 = .ok (.aload_n 0, 1) := by decide +kernel
theorem dL_law__246 : decode cL_law_ 246 = .ok (.iload 4, 2) := by decide +kernel
theorem dL_law__248 : decode cL_law_ 248 = .ok (.iconst 2, 1) := by decide +kernel
theorem dL_law__249 : decode cL_law_ 249 = .ok (.iadd, 1) := by decide +kernel
theorem dL_law__250 : decode cL_law_ 250 = .ok (.iaload, 1) := by decide +kernel
theorem dL_law__251 : decode cL_law_ 251 = .ok (.aload_n 0, 1) := by decide +kernel
theorem dL_law__252 : decode cL_law_ 252 = .ok (.iload 4, 2) := by decide +kernel
theorem dL_law__254 : decode cL_law_ 254 = .ok (.iconst 3, 1) := by decide +kernel
theorem dL_law__255 : decode cL_law_ 255 = .ok (.iadd, 1) := by decide +kernel
theorem dL_law__256 : decode cL_law_ 256 = .ok (.iaload, 1) := by decide +kernel
theorem dL_law__257 : decode cL_law_ 257 = .ok (.aload_n 0, 1) := by decide +kernel
theorem dL_law__258 : decode cL_law_ 258 = .ok (.iload 4, 2) := by decide +kernel
theorem dL_law__260 : decode cL_law_ 260 = .ok (.iconst 4, 1) := by decide +kernel
theorem dL_law__261 : decode cL_law_ 261 = .ok (.iadd, 1) := by decide +kernel
theorem dL_law__262 : decode cL_law_ 262 = .ok (.iaload, 1) := by decide +kernel
theorem dL_law__263 : decode cL_law_ 263 = .ok (.aload_n 0, 1) := by decide +kernel
theorem dL_law__264 : decode cL_law_ 264 = .ok (.iload 4, 2) := by decide +kernel
theorem dL_law__266 : decode cL_law_ 266 = .ok (.iconst 5, 1) := by decide +kernel
theorem dL_law__267 : decode cL_law_ 267 = .ok (.iadd, 1) := by decide +kernel
theorem dL_law__268 : decode cL_law_ 268 = .ok (.iaload, 1) := by decide +kernel
theorem dL_law__269 : decode cL_law_ 269 = .ok (.invokevirtual 109, 3) := by decide +kernel
theorem dL_law__272 : decode cL_law_ 272 = .ok (.if_icmp .eq 2075, 3) := by decide +kernel
theorem dL_law__275 : decode cL_law_ 275 = .ok (.iconst 0, 1) := by decide +kernel
theorem dL_law__276 : decode cL_law_ 276 = .ok (.ireturn, 1) := by decide +kernel
theorem dL_law__277 : decode cL_law_ 277 = .ok (.aload_n 1, 1) := by decide +kernel
theorem dL_law__278 : decode cL_law_ 278 = .ok (.aload_n 0, 1) := by decide +kernel
theorem dL_law__279 : decode cL_law_ 279 = .ok (.iload 4, 2) := by decide +kernel
theorem dL_law__281 : decode cL_law_ 281 = .ok (.iconst 1, 1) := by decide +kernel
theorem dL_law__282 : decode cL_law_ 282 = .ok (.iadd, 1) := by decide +kernel
theorem dL_law__283 : decode cL_law_ 283 = .ok (.iaload, 1) := by decide +kernel
theorem dL_law__284 : decode cL_law_ 284 = .ok (.aload_n 3, 1) := by decide +kernel
theorem dL_law__285 : decode cL_law_ 285 = .ok (.invokestatic 110, 3) := by decide +kernel
theorem dL_law__288 : decode cL_law_ 288 = .ok (.istore 5, 2) := by decide +kernel
theorem dL_law__290 : decode cL_law_ 290 = .ok (.aload_n 2, 1) := by decide +kernel
theorem dL_law__291 : decode cL_law_ 291 = .ok (.aload_n 0, 1) := by decide +kernel
theorem dL_law__292 : decode cL_law_ 292 = .ok (.iload 4, 2) := by decide +kernel
theorem dL_law__294 : decode cL_law_ 294 = .ok (.iconst 1, 1) := by decide +kernel
theorem dL_law__295 : decode cL_law_ 295 = .ok (.iadd, 1) := by decide +kernel
theorem dL_law__296 : decode cL_law_ 296 = .ok (.iaload, 1) := by decide +kernel
theorem dL_law__297 : decode cL_law_ 297 = .ok (.invokevirtual 115, 3) := by decide +kernel
theorem dL_law__300 : decode cL_law_ 300 = .ok (.istore 6, 2) := by decide +kernel
theorem dL_law__302 : decode cL_law_ 302 = .ok (.aload_n 2, 1) := by decide +kernel
theorem dL_law__303 : decode cL_law_ 303 = .ok (.invokevirtual 116, 3) := by decide +kernel
theorem dL_law__306 : decode cL_law_ 306 = .ok (.iload 5, 2) := by decide +kernel
theorem dL_law__308 : decode cL_law_ 308 = .ok (.if_icmp .eq 5, 3) := by decide +kernel
theorem dL_law__311 : decode cL_law_ 311 = .ok (.iconst 0, 1) := by decide +kernel
theorem dL_law__312 : decode cL_law_ 312 = .ok (.ireturn, 1) := by decide +kernel
theorem dL_law__313 : decode cL_law_ 313 = .ok (.iload 5, 2) := by decide +kernel
theorem dL_law__315 : decode cL_law_ 315 = .ok (.ifCond .ne 15, 3) := by decide +kernel
theorem dL_law__318 : decode cL_law_ 318 = .ok (.aload_n 3, 1) := by decide +kernel
theorem dL_law__319 : decode cL_law_ 319 = .ok (.iconst 0, 1) := by decide +kernel
theorem dL_law__320 : decode cL_law_ 320 = .ok (.laload, 1) := by decide +kernel
theorem dL_law__321 : decode cL_law_ 321 = .ok (.iload 6, 2) := by decide +kernel
theorem dL_law__323 : decode cL_law_ 323 = .ok (.i2l, 1) := by decide +kernel
theorem dL_law__324 : decode cL_law_ 324 = .ok (.lcmp, 1) := by decide +kernel
theorem dL_law__325 : decode cL_law_ 325 = .ok (.ifCond .eq 5, 3) := by decide +kernel
theorem dL_law__328 : decode cL_law_ 328 = .ok (.iconst 0, 1) := by decide +kernel
theorem dL_law__329 : decode cL_law_ 329 = .ok (.ireturn, 1) := by decide +kernel
theorem dL_law__330 : decode cL_law_ 330 = .ok (.goto 2017, 3) := by decide +kernel
theorem dL_law__333 : decode cL_law_ 333 = .ok (.aload_n 1, 1) := by decide +kernel
theorem dL_law__334 : decode cL_law_ 334 = .ok (.aload_n 0, 1) := by decide +kernel
theorem dL_law__335 : decode cL_law_ 335 = .ok (.iload 4, 2) := by decide +kernel
theorem dL_law__337 : decode cL_law_ 337 = .ok (.iconst 1, 1) := by decide +kernel
theorem dL_law__338 : decode cL_law_ 338 = .ok (.iadd, 1) := by decide +kernel
theorem dL_law__339 : decode cL_law_ 339 = .ok (.iaload, 1) := by decide +kernel
theorem dL_law__340 : decode cL_law_ 340 = .ok (.aload_n 3, 1) := by decide +kernel
theorem dL_law__341 : decode cL_law_ 341 = .ok (.invokestatic 120, 3) := by decide +kernel
theorem dL_law__344 : decode cL_law_ 344 = .ok (.istore 5, 2) := by decide +kernel
theorem dL_law__346 : decode cL_law_ 346 = .ok (.aload_n 2, 1) := by decide +kernel
theorem dL_law__347 : decode cL_law_ 347 = .ok (.aload_n 0, 1) := by decide +kernel
theorem dL_law__348 : decode cL_law_ 348 = .ok (.iload 4, 2) := by decide +kernel
theorem dL_law__350 : decode cL_law_ 350 = .ok (.iconst 1, 1) := by decide +kernel
theorem dL_law__351 : decode cL_law_ 351 = .ok (.iadd, 1) := by decide +kernel
theorem dL_law__352 : decode cL_law_ 352 = .ok (.iaload, 1) := by decide +kernel
theorem dL_law__353 : decode cL_law_ 353 = .ok (.invokevirtual 122, 3) := by decide +kernel
theorem dL_law__356 : decode cL_law_ 356 = .ok (.istore 6, 2) := by decide +kernel
theorem dL_law__358 : decode cL_law_ 358 = .ok (.aload_n 2, 1) := by decide +kernel
theorem dL_law__359 : decode cL_law_ 359 = .ok (.invokevirtual 116, 3) := by decide +kernel
theorem dL_law__362 : decode cL_law_ 362 = .ok (.iload 5, 2) := by decide +kernel
theorem dL_law__364 : decode cL_law_ 364 = .ok (.if_icmp .eq 5, 3) := by decide +kernel
theorem dL_law__367 : decode cL_law_ 367 = .ok (.iconst 0, 1) := by decide +kernel
theorem dL_law__368 : decode cL_law_ 368 = .ok (.ireturn, 1) := by decide +kernel
theorem dL_law__369 : decode cL_law_ 369 = .ok (.iload 5, 2) := by decide +kernel
theorem dL_law__371 : decode cL_law_ 371 = .ok (.ifCond .ne 15, 3) := by decide +kernel
theorem dL_law__374 : decode cL_law_ 374 = .ok (.aload_n 3, 1) := by decide +kernel
theorem dL_law__375 : decode cL_law_ 375 = .ok (.iconst 0, 1) := by decide +kernel
theorem dL_law__376 : decode cL_law_ 376 = .ok (.laload, 1) := by decide +kernel
theorem dL_law__377 : decode cL_law_ 377 = .ok (.iload 6, 2) := by decide +kernel
theorem dL_law__379 : decode cL_law_ 379 = .ok (.i2l, 1) := by decide +kernel
theorem dL_law__380 : decode cL_law_ 380 = .ok (.lcmp, 1) := by decide +kernel
theorem dL_law__381 : decode cL_law_ 381 = .ok (.ifCond .eq 5, 3) := by decide +kernel
theorem dL_law__384 : decode cL_law_ 384 = .ok (.iconst 0, 1) := by decide +kernel
theorem dL_law__385 : decode cL_law_ 385 = .ok (.ireturn, 1) := by decide +kernel
theorem dL_law__386 : decode cL_law_ 386 = .ok (.goto 1961, 3) := by decide +kernel
theorem dL_law__389 : decode cL_law_ 389 = .ok (.aload_n 1, 1) := by decide +kernel
theorem dL_law__390 : decode cL_law_ 390 = .ok (.aload_n 0, 1) := by decide +kernel
theorem dL_law__391 : decode cL_law_ 391 = .ok (.iload 4, 2) := by decide +kernel
theorem dL_law__393 : decode cL_law_ 393 = .ok (.iconst 1, 1) := by decide +kernel
theorem dL_law__394 : decode cL_law_ 394 = .ok (.iadd, 1) := by decide +kernel
theorem dL_law__395 : decode cL_law_ 395 = .ok (.iaload, 1) := by decide +kernel
theorem dL_law__396 : decode cL_law_ 396 = .ok (.aload_n 3, 1) := by decide +kernel
theorem dL_law__397 : decode cL_law_ 397 = .ok (.invokestatic 123, 3) := by decide +kernel
theorem dL_law__400 : decode cL_law_ 400 = .ok (.istore 5, 2) := by decide +kernel
theorem dL_law__402 : decode cL_law_ 402 = .ok (.aload_n 2, 1) := by decide +kernel
theorem dL_law__403 : decode cL_law_ 403 = .ok (.aload_n 0, 1) := by decide +kernel
theorem dL_law__404 : decode cL_law_ 404 = .ok (.iload 4, 2) := by decide +kernel
theorem dL_law__406 : decode cL_law_ 406 = .ok (.iconst 1, 1) := by decide +kernel
theorem dL_law__407 : decode cL_law_ 407 = .ok (.iadd, 1) := by decide +kernel
theorem dL_law__408 : decode cL_law_ 408 = .ok (.iaload, 1) := by decide +kernel
theorem dL_law__409 : decode cL_law_ 409 = .ok (.invokevirtual 125, 3) := by decide +kernel
theorem dL_law__412 : decode cL_law_ 412 = .ok (.istore 6, 2) := by decide +kernel
theorem dL_law__414 : decode cL_law_ 414 = .ok (.aload_n 2, 1) := by decide +kernel
theorem dL_law__415 : decode cL_law_ 415 = .ok (.invokevirtual 116, 3) := by decide +kernel
theorem dL_law__418 : decode cL_law_ 418 = .ok (.iload 5, 2) := by decide +kernel
theorem dL_law__420 : decode cL_law_ 420 = .ok (.if_icmp .eq 5, 3) := by decide +kernel
theorem dL_law__423 : decode cL_law_ 423 = .ok (.iconst 0, 1) := by decide +kernel
theorem dL_law__424 : decode cL_law_ 424 = .ok (.ireturn, 1) := by decide +kernel
theorem dL_law__425 : decode cL_law_ 425 = .ok (.iload 5, 2) := by decide +kernel
theorem dL_law__427 : decode cL_law_ 427 = .ok (.ifCond .ne 15, 3) := by decide +kernel
theorem dL_law__430 : decode cL_law_ 430 = .ok (.aload_n 3, 1) := by decide +kernel
theorem dL_law__431 : decode cL_law_ 431 = .ok (.iconst 0, 1) := by decide +kernel
theorem dL_law__432 : decode cL_law_ 432 = .ok (.laload, 1) := by decide +kernel
theorem dL_law__433 : decode cL_law_ 433 = .ok (.iload 6, 2) := by decide +kernel
theorem dL_law__435 : decode cL_law_ 435 = .ok (.i2l, 1) := by decide +kernel
theorem dL_law__436 : decode cL_law_ 436 = .ok (.lcmp, 1) := by decide +kernel
theorem dL_law__437 : decode cL_law_ 437 = .ok (.ifCond .eq 5, 3) := by decide +kernel
theorem dL_law__440 : decode cL_law_ 440 = .ok (.iconst 0, 1) := by decide +kernel
theorem dL_law__441 : decode cL_law_ 441 = .ok (.ireturn, 1) := by decide +kernel
theorem dL_law__442 : decode cL_law_ 442 = .ok (.goto 1905, 3) := by decide +kernel
theorem dL_law__445 : decode cL_law_ 445 = .ok (.aload_n 1, 1) := by decide +kernel
theorem dL_law__446 : decode cL_law_ 446 = .ok (.aload_n 0, 1) := by decide +kernel
theorem dL_law__447 : decode cL_law_ 447 = .ok (.iload 4, 2) := by decide +kernel
theorem dL_law__449 : decode cL_law_ 449 = .ok (.iconst 1, 1) := by decide +kernel
theorem dL_law__450 : decode cL_law_ 450 = .ok (.iadd, 1) := by decide +kernel
theorem dL_law__451 : decode cL_law_ 451 = .ok (.iaload, 1) := by decide +kernel
theorem dL_law__452 : decode cL_law_ 452 = .ok (.aload_n 3, 1) := by decide +kernel
theorem dL_law__453 : decode cL_law_ 453 = .ok (.invokestatic 126, 3) := by decide +kernel
theorem dL_law__456 : decode cL_law_ 456 = .ok (.istore 5, 2) := by decide +kernel
theorem dL_law__458 : decode cL_law_ 458 = .ok (.aload_n 2, 1) := by decide +kernel
theorem dL_law__459 : decode cL_law_ 459 = .ok (.aload_n 0, 1) := by decide +kernel
theorem dL_law__460 : decode cL_law_ 460 = .ok (.iload 4, 2) := by decide +kernel
theorem dL_law__462 : decode cL_law_ 462 = .ok (.iconst 1, 1) := by decide +kernel
theorem dL_law__463 : decode cL_law_ 463 = .ok (.iadd, 1) := by decide +kernel
theorem dL_law__464 : decode cL_law_ 464 = .ok (.iaload, 1) := by decide +kernel
theorem dL_law__465 : decode cL_law_ 465 = .ok (.invokevirtual 128, 3) := by decide +kernel
theorem dL_law__468 : decode cL_law_ 468 = .ok (.istore 6, 2) := by decide +kernel
theorem dL_law__470 : decode cL_law_ 470 = .ok (.aload_n 2, 1) := by decide +kernel
theorem dL_law__471 : decode cL_law_ 471 = .ok (.invokevirtual 116, 3) := by decide +kernel
theorem dL_law__474 : decode cL_law_ 474 = .ok (.iload 5, 2) := by decide +kernel
theorem dL_law__476 : decode cL_law_ 476 = .ok (.if_icmp .eq 5, 3) := by decide +kernel
theorem dL_law__479 : decode cL_law_ 479 = .ok (.iconst 0, 1) := by decide +kernel
theorem dL_law__480 : decode cL_law_ 480 = .ok (.ireturn, 1) := by decide +kernel
theorem dL_law__481 : decode cL_law_ 481 = .ok (.iload 5, 2) := by decide +kernel
theorem dL_law__483 : decode cL_law_ 483 = .ok (.ifCond .ne 15, 3) := by decide +kernel
theorem dL_law__486 : decode cL_law_ 486 = .ok (.aload_n 3, 1) := by decide +kernel
theorem dL_law__487 : decode cL_law_ 487 = .ok (.iconst 0, 1) := by decide +kernel
theorem dL_law__488 : decode cL_law_ 488 = .ok (.laload, 1) := by decide +kernel
theorem dL_law__489 : decode cL_law_ 489 = .ok (.iload 6, 2) := by decide +kernel
theorem dL_law__491 : decode cL_law_ 491 = .ok (.i2l, 1) := by decide +kernel
theorem dL_law__492 : decode cL_law_ 492 = .ok (.lcmp, 1) := by decide +kernel
theorem dL_law__493 : decode cL_law_ 493 = .ok (.ifCond .eq 5, 3) := by decide +kernel
theorem dL_law__496 : decode cL_law_ 496 = .ok (.iconst 0, 1) := by decide +kernel
theorem dL_law__497 : decode cL_law_ 497 = .ok (.ireturn, 1) := by decide +kernel
theorem dL_law__498 : decode cL_law_ 498 = .ok (.goto 1849, 3) := by decide +kernel
theorem dL_law__501 : decode cL_law_ 501 = .ok (.aload_n 1, 1) := by decide +kernel
theorem dL_law__502 : decode cL_law_ 502 = .ok (.invokevirtual 129, 3) := by decide +kernel
theorem dL_law__505 : decode cL_law_ 505 = .ok (.aload_n 2, 1) := by decide +kernel
theorem dL_law__506 : decode cL_law_ 506 = .ok (.invokevirtual 132, 3) := by decide +kernel
theorem dL_law__509 : decode cL_law_ 509 = .ok (.if_icmp .eq 1838, 3) := by decide +kernel
theorem dL_law__512 : decode cL_law_ 512 = .ok (.iconst 0, 1) := by decide +kernel
theorem dL_law__513 : decode cL_law_ 513 = .ok (.ireturn, 1) := by decide +kernel
theorem dL_law__514 : decode cL_law_ 514 = .ok (.aload_n 1, 1) := by decide +kernel
theorem dL_law__515 : decode cL_law_ 515 = .ok (.invokevirtual 133, 3) := by decide +kernel
theorem dL_law__518 : decode cL_law_ 518 = .ok (.aload_n 2, 1) := by decide +kernel
theorem dL_law__519 : decode cL_law_ 519 = .ok (.invokevirtual 136, 3) := by decide +kernel
theorem dL_law__522 : decode cL_law_ 522 = .ok (.if_icmp .eq 1825, 3) := by decide +kernel
theorem dL_law__525 : decode cL_law_ 525 = .ok (.iconst 0, 1) := by decide +kernel
theorem dL_law__526 : decode cL_law_ 526 = .ok (.ireturn, 1) := by decide +kernel
theorem dL_law__527 : decode cL_law_ 527 = .ok (.aload_n 1, 1) := by decide +kernel
theorem dL_law__528 : decode cL_law_ 528 = .ok (.aload_n 0, 1) := by decide +kernel
theorem dL_law__529 : decode cL_law_ 529 = .ok (.iload 4, 2) := by decide +kernel
theorem dL_law__531 : decode cL_law_ 531 = .ok (.iconst 1, 1) := by decide +kernel
theorem dL_law__532 : decode cL_law_ 532 = .ok (.iadd, 1) := by decide +kernel
theorem dL_law__533 : decode cL_law_ 533 = .ok (.iaload, 1) := by decide +kernel
theorem dL_law__534 : decode cL_law_ 534 = .ok (.aload_n 3, 1) := by decide +kernel
theorem dL_law__535 : decode cL_law_ 535 = .ok (.invokestatic 137, 3) := by decide +kernel
theorem dL_law__538 : decode cL_law_ 538 = .ok (.istore 5, 2) := by decide +kernel
theorem dL_law__540 : decode cL_law_ 540 = .ok (.aload_n 2, 1) := by decide +kernel
theorem dL_law__541 : decode cL_law_ 541 = .ok (.aload_n 0, 1) := by decide +kernel
theorem dL_law__542 : decode cL_law_ 542 = .ok (.iload 4, 2) := by decide +kernel
theorem dL_law__544 : decode cL_law_ 544 = .ok (.iconst 1, 1) := by decide +kernel
theorem dL_law__545 : decode cL_law_ 545 = .ok (.iadd, 1) := by decide +kernel
theorem dL_law__546 : decode cL_law_ 546 = .ok (.iaload, 1) := by decide +kernel
theorem dL_law__547 : decode cL_law_ 547 = .ok (.invokevirtual 139, 3) := by decide +kernel
theorem dL_law__550 : decode cL_law_ 550 = .ok (.istore 6, 2) := by decide +kernel
theorem dL_law__552 : decode cL_law_ 552 = .ok (.aload_n 2, 1) := by decide +kernel
theorem dL_law__553 : decode cL_law_ 553 = .ok (.invokevirtual 116, 3) := by decide +kernel
theorem dL_law__556 : decode cL_law_ 556 = .ok (.iload 5, 2) := by decide +kernel
theorem dL_law__558 : decode cL_law_ 558 = .ok (.if_icmp .eq 5, 3) := by decide +kernel
theorem dL_law__561 : decode cL_law_ 561 = .ok (.iconst 0, 1) := by decide +kernel
theorem dL_law__562 : decode cL_law_ 562 = .ok (.ireturn, 1) := by decide +kernel
theorem dL_law__563 : decode cL_law_ 563 = .ok (.iload 5, 2) := by decide +kernel
theorem dL_law__565 : decode cL_law_ 565 = .ok (.ifCond .ne 15, 3) := by decide +kernel
theorem dL_law__568 : decode cL_law_ 568 = .ok (.aload_n 3, 1) := by decide +kernel
theorem dL_law__569 : decode cL_law_ 569 = .ok (.iconst 0, 1) := by decide +kernel
theorem dL_law__570 : decode cL_law_ 570 = .ok (.laload, 1) := by decide +kernel
theorem dL_law__571 : decode cL_law_ 571 = .ok (.iload 6, 2) := by decide +kernel
theorem dL_law__573 : decode cL_law_ 573 = .ok (.i2l, 1) := by decide +kernel
theorem dL_law__574 : decode cL_law_ 574 = .ok (.lcmp, 1) := by decide +kernel
theorem dL_law__575 : decode cL_law_ 575 = .ok (.ifCond .eq 5, 3) := by decide +kernel
theorem dL_law__578 : decode cL_law_ 578 = .ok (.iconst 0, 1) := by decide +kernel
theorem dL_law__579 : decode cL_law_ 579 = .ok (.ireturn, 1) := by decide +kernel
theorem dL_law__580 : decode cL_law_ 580 = .ok (.goto 1767, 3) := by decide +kernel
theorem dL_law__583 : decode cL_law_ 583 = .ok (.aload_n 1, 1) := by decide +kernel
theorem dL_law__584 : decode cL_law_ 584 = .ok (.aload_n 0, 1) := by decide +kernel
theorem dL_law__585 : decode cL_law_ 585 = .ok (.iload 4, 2) := by decide +kernel
theorem dL_law__587 : decode cL_law_ 587 = .ok (.iconst 1, 1) := by decide +kernel
theorem dL_law__588 : decode cL_law_ 588 = .ok (.iadd, 1) := by decide +kernel
theorem dL_law__589 : decode cL_law_ 589 = .ok (.iaload, 1) := by decide +kernel
theorem dL_law__590 : decode cL_law_ 590 = .ok (.aload_n 0, 1) := by decide +kernel
theorem dL_law__591 : decode cL_law_ 591 = .ok (.iload 4, 2) := by decide +kernel
theorem dL_law__593 : decode cL_law_ 593 = .ok (.iconst 2, 1) := by decide +kernel
theorem dL_law__594 : decode cL_law_ 594 = .ok (.iadd, 1) := by decide +kernel
theorem dL_law__595 : decode cL_law_ 595 = .ok (.iaload, 1) := by decide +kernel
theorem dL_law__596 : decode cL_law_ 596 = .ok (.aload_n 3, 1) := by decide +kernel
theorem dL_law__597 : decode cL_law_ 597 = .ok (.invokestatic 140, 3) := by decide +kernel
theorem dL_law__600 : decode cL_law_ 600 = .ok (.istore 5, 2) := by decide +kernel
theorem dL_law__602 : decode cL_law_ 602 = .ok (.aload_n 2, 1) := by decide +kernel
theorem dL_law__603 : decode cL_law_ 603 = .ok (.aload_n 0, 1) := by decide +kernel
theorem dL_law__604 : decode cL_law_ 604 = .ok (.iload 4, 2) := by decide +kernel
theorem dL_law__606 : decode cL_law_ 606 = .ok (.iconst 1, 1) := by decide +kernel
theorem dL_law__607 : decode cL_law_ 607 = .ok (.iadd, 1) := by decide +kernel
theorem dL_law__608 : decode cL_law_ 608 = .ok (.iaload, 1) := by decide +kernel
theorem dL_law__609 : decode cL_law_ 609 = .ok (.aload_n 0, 1) := by decide +kernel
theorem dL_law__610 : decode cL_law_ 610 = .ok (.iload 4, 2) := by decide +kernel
theorem dL_law__612 : decode cL_law_ 612 = .ok (.iconst 2, 1) := by decide +kernel
theorem dL_law__613 : decode cL_law_ 613 = .ok (.iadd, 1) := by decide +kernel
theorem dL_law__614 : decode cL_law_ 614 = .ok (.iaload, 1) := by decide +kernel
theorem dL_law__615 : decode cL_law_ 615 = .ok (.invokevirtual 143, 3) := by decide +kernel
theorem dL_law__618 : decode cL_law_ 618 = .ok (.istore 6, 2) := by decide +kernel
theorem dL_law__620 : decode cL_law_ 620 = .ok (.aload_n 2, 1) := by decide +kernel
theorem dL_law__621 : decode cL_law_ 621 = .ok (.invokevirtual 116, 3) := by decide +kernel
theorem dL_law__624 : decode cL_law_ 624 = .ok (.iload 5, 2) := by decide +kernel
theorem dL_law__626 : decode cL_law_ 626 = .ok (.if_icmp .eq 5, 3) := by decide +kernel
theorem dL_law__629 : decode cL_law_ 629 = .ok (.iconst 0, 1) := by decide +kernel
theorem dL_law__630 : decode cL_law_ 630 = .ok (.ireturn, 1) := by decide +kernel
theorem dL_law__631 : decode cL_law_ 631 = .ok (.iload 5, 2) := by decide +kernel
theorem dL_law__633 : decode cL_law_ 633 = .ok (.ifCond .ne 15, 3) := by decide +kernel
theorem dL_law__636 : decode cL_law_ 636 = .ok (.aload_n 3, 1) := by decide +kernel
theorem dL_law__637 : decode cL_law_ 637 = .ok (.iconst 0, 1) := by decide +kernel
theorem dL_law__638 : decode cL_law_ 638 = .ok (.laload, 1) := by decide +kernel
theorem dL_law__639 : decode cL_law_ 639 = .ok (.iload 6, 2) := by decide +kernel
theorem dL_law__641 : decode cL_law_ 641 = .ok (.i2l, 1) := by decide +kernel
theorem dL_law__642 : decode cL_law_ 642 = .ok (.lcmp, 1) := by decide +kernel
theorem dL_law__643 : decode cL_law_ 643 = .ok (.ifCond .eq 5, 3) := by decide +kernel
theorem dL_law__646 : decode cL_law_ 646 = .ok (.iconst 0, 1) := by decide +kernel
theorem dL_law__647 : decode cL_law_ 647 = .ok (.ireturn, 1) := by decide +kernel
theorem dL_law__648 : decode cL_law_ 648 = .ok (.goto 1699, 3) := by decide +kernel
theorem dL_law__651 : decode cL_law_ 651 = .ok (.aload_n 1, 1) := by decide +kernel
theorem dL_law__652 : decode cL_law_ 652 = .ok (.aload_n 0, 1) := by decide +kernel
theorem dL_law__653 : decode cL_law_ 653 = .ok (.iload 4, 2) := by decide +kernel
theorem dL_law__655 : decode cL_law_ 655 = .ok (.iconst 1, 1) := by decide +kernel
theorem dL_law__656 : decode cL_law_ 656 = .ok (.iadd, 1) := by decide +kernel
theorem dL_law__657 : decode cL_law_ 657 = .ok (.iaload, 1) := by decide +kernel
theorem dL_law__658 : decode cL_law_ 658 = .ok (.aload_n 0, 1) := by decide +kernel
theorem dL_law__659 : decode cL_law_ 659 = .ok (.iload 4, 2) := by decide +kernel
theorem dL_law__661 : decode cL_law_ 661 = .ok (.iconst 2, 1) := by decide +kernel
theorem dL_law__662 : decode cL_law_ 662 = .ok (.iadd, 1) := by decide +kernel
theorem dL_law__663 : decode cL_law_ 663 = .ok (.iaload, 1) := by decide +kernel
theorem dL_law__664 : decode cL_law_ 664 = .ok (.aload_n 3, 1) := by decide +kernel
theorem dL_law__665 : decode cL_law_ 665 = .ok (.invokestatic 144, 3) := by decide +kernel
theorem dL_law__668 : decode cL_law_ 668 = .ok (.istore 5, 2) := by decide +kernel
theorem dL_law__670 : decode cL_law_ 670 = .ok (.aload_n 2, 1) := by decide +kernel
theorem dL_law__671 : decode cL_law_ 671 = .ok (.aload_n 0, 1) := by decide +kernel
theorem dL_law__672 : decode cL_law_ 672 = .ok (.iload 4, 2) := by decide +kernel
theorem dL_law__674 : decode cL_law_ 674 = .ok (.iconst 1, 1) := by decide +kernel
theorem dL_law__675 : decode cL_law_ 675 = .ok (.iadd, 1) := by decide +kernel
theorem dL_law__676 : decode cL_law_ 676 = .ok (.iaload, 1) := by decide +kernel
theorem dL_law__677 : decode cL_law_ 677 = .ok (.aload_n 0, 1) := by decide +kernel
theorem dL_law__678 : decode cL_law_ 678 = .ok (.iload 4, 2) := by decide +kernel
theorem dL_law__680 : decode cL_law_ 680 = .ok (.iconst 2, 1) := by decide +kernel
theorem dL_law__681 : decode cL_law_ 681 = .ok (.iadd, 1) := by decide +kernel
theorem dL_law__682 : decode cL_law_ 682 = .ok (.iaload, 1) := by decide +kernel
theorem dL_law__683 : decode cL_law_ 683 = .ok (.invokevirtual 146, 3) := by decide +kernel
theorem dL_law__686 : decode cL_law_ 686 = .ok (.istore 6, 2) := by decide +kernel
theorem dL_law__688 : decode cL_law_ 688 = .ok (.aload_n 2, 1) := by decide +kernel
theorem dL_law__689 : decode cL_law_ 689 = .ok (.invokevirtual 116, 3) := by decide +kernel
theorem dL_law__692 : decode cL_law_ 692 = .ok (.iload 5, 2) := by decide +kernel
theorem dL_law__694 : decode cL_law_ 694 = .ok (.if_icmp .eq 5, 3) := by decide +kernel
theorem dL_law__697 : decode cL_law_ 697 = .ok (.iconst 0, 1) := by decide +kernel
theorem dL_law__698 : decode cL_law_ 698 = .ok (.ireturn, 1) := by decide +kernel
theorem dL_law__699 : decode cL_law_ 699 = .ok (.iload 5, 2) := by decide +kernel
theorem dL_law__701 : decode cL_law_ 701 = .ok (.ifCond .ne 15, 3) := by decide +kernel
theorem dL_law__704 : decode cL_law_ 704 = .ok (.aload_n 3, 1) := by decide +kernel
theorem dL_law__705 : decode cL_law_ 705 = .ok (.iconst 0, 1) := by decide +kernel
theorem dL_law__706 : decode cL_law_ 706 = .ok (.laload, 1) := by decide +kernel
theorem dL_law__707 : decode cL_law_ 707 = .ok (.iload 6, 2) := by decide +kernel
theorem dL_law__709 : decode cL_law_ 709 = .ok (.i2l, 1) := by decide +kernel
theorem dL_law__710 : decode cL_law_ 710 = .ok (.lcmp, 1) := by decide +kernel
theorem dL_law__711 : decode cL_law_ 711 = .ok (.ifCond .eq 5, 3) := by decide +kernel
theorem dL_law__714 : decode cL_law_ 714 = .ok (.iconst 0, 1) := by decide +kernel
theorem dL_law__715 : decode cL_law_ 715 = .ok (.ireturn, 1) := by decide +kernel
theorem dL_law__716 : decode cL_law_ 716 = .ok (.goto 1631, 3) := by decide +kernel
theorem dL_law__719 : decode cL_law_ 719 = .ok (.aload_n 1, 1) := by decide +kernel
theorem dL_law__720 : decode cL_law_ 720 = .ok (.aload_n 0, 1) := by decide +kernel
theorem dL_law__721 : decode cL_law_ 721 = .ok (.iload 4, 2) := by decide +kernel
theorem dL_law__723 : decode cL_law_ 723 = .ok (.iconst 1, 1) := by decide +kernel
theorem dL_law__724 : decode cL_law_ 724 = .ok (.iadd, 1) := by decide +kernel
theorem dL_law__725 : decode cL_law_ 725 = .ok (.iaload, 1) := by decide +kernel
theorem dL_law__726 : decode cL_law_ 726 = .ok (.aload_n 0, 1) := by decide +kernel
theorem dL_law__727 : decode cL_law_ 727 = .ok (.iload 4, 2) := by decide +kernel
theorem dL_law__729 : decode cL_law_ 729 = .ok (.iconst 2, 1) := by decide +kernel
theorem dL_law__730 : decode cL_law_ 730 = .ok (.iadd, 1) := by decide +kernel
theorem dL_law__731 : decode cL_law_ 731 = .ok (.iaload, 1) := by decide +kernel
theorem dL_law__732 : decode cL_law_ 732 = .ok (.aload_n 3, 1) := by decide +kernel
theorem dL_law__733 : decode cL_law_ 733 = .ok (.invokestatic 147, 3) := by decide +kernel
theorem dL_law__736 : decode cL_law_ 736 = .ok (.istore 5, 2) := by decide +kernel
theorem dL_law__738 : decode cL_law_ 738 = .ok (.aload_n 2, 1) := by decide +kernel
theorem dL_law__739 : decode cL_law_ 739 = .ok (.aload_n 0, 1) := by decide +kernel
theorem dL_law__740 : decode cL_law_ 740 = .ok (.iload 4, 2) := by decide +kernel
theorem dL_law__742 : decode cL_law_ 742 = .ok (.iconst 1, 1) := by decide +kernel
theorem dL_law__743 : decode cL_law_ 743 = .ok (.iadd, 1) := by decide +kernel
theorem dL_law__744 : decode cL_law_ 744 = .ok (.iaload, 1) := by decide +kernel
theorem dL_law__745 : decode cL_law_ 745 = .ok (.aload_n 0, 1) := by decide +kernel
theorem dL_law__746 : decode cL_law_ 746 = .ok (.iload 4, 2) := by decide +kernel
theorem dL_law__748 : decode cL_law_ 748 = .ok (.iconst 2, 1) := by decide +kernel
theorem dL_law__749 : decode cL_law_ 749 = .ok (.iadd, 1) := by decide +kernel
theorem dL_law__750 : decode cL_law_ 750 = .ok (.iaload, 1) := by decide +kernel
theorem dL_law__751 : decode cL_law_ 751 = .ok (.invokevirtual 149, 3) := by decide +kernel
theorem dL_law__754 : decode cL_law_ 754 = .ok (.istore 6, 2) := by decide +kernel
theorem dL_law__756 : decode cL_law_ 756 = .ok (.aload_n 2, 1) := by decide +kernel
theorem dL_law__757 : decode cL_law_ 757 = .ok (.invokevirtual 116, 3) := by decide +kernel
theorem dL_law__760 : decode cL_law_ 760 = .ok (.iload 5, 2) := by decide +kernel
theorem dL_law__762 : decode cL_law_ 762 = .ok (.if_icmp .eq 5, 3) := by decide +kernel
theorem dL_law__765 : decode cL_law_ 765 = .ok (.iconst 0, 1) := by decide +kernel
theorem dL_law__766 : decode cL_law_ 766 = .ok (.ireturn, 1) := by decide +kernel
theorem dL_law__767 : decode cL_law_ 767 = .ok (.iload 5, 2) := by decide +kernel
theorem dL_law__769 : decode cL_law_ 769 = .ok (.ifCond .ne 15, 3) := by decide +kernel
theorem dL_law__772 : decode cL_law_ 772 = .ok (.aload_n 3, 1) := by decide +kernel
theorem dL_law__773 : decode cL_law_ 773 = .ok (.iconst 0, 1) := by decide +kernel
theorem dL_law__774 : decode cL_law_ 774 = .ok (.laload, 1) := by decide +kernel
theorem dL_law__775 : decode cL_law_ 775 = .ok (.iload 6, 2) := by decide +kernel
theorem dL_law__777 : decode cL_law_ 777 = .ok (.i2l, 1) := by decide +kernel
theorem dL_law__778 : decode cL_law_ 778 = .ok (.lcmp, 1) := by decide +kernel
theorem dL_law__779 : decode cL_law_ 779 = .ok (.ifCond .eq 5, 3) := by decide +kernel
theorem dL_law__782 : decode cL_law_ 782 = .ok (.iconst 0, 1) := by decide +kernel
theorem dL_law__783 : decode cL_law_ 783 = .ok (.ireturn, 1) := by decide +kernel
theorem dL_law__784 : decode cL_law_ 784 = .ok (.goto 1563, 3) := by decide +kernel
theorem dL_law__787 : decode cL_law_ 787 = .ok (.aload_n 1, 1) := by decide +kernel
theorem dL_law__788 : decode cL_law_ 788 = .ok (.aload_n 0, 1) := by decide +kernel
theorem dL_law__789 : decode cL_law_ 789 = .ok (.iload 4, 2) := by decide +kernel
theorem dL_law__791 : decode cL_law_ 791 = .ok (.iconst 1, 1) := by decide +kernel
theorem dL_law__792 : decode cL_law_ 792 = .ok (.iadd, 1) := by decide +kernel
theorem dL_law__793 : decode cL_law_ 793 = .ok (.iaload, 1) := by decide +kernel
theorem dL_law__794 : decode cL_law_ 794 = .ok (.aload_n 0, 1) := by decide +kernel
theorem dL_law__795 : decode cL_law_ 795 = .ok (.iload 4, 2) := by decide +kernel
theorem dL_law__797 : decode cL_law_ 797 = .ok (.iconst 2, 1) := by decide +kernel
theorem dL_law__798 : decode cL_law_ 798 = .ok (.iadd, 1) := by decide +kernel
theorem dL_law__799 : decode cL_law_ 799 = .ok (.iaload, 1) := by decide +kernel
theorem dL_law__800 : decode cL_law_ 800 = .ok (.aload_n 3, 1) := by decide +kernel
theorem dL_law__801 : decode cL_law_ 801 = .ok (.invokestatic 150, 3) := by decide +kernel
theorem dL_law__804 : decode cL_law_ 804 = .ok (.istore 5, 2) := by decide +kernel
theorem dL_law__806 : decode cL_law_ 806 = .ok (.aload_n 2, 1) := by decide +kernel
theorem dL_law__807 : decode cL_law_ 807 = .ok (.aload_n 0, 1) := by decide +kernel
theorem dL_law__808 : decode cL_law_ 808 = .ok (.iload 4, 2) := by decide +kernel
theorem dL_law__810 : decode cL_law_ 810 = .ok (.iconst 1, 1) := by decide +kernel
theorem dL_law__811 : decode cL_law_ 811 = .ok (.iadd, 1) := by decide +kernel
theorem dL_law__812 : decode cL_law_ 812 = .ok (.iaload, 1) := by decide +kernel
theorem dL_law__813 : decode cL_law_ 813 = .ok (.aload_n 0, 1) := by decide +kernel
theorem dL_law__814 : decode cL_law_ 814 = .ok (.iload 4, 2) := by decide +kernel
theorem dL_law__816 : decode cL_law_ 816 = .ok (.iconst 2, 1) := by decide +kernel
theorem dL_law__817 : decode cL_law_ 817 = .ok (.iadd, 1) := by decide +kernel
theorem dL_law__818 : decode cL_law_ 818 = .ok (.iaload, 1) := by decide +kernel
theorem dL_law__819 : decode cL_law_ 819 = .ok (.invokevirtual 152, 3) := by decide +kernel
theorem dL_law__822 : decode cL_law_ 822 = .ok (.istore 6, 2) := by decide +kernel
theorem dL_law__824 : decode cL_law_ 824 = .ok (.aload_n 2, 1) := by decide +kernel
theorem dL_law__825 : decode cL_law_ 825 = .ok (.invokevirtual 116, 3) := by decide +kernel
theorem dL_law__828 : decode cL_law_ 828 = .ok (.iload 5, 2) := by decide +kernel
theorem dL_law__830 : decode cL_law_ 830 = .ok (.if_icmp .eq 5, 3) := by decide +kernel
theorem dL_law__833 : decode cL_law_ 833 = .ok (.iconst 0, 1) := by decide +kernel
theorem dL_law__834 : decode cL_law_ 834 = .ok (.ireturn, 1) := by decide +kernel
theorem dL_law__835 : decode cL_law_ 835 = .ok (.iload 5, 2) := by decide +kernel
theorem dL_law__837 : decode cL_law_ 837 = .ok (.ifCond .ne 15, 3) := by decide +kernel
theorem dL_law__840 : decode cL_law_ 840 = .ok (.aload_n 3, 1) := by decide +kernel
theorem dL_law__841 : decode cL_law_ 841 = .ok (.iconst 0, 1) := by decide +kernel
theorem dL_law__842 : decode cL_law_ 842 = .ok (.laload, 1) := by decide +kernel
theorem dL_law__843 : decode cL_law_ 843 = .ok (.iload 6, 2) := by decide +kernel
theorem dL_law__845 : decode cL_law_ 845 = .ok (.i2l, 1) := by decide +kernel
theorem dL_law__846 : decode cL_law_ 846 = .ok (.lcmp, 1) := by decide +kernel
theorem dL_law__847 : decode cL_law_ 847 = .ok (.ifCond .eq 5, 3) := by decide +kernel
theorem dL_law__850 : decode cL_law_ 850 = .ok (.iconst 0, 1) := by decide +kernel
theorem dL_law__851 : decode cL_law_ 851 = .ok (.ireturn, 1) := by decide +kernel
theorem dL_law__852 : decode cL_law_ 852 = .ok (.goto 1495, 3) := by decide +kernel
theorem dL_law__855 : decode cL_law_ 855 = .ok (.aload_n 1, 1) := by decide +kernel
theorem dL_law__856 : decode cL_law_ 856 = .ok (.aload_n 0, 1) := by decide +kernel
theorem dL_law__857 : decode cL_law_ 857 = .ok (.iload 4, 2) := by decide +kernel
theorem dL_law__859 : decode cL_law_ 859 = .ok (.iconst 1, 1) := by decide +kernel
theorem dL_law__860 : decode cL_law_ 860 = .ok (.iadd, 1) := by decide +kernel
theorem dL_law__861 : decode cL_law_ 861 = .ok (.iaload, 1) := by decide +kernel
theorem dL_law__862 : decode cL_law_ 862 = .ok (.aload_n 0, 1) := by decide +kernel
theorem dL_law__863 : decode cL_law_ 863 = .ok (.iload 4, 2) := by decide +kernel
theorem dL_law__865 : decode cL_law_ 865 = .ok (.iconst 2, 1) := by decide +kernel
theorem dL_law__866 : decode cL_law_ 866 = .ok (.iadd, 1) := by decide +kernel
theorem dL_law__867 : decode cL_law_ 867 = .ok (.iaload, 1) := by decide +kernel
theorem dL_law__868 : decode cL_law_ 868 = .ok (.aload_n 3, 1) := by decide +kernel
theorem dL_law__869 : decode cL_law_ 869 = .ok (.invokestatic 153, 3) := by decide +kernel
theorem dL_law__872 : decode cL_law_ 872 = .ok (.istore 5, 2) := by decide +kernel
theorem dL_law__874 : decode cL_law_ 874 = .ok (.aload_n 2, 1) := by decide +kernel
theorem dL_law__875 : decode cL_law_ 875 = .ok (.aload_n 0, 1) := by decide +kernel
theorem dL_law__876 : decode cL_law_ 876 = .ok (.iload 4, 2) := by decide +kernel
theorem dL_law__878 : decode cL_law_ 878 = .ok (.iconst 1, 1) := by decide +kernel
theorem dL_law__879 : decode cL_law_ 879 = .ok (.iadd, 1) := by decide +kernel
theorem dL_law__880 : decode cL_law_ 880 = .ok (.iaload, 1) := by decide +kernel
theorem dL_law__881 : decode cL_law_ 881 = .ok (.aload_n 0, 1) := by decide +kernel
theorem dL_law__882 : decode cL_law_ 882 = .ok (.iload 4, 2) := by decide +kernel
theorem dL_law__884 : decode cL_law_ 884 = .ok (.iconst 2, 1) := by decide +kernel
theorem dL_law__885 : decode cL_law_ 885 = .ok (.iadd, 1) := by decide +kernel
theorem dL_law__886 : decode cL_law_ 886 = .ok (.iaload, 1) := by decide +kernel
theorem dL_law__887 : decode cL_law_ 887 = .ok (.invokevirtual 155, 3) := by decide +kernel
theorem dL_law__890 : decode cL_law_ 890 = .ok (.istore 6, 2) := by decide +kernel
theorem dL_law__892 : decode cL_law_ 892 = .ok (.aload_n 2, 1) := by decide +kernel
theorem dL_law__893 : decode cL_law_ 893 = .ok (.invokevirtual 116, 3) := by decide +kernel
theorem dL_law__896 : decode cL_law_ 896 = .ok (.iload 5, 2) := by decide +kernel
theorem dL_law__898 : decode cL_law_ 898 = .ok (.if_icmp .eq 5, 3) := by decide +kernel
theorem dL_law__901 : decode cL_law_ 901 = .ok (.iconst 0, 1) := by decide +kernel
theorem dL_law__902 : decode cL_law_ 902 = .ok (.ireturn, 1) := by decide +kernel
theorem dL_law__903 : decode cL_law_ 903 = .ok (.iload 5, 2) := by decide +kernel
theorem dL_law__905 : decode cL_law_ 905 = .ok (.ifCond .ne 15, 3) := by decide +kernel
theorem dL_law__908 : decode cL_law_ 908 = .ok (.aload_n 3, 1) := by decide +kernel
theorem dL_law__909 : decode cL_law_ 909 = .ok (.iconst 0, 1) := by decide +kernel
theorem dL_law__910 : decode cL_law_ 910 = .ok (.laload, 1) := by decide +kernel
theorem dL_law__911 : decode cL_law_ 911 = .ok (.iload 6, 2) := by decide +kernel
theorem dL_law__913 : decode cL_law_ 913 = .ok (.i2l, 1) := by decide +kernel
theorem dL_law__914 : decode cL_law_ 914 = .ok (.lcmp, 1) := by decide +kernel
theorem dL_law__915 : decode cL_law_ 915 = .ok (.ifCond .eq 5, 3) := by decide +kernel
theorem dL_law__918 : decode cL_law_ 918 = .ok (.iconst 0, 1) := by decide +kernel
theorem dL_law__919 : decode cL_law_ 919 = .ok (.ireturn, 1) := by decide +kernel
theorem dL_law__920 : decode cL_law_ 920 = .ok (.goto 1427, 3) := by decide +kernel
theorem dL_law__923 : decode cL_law_ 923 = .ok (.aload_n 1, 1) := by decide +kernel
theorem dL_law__924 : decode cL_law_ 924 = .ok (.aload_n 0, 1) := by decide +kernel
theorem dL_law__925 : decode cL_law_ 925 = .ok (.iload 4, 2) := by decide +kernel
theorem dL_law__927 : decode cL_law_ 927 = .ok (.iconst 1, 1) := by decide +kernel
theorem dL_law__928 : decode cL_law_ 928 = .ok (.iadd, 1) := by decide +kernel
theorem dL_law__929 : decode cL_law_ 929 = .ok (.iaload, 1) := by decide +kernel
theorem dL_law__930 : decode cL_law_ 930 = .ok (.aload_n 0, 1) := by decide +kernel
theorem dL_law__931 : decode cL_law_ 931 = .ok (.iload 4, 2) := by decide +kernel
theorem dL_law__933 : decode cL_law_ 933 = .ok (.iconst 2, 1) := by decide +kernel
theorem dL_law__934 : decode cL_law_ 934 = .ok (.iadd, 1) := by decide +kernel
theorem dL_law__935 : decode cL_law_ 935 = .ok (.iaload, 1) := by decide +kernel
theorem dL_law__936 : decode cL_law_ 936 = .ok (.aload_n 0, 1) := by decide +kernel
theorem dL_law__937 : decode cL_law_ 937 = .ok (.iload 4, 2) := by decide +kernel
theorem dL_law__939 : decode cL_law_ 939 = .ok (.iconst 3, 1) := by decide +kernel
theorem dL_law__940 : decode cL_law_ 940 = .ok (.iadd, 1) := by decide +kernel
theorem dL_law__941 : decode cL_law_ 941 = .ok (.iaload, 1) := by decide +kernel
theorem dL_law__942 : decode cL_law_ 942 = .ok (.aload_n 0, 1) := by decide +kernel
theorem dL_law__943 : decode cL_law_ 943 = .ok (.iload 4, 2) := by decide +kernel
theorem dL_law__945 : decode cL_law_ 945 = .ok (.iconst 4, 1) := by decide +kernel
theorem dL_law__946 : decode cL_law_ 946 = .ok (.iadd, 1) := by decide +kernel
theorem dL_law__947 : decode cL_law_ 947 = .ok (.iaload, 1) := by decide +kernel
theorem dL_law__948 : decode cL_law_ 948 = .ok (.aload_n 0, 1) := by decide +kernel
theorem dL_law__949 : decode cL_law_ 949 = .ok (.iload 4, 2) := by decide +kernel
theorem dL_law__951 : decode cL_law_ 951 = .ok (.iconst 5, 1) := by decide +kernel
theorem dL_law__952 : decode cL_law_ 952 = .ok (.iadd, 1) := by decide +kernel
theorem dL_law__953 : decode cL_law_ 953 = .ok (.iaload, 1) := by decide +kernel
theorem dL_law__954 : decode cL_law_ 954 = .ok (.aload_n 0, 1) := by decide +kernel
theorem dL_law__955 : decode cL_law_ 955 = .ok (.iload 4, 2) := by decide +kernel
theorem dL_law__957 : decode cL_law_ 957 = .ok (.bipush 6, 2) := by decide +kernel
theorem dL_law__959 : decode cL_law_ 959 = .ok (.iadd, 1) := by decide +kernel
theorem dL_law__960 : decode cL_law_ 960 = .ok (.iaload, 1) := by decide +kernel
theorem dL_law__961 : decode cL_law_ 961 = .ok (.aload_n 0, 1) := by decide +kernel
theorem dL_law__962 : decode cL_law_ 962 = .ok (.iload 4, 2) := by decide +kernel
theorem dL_law__964 : decode cL_law_ 964 = .ok (.bipush 7, 2) := by decide +kernel
theorem dL_law__966 : decode cL_law_ 966 = .ok (.iadd, 1) := by decide +kernel
theorem dL_law__967 : decode cL_law_ 967 = .ok (.iaload, 1) := by decide +kernel
theorem dL_law__968 : decode cL_law_ 968 = .ok (.aload_n 0, 1) := by decide +kernel
theorem dL_law__969 : decode cL_law_ 969 = .ok (.iload 4, 2) := by decide +kernel
theorem dL_law__971 : decode cL_law_ 971 = .ok (.bipush 8, 2) := by decide +kernel
theorem dL_law__973 : decode cL_law_ 973 = .ok (.iadd, 1) := by decide +kernel
theorem dL_law__974 : decode cL_law_ 974 = .ok (.iaload, 1) := by decide +kernel
theorem dL_law__975 : decode cL_law_ 975 = .ok (.aload_n 0, 1) := by decide +kernel
theorem dL_law__976 : decode cL_law_ 976 = .ok (.iload 4, 2) := by decide +kernel
theorem dL_law__978 : decode cL_law_ 978 = .ok (.bipush 9, 2) := by decide +kernel
theorem dL_law__980 : decode cL_law_ 980 = .ok (.iadd, 1) := by decide +kernel
theorem dL_law__981 : decode cL_law_ 981 = .ok (.iaload, 1) := by decide +kernel
theorem dL_law__982 : decode cL_law_ 982 = .ok (.aload_n 3, 1) := by decide +kernel
theorem dL_law__983 : decode cL_law_ 983 = .ok (.invokestatic 156, 3) := by decide +kernel
theorem dL_law__986 : decode cL_law_ 986 = .ok (.istore 5, 2) := by decide +kernel
theorem dL_law__988 : decode cL_law_ 988 = .ok (.aload_n 2, 1) := by decide +kernel
theorem dL_law__989 : decode cL_law_ 989 = .ok (.aload_n 0, 1) := by decide +kernel
theorem dL_law__990 : decode cL_law_ 990 = .ok (.iload 4, 2) := by decide +kernel
theorem dL_law__992 : decode cL_law_ 992 = .ok (.iconst 1, 1) := by decide +kernel
theorem dL_law__993 : decode cL_law_ 993 = .ok (.iadd, 1) := by decide +kernel
theorem dL_law__994 : decode cL_law_ 994 = .ok (.iaload, 1) := by decide +kernel
theorem dL_law__995 : decode cL_law_ 995 = .ok (.aload_n 0, 1) := by decide +kernel
theorem dL_law__996 : decode cL_law_ 996 = .ok (.iload 4, 2) := by decide +kernel
theorem dL_law__998 : decode cL_law_ 998 = .ok (.iconst 2, 1) := by decide +kernel
theorem dL_law__999 : decode cL_law_ 999 = .ok (.iadd, 1) := by decide +kernel
theorem dL_law__1000 : decode cL_law_ 1000 = .ok (.iaload, 1) := by decide +kernel
theorem dL_law__1001 : decode cL_law_ 1001 = .ok (.aload_n 0, 1) := by decide +kernel
theorem dL_law__1002 : decode cL_law_ 1002 = .ok (.iload 4, 2) := by decide +kernel
theorem dL_law__1004 : decode cL_law_ 1004 = .ok (.iconst 3, 1) := by decide +kernel
theorem dL_law__1005 : decode cL_law_ 1005 = .ok (.iadd, 1) := by decide +kernel
theorem dL_law__1006 : decode cL_law_ 1006 = .ok (.iaload, 1) := by decide +kernel
theorem dL_law__1007 : decode cL_law_ 1007 = .ok (.aload_n 0, 1) := by decide +kernel
theorem dL_law__1008 : decode cL_law_ 1008 = .ok (.iload 4, 2) := by decide +kernel
theorem dL_law__1010 : decode cL_law_ 1010 = .ok (.iconst 4, 1) := by decide +kernel
theorem dL_law__1011 : decode cL_law_ 1011 = .ok (.iadd, 1) := by decide +kernel
theorem dL_law__1012 : decode cL_law_ 1012 = .ok (.iaload, 1) := by decide +kernel
theorem dL_law__1013 : decode cL_law_ 1013 = .ok (.aload_n 0, 1) := by decide +kernel
theorem dL_law__1014 : decode cL_law_ 1014 = .ok (.iload 4, 2) := by decide +kernel
theorem dL_law__1016 : decode cL_law_ 1016 = .ok (.iconst 5, 1) := by decide +kernel
theorem dL_law__1017 : decode cL_law_ 1017 = .ok (.iadd, 1) := by decide +kernel
theorem dL_law__1018 : decode cL_law_ 1018 = .ok (.iaload, 1) := by decide +kernel
theorem dL_law__1019 : decode cL_law_ 1019 = .ok (.aload_n 0, 1) := by decide +kernel
theorem dL_law__1020 : decode cL_law_ 1020 = .ok (.iload 4, 2) := by decide +kernel
theorem dL_law__1022 : decode cL_law_ 1022 = .ok (.bipush 6, 2) := by decide +kernel
theorem dL_law__1024 : decode cL_law_ 1024 = .ok (.iadd, 1) := by decide +kernel
theorem dL_law__1025 : decode cL_law_ 1025 = .ok (.iaload, 1) := by decide +kernel
theorem dL_law__1026 : decode cL_law_ 1026 = .ok (.aload_n 0, 1) := by decide +kernel
theorem dL_law__1027 : decode cL_law_ 1027 = .ok (.iload 4, 2) := by decide +kernel
theorem dL_law__1029 : decode cL_law_ 1029 = .ok (.bipush 7, 2) := by decide +kernel
theorem dL_law__1031 : decode cL_law_ 1031 = .ok (.iadd, 1) := by decide +kernel
theorem dL_law__1032 : decode cL_law_ 1032 = .ok (.iaload, 1) := by decide +kernel
theorem dL_law__1033 : decode cL_law_ 1033 = .ok (.aload_n 0, 1) := by decide +kernel
theorem dL_law__1034 : decode cL_law_ 1034 = .ok (.iload 4, 2) := by decide +kernel
theorem dL_law__1036 : decode cL_law_ 1036 = .ok (.bipush 8, 2) := by decide +kernel
theorem dL_law__1038 : decode cL_law_ 1038 = .ok (.iadd, 1) := by decide +kernel
theorem dL_law__1039 : decode cL_law_ 1039 = .ok (.iaload, 1) := by decide +kernel
theorem dL_law__1040 : decode cL_law_ 1040 = .ok (.aload_n 0, 1) := by decide +kernel
theorem dL_law__1041 : decode cL_law_ 1041 = .ok (.iload 4, 2) := by decide +kernel
theorem dL_law__1043 : decode cL_law_ 1043 = .ok (.bipush 9, 2) := by decide +kernel
theorem dL_law__1045 : decode cL_law_ 1045 = .ok (.iadd, 1) := by decide +kernel
theorem dL_law__1046 : decode cL_law_ 1046 = .ok (.iaload, 1) := by decide +kernel
theorem dL_law__1047 : decode cL_law_ 1047 = .ok (.invokevirtual 159, 3) := by decide +kernel
theorem dL_law__1050 : decode cL_law_ 1050 = .ok (.istore 6, 2) := by decide +kernel
theorem dL_law__1052 : decode cL_law_ 1052 = .ok (.aload_n 2, 1) := by decide +kernel
theorem dL_law__1053 : decode cL_law_ 1053 = .ok (.invokevirtual 116, 3) := by decide +kernel
theorem dL_law__1056 : decode cL_law_ 1056 = .ok (.iload 5, 2) := by decide +kernel
theorem dL_law__1058 : decode cL_law_ 1058 = .ok (.if_icmp .eq 5, 3) := by decide +kernel
theorem dL_law__1061 : decode cL_law_ 1061 = .ok (.iconst 0, 1) := by decide +kernel
theorem dL_law__1062 : decode cL_law_ 1062 = .ok (.ireturn, 1) := by decide +kernel
theorem dL_law__1063 : decode cL_law_ 1063 = .ok (.iload 5, 2) := by decide +kernel
theorem dL_law__1065 : decode cL_law_ 1065 = .ok (.ifCond .ne 15, 3) := by decide +kernel
theorem dL_law__1068 : decode cL_law_ 1068 = .ok (.aload_n 3, 1) := by decide +kernel
theorem dL_law__1069 : decode cL_law_ 1069 = .ok (.iconst 0, 1) := by decide +kernel
theorem dL_law__1070 : decode cL_law_ 1070 = .ok (.laload, 1) := by decide +kernel
theorem dL_law__1071 : decode cL_law_ 1071 = .ok (.iload 6, 2) := by decide +kernel
theorem dL_law__1073 : decode cL_law_ 1073 = .ok (.i2l, 1) := by decide +kernel
theorem dL_law__1074 : decode cL_law_ 1074 = .ok (.lcmp, 1) := by decide +kernel
theorem dL_law__1075 : decode cL_law_ 1075 = .ok (.ifCond .eq 5, 3) := by decide +kernel
theorem dL_law__1078 : decode cL_law_ 1078 = .ok (.iconst 0, 1) := by decide +kernel
theorem dL_law__1079 : decode cL_law_ 1079 = .ok (.ireturn, 1) := by decide +kernel
theorem dL_law__1080 : decode cL_law_ 1080 = .ok (.goto 1267, 3) := by decide +kernel
theorem dL_law__1083 : decode cL_law_ 1083 = .ok (.aload_n 1, 1) := by decide +kernel
theorem dL_law__1084 : decode cL_law_ 1084 = .ok (.aload_n 0, 1) := by decide +kernel
theorem dL_law__1085 : decode cL_law_ 1085 = .ok (.iload 4, 2) := by decide +kernel
theorem dL_law__1087 : decode cL_law_ 1087 = .ok (.iconst 1, 1) := by decide +kernel
theorem dL_law__1088 : decode cL_law_ 1088 = .ok (.iadd, 1) := by decide +kernel
theorem dL_law__1089 : decode cL_law_ 1089 = .ok (.iaload, 1) := by decide +kernel
theorem dL_law__1090 : decode cL_law_ 1090 = .ok (.aload_n 3, 1) := by decide +kernel
theorem dL_law__1091 : decode cL_law_ 1091 = .ok (.invokestatic 160, 3) := by decide +kernel
theorem dL_law__1094 : decode cL_law_ 1094 = .ok (.istore 5, 2) := by decide +kernel
theorem dL_law__1096 : decode cL_law_ 1096 = .ok (.aload_n 2, 1) := by decide +kernel
theorem dL_law__1097 : decode cL_law_ 1097 = .ok (.aload_n 0, 1) := by decide +kernel
theorem dL_law__1098 : decode cL_law_ 1098 = .ok (.iload 4, 2) := by decide +kernel
theorem dL_law__1100 : decode cL_law_ 1100 = .ok (.iconst 1, 1) := by decide +kernel
theorem dL_law__1101 : decode cL_law_ 1101 = .ok (.iadd, 1) := by decide +kernel
theorem dL_law__1102 : decode cL_law_ 1102 = .ok (.iaload, 1) := by decide +kernel
theorem dL_law__1103 : decode cL_law_ 1103 = .ok (.invokevirtual 162, 3) := by decide +kernel
theorem dL_law__1106 : decode cL_law_ 1106 = .ok (.istore 6, 2) := by decide +kernel
theorem dL_law__1108 : decode cL_law_ 1108 = .ok (.aload_n 2, 1) := by decide +kernel
theorem dL_law__1109 : decode cL_law_ 1109 = .ok (.invokevirtual 116, 3) := by decide +kernel
theorem dL_law__1112 : decode cL_law_ 1112 = .ok (.iload 5, 2) := by decide +kernel
theorem dL_law__1114 : decode cL_law_ 1114 = .ok (.if_icmp .eq 5, 3) := by decide +kernel
theorem dL_law__1117 : decode cL_law_ 1117 = .ok (.iconst 0, 1) := by decide +kernel
theorem dL_law__1118 : decode cL_law_ 1118 = .ok (.ireturn, 1) := by decide +kernel
theorem dL_law__1119 : decode cL_law_ 1119 = .ok (.iload 5, 2) := by decide +kernel
theorem dL_law__1121 : decode cL_law_ 1121 = .ok (.ifCond .ne 15, 3) := by decide +kernel
theorem dL_law__1124 : decode cL_law_ 1124 = .ok (.aload_n 3, 1) := by decide +kernel
theorem dL_law__1125 : decode cL_law_ 1125 = .ok (.iconst 0, 1) := by decide +kernel
theorem dL_law__1126 : decode cL_law_ 1126 = .ok (.laload, 1) := by decide +kernel
theorem dL_law__1127 : decode cL_law_ 1127 = .ok (.iload 6, 2) := by decide +kernel
theorem dL_law__1129 : decode cL_law_ 1129 = .ok (.i2l, 1) := by decide +kernel
theorem dL_law__1130 : decode cL_law_ 1130 = .ok (.lcmp, 1) := by decide +kernel
theorem dL_law__1131 : decode cL_law_ 1131 = .ok (.ifCond .eq 5, 3) := by decide +kernel
theorem dL_law__1134 : decode cL_law_ 1134 = .ok (.iconst 0, 1) := by decide +kernel
theorem dL_law__1135 : decode cL_law_ 1135 = .ok (.ireturn, 1) := by decide +kernel
theorem dL_law__1136 : decode cL_law_ 1136 = .ok (.goto 1211, 3) := by decide +kernel
theorem dL_law__1139 : decode cL_law_ 1139 = .ok (.aload_n 1, 1) := by decide +kernel
theorem dL_law__1140 : decode cL_law_ 1140 = .ok (.aload_n 0, 1) := by decide +kernel
theorem dL_law__1141 : decode cL_law_ 1141 = .ok (.iload 4, 2) := by decide +kernel
theorem dL_law__1143 : decode cL_law_ 1143 = .ok (.iconst 1, 1) := by decide +kernel
theorem dL_law__1144 : decode cL_law_ 1144 = .ok (.iadd, 1) := by decide +kernel
theorem dL_law__1145 : decode cL_law_ 1145 = .ok (.iaload, 1) := by decide +kernel
theorem dL_law__1146 : decode cL_law_ 1146 = .ok (.aload_n 0, 1) := by decide +kernel
theorem dL_law__1147 : decode cL_law_ 1147 = .ok (.iload 4, 2) := by decide +kernel
theorem dL_law__1149 : decode cL_law_ 1149 = .ok (.iconst 2, 1) := by decide +kernel
theorem dL_law__1150 : decode cL_law_ 1150 = .ok (.iadd, 1) := by decide +kernel
theorem dL_law__1151 : decode cL_law_ 1151 = .ok (.iaload, 1) := by decide +kernel
theorem dL_law__1152 : decode cL_law_ 1152 = .ok (.aload_n 3, 1) := by decide +kernel
theorem dL_law__1153 : decode cL_law_ 1153 = .ok (.invokestatic 163, 3) := by decide +kernel
theorem dL_law__1156 : decode cL_law_ 1156 = .ok (.istore 5, 2) := by decide +kernel
theorem dL_law__1158 : decode cL_law_ 1158 = .ok (.aload_n 2, 1) := by decide +kernel
theorem dL_law__1159 : decode cL_law_ 1159 = .ok (.aload_n 0, 1) := by decide +kernel
theorem dL_law__1160 : decode cL_law_ 1160 = .ok (.iload 4, 2) := by decide +kernel
theorem dL_law__1162 : decode cL_law_ 1162 = .ok (.iconst 1, 1) := by decide +kernel
theorem dL_law__1163 : decode cL_law_ 1163 = .ok (.iadd, 1) := by decide +kernel
theorem dL_law__1164 : decode cL_law_ 1164 = .ok (.iaload, 1) := by decide +kernel
theorem dL_law__1165 : decode cL_law_ 1165 = .ok (.aload_n 0, 1) := by decide +kernel
theorem dL_law__1166 : decode cL_law_ 1166 = .ok (.iload 4, 2) := by decide +kernel
theorem dL_law__1168 : decode cL_law_ 1168 = .ok (.iconst 2, 1) := by decide +kernel
theorem dL_law__1169 : decode cL_law_ 1169 = .ok (.iadd, 1) := by decide +kernel
theorem dL_law__1170 : decode cL_law_ 1170 = .ok (.iaload, 1) := by decide +kernel
theorem dL_law__1171 : decode cL_law_ 1171 = .ok (.invokevirtual 165, 3) := by decide +kernel
theorem dL_law__1174 : decode cL_law_ 1174 = .ok (.istore 6, 2) := by decide +kernel
theorem dL_law__1176 : decode cL_law_ 1176 = .ok (.aload_n 2, 1) := by decide +kernel
theorem dL_law__1177 : decode cL_law_ 1177 = .ok (.invokevirtual 116, 3) := by decide +kernel
theorem dL_law__1180 : decode cL_law_ 1180 = .ok (.iload 5, 2) := by decide +kernel
theorem dL_law__1182 : decode cL_law_ 1182 = .ok (.if_icmp .eq 5, 3) := by decide +kernel
theorem dL_law__1185 : decode cL_law_ 1185 = .ok (.iconst 0, 1) := by decide +kernel
theorem dL_law__1186 : decode cL_law_ 1186 = .ok (.ireturn, 1) := by decide +kernel
theorem dL_law__1187 : decode cL_law_ 1187 = .ok (.iload 5, 2) := by decide +kernel
theorem dL_law__1189 : decode cL_law_ 1189 = .ok (.ifCond .ne 15, 3) := by decide +kernel
theorem dL_law__1192 : decode cL_law_ 1192 = .ok (.aload_n 3, 1) := by decide +kernel
theorem dL_law__1193 : decode cL_law_ 1193 = .ok (.iconst 0, 1) := by decide +kernel
theorem dL_law__1194 : decode cL_law_ 1194 = .ok (.laload, 1) := by decide +kernel
theorem dL_law__1195 : decode cL_law_ 1195 = .ok (.iload 6, 2) := by decide +kernel
theorem dL_law__1197 : decode cL_law_ 1197 = .ok (.i2l, 1) := by decide +kernel
theorem dL_law__1198 : decode cL_law_ 1198 = .ok (.lcmp, 1) := by decide +kernel
theorem dL_law__1199 : decode cL_law_ 1199 = .ok (.ifCond .eq 5, 3) := by decide +kernel
theorem dL_law__1202 : decode cL_law_ 1202 = .ok (.iconst 0, 1) := by decide +kernel
theorem dL_law__1203 : decode cL_law_ 1203 = .ok (.ireturn, 1) := by decide +kernel
theorem dL_law__1204 : decode cL_law_ 1204 = .ok (.goto 1143, 3) := by decide +kernel
theorem dL_law__1207 : decode cL_law_ 1207 = .ok (.aload_n 1, 1) := by decide +kernel
theorem dL_law__1208 : decode cL_law_ 1208 = .ok (.invokevirtual 166, 3) := by decide +kernel
theorem dL_law__1211 : decode cL_law_ 1211 = .ok (.aload_n 2, 1) := by decide +kernel
theorem dL_law__1212 : decode cL_law_ 1212 = .ok (.invokevirtual 169, 3) := by decide +kernel
theorem dL_law__1215 : decode cL_law_ 1215 = .ok (.if_icmp .eq 1132, 3) := by decide +kernel
theorem dL_law__1218 : decode cL_law_ 1218 = .ok (.iconst 0, 1) := by decide +kernel
theorem dL_law__1219 : decode cL_law_ 1219 = .ok (.ireturn, 1) := by decide +kernel
theorem dL_law__1220 : decode cL_law_ 1220 = .ok (.aload_n 1, 1) := by decide +kernel
theorem dL_law__1221 : decode cL_law_ 1221 = .ok (.aload_n 0, 1) := by decide +kernel
theorem dL_law__1222 : decode cL_law_ 1222 = .ok (.iload 4, 2) := by decide +kernel
theorem dL_law__1224 : decode cL_law_ 1224 = .ok (.iconst 1, 1) := by decide +kernel
theorem dL_law__1225 : decode cL_law_ 1225 = .ok (.iadd, 1) := by decide +kernel
theorem dL_law__1226 : decode cL_law_ 1226 = .ok (.iaload, 1) := by decide +kernel
theorem dL_law__1227 : decode cL_law_ 1227 = .ok (.aload_n 0, 1) := by decide +kernel
theorem dL_law__1228 : decode cL_law_ 1228 = .ok (.iload 4, 2) := by decide +kernel
theorem dL_law__1230 : decode cL_law_ 1230 = .ok (.iconst 2, 1) := by decide +kernel
theorem dL_law__1231 : decode cL_law_ 1231 = .ok (.iadd, 1) := by decide +kernel
theorem dL_law__1232 : decode cL_law_ 1232 = .ok (.iaload, 1) := by decide +kernel
theorem dL_law__1233 : decode cL_law_ 1233 = .ok (.aload_n 0, 1) := by decide +kernel
theorem dL_law__1234 : decode cL_law_ 1234 = .ok (.iload 4, 2) := by decide +kernel
theorem dL_law__1236 : decode cL_law_ 1236 = .ok (.iconst 3, 1) := by decide +kernel
theorem dL_law__1237 : decode cL_law_ 1237 = .ok (.iadd, 1) := by decide +kernel
theorem dL_law__1238 : decode cL_law_ 1238 = .ok (.iaload, 1) := by decide +kernel
theorem dL_law__1239 : decode cL_law_ 1239 = .ok (.aload_n 3, 1) := by decide +kernel
theorem dL_law__1240 : decode cL_law_ 1240 = .ok (.invokestatic 170, 3) := by decide +kernel
theorem dL_law__1243 : decode cL_law_ 1243 = .ok (.istore 5, 2) := by decide +kernel
theorem dL_law__1245 : decode cL_law_ 1245 = .ok (.aload_n 2, 1) := by decide +kernel
theorem dL_law__1246 : decode cL_law_ 1246 = .ok (.aload_n 0, 1) := by decide +kernel
theorem dL_law__1247 : decode cL_law_ 1247 = .ok (.iload 4, 2) := by decide +kernel
theorem dL_law__1249 : decode cL_law_ 1249 = .ok (.iconst 1, 1) := by decide +kernel
theorem dL_law__1250 : decode cL_law_ 1250 = .ok (.iadd, 1) := by decide +kernel
theorem dL_law__1251 : decode cL_law_ 1251 = .ok (.iaload, 1) := by decide +kernel
theorem dL_law__1252 : decode cL_law_ 1252 = .ok (.aload_n 0, 1) := by decide +kernel
theorem dL_law__1253 : decode cL_law_ 1253 = .ok (.iload 4, 2) := by decide +kernel
theorem dL_law__1255 : decode cL_law_ 1255 = .ok (.iconst 2, 1) := by decide +kernel
theorem dL_law__1256 : decode cL_law_ 1256 = .ok (.iadd, 1) := by decide +kernel
theorem dL_law__1257 : decode cL_law_ 1257 = .ok (.iaload, 1) := by decide +kernel
theorem dL_law__1258 : decode cL_law_ 1258 = .ok (.aload_n 0, 1) := by decide +kernel
theorem dL_law__1259 : decode cL_law_ 1259 = .ok (.iload 4, 2) := by decide +kernel
theorem dL_law__1261 : decode cL_law_ 1261 = .ok (.iconst 3, 1) := by decide +kernel
theorem dL_law__1262 : decode cL_law_ 1262 = .ok (.iadd, 1) := by decide +kernel
theorem dL_law__1263 : decode cL_law_ 1263 = .ok (.iaload, 1) := by decide +kernel
theorem dL_law__1264 : decode cL_law_ 1264 = .ok (.invokevirtual 173, 3) := by decide +kernel
theorem dL_law__1267 : decode cL_law_ 1267 = .ok (.istore 6, 2) := by decide +kernel
theorem dL_law__1269 : decode cL_law_ 1269 = .ok (.aload_n 2, 1) := by decide +kernel
theorem dL_law__1270 : decode cL_law_ 1270 = .ok (.invokevirtual 116, 3) := by decide +kernel
theorem dL_law__1273 : decode cL_law_ 1273 = .ok (.iload 5, 2) := by decide +kernel
theorem dL_law__1275 : decode cL_law_ 1275 = .ok (.if_icmp .eq 5, 3) := by decide +kernel
theorem dL_law__1278 : decode cL_law_ 1278 = .ok (.iconst 0, 1) := by decide +kernel
theorem dL_law__1279 : decode cL_law_ 1279 = .ok (.ireturn, 1) := by decide +kernel
theorem dL_law__1280 : decode cL_law_ 1280 = .ok (.iload 5, 2) := by decide +kernel
theorem dL_law__1282 : decode cL_law_ 1282 = .ok (.ifCond .ne 15, 3) := by decide +kernel
theorem dL_law__1285 : decode cL_law_ 1285 = .ok (.aload_n 3, 1) := by decide +kernel
theorem dL_law__1286 : decode cL_law_ 1286 = .ok (.iconst 0, 1) := by decide +kernel
theorem dL_law__1287 : decode cL_law_ 1287 = .ok (.laload, 1) := by decide +kernel
theorem dL_law__1288 : decode cL_law_ 1288 = .ok (.iload 6, 2) := by decide +kernel
theorem dL_law__1290 : decode cL_law_ 1290 = .ok (.i2l, 1) := by decide +kernel
theorem dL_law__1291 : decode cL_law_ 1291 = .ok (.lcmp, 1) := by decide +kernel
theorem dL_law__1292 : decode cL_law_ 1292 = .ok (.ifCond .eq 5, 3) := by decide +kernel
theorem dL_law__1295 : decode cL_law_ 1295 = .ok (.iconst 0, 1) := by decide +kernel
theorem dL_law__1296 : decode cL_law_ 1296 = .ok (.ireturn, 1) := by decide +kernel
theorem dL_law__1297 : decode cL_law_ 1297 = .ok (.goto 1050, 3) := by decide +kernel
theorem dL_law__1300 : decode cL_law_ 1300 = .ok (.aload_n 1, 1) := by decide +kernel
theorem dL_law__1301 : decode cL_law_ 1301 = .ok (.aload_n 0, 1) := by decide +kernel
theorem dL_law__1302 : decode cL_law_ 1302 = .ok (.iload 4, 2) := by decide +kernel
theorem dL_law__1304 : decode cL_law_ 1304 = .ok (.iconst 1, 1) := by decide +kernel
theorem dL_law__1305 : decode cL_law_ 1305 = .ok (.iadd, 1) := by decide +kernel
theorem dL_law__1306 : decode cL_law_ 1306 = .ok (.iaload, 1) := by decide +kernel
theorem dL_law__1307 : decode cL_law_ 1307 = .ok (.aload_n 3, 1) := by decide +kernel
theorem dL_law__1308 : decode cL_law_ 1308 = .ok (.invokestatic 174, 3) := by decide +kernel
theorem dL_law__1311 : decode cL_law_ 1311 = .ok (.istore 5, 2) := by decide +kernel
theorem dL_law__1313 : decode cL_law_ 1313 = .ok (.aload_n 2, 1) := by decide +kernel
theorem dL_law__1314 : decode cL_law_ 1314 = .ok (.aload_n 0, 1) := by decide +kernel
theorem dL_law__1315 : decode cL_law_ 1315 = .ok (.iload 4, 2) := by decide +kernel
theorem dL_law__1317 : decode cL_law_ 1317 = .ok (.iconst 1, 1) := by decide +kernel
theorem dL_law__1318 : decode cL_law_ 1318 = .ok (.iadd, 1) := by decide +kernel
theorem dL_law__1319 : decode cL_law_ 1319 = .ok (.iaload, 1) := by decide +kernel
theorem dL_law__1320 : decode cL_law_ 1320 = .ok (.invokevirtual 176, 3) := by decide +kernel
theorem dL_law__1323 : decode cL_law_ 1323 = .ok (.istore 6, 2) := by decide +kernel
theorem dL_law__1325 : decode cL_law_ 1325 = .ok (.aload_n 2, 1) := by decide +kernel
theorem dL_law__1326 : decode cL_law_ 1326 = .ok (.invokevirtual 116, 3) := by decide +kernel
theorem dL_law__1329 : decode cL_law_ 1329 = .ok (.iload 5, 2) := by decide +kernel
theorem dL_law__1331 : decode cL_law_ 1331 = .ok (.if_icmp .eq 5, 3) := by decide +kernel
theorem dL_law__1334 : decode cL_law_ 1334 = .ok (.iconst 0, 1) := by decide +kernel
theorem dL_law__1335 : decode cL_law_ 1335 = .ok (.ireturn, 1) := by decide +kernel
theorem dL_law__1336 : decode cL_law_ 1336 = .ok (.iload 5, 2) := by decide +kernel
theorem dL_law__1338 : decode cL_law_ 1338 = .ok (.ifCond .ne 15, 3) := by decide +kernel
theorem dL_law__1341 : decode cL_law_ 1341 = .ok (.aload_n 3, 1) := by decide +kernel
theorem dL_law__1342 : decode cL_law_ 1342 = .ok (.iconst 0, 1) := by decide +kernel
theorem dL_law__1343 : decode cL_law_ 1343 = .ok (.laload, 1) := by decide +kernel
theorem dL_law__1344 : decode cL_law_ 1344 = .ok (.iload 6, 2) := by decide +kernel
theorem dL_law__1346 : decode cL_law_ 1346 = .ok (.i2l, 1) := by decide +kernel
theorem dL_law__1347 : decode cL_law_ 1347 = .ok (.lcmp, 1) := by decide +kernel
theorem dL_law__1348 : decode cL_law_ 1348 = .ok (.ifCond .eq 5, 3) := by decide +kernel
theorem dL_law__1351 : decode cL_law_ 1351 = .ok (.iconst 0, 1) := by decide +kernel
theorem dL_law__1352 : decode cL_law_ 1352 = .ok (.ireturn, 1) := by decide +kernel
theorem dL_law__1353 : decode cL_law_ 1353 = .ok (.goto 994, 3) := by decide +kernel
theorem dL_law__1356 : decode cL_law_ 1356 = .ok (.aload_n 1, 1) := by decide +kernel
theorem dL_law__1357 : decode cL_law_ 1357 = .ok (.aload_n 0, 1) := by decide +kernel
theorem dL_law__1358 : decode cL_law_ 1358 = .ok (.iload 4, 2) := by decide +kernel
theorem dL_law__1360 : decode cL_law_ 1360 = .ok (.iconst 1, 1) := by decide +kernel
theorem dL_law__1361 : decode cL_law_ 1361 = .ok (.iadd, 1) := by decide +kernel
theorem dL_law__1362 : decode cL_law_ 1362 = .ok (.iaload, 1) := by decide +kernel
theorem dL_law__1363 : decode cL_law_ 1363 = .ok (.aload_n 3, 1) := by decide +kernel
theorem dL_law__1364 : decode cL_law_ 1364 = .ok (.invokestatic 177, 3) := by decide +kernel
theorem dL_law__1367 : decode cL_law_ 1367 = .ok (.istore 5, 2) := by decide +kernel
theorem dL_law__1369 : decode cL_law_ 1369 = .ok (.aload_n 2, 1) := by decide +kernel
theorem dL_law__1370 : decode cL_law_ 1370 = .ok (.aload_n 0, 1) := by decide +kernel
theorem dL_law__1371 : decode cL_law_ 1371 = .ok (.iload 4, 2) := by decide +kernel
theorem dL_law__1373 : decode cL_law_ 1373 = .ok (.iconst 1, 1) := by decide +kernel
theorem dL_law__1374 : decode cL_law_ 1374 = .ok (.iadd, 1) := by decide +kernel
theorem dL_law__1375 : decode cL_law_ 1375 = .ok (.iaload, 1) := by decide +kernel
theorem dL_law__1376 : decode cL_law_ 1376 = .ok (.invokevirtual 179, 3) := by decide +kernel
theorem dL_law__1379 : decode cL_law_ 1379 = .ok (.istore 6, 2) := by decide +kernel
theorem dL_law__1381 : decode cL_law_ 1381 = .ok (.aload_n 2, 1) := by decide +kernel
theorem dL_law__1382 : decode cL_law_ 1382 = .ok (.invokevirtual 116, 3) := by decide +kernel
theorem dL_law__1385 : decode cL_law_ 1385 = .ok (.iload 5, 2) := by decide +kernel
theorem dL_law__1387 : decode cL_law_ 1387 = .ok (.if_icmp .eq 5, 3) := by decide +kernel
theorem dL_law__1390 : decode cL_law_ 1390 = .ok (.iconst 0, 1) := by decide +kernel
theorem dL_law__1391 : decode cL_law_ 1391 = .ok (.ireturn, 1) := by decide +kernel
theorem dL_law__1392 : decode cL_law_ 1392 = .ok (.iload 5, 2) := by decide +kernel
theorem dL_law__1394 : decode cL_law_ 1394 = .ok (.ifCond .ne 15, 3) := by decide +kernel
theorem dL_law__1397 : decode cL_law_ 1397 = .ok (.aload_n 3, 1) := by decide +kernel
theorem dL_law__1398 : decode cL_law_ 1398 = .ok (.iconst 0, 1) := by decide +kernel
theorem dL_law__1399 : decode cL_law_ 1399 = .ok (.laload, 1) := by decide +kernel
theorem dL_law__1400 : decode cL_law_ 1400 = .ok (.iload 6, 2) := by decide +kernel
theorem dL_law__1402 : decode cL_law_ 1402 = .ok (.i2l, 1) := by decide +kernel
theorem dL_law__1403 : decode cL_law_ 1403 = .ok (.lcmp, 1) := by decide +kernel
theorem dL_law__1404 : decode cL_law_ 1404 = .ok (.ifCond .eq 5, 3) := by decide +kernel
theorem dL_law__1407 : decode cL_law_ 1407 = .ok (.iconst 0, 1) := by decide +kernel
theorem dL_law__1408 : decode cL_law_ 1408 = .ok (.ireturn, 1) := by decide +kernel
theorem dL_law__1409 : decode cL_law_ 1409 = .ok (.goto 938, 3) := by decide +kernel
theorem dL_law__1412 : decode cL_law_ 1412 = .ok (.aload_n 1, 1) := by decide +kernel
theorem dL_law__1413 : decode cL_law_ 1413 = .ok (.aload_n 0, 1) := by decide +kernel
theorem dL_law__1414 : decode cL_law_ 1414 = .ok (.iload 4, 2) := by decide +kernel
theorem dL_law__1416 : decode cL_law_ 1416 = .ok (.iconst 1, 1) := by decide +kernel
theorem dL_law__1417 : decode cL_law_ 1417 = .ok (.iadd, 1) := by decide +kernel
theorem dL_law__1418 : decode cL_law_ 1418 = .ok (.iaload, 1) := by decide +kernel
theorem dL_law__1419 : decode cL_law_ 1419 = .ok (.aload_n 3, 1) := by decide +kernel
theorem dL_law__1420 : decode cL_law_ 1420 = .ok (.invokestatic 180, 3) := by decide +kernel
theorem dL_law__1423 : decode cL_law_ 1423 = .ok (.istore 5, 2) := by decide +kernel
theorem dL_law__1425 : decode cL_law_ 1425 = .ok (.aload_n 2, 1) := by decide +kernel
theorem dL_law__1426 : decode cL_law_ 1426 = .ok (.aload_n 0, 1) := by decide +kernel
theorem dL_law__1427 : decode cL_law_ 1427 = .ok (.iload 4, 2) := by decide +kernel
theorem dL_law__1429 : decode cL_law_ 1429 = .ok (.iconst 1, 1) := by decide +kernel
theorem dL_law__1430 : decode cL_law_ 1430 = .ok (.iadd, 1) := by decide +kernel
theorem dL_law__1431 : decode cL_law_ 1431 = .ok (.iaload, 1) := by decide +kernel
theorem dL_law__1432 : decode cL_law_ 1432 = .ok (.invokevirtual 182, 3) := by decide +kernel
theorem dL_law__1435 : decode cL_law_ 1435 = .ok (.istore 6, 2) := by decide +kernel
theorem dL_law__1437 : decode cL_law_ 1437 = .ok (.aload_n 2, 1) := by decide +kernel
theorem dL_law__1438 : decode cL_law_ 1438 = .ok (.invokevirtual 116, 3) := by decide +kernel
theorem dL_law__1441 : decode cL_law_ 1441 = .ok (.iload 5, 2) := by decide +kernel
theorem dL_law__1443 : decode cL_law_ 1443 = .ok (.if_icmp .eq 5, 3) := by decide +kernel
theorem dL_law__1446 : decode cL_law_ 1446 = .ok (.iconst 0, 1) := by decide +kernel
theorem dL_law__1447 : decode cL_law_ 1447 = .ok (.ireturn, 1) := by decide +kernel
theorem dL_law__1448 : decode cL_law_ 1448 = .ok (.iload 5, 2) := by decide +kernel
theorem dL_law__1450 : decode cL_law_ 1450 = .ok (.ifCond .ne 15, 3) := by decide +kernel
theorem dL_law__1453 : decode cL_law_ 1453 = .ok (.aload_n 3, 1) := by decide +kernel
theorem dL_law__1454 : decode cL_law_ 1454 = .ok (.iconst 0, 1) := by decide +kernel
theorem dL_law__1455 : decode cL_law_ 1455 = .ok (.laload, 1) := by decide +kernel
theorem dL_law__1456 : decode cL_law_ 1456 = .ok (.iload 6, 2) := by decide +kernel
theorem dL_law__1458 : decode cL_law_ 1458 = .ok (.i2l, 1) := by decide +kernel
theorem dL_law__1459 : decode cL_law_ 1459 = .ok (.lcmp, 1) := by decide +kernel
theorem dL_law__1460 : decode cL_law_ 1460 = .ok (.ifCond .eq 5, 3) := by decide +kernel
theorem dL_law__1463 : decode cL_law_ 1463 = .ok (.iconst 0, 1) := by decide +kernel
theorem dL_law__1464 : decode cL_law_ 1464 = .ok (.ireturn, 1) := by decide +kernel
theorem dL_law__1465 : decode cL_law_ 1465 = .ok (.goto 882, 3) := by decide +kernel
theorem dL_law__1468 : decode cL_law_ 1468 = .ok (.aload_n 1, 1) := by decide +kernel
theorem dL_law__1469 : decode cL_law_ 1469 = .ok (.aload_n 0, 1) := by decide +kernel
theorem dL_law__1470 : decode cL_law_ 1470 = .ok (.iload 4, 2) := by decide +kernel
theorem dL_law__1472 : decode cL_law_ 1472 = .ok (.iconst 1, 1) := by decide +kernel
theorem dL_law__1473 : decode cL_law_ 1473 = .ok (.iadd, 1) := by decide +kernel
theorem dL_law__1474 : decode cL_law_ 1474 = .ok (.iaload, 1) := by decide +kernel
theorem dL_law__1475 : decode cL_law_ 1475 = .ok (.aload_n 0, 1) := by decide +kernel
theorem dL_law__1476 : decode cL_law_ 1476 = .ok (.iload 4, 2) := by decide +kernel
theorem dL_law__1478 : decode cL_law_ 1478 = .ok (.iconst 2, 1) := by decide +kernel
theorem dL_law__1479 : decode cL_law_ 1479 = .ok (.iadd, 1) := by decide +kernel
theorem dL_law__1480 : decode cL_law_ 1480 = .ok (.iaload, 1) := by decide +kernel
theorem dL_law__1481 : decode cL_law_ 1481 = .ok (.aload_n 3, 1) := by decide +kernel
theorem dL_law__1482 : decode cL_law_ 1482 = .ok (.invokestatic 183, 3) := by decide +kernel
theorem dL_law__1485 : decode cL_law_ 1485 = .ok (.istore 5, 2) := by decide +kernel
theorem dL_law__1487 : decode cL_law_ 1487 = .ok (.aload_n 2, 1) := by decide +kernel
theorem dL_law__1488 : decode cL_law_ 1488 = .ok (.aload_n 0, 1) := by decide +kernel
theorem dL_law__1489 : decode cL_law_ 1489 = .ok (.iload 4, 2) := by decide +kernel
theorem dL_law__1491 : decode cL_law_ 1491 = .ok (.iconst 1, 1) := by decide +kernel
theorem dL_law__1492 : decode cL_law_ 1492 = .ok (.iadd, 1) := by decide +kernel
theorem dL_law__1493 : decode cL_law_ 1493 = .ok (.iaload, 1) := by decide +kernel
theorem dL_law__1494 : decode cL_law_ 1494 = .ok (.aload_n 0, 1) := by decide +kernel
theorem dL_law__1495 : decode cL_law_ 1495 = .ok (.iload 4, 2) := by decide +kernel
theorem dL_law__1497 : decode cL_law_ 1497 = .ok (.iconst 2, 1) := by decide +kernel
theorem dL_law__1498 : decode cL_law_ 1498 = .ok (.iadd, 1) := by decide +kernel
theorem dL_law__1499 : decode cL_law_ 1499 = .ok (.iaload, 1) := by decide +kernel
theorem dL_law__1500 : decode cL_law_ 1500 = .ok (.invokevirtual 185, 3) := by decide +kernel
theorem dL_law__1503 : decode cL_law_ 1503 = .ok (.istore 6, 2) := by decide +kernel
theorem dL_law__1505 : decode cL_law_ 1505 = .ok (.aload_n 2, 1) := by decide +kernel
theorem dL_law__1506 : decode cL_law_ 1506 = .ok (.invokevirtual 116, 3) := by decide +kernel
theorem dL_law__1509 : decode cL_law_ 1509 = .ok (.iload 5, 2) := by decide +kernel
theorem dL_law__1511 : decode cL_law_ 1511 = .ok (.if_icmp .eq 5, 3) := by decide +kernel
theorem dL_law__1514 : decode cL_law_ 1514 = .ok (.iconst 0, 1) := by decide +kernel
theorem dL_law__1515 : decode cL_law_ 1515 = .ok (.ireturn, 1) := by decide +kernel
theorem dL_law__1516 : decode cL_law_ 1516 = .ok (.iload 5, 2) := by decide +kernel
theorem dL_law__1518 : decode cL_law_ 1518 = .ok (.ifCond .ne 15, 3) := by decide +kernel
theorem dL_law__1521 : decode cL_law_ 1521 = .ok (.aload_n 3, 1) := by decide +kernel
theorem dL_law__1522 : decode cL_law_ 1522 = .ok (.iconst 0, 1) := by decide +kernel
theorem dL_law__1523 : decode cL_law_ 1523 = .ok (.laload, 1) := by decide +kernel
theorem dL_law__1524 : decode cL_law_ 1524 = .ok (.iload 6, 2) := by decide +kernel
theorem dL_law__1526 : decode cL_law_ 1526 = .ok (.i2l, 1) := by decide +kernel
theorem dL_law__1527 : decode cL_law_ 1527 = .ok (.lcmp, 1) := by decide +kernel
theorem dL_law__1528 : decode cL_law_ 1528 = .ok (.ifCond .eq 5, 3) := by decide +kernel
theorem dL_law__1531 : decode cL_law_ 1531 = .ok (.iconst 0, 1) := by decide +kernel
theorem dL_law__1532 : decode cL_law_ 1532 = .ok (.ireturn, 1) := by decide +kernel
theorem dL_law__1533 : decode cL_law_ 1533 = .ok (.goto 814, 3) := by decide +kernel
theorem dL_law__1536 : decode cL_law_ 1536 = .ok (.aload_n 1, 1) := by decide +kernel
theorem dL_law__1537 : decode cL_law_ 1537 = .ok (.aload_n 0, 1) := by decide +kernel
theorem dL_law__1538 : decode cL_law_ 1538 = .ok (.iload 4, 2) := by decide +kernel
theorem dL_law__1540 : decode cL_law_ 1540 = .ok (.iconst 1, 1) := by decide +kernel
theorem dL_law__1541 : decode cL_law_ 1541 = .ok (.iadd, 1) := by decide +kernel
theorem dL_law__1542 : decode cL_law_ 1542 = .ok (.iaload, 1) := by decide +kernel
theorem dL_law__1543 : decode cL_law_ 1543 = .ok (.aload_n 0, 1) := by decide +kernel
theorem dL_law__1544 : decode cL_law_ 1544 = .ok (.iload 4, 2) := by decide +kernel
theorem dL_law__1546 : decode cL_law_ 1546 = .ok (.iconst 2, 1) := by decide +kernel
theorem dL_law__1547 : decode cL_law_ 1547 = .ok (.iadd, 1) := by decide +kernel
theorem dL_law__1548 : decode cL_law_ 1548 = .ok (.iaload, 1) := by decide +kernel
theorem dL_law__1549 : decode cL_law_ 1549 = .ok (.aload_n 3, 1) := by decide +kernel
theorem dL_law__1550 : decode cL_law_ 1550 = .ok (.invokestatic 186, 3) := by decide +kernel
theorem dL_law__1553 : decode cL_law_ 1553 = .ok (.istore 5, 2) := by decide +kernel
theorem dL_law__1555 : decode cL_law_ 1555 = .ok (.aload_n 2, 1) := by decide +kernel
theorem dL_law__1556 : decode cL_law_ 1556 = .ok (.aload_n 0, 1) := by decide +kernel
theorem dL_law__1557 : decode cL_law_ 1557 = .ok (.iload 4, 2) := by decide +kernel
theorem dL_law__1559 : decode cL_law_ 1559 = .ok (.iconst 1, 1) := by decide +kernel
theorem dL_law__1560 : decode cL_law_ 1560 = .ok (.iadd, 1) := by decide +kernel
theorem dL_law__1561 : decode cL_law_ 1561 = .ok (.iaload, 1) := by decide +kernel
theorem dL_law__1562 : decode cL_law_ 1562 = .ok (.aload_n 0, 1) := by decide +kernel
theorem dL_law__1563 : decode cL_law_ 1563 = .ok (.iload 4, 2) := by decide +kernel
theorem dL_law__1565 : decode cL_law_ 1565 = .ok (.iconst 2, 1) := by decide +kernel
theorem dL_law__1566 : decode cL_law_ 1566 = .ok (.iadd, 1) := by decide +kernel
theorem dL_law__1567 : decode cL_law_ 1567 = .ok (.iaload, 1) := by decide +kernel
theorem dL_law__1568 : decode cL_law_ 1568 = .ok (.invokevirtual 188, 3) := by decide +kernel
theorem dL_law__1571 : decode cL_law_ 1571 = .ok (.istore 6, 2) := by decide +kernel
theorem dL_law__1573 : decode cL_law_ 1573 = .ok (.aload_n 2, 1) := by decide +kernel
theorem dL_law__1574 : decode cL_law_ 1574 = .ok (.invokevirtual 116, 3) := by decide +kernel
theorem dL_law__1577 : decode cL_law_ 1577 = .ok (.iload 5, 2) := by decide +kernel
theorem dL_law__1579 : decode cL_law_ 1579 = .ok (.if_icmp .eq 5, 3) := by decide +kernel
theorem dL_law__1582 : decode cL_law_ 1582 = .ok (.iconst 0, 1) := by decide +kernel
theorem dL_law__1583 : decode cL_law_ 1583 = .ok (.ireturn, 1) := by decide +kernel
theorem dL_law__1584 : decode cL_law_ 1584 = .ok (.iload 5, 2) := by decide +kernel
theorem dL_law__1586 : decode cL_law_ 1586 = .ok (.ifCond .ne 15, 3) := by decide +kernel
theorem dL_law__1589 : decode cL_law_ 1589 = .ok (.aload_n 3, 1) := by decide +kernel
theorem dL_law__1590 : decode cL_law_ 1590 = .ok (.iconst 0, 1) := by decide +kernel
theorem dL_law__1591 : decode cL_law_ 1591 = .ok (.laload, 1) := by decide +kernel
theorem dL_law__1592 : decode cL_law_ 1592 = .ok (.iload 6, 2) := by decide +kernel
theorem dL_law__1594 : decode cL_law_ 1594 = .ok (.i2l, 1) := by decide +kernel
theorem dL_law__1595 : decode cL_law_ 1595 = .ok (.lcmp, 1) := by decide +kernel
theorem dL_law__1596 : decode cL_law_ 1596 = .ok (.ifCond .eq 5, 3) := by decide +kernel
theorem dL_law__1599 : decode cL_law_ 1599 = .ok (.iconst 0, 1) := by decide +kernel
theorem dL_law__1600 : decode cL_law_ 1600 = .ok (.ireturn, 1) := by decide +kernel
theorem dL_law__1601 : decode cL_law_ 1601 = .ok (.goto 746, 3) := by decide +kernel
theorem dL_law__1604 : decode cL_law_ 1604 = .ok (.aload_n 1, 1) := by decide +kernel
theorem dL_law__1605 : decode cL_law_ 1605 = .ok (.aload_n 0, 1) := by decide +kernel
theorem dL_law__1606 : decode cL_law_ 1606 = .ok (.iload 4, 2) := by decide +kernel
theorem dL_law__1608 : decode cL_law_ 1608 = .ok (.iconst 1, 1) := by decide +kernel
theorem dL_law__1609 : decode cL_law_ 1609 = .ok (.iadd, 1) := by decide +kernel
theorem dL_law__1610 : decode cL_law_ 1610 = .ok (.iaload, 1) := by decide +kernel
theorem dL_law__1611 : decode cL_law_ 1611 = .ok (.aload_n 0, 1) := by decide +kernel
theorem dL_law__1612 : decode cL_law_ 1612 = .ok (.iload 4, 2) := by decide +kernel
theorem dL_law__1614 : decode cL_law_ 1614 = .ok (.iconst 2, 1) := by decide +kernel
theorem dL_law__1615 : decode cL_law_ 1615 = .ok (.iadd, 1) := by decide +kernel
theorem dL_law__1616 : decode cL_law_ 1616 = .ok (.iaload, 1) := by decide +kernel
theorem dL_law__1617 : decode cL_law_ 1617 = .ok (.aload_n 0, 1) := by decide +kernel
theorem dL_law__1618 : decode cL_law_ 1618 = .ok (.iload 4, 2) := by decide +kernel
theorem dL_law__1620 : decode cL_law_ 1620 = .ok (.iconst 3, 1) := by decide +kernel
theorem dL_law__1621 : decode cL_law_ 1621 = .ok (.iadd, 1) := by decide +kernel
theorem dL_law__1622 : decode cL_law_ 1622 = .ok (.iaload, 1) := by decide +kernel
theorem dL_law__1623 : decode cL_law_ 1623 = .ok (.aload_n 3, 1) := by decide +kernel
theorem dL_law__1624 : decode cL_law_ 1624 = .ok (.invokestatic 189, 3) := by decide +kernel
theorem dL_law__1627 : decode cL_law_ 1627 = .ok (.istore 5, 2) := by decide +kernel
theorem dL_law__1629 : decode cL_law_ 1629 = .ok (.aload_n 2, 1) := by decide +kernel
theorem dL_law__1630 : decode cL_law_ 1630 = .ok (.aload_n 0, 1) := by decide +kernel
theorem dL_law__1631 : decode cL_law_ 1631 = .ok (.iload 4, 2) := by decide +kernel
theorem dL_law__1633 : decode cL_law_ 1633 = .ok (.iconst 1, 1) := by decide +kernel
theorem dL_law__1634 : decode cL_law_ 1634 = .ok (.iadd, 1) := by decide +kernel
theorem dL_law__1635 : decode cL_law_ 1635 = .ok (.iaload, 1) := by decide +kernel
theorem dL_law__1636 : decode cL_law_ 1636 = .ok (.aload_n 0, 1) := by decide +kernel
theorem dL_law__1637 : decode cL_law_ 1637 = .ok (.iload 4, 2) := by decide +kernel
theorem dL_law__1639 : decode cL_law_ 1639 = .ok (.iconst 2, 1) := by decide +kernel
theorem dL_law__1640 : decode cL_law_ 1640 = .ok (.iadd, 1) := by decide +kernel
theorem dL_law__1641 : decode cL_law_ 1641 = .ok (.iaload, 1) := by decide +kernel
theorem dL_law__1642 : decode cL_law_ 1642 = .ok (.aload_n 0, 1) := by decide +kernel
theorem dL_law__1643 : decode cL_law_ 1643 = .ok (.iload 4, 2) := by decide +kernel
theorem dL_law__1645 : decode cL_law_ 1645 = .ok (.iconst 3, 1) := by decide +kernel
theorem dL_law__1646 : decode cL_law_ 1646 = .ok (.iadd, 1) := by decide +kernel
theorem dL_law__1647 : decode cL_law_ 1647 = .ok (.iaload, 1) := by decide +kernel
theorem dL_law__1648 : decode cL_law_ 1648 = .ok (.invokevirtual 191, 3) := by decide +kernel
theorem dL_law__1651 : decode cL_law_ 1651 = .ok (.istore 6, 2) := by decide +kernel
theorem dL_law__1653 : decode cL_law_ 1653 = .ok (.aload_n 2, 1) := by decide +kernel
theorem dL_law__1654 : decode cL_law_ 1654 = .ok (.invokevirtual 116, 3) := by decide +kernel
theorem dL_law__1657 : decode cL_law_ 1657 = .ok (.iload 5, 2) := by decide +kernel
theorem dL_law__1659 : decode cL_law_ 1659 = .ok (.if_icmp .eq 5, 3) := by decide +kernel
theorem dL_law__1662 : decode cL_law_ 1662 = .ok (.iconst 0, 1) := by decide +kernel
theorem dL_law__1663 : decode cL_law_ 1663 = .ok (.ireturn, 1) := by decide +kernel
theorem dL_law__1664 : decode cL_law_ 1664 = .ok (.iload 5, 2) := by decide +kernel
theorem dL_law__1666 : decode cL_law_ 1666 = .ok (.ifCond .ne 15, 3) := by decide +kernel
theorem dL_law__1669 : decode cL_law_ 1669 = .ok (.aload_n 3, 1) := by decide +kernel
theorem dL_law__1670 : decode cL_law_ 1670 = .ok (.iconst 0, 1) := by decide +kernel
theorem dL_law__1671 : decode cL_law_ 1671 = .ok (.laload, 1) := by decide +kernel
theorem dL_law__1672 : decode cL_law_ 1672 = .ok (.iload 6, 2) := by decide +kernel
theorem dL_law__1674 : decode cL_law_ 1674 = .ok (.i2l, 1) := by decide +kernel
theorem dL_law__1675 : decode cL_law_ 1675 = .ok (.lcmp, 1) := by decide +kernel
theorem dL_law__1676 : decode cL_law_ 1676 = .ok (.ifCond .eq 5, 3) := by decide +kernel
theorem dL_law__1679 : decode cL_law_ 1679 = .ok (.iconst 0, 1) := by decide +kernel
theorem dL_law__1680 : decode cL_law_ 1680 = .ok (.ireturn, 1) := by decide +kernel
theorem dL_law__1681 : decode cL_law_ 1681 = .ok (.goto 666, 3) := by decide +kernel
theorem dL_law__1684 : decode cL_law_ 1684 = .ok (.aload_n 1, 1) := by decide +kernel
theorem dL_law__1685 : decode cL_law_ 1685 = .ok (.invokevirtual 192, 3) := by decide +kernel
theorem dL_law__1688 : decode cL_law_ 1688 = .ok (.aload_n 2, 1) := by decide +kernel
theorem dL_law__1689 : decode cL_law_ 1689 = .ok (.invokevirtual 195, 3) := by decide +kernel
theorem dL_law__1692 : decode cL_law_ 1692 = .ok (.if_icmp .eq 655, 3) := by decide +kernel
theorem dL_law__1695 : decode cL_law_ 1695 = .ok (.iconst 0, 1) := by decide +kernel
theorem dL_law__1696 : decode cL_law_ 1696 = .ok (.ireturn, 1) := by decide +kernel
theorem dL_law__1697 : decode cL_law_ 1697 = .ok (.aload_n 1, 1) := by decide +kernel
theorem dL_law__1698 : decode cL_law_ 1698 = .ok (.aload_n 0, 1) := by decide +kernel
theorem dL_law__1699 : decode cL_law_ 1699 = .ok (.iload 4, 2) := by decide +kernel
theorem dL_law__1701 : decode cL_law_ 1701 = .ok (.iconst 1, 1) := by decide +kernel
theorem dL_law__1702 : decode cL_law_ 1702 = .ok (.iadd, 1) := by decide +kernel
theorem dL_law__1703 : decode cL_law_ 1703 = .ok (.iaload, 1) := by decide +kernel
theorem dL_law__1704 : decode cL_law_ 1704 = .ok (.aload_n 0, 1) := by decide +kernel
theorem dL_law__1705 : decode cL_law_ 1705 = .ok (.iload 4, 2) := by decide +kernel
theorem dL_law__1707 : decode cL_law_ 1707 = .ok (.iconst 2, 1) := by decide +kernel
theorem dL_law__1708 : decode cL_law_ 1708 = .ok (.iadd, 1) := by decide +kernel
theorem dL_law__1709 : decode cL_law_ 1709 = .ok (.iaload, 1) := by decide +kernel
theorem dL_law__1710 : decode cL_law_ 1710 = .ok (.aload_n 0, 1) := by decide +kernel
theorem dL_law__1711 : decode cL_law_ 1711 = .ok (.iload 4, 2) := by decide +kernel
theorem dL_law__1713 : decode cL_law_ 1713 = .ok (.iconst 3, 1) := by decide +kernel
theorem dL_law__1714 : decode cL_law_ 1714 = .ok (.iadd, 1) := by decide +kernel
theorem dL_law__1715 : decode cL_law_ 1715 = .ok (.iaload, 1) := by decide +kernel
theorem dL_law__1716 : decode cL_law_ 1716 = .ok (.aload_n 3, 1) := by decide +kernel
theorem dL_law__1717 : decode cL_law_ 1717 = .ok (.invokestatic 196, 3) := by decide +kernel
theorem dL_law__1720 : decode cL_law_ 1720 = .ok (.istore 5, 2) := by decide +kernel
theorem dL_law__1722 : decode cL_law_ 1722 = .ok (.aload_n 2, 1) := by decide +kernel
theorem dL_law__1723 : decode cL_law_ 1723 = .ok (.aload_n 0, 1) := by decide +kernel
theorem dL_law__1724 : decode cL_law_ 1724 = .ok (.iload 4, 2) := by decide +kernel
theorem dL_law__1726 : decode cL_law_ 1726 = .ok (.iconst 1, 1) := by decide +kernel
theorem dL_law__1727 : decode cL_law_ 1727 = .ok (.iadd, 1) := by decide +kernel
theorem dL_law__1728 : decode cL_law_ 1728 = .ok (.iaload, 1) := by decide +kernel
theorem dL_law__1729 : decode cL_law_ 1729 = .ok (.aload_n 0, 1) := by decide +kernel
theorem dL_law__1730 : decode cL_law_ 1730 = .ok (.iload 4, 2) := by decide +kernel
theorem dL_law__1732 : decode cL_law_ 1732 = .ok (.iconst 2, 1) := by decide +kernel
theorem dL_law__1733 : decode cL_law_ 1733 = .ok (.iadd, 1) := by decide +kernel
theorem dL_law__1734 : decode cL_law_ 1734 = .ok (.iaload, 1) := by decide +kernel
theorem dL_law__1735 : decode cL_law_ 1735 = .ok (.aload_n 0, 1) := by decide +kernel
theorem dL_law__1736 : decode cL_law_ 1736 = .ok (.iload 4, 2) := by decide +kernel
theorem dL_law__1738 : decode cL_law_ 1738 = .ok (.iconst 3, 1) := by decide +kernel
theorem dL_law__1739 : decode cL_law_ 1739 = .ok (.iadd, 1) := by decide +kernel
theorem dL_law__1740 : decode cL_law_ 1740 = .ok (.iaload, 1) := by decide +kernel
theorem dL_law__1741 : decode cL_law_ 1741 = .ok (.invokevirtual 198, 3) := by decide +kernel
theorem dL_law__1744 : decode cL_law_ 1744 = .ok (.lstore 6, 2) := by decide +kernel
theorem dL_law__1746 : decode cL_law_ 1746 = .ok (.aload_n 2, 1) := by decide +kernel
theorem dL_law__1747 : decode cL_law_ 1747 = .ok (.invokevirtual 116, 3) := by decide +kernel
theorem dL_law__1750 : decode cL_law_ 1750 = .ok (.iload 5, 2) := by decide +kernel
theorem dL_law__1752 : decode cL_law_ 1752 = .ok (.if_icmp .eq 5, 3) := by decide +kernel
theorem dL_law__1755 : decode cL_law_ 1755 = .ok (.iconst 0, 1) := by decide +kernel
theorem dL_law__1756 : decode cL_law_ 1756 = .ok (.ireturn, 1) := by decide +kernel
theorem dL_law__1757 : decode cL_law_ 1757 = .ok (.iload 5, 2) := by decide +kernel
theorem dL_law__1759 : decode cL_law_ 1759 = .ok (.ifCond .ne 14, 3) := by decide +kernel
theorem dL_law__1762 : decode cL_law_ 1762 = .ok (.aload_n 3, 1) := by decide +kernel
theorem dL_law__1763 : decode cL_law_ 1763 = .ok (.iconst 0, 1) := by decide +kernel
theorem dL_law__1764 : decode cL_law_ 1764 = .ok (.laload, 1) := by decide +kernel
theorem dL_law__1765 : decode cL_law_ 1765 = .ok (.lload 6, 2) := by decide +kernel
theorem dL_law__1767 : decode cL_law_ 1767 = .ok (.lcmp, 1) := by decide +kernel
theorem dL_law__1768 : decode cL_law_ 1768 = .ok (.ifCond .eq 5, 3) := by decide +kernel
theorem dL_law__1771 : decode cL_law_ 1771 = .ok (.iconst 0, 1) := by decide +kernel
theorem dL_law__1772 : decode cL_law_ 1772 = .ok (.ireturn, 1) := by decide +kernel
theorem dL_law__1773 : decode cL_law_ 1773 = .ok (.goto 574, 3) := by decide +kernel
theorem dL_law__1776 : decode cL_law_ 1776 = .ok (.aload_n 1, 1) := by decide +kernel
theorem dL_law__1777 : decode cL_law_ 1777 = .ok (.aload_n 0, 1) := by decide +kernel
theorem dL_law__1778 : decode cL_law_ 1778 = .ok (.iload 4, 2) := by decide +kernel
theorem dL_law__1780 : decode cL_law_ 1780 = .ok (.iconst 1, 1) := by decide +kernel
theorem dL_law__1781 : decode cL_law_ 1781 = .ok (.iadd, 1) := by decide +kernel
theorem dL_law__1782 : decode cL_law_ 1782 = .ok (.iaload, 1) := by decide +kernel
theorem dL_law__1783 : decode cL_law_ 1783 = .ok (.aload_n 0, 1) := by decide +kernel
theorem dL_law__1784 : decode cL_law_ 1784 = .ok (.iload 4, 2) := by decide +kernel
theorem dL_law__1786 : decode cL_law_ 1786 = .ok (.iconst 2, 1) := by decide +kernel
theorem dL_law__1787 : decode cL_law_ 1787 = .ok (.iadd, 1) := by decide +kernel
theorem dL_law__1788 : decode cL_law_ 1788 = .ok (.iaload, 1) := by decide +kernel
theorem dL_law__1789 : decode cL_law_ 1789 = .ok (.aload_n 3, 1) := by decide +kernel
theorem dL_law__1790 : decode cL_law_ 1790 = .ok (.invokestatic 199, 3) := by decide +kernel
theorem dL_law__1793 : decode cL_law_ 1793 = .ok (.istore 5, 2) := by decide +kernel
theorem dL_law__1795 : decode cL_law_ 1795 = .ok (.aload_n 2, 1) := by decide +kernel
theorem dL_law__1796 : decode cL_law_ 1796 = .ok (.aload_n 0, 1) := by decide +kernel
theorem dL_law__1797 : decode cL_law_ 1797 = .ok (.iload 4, 2) := by decide +kernel
theorem dL_law__1799 : decode cL_law_ 1799 = .ok (.iconst 1, 1) := by decide +kernel
theorem dL_law__1800 : decode cL_law_ 1800 = .ok (.iadd, 1) := by decide +kernel
theorem dL_law__1801 : decode cL_law_ 1801 = .ok (.iaload, 1) := by decide +kernel
theorem dL_law__1802 : decode cL_law_ 1802 = .ok (.aload_n 0, 1) := by decide +kernel
theorem dL_law__1803 : decode cL_law_ 1803 = .ok (.iload 4, 2) := by decide +kernel
theorem dL_law__1805 : decode cL_law_ 1805 = .ok (.iconst 2, 1) := by decide +kernel
theorem dL_law__1806 : decode cL_law_ 1806 = .ok (.iadd, 1) := by decide +kernel
theorem dL_law__1807 : decode cL_law_ 1807 = .ok (.iaload, 1) := by decide +kernel
theorem dL_law__1808 : decode cL_law_ 1808 = .ok (.invokevirtual 201, 3) := by decide +kernel
theorem dL_law__1811 : decode cL_law_ 1811 = .ok (.istore 6, 2) := by decide +kernel
theorem dL_law__1813 : decode cL_law_ 1813 = .ok (.aload_n 2, 1) := by decide +kernel
theorem dL_law__1814 : decode cL_law_ 1814 = .ok (.invokevirtual 116, 3) := by decide +kernel
theorem dL_law__1817 : decode cL_law_ 1817 = .ok (.iload 5, 2) := by decide +kernel
theorem dL_law__1819 : decode cL_law_ 1819 = .ok (.if_icmp .eq 5, 3) := by decide +kernel
theorem dL_law__1822 : decode cL_law_ 1822 = .ok (.iconst 0, 1) := by decide +kernel
theorem dL_law__1823 : decode cL_law_ 1823 = .ok (.ireturn, 1) := by decide +kernel
theorem dL_law__1824 : decode cL_law_ 1824 = .ok (.iload 5, 2) := by decide +kernel
theorem dL_law__1826 : decode cL_law_ 1826 = .ok (.ifCond .ne 15, 3) := by decide +kernel
theorem dL_law__1829 : decode cL_law_ 1829 = .ok (.aload_n 3, 1) := by decide +kernel
theorem dL_law__1830 : decode cL_law_ 1830 = .ok (.iconst 0, 1) := by decide +kernel
theorem dL_law__1831 : decode cL_law_ 1831 = .ok (.laload, 1) := by decide +kernel
theorem dL_law__1832 : decode cL_law_ 1832 = .ok (.iload 6, 2) := by decide +kernel
theorem dL_law__1834 : decode cL_law_ 1834 = .ok (.i2l, 1) := by decide +kernel
theorem dL_law__1835 : decode cL_law_ 1835 = .ok (.lcmp, 1) := by decide +kernel
theorem dL_law__1836 : decode cL_law_ 1836 = .ok (.ifCond .eq 5, 3) := by decide +kernel
theorem dL_law__1839 : decode cL_law_ 1839 = .ok (.iconst 0, 1) := by decide +kernel
theorem dL_law__1840 : decode cL_law_ 1840 = .ok (.ireturn, 1) := by decide +kernel
theorem dL_law__1841 : decode cL_law_ 1841 = .ok (.goto 506, 3) := by decide +kernel
theorem dL_law__1844 : decode cL_law_ 1844 = .ok (.aload_n 1, 1) := by decide +kernel
theorem dL_law__1845 : decode cL_law_ 1845 = .ok (.aload_n 0, 1) := by decide +kernel
theorem dL_law__1846 : decode cL_law_ 1846 = .ok (.iload 4, 2) := by decide +kernel
theorem dL_law__1848 : decode cL_law_ 1848 = .ok (.iconst 1, 1) := by decide +kernel
theorem dL_law__1849 : decode cL_law_ 1849 = .ok (.iadd, 1) := by decide +kernel
theorem dL_law__1850 : decode cL_law_ 1850 = .ok (.iaload, 1) := by decide +kernel
theorem dL_law__1851 : decode cL_law_ 1851 = .ok (.aload_n 0, 1) := by decide +kernel
theorem dL_law__1852 : decode cL_law_ 1852 = .ok (.iload 4, 2) := by decide +kernel
theorem dL_law__1854 : decode cL_law_ 1854 = .ok (.iconst 2, 1) := by decide +kernel
theorem dL_law__1855 : decode cL_law_ 1855 = .ok (.iadd, 1) := by decide +kernel
theorem dL_law__1856 : decode cL_law_ 1856 = .ok (.iaload, 1) := by decide +kernel
theorem dL_law__1857 : decode cL_law_ 1857 = .ok (.aload_n 0, 1) := by decide +kernel
theorem dL_law__1858 : decode cL_law_ 1858 = .ok (.iload 4, 2) := by decide +kernel
theorem dL_law__1860 : decode cL_law_ 1860 = .ok (.iconst 3, 1) := by decide +kernel
theorem dL_law__1861 : decode cL_law_ 1861 = .ok (.iadd, 1) := by decide +kernel
theorem dL_law__1862 : decode cL_law_ 1862 = .ok (.iaload, 1) := by decide +kernel
theorem dL_law__1863 : decode cL_law_ 1863 = .ok (.aload_n 3, 1) := by decide +kernel
theorem dL_law__1864 : decode cL_law_ 1864 = .ok (.invokestatic 202, 3) := by decide +kernel
theorem dL_law__1867 : decode cL_law_ 1867 = .ok (.istore 5, 2) := by decide +kernel
theorem dL_law__1869 : decode cL_law_ 1869 = .ok (.aload_n 2, 1) := by decide +kernel
theorem dL_law__1870 : decode cL_law_ 1870 = .ok (.aload_n 0, 1) := by decide +kernel
theorem dL_law__1871 : decode cL_law_ 1871 = .ok (.iload 4, 2) := by decide +kernel
theorem dL_law__1873 : decode cL_law_ 1873 = .ok (.iconst 1, 1) := by decide +kernel
theorem dL_law__1874 : decode cL_law_ 1874 = .ok (.iadd, 1) := by decide +kernel
theorem dL_law__1875 : decode cL_law_ 1875 = .ok (.iaload, 1) := by decide +kernel
theorem dL_law__1876 : decode cL_law_ 1876 = .ok (.aload_n 0, 1) := by decide +kernel
theorem dL_law__1877 : decode cL_law_ 1877 = .ok (.iload 4, 2) := by decide +kernel
theorem dL_law__1879 : decode cL_law_ 1879 = .ok (.iconst 2, 1) := by decide +kernel
theorem dL_law__1880 : decode cL_law_ 1880 = .ok (.iadd, 1) := by decide +kernel
theorem dL_law__1881 : decode cL_law_ 1881 = .ok (.iaload, 1) := by decide +kernel
theorem dL_law__1882 : decode cL_law_ 1882 = .ok (.aload_n 0, 1) := by decide +kernel
theorem dL_law__1883 : decode cL_law_ 1883 = .ok (.iload 4, 2) := by decide +kernel
theorem dL_law__1885 : decode cL_law_ 1885 = .ok (.iconst 3, 1) := by decide +kernel
theorem dL_law__1886 : decode cL_law_ 1886 = .ok (.iadd, 1) := by decide +kernel
theorem dL_law__1887 : decode cL_law_ 1887 = .ok (.iaload, 1) := by decide +kernel
theorem dL_law__1888 : decode cL_law_ 1888 = .ok (.invokevirtual 204, 3) := by decide +kernel
theorem dL_law__1891 : decode cL_law_ 1891 = .ok (.istore 6, 2) := by decide +kernel
theorem dL_law__1893 : decode cL_law_ 1893 = .ok (.aload_n 2, 1) := by decide +kernel
theorem dL_law__1894 : decode cL_law_ 1894 = .ok (.invokevirtual 116, 3) := by decide +kernel
theorem dL_law__1897 : decode cL_law_ 1897 = .ok (.iload 5, 2) := by decide +kernel
theorem dL_law__1899 : decode cL_law_ 1899 = .ok (.if_icmp .eq 5, 3) := by decide +kernel
theorem dL_law__1902 : decode cL_law_ 1902 = .ok (.iconst 0, 1) := by decide +kernel
theorem dL_law__1903 : decode cL_law_ 1903 = .ok (.ireturn, 1) := by decide +kernel
theorem dL_law__1904 : decode cL_law_ 1904 = .ok (.iload 5, 2) := by decide +kernel
theorem dL_law__1906 : decode cL_law_ 1906 = .ok (.ifCond .ne 15, 3) := by decide +kernel
theorem dL_law__1909 : decode cL_law_ 1909 = .ok (.aload_n 3, 1) := by decide +kernel
theorem dL_law__1910 : decode cL_law_ 1910 = .ok (.iconst 0, 1) := by decide +kernel
theorem dL_law__1911 : decode cL_law_ 1911 = .ok (.laload, 1) := by decide +kernel
theorem dL_law__1912 : decode cL_law_ 1912 = .ok (.iload 6, 2) := by decide +kernel
theorem dL_law__1914 : decode cL_law_ 1914 = .ok (.i2l, 1) := by decide +kernel
theorem dL_law__1915 : decode cL_law_ 1915 = .ok (.lcmp, 1) := by decide +kernel
theorem dL_law__1916 : decode cL_law_ 1916 = .ok (.ifCond .eq 5, 3) := by decide +kernel
theorem dL_law__1919 : decode cL_law_ 1919 = .ok (.iconst 0, 1) := by decide +kernel
theorem dL_law__1920 : decode cL_law_ 1920 = .ok (.ireturn, 1) := by decide +kernel
theorem dL_law__1921 : decode cL_law_ 1921 = .ok (.goto 426, 3) := by decide +kernel
theorem dL_law__1924 : decode cL_law_ 1924 = .ok (.aload_n 1, 1) := by decide +kernel
theorem dL_law__1925 : decode cL_law_ 1925 = .ok (.aload_n 0, 1) := by decide +kernel
theorem dL_law__1926 : decode cL_law_ 1926 = .ok (.iload 4, 2) := by decide +kernel
theorem dL_law__1928 : decode cL_law_ 1928 = .ok (.iconst 1, 1) := by decide +kernel
theorem dL_law__1929 : decode cL_law_ 1929 = .ok (.iadd, 1) := by decide +kernel
theorem dL_law__1930 : decode cL_law_ 1930 = .ok (.iaload, 1) := by decide +kernel
theorem dL_law__1931 : decode cL_law_ 1931 = .ok (.aload_n 0, 1) := by decide +kernel
theorem dL_law__1932 : decode cL_law_ 1932 = .ok (.iload 4, 2) := by decide +kernel
theorem dL_law__1934 : decode cL_law_ 1934 = .ok (.iconst 2, 1) := by decide +kernel
theorem dL_law__1935 : decode cL_law_ 1935 = .ok (.iadd, 1) := by decide +kernel
theorem dL_law__1936 : decode cL_law_ 1936 = .ok (.iaload, 1) := by decide +kernel
theorem dL_law__1937 : decode cL_law_ 1937 = .ok (.aload_n 3, 1) := by decide +kernel
theorem dL_law__1938 : decode cL_law_ 1938 = .ok (.invokestatic 205, 3) := by decide +kernel
theorem dL_law__1941 : decode cL_law_ 1941 = .ok (.istore 5, 2) := by decide +kernel
theorem dL_law__1943 : decode cL_law_ 1943 = .ok (.aload_n 2, 1) := by decide +kernel
theorem dL_law__1944 : decode cL_law_ 1944 = .ok (.aload_n 0, 1) := by decide +kernel
theorem dL_law__1945 : decode cL_law_ 1945 = .ok (.iload 4, 2) := by decide +kernel
theorem dL_law__1947 : decode cL_law_ 1947 = .ok (.iconst 1, 1) := by decide +kernel
theorem dL_law__1948 : decode cL_law_ 1948 = .ok (.iadd, 1) := by decide +kernel
theorem dL_law__1949 : decode cL_law_ 1949 = .ok (.iaload, 1) := by decide +kernel
theorem dL_law__1950 : decode cL_law_ 1950 = .ok (.aload_n 0, 1) := by decide +kernel
theorem dL_law__1951 : decode cL_law_ 1951 = .ok (.iload 4, 2) := by decide +kernel
theorem dL_law__1953 : decode cL_law_ 1953 = .ok (.iconst 2, 1) := by decide +kernel
theorem dL_law__1954 : decode cL_law_ 1954 = .ok (.iadd, 1) := by decide +kernel
theorem dL_law__1955 : decode cL_law_ 1955 = .ok (.iaload, 1) := by decide +kernel
theorem dL_law__1956 : decode cL_law_ 1956 = .ok (.invokevirtual 207, 3) := by decide +kernel
theorem dL_law__1959 : decode cL_law_ 1959 = .ok (.istore 6, 2) := by decide +kernel
theorem dL_law__1961 : decode cL_law_ 1961 = .ok (.aload_n 2, 1) := by decide +kernel
theorem dL_law__1962 : decode cL_law_ 1962 = .ok (.invokevirtual 116, 3) := by decide +kernel
theorem dL_law__1965 : decode cL_law_ 1965 = .ok (.iload 5, 2) := by decide +kernel
theorem dL_law__1967 : decode cL_law_ 1967 = .ok (.if_icmp .eq 5, 3) := by decide +kernel
theorem dL_law__1970 : decode cL_law_ 1970 = .ok (.iconst 0, 1) := by decide +kernel
theorem dL_law__1971 : decode cL_law_ 1971 = .ok (.ireturn, 1) := by decide +kernel
theorem dL_law__1972 : decode cL_law_ 1972 = .ok (.iload 5, 2) := by decide +kernel
theorem dL_law__1974 : decode cL_law_ 1974 = .ok (.ifCond .ne 15, 3) := by decide +kernel
theorem dL_law__1977 : decode cL_law_ 1977 = .ok (.aload_n 3, 1) := by decide +kernel
theorem dL_law__1978 : decode cL_law_ 1978 = .ok (.iconst 0, 1) := by decide +kernel
theorem dL_law__1979 : decode cL_law_ 1979 = .ok (.laload, 1) := by decide +kernel
theorem dL_law__1980 : decode cL_law_ 1980 = .ok (.iload 6, 2) := by decide +kernel
theorem dL_law__1982 : decode cL_law_ 1982 = .ok (.i2l, 1) := by decide +kernel
theorem dL_law__1983 : decode cL_law_ 1983 = .ok (.lcmp, 1) := by decide +kernel
theorem dL_law__1984 : decode cL_law_ 1984 = .ok (.ifCond .eq 5, 3) := by decide +kernel
theorem dL_law__1987 : decode cL_law_ 1987 = .ok (.iconst 0, 1) := by decide +kernel
theorem dL_law__1988 : decode cL_law_ 1988 = .ok (.ireturn, 1) := by decide +kernel
theorem dL_law__1989 : decode cL_law_ 1989 = .ok (.goto 358, 3) := by decide +kernel
theorem dL_law__1992 : decode cL_law_ 1992 = .ok (.aload_n 1, 1) := by decide +kernel
theorem dL_law__1993 : decode cL_law_ 1993 = .ok (.aload_n 0, 1) := by decide +kernel
theorem dL_law__1994 : decode cL_law_ 1994 = .ok (.iload 4, 2) := by decide +kernel
theorem dL_law__1996 : decode cL_law_ 1996 = .ok (.iconst 1, 1) := by decide +kernel
theorem dL_law__1997 : decode cL_law_ 1997 = .ok (.iadd, 1) := by decide +kernel
theorem dL_law__1998 : decode cL_law_ 1998 = .ok (.iaload, 1) := by decide +kernel
theorem dL_law__1999 : decode cL_law_ 1999 = .ok (.aload_n 3, 1) := by decide +kernel
theorem dL_law__2000 : decode cL_law_ 2000 = .ok (.invokestatic 208, 3) := by decide +kernel
theorem dL_law__2003 : decode cL_law_ 2003 = .ok (.istore 5, 2) := by decide +kernel
theorem dL_law__2005 : decode cL_law_ 2005 = .ok (.aload_n 2, 1) := by decide +kernel
theorem dL_law__2006 : decode cL_law_ 2006 = .ok (.aload_n 0, 1) := by decide +kernel
theorem dL_law__2007 : decode cL_law_ 2007 = .ok (.iload 4, 2) := by decide +kernel
theorem dL_law__2009 : decode cL_law_ 2009 = .ok (.iconst 1, 1) := by decide +kernel
theorem dL_law__2010 : decode cL_law_ 2010 = .ok (.iadd, 1) := by decide +kernel
theorem dL_law__2011 : decode cL_law_ 2011 = .ok (.iaload, 1) := by decide +kernel
theorem dL_law__2012 : decode cL_law_ 2012 = .ok (.invokevirtual 210, 3) := by decide +kernel
theorem dL_law__2015 : decode cL_law_ 2015 = .ok (.istore 6, 2) := by decide +kernel
theorem dL_law__2017 : decode cL_law_ 2017 = .ok (.aload_n 2, 1) := by decide +kernel
theorem dL_law__2018 : decode cL_law_ 2018 = .ok (.invokevirtual 116, 3) := by decide +kernel
theorem dL_law__2021 : decode cL_law_ 2021 = .ok (.iload 5, 2) := by decide +kernel
theorem dL_law__2023 : decode cL_law_ 2023 = .ok (.if_icmp .eq 5, 3) := by decide +kernel
theorem dL_law__2026 : decode cL_law_ 2026 = .ok (.iconst 0, 1) := by decide +kernel
theorem dL_law__2027 : decode cL_law_ 2027 = .ok (.ireturn, 1) := by decide +kernel
theorem dL_law__2028 : decode cL_law_ 2028 = .ok (.iload 5, 2) := by decide +kernel
theorem dL_law__2030 : decode cL_law_ 2030 = .ok (.ifCond .ne 15, 3) := by decide +kernel
theorem dL_law__2033 : decode cL_law_ 2033 = .ok (.aload_n 3, 1) := by decide +kernel
theorem dL_law__2034 : decode cL_law_ 2034 = .ok (.iconst 0, 1) := by decide +kernel
theorem dL_law__2035 : decode cL_law_ 2035 = .ok (.laload, 1) := by decide +kernel
theorem dL_law__2036 : decode cL_law_ 2036 = .ok (.iload 6, 2) := by decide +kernel
theorem dL_law__2038 : decode cL_law_ 2038 = .ok (.i2l, 1) := by decide +kernel
theorem dL_law__2039 : decode cL_law_ 2039 = .ok (.lcmp, 1) := by decide +kernel
theorem dL_law__2040 : decode cL_law_ 2040 = .ok (.ifCond .eq 5, 3) := by decide +kernel
theorem dL_law__2043 : decode cL_law_ 2043 = .ok (.iconst 0, 1) := by decide +kernel
theorem dL_law__2044 : decode cL_law_ 2044 = .ok (.ireturn, 1) := by decide +kernel
theorem dL_law__2045 : decode cL_law_ 2045 = .ok (.goto 302, 3) := by decide +kernel
theorem dL_law__2048 : decode cL_law_ 2048 = .ok (.aload_n 1, 1) := by decide +kernel
theorem dL_law__2049 : decode cL_law_ 2049 = .ok (.invokevirtual 211, 3) := by decide +kernel
theorem dL_law__2052 : decode cL_law_ 2052 = .ok (.aload_n 2, 1) := by decide +kernel
theorem dL_law__2053 : decode cL_law_ 2053 = .ok (.invokevirtual 214, 3) := by decide +kernel
theorem dL_law__2056 : decode cL_law_ 2056 = .ok (.if_icmp .eq 291, 3) := by decide +kernel
theorem dL_law__2059 : decode cL_law_ 2059 = .ok (.iconst 0, 1) := by decide +kernel
theorem dL_law__2060 : decode cL_law_ 2060 = .ok (.ireturn, 1) := by decide +kernel
theorem dL_law__2061 : decode cL_law_ 2061 = .ok (.aload_n 1, 1) := by decide +kernel
theorem dL_law__2062 : decode cL_law_ 2062 = .ok (.aload_n 0, 1) := by decide +kernel
theorem dL_law__2063 : decode cL_law_ 2063 = .ok (.iload 4, 2) := by decide +kernel
theorem dL_law__2065 : decode cL_law_ 2065 = .ok (.iconst 1, 1) := by decide +kernel
theorem dL_law__2066 : decode cL_law_ 2066 = .ok (.iadd, 1) := by decide +kernel
theorem dL_law__2067 : decode cL_law_ 2067 = .ok (.iaload, 1) := by decide +kernel
theorem dL_law__2068 : decode cL_law_ 2068 = .ok (.aload_n 0, 1) := by decide +kernel
theorem dL_law__2069 : decode cL_law_ 2069 = .ok (.iload 4, 2) := by decide +kernel
theorem dL_law__2071 : decode cL_law_ 2071 = .ok (.iconst 2, 1) := by decide +kernel
theorem dL_law__2072 : decode cL_law_ 2072 = .ok (.iadd, 1) := by decide +kernel
theorem dL_law__2073 : decode cL_law_ 2073 = .ok (.iaload, 1) := by decide +kernel
theorem dL_law__2074 : decode cL_law_ 2074 = .ok (.aload_n 0, 1) := by decide +kernel
theorem dL_law__2075 : decode cL_law_ 2075 = .ok (.iload 4, 2) := by decide +kernel
theorem dL_law__2077 : decode cL_law_ 2077 = .ok (.iconst 3, 1) := by decide +kernel
theorem dL_law__2078 : decode cL_law_ 2078 = .ok (.iadd, 1) := by decide +kernel
theorem dL_law__2079 : decode cL_law_ 2079 = .ok (.iaload, 1) := by decide +kernel
theorem dL_law__2080 : decode cL_law_ 2080 = .ok (.aload_n 0, 1) := by decide +kernel
theorem dL_law__2081 : decode cL_law_ 2081 = .ok (.iload 4, 2) := by decide +kernel
theorem dL_law__2083 : decode cL_law_ 2083 = .ok (.iconst 4, 1) := by decide +kernel
theorem dL_law__2084 : decode cL_law_ 2084 = .ok (.iadd, 1) := by decide +kernel
theorem dL_law__2085 : decode cL_law_ 2085 = .ok (.iaload, 1) := by decide +kernel
theorem dL_law__2086 : decode cL_law_ 2086 = .ok (.aload_n 3, 1) := by decide +kernel
theorem dL_law__2087 : decode cL_law_ 2087 = .ok (.invokestatic 215, 3) := by decide +kernel
theorem dL_law__2090 : decode cL_law_ 2090 = .ok (.istore 5, 2) := by decide +kernel
theorem dL_law__2092 : decode cL_law_ 2092 = .ok (.aload_n 2, 1) := by decide +kernel
theorem dL_law__2093 : decode cL_law_ 2093 = .ok (.aload_n 0, 1) := by decide +kernel
theorem dL_law__2094 : decode cL_law_ 2094 = .ok (.iload 4, 2) := by decide +kernel
theorem dL_law__2096 : decode cL_law_ 2096 = .ok (.iconst 1, 1) := by decide +kernel
theorem dL_law__2097 : decode cL_law_ 2097 = .ok (.iadd, 1) := by decide +kernel
theorem dL_law__2098 : decode cL_law_ 2098 = .ok (.iaload, 1) := by decide +kernel
theorem dL_law__2099 : decode cL_law_ 2099 = .ok (.aload_n 0, 1) := by decide +kernel
theorem dL_law__2100 : decode cL_law_ 2100 = .ok (.iload 4, 2) := by decide +kernel
theorem dL_law__2102 : decode cL_law_ 2102 = .ok (.iconst 2, 1) := by decide +kernel
theorem dL_law__2103 : decode cL_law_ 2103 = .ok (.iadd, 1) := by decide +kernel
theorem dL_law__2104 : decode cL_law_ 2104 = .ok (.iaload, 1) := by decide +kernel
theorem dL_law__2105 : decode cL_law_ 2105 = .ok (.aload_n 0, 1) := by decide +kernel
theorem dL_law__2106 : decode cL_law_ 2106 = .ok (.iload 4, 2) := by decide +kernel
theorem dL_law__2108 : decode cL_law_ 2108 = .ok (.iconst 3, 1) := by decide +kernel
theorem dL_law__2109 : decode cL_law_ 2109 = .ok (.iadd, 1) := by decide +kernel
theorem dL_law__2110 : decode cL_law_ 2110 = .ok (.iaload, 1) := by decide +kernel
theorem dL_law__2111 : decode cL_law_ 2111 = .ok (.aload_n 0, 1) := by decide +kernel
theorem dL_law__2112 : decode cL_law_ 2112 = .ok (.iload 4, 2) := by decide +kernel
theorem dL_law__2114 : decode cL_law_ 2114 = .ok (.iconst 4, 1) := by decide +kernel
theorem dL_law__2115 : decode cL_law_ 2115 = .ok (.iadd, 1) := by decide +kernel
theorem dL_law__2116 : decode cL_law_ 2116 = .ok (.iaload, 1) := by decide +kernel
theorem dL_law__2117 : decode cL_law_ 2117 = .ok (.invokevirtual 218, 3) := by decide +kernel
theorem dL_law__2120 : decode cL_law_ 2120 = .ok (.istore 6, 2) := by decide +kernel
theorem dL_law__2122 : decode cL_law_ 2122 = .ok (.aload_n 2, 1) := by decide +kernel
theorem dL_law__2123 : decode cL_law_ 2123 = .ok (.invokevirtual 116, 3) := by decide +kernel
theorem dL_law__2126 : decode cL_law_ 2126 = .ok (.iload 5, 2) := by decide +kernel
theorem dL_law__2128 : decode cL_law_ 2128 = .ok (.if_icmp .eq 5, 3) := by decide +kernel
theorem dL_law__2131 : decode cL_law_ 2131 = .ok (.iconst 0, 1) := by decide +kernel
theorem dL_law__2132 : decode cL_law_ 2132 = .ok (.ireturn, 1) := by decide +kernel
theorem dL_law__2133 : decode cL_law_ 2133 = .ok (.iload 5, 2) := by decide +kernel
theorem dL_law__2135 : decode cL_law_ 2135 = .ok (.ifCond .ne 15, 3) := by decide +kernel
theorem dL_law__2138 : decode cL_law_ 2138 = .ok (.aload_n 3, 1) := by decide +kernel
theorem dL_law__2139 : decode cL_law_ 2139 = .ok (.iconst 0, 1) := by decide +kernel
theorem dL_law__2140 : decode cL_law_ 2140 = .ok (.laload, 1) := by decide +kernel
theorem dL_law__2141 : decode cL_law_ 2141 = .ok (.iload 6, 2) := by decide +kernel
theorem dL_law__2143 : decode cL_law_ 2143 = .ok (.i2l, 1) := by decide +kernel
theorem dL_law__2144 : decode cL_law_ 2144 = .ok (.lcmp, 1) := by decide +kernel
theorem dL_law__2145 : decode cL_law_ 2145 = .ok (.ifCond .eq 5, 3) := by decide +kernel
theorem dL_law__2148 : decode cL_law_ 2148 = .ok (.iconst 0, 1) := by decide +kernel
theorem dL_law__2149 : decode cL_law_ 2149 = .ok (.ireturn, 1) := by decide +kernel
theorem dL_law__2150 : decode cL_law_ 2150 = .ok (.goto 197, 3) := by decide +kernel
theorem dL_law__2153 : decode cL_law_ 2153 = .ok (.aload_n 1, 1) := by decide +kernel
theorem dL_law__2154 : decode cL_law_ 2154 = .ok (.aload_n 0, 1) := by decide +kernel
theorem dL_law__2155 : decode cL_law_ 2155 = .ok (.iload 4, 2) := by decide +kernel
theorem dL_law__2157 : decode cL_law_ 2157 = .ok (.iconst 1, 1) := by decide +kernel
theorem dL_law__2158 : decode cL_law_ 2158 = .ok (.iadd, 1) := by decide +kernel
theorem dL_law__2159 : decode cL_law_ 2159 = .ok (.iaload, 1) := by decide +kernel
theorem dL_law__2160 : decode cL_law_ 2160 = .ok (.aload_n 0, 1) := by decide +kernel
theorem dL_law__2161 : decode cL_law_ 2161 = .ok (.iload 4, 2) := by decide +kernel
theorem dL_law__2163 : decode cL_law_ 2163 = .ok (.iconst 2, 1) := by decide +kernel
theorem dL_law__2164 : decode cL_law_ 2164 = .ok (.iadd, 1) := by decide +kernel
theorem dL_law__2165 : decode cL_law_ 2165 = .ok (.iaload, 1) := by decide +kernel
theorem dL_law__2166 : decode cL_law_ 2166 = .ok (.aload_n 0, 1) := by decide +kernel
theorem dL_law__2167 : decode cL_law_ 2167 = .ok (.iload 4, 2) := by decide +kernel
theorem dL_law__2169 : decode cL_law_ 2169 = .ok (.iconst 3, 1) := by decide +kernel
theorem dL_law__2170 : decode cL_law_ 2170 = .ok (.iadd, 1) := by decide +kernel
theorem dL_law__2171 : decode cL_law_ 2171 = .ok (.iaload, 1) := by decide +kernel
theorem dL_law__2172 : decode cL_law_ 2172 = .ok (.aload_n 0, 1) := by decide +kernel
theorem dL_law__2173 : decode cL_law_ 2173 = .ok (.iload 4, 2) := by decide +kernel
theorem dL_law__2175 : decode cL_law_ 2175 = .ok (.iconst 4, 1) := by decide +kernel
theorem dL_law__2176 : decode cL_law_ 2176 = .ok (.iadd, 1) := by decide +kernel
theorem dL_law__2177 : decode cL_law_ 2177 = .ok (.iaload, 1) := by decide +kernel
theorem dL_law__2178 : decode cL_law_ 2178 = .ok (.aload_n 0, 1) := by decide +kernel
theorem dL_law__2179 : decode cL_law_ 2179 = .ok (.iload 4, 2) := by decide +kernel
theorem dL_law__2181 : decode cL_law_ 2181 = .ok (.iconst 5, 1) := by decide +kernel
theorem dL_law__2182 : decode cL_law_ 2182 = .ok (.iadd, 1) := by decide +kernel
theorem dL_law__2183 : decode cL_law_ 2183 = .ok (.iaload, 1) := by decide +kernel
theorem dL_law__2184 : decode cL_law_ 2184 = .ok (.aload_n 0, 1) := by decide +kernel
theorem dL_law__2185 : decode cL_law_ 2185 = .ok (.iload 4, 2) := by decide +kernel
theorem dL_law__2187 : decode cL_law_ 2187 = .ok (.bipush 6, 2) := by decide +kernel
theorem dL_law__2189 : decode cL_law_ 2189 = .ok (.iadd, 1) := by decide +kernel
theorem dL_law__2190 : decode cL_law_ 2190 = .ok (.iaload, 1) := by decide +kernel
theorem dL_law__2191 : decode cL_law_ 2191 = .ok (.aload_n 3, 1) := by decide +kernel
theorem dL_law__2192 : decode cL_law_ 2192 = .ok (.invokestatic 219, 3) := by decide +kernel
theorem dL_law__2195 : decode cL_law_ 2195 = .ok (.istore 5, 2) := by decide +kernel
theorem dL_law__2197 : decode cL_law_ 2197 = .ok (.aload_n 2, 1) := by decide +kernel
theorem dL_law__2198 : decode cL_law_ 2198 = .ok (.aload_n 0, 1) := by decide +kernel
theorem dL_law__2199 : decode cL_law_ 2199 = .ok (.iload 4, 2) := by decide +kernel
theorem dL_law__2201 : decode cL_law_ 2201 = .ok (.iconst 1, 1) := by decide +kernel
theorem dL_law__2202 : decode cL_law_ 2202 = .ok (.iadd, 1) := by decide +kernel
theorem dL_law__2203 : decode cL_law_ 2203 = .ok (.iaload, 1) := by decide +kernel
theorem dL_law__2204 : decode cL_law_ 2204 = .ok (.aload_n 0, 1) := by decide +kernel
theorem dL_law__2205 : decode cL_law_ 2205 = .ok (.iload 4, 2) := by decide +kernel
theorem dL_law__2207 : decode cL_law_ 2207 = .ok (.iconst 2, 1) := by decide +kernel
theorem dL_law__2208 : decode cL_law_ 2208 = .ok (.iadd, 1) := by decide +kernel
theorem dL_law__2209 : decode cL_law_ 2209 = .ok (.iaload, 1) := by decide +kernel
theorem dL_law__2210 : decode cL_law_ 2210 = .ok (.aload_n 0, 1) := by decide +kernel
theorem dL_law__2211 : decode cL_law_ 2211 = .ok (.iload 4, 2) := by decide +kernel
theorem dL_law__2213 : decode cL_law_ 2213 = .ok (.iconst 3, 1) := by decide +kernel
theorem dL_law__2214 : decode cL_law_ 2214 = .ok (.iadd, 1) := by decide +kernel
theorem dL_law__2215 : decode cL_law_ 2215 = .ok (.iaload, 1) := by decide +kernel
theorem dL_law__2216 : decode cL_law_ 2216 = .ok (.aload_n 0, 1) := by decide +kernel
theorem dL_law__2217 : decode cL_law_ 2217 = .ok (.iload 4, 2) := by decide +kernel
theorem dL_law__2219 : decode cL_law_ 2219 = .ok (.iconst 4, 1) := by decide +kernel
theorem dL_law__2220 : decode cL_law_ 2220 = .ok (.iadd, 1) := by decide +kernel
theorem dL_law__2221 : decode cL_law_ 2221 = .ok (.iaload, 1) := by decide +kernel
theorem dL_law__2222 : decode cL_law_ 2222 = .ok (.aload_n 0, 1) := by decide +kernel
theorem dL_law__2223 : decode cL_law_ 2223 = .ok (.iload 4, 2) := by decide +kernel
theorem dL_law__2225 : decode cL_law_ 2225 = .ok (.iconst 5, 1) := by decide +kernel
theorem dL_law__2226 : decode cL_law_ 2226 = .ok (.iadd, 1) := by decide +kernel
theorem dL_law__2227 : decode cL_law_ 2227 = .ok (.iaload, 1) := by decide +kernel
theorem dL_law__2228 : decode cL_law_ 2228 = .ok (.aload_n 0, 1) := by decide +kernel
theorem dL_law__2229 : decode cL_law_ 2229 = .ok (.iload 4, 2) := by decide +kernel
theorem dL_law__2231 : decode cL_law_ 2231 = .ok (.bipush 6, 2) := by decide +kernel
theorem dL_law__2233 : decode cL_law_ 2233 = .ok (.iadd, 1) := by decide +kernel
theorem dL_law__2234 : decode cL_law_ 2234 = .ok (.iaload, 1) := by decide +kernel
theorem dL_law__2235 : decode cL_law_ 2235 = .ok (.invokevirtual 222, 3) := by decide +kernel
theorem dL_law__2238 : decode cL_law_ 2238 = .ok (.istore 6, 2) := by decide +kernel
theorem dL_law__2240 : decode cL_law_ 2240 = .ok (.aload_n 2, 1) := by decide +kernel
theorem dL_law__2241 : decode cL_law_ 2241 = .ok (.invokevirtual 116, 3) := by decide +kernel
theorem dL_law__2244 : decode cL_law_ 2244 = .ok (.iload 5, 2) := by decide +kernel
theorem dL_law__2246 : decode cL_law_ 2246 = .ok (.if_icmp .eq 5, 3) := by decide +kernel
theorem dL_law__2249 : decode cL_law_ 2249 = .ok (.iconst 0, 1) := by decide +kernel
theorem dL_law__2250 : decode cL_law_ 2250 = .ok (.ireturn, 1) := by decide +kernel
theorem dL_law__2251 : decode cL_law_ 2251 = .ok (.iload 5, 2) := by decide +kernel
theorem dL_law__2253 : decode cL_law_ 2253 = .ok (.ifCond .ne 15, 3) := by decide +kernel
theorem dL_law__2256 : decode cL_law_ 2256 = .ok (.aload_n 3, 1) := by decide +kernel
theorem dL_law__2257 : decode cL_law_ 2257 = .ok (.iconst 0, 1) := by decide +kernel
theorem dL_law__2258 : decode cL_law_ 2258 = .ok (.laload, 1) := by decide +kernel
theorem dL_law__2259 : decode cL_law_ 2259 = .ok (.iload 6, 2) := by decide +kernel
theorem dL_law__2261 : decode cL_law_ 2261 = .ok (.i2l, 1) := by decide +kernel
theorem dL_law__2262 : decode cL_law_ 2262 = .ok (.lcmp, 1) := by decide +kernel
theorem dL_law__2263 : decode cL_law_ 2263 = .ok (.ifCond .eq 5, 3) := by decide +kernel
theorem dL_law__2266 : decode cL_law_ 2266 = .ok (.iconst 0, 1) := by decide +kernel
theorem dL_law__2267 : decode cL_law_ 2267 = .ok (.ireturn, 1) := by decide +kernel
theorem dL_law__2268 : decode cL_law_ 2268 = .ok (.goto 79, 3) := by decide +kernel
theorem dL_law__2271 : decode cL_law_ 2271 = .ok (.aload_n 1, 1) := by decide +kernel
theorem dL_law__2272 : decode cL_law_ 2272 = .ok (.invokevirtual 223, 3) := by decide +kernel
theorem dL_law__2275 : decode cL_law_ 2275 = .ok (.aload_n 2, 1) := by decide +kernel
theorem dL_law__2276 : decode cL_law_ 2276 = .ok (.invokevirtual 226, 3) := by decide +kernel
theorem dL_law__2279 : decode cL_law_ 2279 = .ok (.if_icmp .eq 68, 3) := by decide +kernel
theorem dL_law__2282 : decode cL_law_ 2282 = .ok (.iconst 0, 1) := by decide +kernel
theorem dL_law__2283 : decode cL_law_ 2283 = .ok (.ireturn, 1) := by decide +kernel
theorem dL_law__2284 : decode cL_law_ 2284 = .ok (.aload_n 1, 1) := by decide +kernel
theorem dL_law__2285 : decode cL_law_ 2285 = .ok (.invokevirtual 227, 3) := by decide +kernel
theorem dL_law__2288 : decode cL_law_ 2288 = .ok (.aload_n 2, 1) := by decide +kernel
theorem dL_law__2289 : decode cL_law_ 2289 = .ok (.invokevirtual 230, 3) := by decide +kernel
theorem dL_law__2292 : decode cL_law_ 2292 = .ok (.if_icmp .eq 55, 3) := by decide +kernel
theorem dL_law__2295 : decode cL_law_ 2295 = .ok (.iconst 0, 1) := by decide +kernel
theorem dL_law__2296 : decode cL_law_ 2296 = .ok (.ireturn, 1) := by decide +kernel
theorem dL_law__2297 : decode cL_law_ 2297 = .ok (.aload_n 1, 1) := by decide +kernel
theorem dL_law__2298 : decode cL_law_ 2298 = .ok (.aload_n 0, 1) := by decide +kernel
theorem dL_law__2299 : decode cL_law_ 2299 = .ok (.iload 4, 2) := by decide +kernel
theorem dL_law__2301 : decode cL_law_ 2301 = .ok (.iconst 1, 1) := by decide +kernel
theorem dL_law__2302 : decode cL_law_ 2302 = .ok (.iadd, 1) := by decide +kernel
theorem dL_law__2303 : decode cL_law_ 2303 = .ok (.iaload, 1) := by decide +kernel
theorem dL_law__2304 : decode cL_law_ 2304 = .ok (.invokevirtual 231, 3) := by decide +kernel
theorem dL_law__2307 : decode cL_law_ 2307 = .ok (.aload_n 2, 1) := by decide +kernel
theorem dL_law__2308 : decode cL_law_ 2308 = .ok (.aload_n 0, 1) := by decide +kernel
theorem dL_law__2309 : decode cL_law_ 2309 = .ok (.iload 4, 2) := by decide +kernel
theorem dL_law__2311 : decode cL_law_ 2311 = .ok (.iconst 1, 1) := by decide +kernel
theorem dL_law__2312 : decode cL_law_ 2312 = .ok (.iadd, 1) := by decide +kernel
theorem dL_law__2313 : decode cL_law_ 2313 = .ok (.iaload, 1) := by decide +kernel
theorem dL_law__2314 : decode cL_law_ 2314 = .ok (.invokevirtual 234, 3) := by decide +kernel
theorem dL_law__2317 : decode cL_law_ 2317 = .ok (.if_icmp .eq 30, 3) := by decide +kernel
theorem dL_law__2320 : decode cL_law_ 2320 = .ok (.iconst 0, 1) := by decide +kernel
theorem dL_law__2321 : decode cL_law_ 2321 = .ok (.ireturn, 1) := by decide +kernel
theorem dL_law__2322 : decode cL_law_ 2322 = .ok (.aload_n 1, 1) := by decide +kernel
theorem dL_law__2323 : decode cL_law_ 2323 = .ok (.aload_n 0, 1) := by decide +kernel
theorem dL_law__2324 : decode cL_law_ 2324 = .ok (.iload 4, 2) := by decide +kernel
theorem dL_law__2326 : decode cL_law_ 2326 = .ok (.iconst 1, 1) := by decide +kernel
theorem dL_law__2327 : decode cL_law_ 2327 = .ok (.iadd, 1) := by decide +kernel
theorem dL_law__2328 : decode cL_law_ 2328 = .ok (.iaload, 1) := by decide +kernel
theorem dL_law__2329 : decode cL_law_ 2329 = .ok (.invokevirtual 235, 3) := by decide +kernel
theorem dL_law__2332 : decode cL_law_ 2332 = .ok (.aload_n 2, 1) := by decide +kernel
theorem dL_law__2333 : decode cL_law_ 2333 = .ok (.aload_n 0, 1) := by decide +kernel
theorem dL_law__2334 : decode cL_law_ 2334 = .ok (.iload 4, 2) := by decide +kernel
theorem dL_law__2336 : decode cL_law_ 2336 = .ok (.iconst 1, 1) := by decide +kernel
theorem dL_law__2337 : decode cL_law_ 2337 = .ok (.iadd, 1) := by decide +kernel
theorem dL_law__2338 : decode cL_law_ 2338 = .ok (.iaload, 1) := by decide +kernel
theorem dL_law__2339 : decode cL_law_ 2339 = .ok (.invokevirtual 238, 3) := by decide +kernel
theorem dL_law__2342 : decode cL_law_ 2342 = .ok (.if_icmp .eq 5, 3) := by decide +kernel
theorem dL_law__2345 : decode cL_law_ 2345 = .ok (.iconst 0, 1) := by decide +kernel
theorem dL_law__2346 : decode cL_law_ 2346 = .ok (.ireturn, 1) := by decide +kernel
theorem dL_law__2347 : decode cL_law_ 2347 = .ok (.iinc 4 10, 3) := by decide +kernel
theorem dL_law__2350 : decode cL_law_ 2350 = .ok (.goto (-2327), 3) := by decide +kernel
theorem dL_law__2353 : decode cL_law_ 2353 = .ok (.iconst 1, 1) := by decide +kernel
theorem dL_law__2354 : decode cL_law_ 2354 = .ok (.ireturn, 1) := by decide +kernel
