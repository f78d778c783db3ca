theorem GE_st {g : GT} {U : State} {H : Heap} {own tx : String} {k i : Nat} (h : GE g U H) (hq : (own, k, tx, i) ∈ strR) : vk_R own k tx (g.2.2.2.2.1 i) U := by
  obtain ⟨-, -, -, -, -, -, h7, -⟩ := h
  exact h7 (own, k, tx, i) hq
theorem sr_0 : ("PlyStacker$Reader", 98, "plate", 0) ∈ strR := List.mem_of_getElem? (i := 0) (by decide +kernel)
theorem sr_1 : ("PlyStacker$Reader", 103, "room", 1) ∈ strR := List.mem_of_getElem? (i := 1) (by decide +kernel)
theorem sr_2 : ("PlyStacker$Reader", 80, "kind", 2) ∈ strR := List.mem_of_getElem? (i := 2) (by decide +kernel)
theorem sr_3 : ("PlyStacker$Reader", 89, "ply", 3) ∈ strR := List.mem_of_getElem? (i := 3) (by decide +kernel)
theorem sr_4 : ("PlyStacker$Reader", 125, "one", 4) ∈ strR := List.mem_of_getElem? (i := 4) (by decide +kernel)
theorem sr_5 : ("PlyStacker$Reader", 131, "two", 5) ∈ strR := List.mem_of_getElem? (i := 5) (by decide +kernel)
theorem sr_6 : ("PlyStacker$Reader", 133, "three", 6) ∈ strR := List.mem_of_getElem? (i := 6) (by decide +kernel)
theorem sr_7 : ("PlyStacker$Reader", 135, "four", 7) ∈ strR := List.mem_of_getElem? (i := 7) (by decide +kernel)
theorem sr_8 : ("PlyStacker$Reader", 137, "limit", 8) ∈ strR := List.mem_of_getElem? (i := 8) (by decide +kernel)
theorem sr_9 : ("PlyStacker$Reader", 168, "flat", 9) ∈ strR := List.mem_of_getElem? (i := 9) (by decide +kernel)
theorem sr_10 : ("PlyStacker$Reader", 170, "rise", 10) ∈ strR := List.mem_of_getElem? (i := 10) (by decide +kernel)
theorem sr_11 : ("PlyStacker$Reader", 172, "fall", 11) ∈ strR := List.mem_of_getElem? (i := 11) (by decide +kernel)
theorem sr_12 : ("PlyStacker$Reader", 174, "cross", 12) ∈ strR := List.mem_of_getElem? (i := 12) (by decide +kernel)
theorem sr_13 : ("PlyStackerModel", 143, "plate", 0) ∈ strR := List.mem_of_getElem? (i := 13) (by decide +kernel)
theorem sr_14 : ("PlyStackerModel", 145, "room", 1) ∈ strR := List.mem_of_getElem? (i := 14) (by decide +kernel)
theorem sr_15 : ("PlyStackerModel", 151, "kind", 2) ∈ strR := List.mem_of_getElem? (i := 15) (by decide +kernel)
theorem sr_16 : ("PlyStackerModel", 153, "ply", 3) ∈ strR := List.mem_of_getElem? (i := 16) (by decide +kernel)
theorem sr_17 : ("PlyStackerModel", 158, "one", 4) ∈ strR := List.mem_of_getElem? (i := 17) (by decide +kernel)
theorem sr_18 : ("PlyStackerModel", 160, "two", 5) ∈ strR := List.mem_of_getElem? (i := 18) (by decide +kernel)
theorem sr_19 : ("PlyStackerModel", 162, "three", 6) ∈ strR := List.mem_of_getElem? (i := 19) (by decide +kernel)
theorem sr_20 : ("PlyStackerModel", 164, "four", 7) ∈ strR := List.mem_of_getElem? (i := 20) (by decide +kernel)
theorem sr_21 : ("PlyStackerModel", 166, "limit", 8) ∈ strR := List.mem_of_getElem? (i := 21) (by decide +kernel)
theorem sr_22 : ("PlyStackerModel", 168, "flat", 9) ∈ strR := List.mem_of_getElem? (i := 22) (by decide +kernel)
theorem sr_23 : ("PlyStackerModel", 170, "rise", 10) ∈ strR := List.mem_of_getElem? (i := 23) (by decide +kernel)
theorem sr_24 : ("PlyStackerModel", 172, "fall", 11) ∈ strR := List.mem_of_getElem? (i := 24) (by decide +kernel)
theorem sr_25 : ("PlyStackerModel", 174, "cross", 12) ∈ strR := List.mem_of_getElem? (i := 25) (by decide +kernel)
theorem dJ0_length_8abf5_0 : decode cJ0_length_8abf5 0 = .ok (.aload_n 0, 1) := by decide +kernel
theorem dJ0_length_8abf5_1 : decode cJ0_length_8abf5 1 = .ok (.getfield 9, 3) := by decide +kernel
theorem dJ0_length_8abf5_4 : decode cJ0_length_8abf5 4 = .ok (.arraylength, 1) := by decide +kernel
theorem dJ0_length_8abf5_5 : decode cJ0_length_8abf5 5 = .ok (.aload_n 0, 1) := by decide +kernel
theorem dJ0_length_8abf5_6 : decode cJ0_length_8abf5 6 = .ok (.invokevirtual 335, 3) := by decide +kernel
theorem dJ0_length_8abf5_9 : decode cJ0_length_8abf5 9 = .ok (.ishr, 1) := by decide +kernel
theorem dJ0_length_8abf5_10 : decode cJ0_length_8abf5 10 = .ok (.ireturn, 1) := by decide +kernel
theorem dJ0_charAt_5068e_0 : decode cJ0_charAt_5068e 0 = .ok (.aload_n 0, 1) := by decide +kernel
theorem dJ0_charAt_5068e_1 : decode cJ0_charAt_5068e 1 = .ok (.invokevirtual 492, 3) := by decide +kernel
theorem dJ0_charAt_5068e_4 : decode cJ0_charAt_5068e 4 = .ok (.ifCond .eq 12, 3) := by decide +kernel
theorem dJ0_charAt_5068e_7 : decode cJ0_charAt_5068e 7 = .ok (.aload_n 0, 1) := by decide +kernel
theorem dJ0_charAt_5068e_8 : decode cJ0_charAt_5068e 8 = .ok (.getfield 9, 3) := by decide +kernel
theorem dJ0_charAt_5068e_11 : decode cJ0_charAt_5068e 11 = .ok (.iload_n 1, 1) := by decide +kernel
theorem dJ0_charAt_5068e_12 : decode cJ0_charAt_5068e 12 = .ok (.invokestatic 495, 3) := by decide +kernel
theorem dJ0_charAt_5068e_15 : decode cJ0_charAt_5068e 15 = .ok (.ireturn, 1) := by decide +kernel
theorem dJ0_charAt_5068e_16 : decode cJ0_charAt_5068e 16 = .ok (.aload_n 0, 1) := by decide +kernel
theorem dJ0_charAt_5068e_17 : decode cJ0_charAt_5068e 17 = .ok (.getfield 9, 3) := by decide +kernel
theorem dJ0_charAt_5068e_20 : decode cJ0_charAt_5068e 20 = .ok (.iload_n 1, 1) := by decide +kernel
theorem dJ0_charAt_5068e_21 : decode cJ0_charAt_5068e 21 = .ok (.invokestatic 498, 3) := by decide +kernel
theorem dJ0_charAt_5068e_24 : decode cJ0_charAt_5068e 24 = .ok (.ireturn, 1) := by decide +kernel
theorem dJ0_coder_7d493_0 : decode cJ0_coder_7d493 0 = .ok (.getstatic 38, 3) := by decide +kernel
theorem dJ0_coder_7d493_3 : decode cJ0_coder_7d493 3 = .ok (.ifCond .eq 10, 3) := by decide +kernel
theorem dJ0_coder_7d493_6 : decode cJ0_coder_7d493 6 = .ok (.aload_n 0, 1) := by decide +kernel
theorem dJ0_coder_7d493_7 : decode cJ0_coder_7d493 7 = .ok (.getfield 15, 3) := by decide +kernel
theorem dJ0_coder_7d493_10 : decode cJ0_coder_7d493 10 = .ok (.goto 4, 3) := by decide +kernel
theorem dJ0_coder_7d493_13 : decode cJ0_coder_7d493 13 = .ok (.iconst 1, 1) := by decide +kernel
theorem dJ0_coder_7d493_14 : decode cJ0_coder_7d493 14 = .ok (.ireturn, 1) := by decide +kernel
theorem dJ0_isLatin1_aae02_0 : decode cJ0_isLatin1_aae02 0 = .ok (.getstatic 38, 3) := by decide +kernel
theorem dJ0_isLatin1_aae02_3 : decode cJ0_isLatin1_aae02 3 = .ok (.ifCond .eq 14, 3) := by decide +kernel
theorem dJ0_isLatin1_aae02_6 : decode cJ0_isLatin1_aae02 6 = .ok (.aload_n 0, 1) := by decide +kernel
theorem dJ0_isLatin1_aae02_7 : decode cJ0_isLatin1_aae02 7 = .ok (.getfield 15, 3) := by decide +kernel
theorem dJ0_isLatin1_aae02_10 : decode cJ0_isLatin1_aae02 10 = .ok (.ifCond .ne 7, 3) := by decide +kernel
theorem dJ0_isLatin1_aae02_13 : decode cJ0_isLatin1_aae02 13 = .ok (.iconst 1, 1) := by decide +kernel
theorem dJ0_isLatin1_aae02_14 : decode cJ0_isLatin1_aae02 14 = .ok (.goto 4, 3) := by decide +kernel
theorem dJ0_isLatin1_aae02_17 : decode cJ0_isLatin1_aae02 17 = .ok (.iconst 0, 1) := by decide +kernel
theorem dJ0_isLatin1_aae02_18 : decode cJ0_isLatin1_aae02 18 = .ok (.ireturn, 1) := by decide +kernel
theorem dJ0_checkIndex_df160_0 : decode cJ0_checkIndex_df160 0 = .ok (.iload_n 0, 1) := by decide +kernel
theorem dJ0_checkIndex_df160_1 : decode cJ0_checkIndex_df160 1 = .ok (.iload_n 1, 1) := by decide +kernel
theorem dJ0_checkIndex_df160_2 : decode cJ0_checkIndex_df160 2 = .ok (.getstatic 1053, 3) := by decide +kernel
theorem dJ0_checkIndex_df160_5 : decode cJ0_checkIndex_df160 5 = .ok (.invokestatic 1059, 3) := by decide +kernel
theorem dJ0_checkIndex_df160_8 : decode cJ0_checkIndex_df160 8 = .ok (.pop, 1) := by decide +kernel
theorem dJ0_checkIndex_df160_9 : decode cJ0_checkIndex_df160 9 = .ok (.return_, 1) := by decide +kernel
theorem dJ1_charAt_3b067_0 : decode cJ1_charAt_3b067 0 = .ok (.iload_n 1, 1) := by decide +kernel
theorem dJ1_charAt_3b067_1 : decode cJ1_charAt_3b067 1 = .ok (.aload_n 0, 1) := by decide +kernel
theorem dJ1_charAt_3b067_2 : decode cJ1_charAt_3b067 2 = .ok (.arraylength, 1) := by decide +kernel
theorem dJ1_charAt_3b067_3 : decode cJ1_charAt_3b067 3 = .ok (.invokestatic 9, 3) := by decide +kernel
theorem dJ1_charAt_3b067_6 : decode cJ1_charAt_3b067 6 = .ok (.aload_n 0, 1) := by decide +kernel
theorem dJ1_charAt_3b067_7 : decode cJ1_charAt_3b067 7 = .ok (.iload_n 1, 1) := by decide +kernel
theorem dJ1_charAt_3b067_8 : decode cJ1_charAt_3b067 8 = .ok (.baload, 1) := by decide +kernel
theorem dJ1_charAt_3b067_9 : decode cJ1_charAt_3b067 9 = .ok (.sipush 255, 3) := by decide +kernel
theorem dJ1_charAt_3b067_12 : decode cJ1_charAt_3b067 12 = .ok (.iand, 1) := by decide +kernel
theorem dJ1_charAt_3b067_13 : decode cJ1_charAt_3b067 13 = .ok (.i2c, 1) := by decide +kernel
theorem dJ1_charAt_3b067_14 : decode cJ1_charAt_3b067 14 = .ok (.ireturn, 1) := by decide +kernel
theorem dJ3_checkIndex_8e157_0 : decode cJ3_checkIndex_8e157 0 = .ok (.iload_n 0, 1) := by decide +kernel
theorem dJ3_checkIndex_8e157_1 : decode cJ3_checkIndex_8e157 1 = .ok (.ifCond .lt 8, 3) := by decide +kernel
theorem dJ3_checkIndex_8e157_4 : decode cJ3_checkIndex_8e157 4 = .ok (.iload_n 0, 1) := by decide +kernel
theorem dJ3_checkIndex_8e157_5 : decode cJ3_checkIndex_8e157 5 = .ok (.iload_n 1, 1) := by decide +kernel
theorem dJ3_checkIndex_8e157_6 : decode cJ3_checkIndex_8e157 6 = .ok (.if_icmp .lt 10, 3) := by decide +kernel
theorem dJ3_checkIndex_8e157_9 : decode cJ3_checkIndex_8e157 9 = .ok (.aload_n 2, 1) := by decide +kernel
theorem dJ3_checkIndex_8e157_10 : decode cJ3_checkIndex_8e157 10 = .ok (.iload_n 0, 1) := by decide +kernel
theorem dJ3_checkIndex_8e157_11 : decode cJ3_checkIndex_8e157 11 = .ok (.iload_n 1, 1) := by decide +kernel
theorem dJ3_checkIndex_8e157_12 : decode cJ3_checkIndex_8e157 12 = .ok (.invokestatic 95, 3) := by decide +kernel
theorem dJ3_checkIndex_8e157_15 : decode cJ3_checkIndex_8e157 15 = .ok (.athrow, 1) := by decide +kernel
theorem dJ3_checkIndex_8e157_16 : decode cJ3_checkIndex_8e157 16 = .ok (.iload_n 0, 1) := by decide +kernel
theorem dJ3_checkIndex_8e157_17 : decode cJ3_checkIndex_8e157 17 = .ok (.ireturn, 1) := by decide +kernel

section ROG
variable {l : Launch} {y : MethodName} {cc : ByteArray} {maxL : Nat} {rm : Room} {av : List Value} {g : GT} {WS : va_W} {ty : FieldType}
theorem ro_metg {o : Int32} (hy : plainName y.cls = true) (hlen : (lg_sl av).length ≤ maxL) {lv0 : List (Nat × Value)} (hlv : lv_args 0 av = lv0)
    (body : ∀ (p : Program) (e : Env) (s : State) (m : MethodId) (args : Array Value) (below : List Frame) (meth : Method) (c : Code) (ls : Array Slot) (Q : State → Prop), CallFix p m c cc maxL s args Tw y.cls → (∀ (pc : Nat) (ls : Array Slot) (v : Int32), decode cc pc = .ok (.ireturn, 1) → narrow ty (.int v) = .int v → v = o → W p l e rm s m args below meth c s.heap [] 0 0 Q (F0 m pc ls [.int v])) → GE g s s.heap → va_P g.2.1 vwCl WS s.heap → lv_has ls maxL lv0 → W p l e rm s m args below meth c s.heap [] 0 0 Q (F0 m 0 ls [])) :
    Met l y (Cond.code y cc maxL (some ty) :: Tw) rm (va_Pc av (roB g WS)) (vp_Si (fun x => x = o)) 0 0 (fun _ => False) := by
  refine Met.ofW (cc := cc) (maxL := maxL) (ret := some ty) hy rfl ?_
  intro p e s m args below meth c s₁ B hml hv
  obtain ⟨rfl, hG, hP⟩ := hv
  have hl := lv_entry av (n := maxL) hlen
  rw [lg_entry_eq]
  rw [hlv] at hl
  exact body p e s m _ below meth c _ _ ⟨B.exec, B.bytes, hml, findClass_of_methodNamed B.named, fun w hw => atoms_spec (ws := Cond.code y cc maxL (some ty) :: Tw) B.pre w (List.mem_cons_of_mem _ hw)⟩ (fun pc ls v hdg hn h => W.zret (ty := ty) B.exec B.bytes B.returns hn (fun t ht hW => ⟨v, rfl, h, ht⟩) (fun q hq => absurd hq List.not_mem_nil) hdg B.notSynchronized) hG hP hl
theorem ro_metu (hy : plainName y.cls = true) (hlen : (lg_sl av).length ≤ maxL) {lv0 : List (Nat × Value)} (hlv : lv_args 0 av = lv0)
    (body : ∀ (p : Program) (e : Env) (s : State) (m : MethodId) (args : Array Value) (below : List Frame) (meth : Method) (c : Code) (ls : Array Slot) (Q : State → Prop), CallFix p m c cc maxL s args Tw y.cls → (∀ (pc : Nat) (ls : Array Slot), decode cc pc = .ok (.return_, 1) → W p l e rm s m args below meth c s.heap [] 0 0 Q (F0 m pc ls [])) → GE g s s.heap → va_P g.2.1 vwCl WS s.heap → lv_has ls maxL lv0 → W p l e rm s m args below meth c s.heap [] 0 0 Q (F0 m 0 ls [])) :
    Met l y (Cond.code y cc maxL none :: Tw) rm (va_Pc av (roB g WS)) (va_Sv (fun _ => True)) 0 0 (fun _ => False) := by
  refine Met.ofW (cc := cc) (maxL := maxL) (ret := none) hy rfl ?_
  intro p e s m args below meth c s₁ B hml hv
  obtain ⟨rfl, hG, hP⟩ := hv
  have hl := lv_entry av (n := maxL) hlen
  rw [lg_entry_eq]
  rw [hlv] at hl
  exact body p e s m _ below meth c _ _ ⟨B.exec, B.bytes, hml, findClass_of_methodNamed B.named, fun w hw => atoms_spec (ws := Cond.code y cc maxL none :: Tw) B.pre w (List.mem_cons_of_mem _ hw)⟩ (fun pc ls hdg => W.vret B.exec B.bytes B.returns (fun t ht hW => ⟨rfl, trivial, ht⟩) (fun q hq => absurd hq List.not_mem_nil) hdg B.notSynchronized) hG hP hl
end ROG
section ROV
variable {p : Program} {l : Launch} {e : Env} {R : Room} {s : State} {m : MethodId} {args : Array Value} {below : List Frame} {meth : Method} {c : Code} {H : Heap} {locs : List Loc} {cells slots : Nat} {Q : State → Prop} {pc : Nat} {ls : Array Slot} {rest st0 : List Value} {g : GT} {As : List Value}
theorem ro_v {a : Array Value} (hr : va_Run p l e R s m args below meth c H locs cells slots 0 0 (F0 m pc ls st0) rest (va_Sv (fun _ => True) a) (fun _ => False)) (kk : W p l e R s m args below meth c H locs cells slots Q (F0 m (pc + 3) ls rest)) : W p l e R s m args below meth c H locs cells slots Q (F0 m pc ls st0) := by
  intro T hT X
  obtain ⟨v, st₀, t, T', L, h0, X', hL, e1, -, ⟨hv, hp, hh⟩, st⟩ := hr T hT X
  cases hv
  obtain ⟨t2, a1, b1⟩ := kk T' (by rw [e1, hh, h0]) (Stand.forget X' (fun q h => (hL q h).elim))
  exact ⟨t2, st t2 a1, b1⟩
theorem xt_pre {j : Nat} (hG : GE g s H) (hj : j < 13) : PreV s H "java/lang/String" (g.2.2.2.2.1 j) (va_Pc (.ref (g.2.2.2.2.1 j) :: As) (roB g [])) As := by
  refine ⟨roB_blind, ?_, fun U hU hW => ⟨rfl, by rw [hU]; exact GE.warm hW hG, fun k q hk => by simp at hk⟩⟩
  obtain ⟨cell, h1, h2, h3, -⟩ := (hG.2.2.2.2.2.1.1 j hj).1
  exact ⟨cell, h1, h2, h3⟩
theorem xt_preS (hG : GE g s H) : PreS s H (va_Pc As (roB g [])) As := ⟨roB_blind, fun U hU hW => ⟨rfl, by rw [hU]; exact GE.warm hW hG, fun k q hk => by simp at hk⟩⟩
end ROV
theorem str_ok : ∀ j, j < 13 → (strN.getD j 0 = (strB.getD j []).length ∧ strN.getD j 0 < 10 ∧ ∀ k, k < 10 → (((strB.getD j []).getD k 0 &&& 255).toUInt32 % 65536).toInt32 = (strB.getD j []).getD k 0 ∧ narrow .char (.int ((strB.getD j []).getD k 0)) = .int ((strB.getD j []).getD k 0)) := by decide +kernel
theorem shr0 : ∀ k, k < 10 → nI k >>> ((0 : Int32) &&& 31) = nI k := by decide +kernel
set_option maxRecDepth 100000 in
theorem ctJ0_coder_7d493 (l : Launch) (g : GT) (j : Nat) (hj : j < 13) : Met l yJ0_coder_7d493 (Cond.code yJ0_coder_7d493 cJ0_coder_7d493 1 (some .byte) :: Tw) ⟨0, 0, 0, 0⟩ (va_Pc [.ref (g.2.2.2.2.1 j)] (roB g [])) (vp_Si (fun x => x = 0)) 0 0 (fun _ => False) := by
  refine ro_metg (by decide) (Nat.le_of_ble_eq_true rfl) (lv0 := [(0, .ref (g.2.2.2.2.1 j))]) rfl ?_
  intro p e s m args below meth c ls Q cx hret hG hP hl
  have hx := cx.1
  have hb := cx.2.1
  refine va_gets hx hb hG.2.2.2.2.2.2.2.1 va_S.rf cx.2.2.2.1 (cx.2.2.2.2 _ lf_J0_38) (fun _ h => h) dJ0_coder_7d493_0 ?_
  refine lv_if_eq (tgt := 13) hx hb dJ0_coder_7d493_3 (by decide) (fun c1 => absurd c1 (by decide)) (fun _ => ?_)
  refine lv_aload_n hx hb dJ0_coder_7d493_6 rfl (lv_at hl 0 rfl) ?_
  refine vk_getf hx hb (hG.2.2.2.2.2.1.1 j hj).2.1 va_S.rf cx.2.2.2.1 (cx.2.2.2.2 _ lf_J0_15) (fun _ h => h) dJ0_coder_7d493_7 ?_
  refine lv_goto (tgt := 14) hx hb dJ0_coder_7d493_10 (by decide) ?_
  exact hret _ _ _ dJ0_coder_7d493_14 rfl rfl
set_option maxRecDepth 100000 in
theorem ctJ0_isLatin1_aae02 (l : Launch) (g : GT) (j : Nat) (hj : j < 13) : Met l yJ0_isLatin1_aae02 (Cond.code yJ0_isLatin1_aae02 cJ0_isLatin1_aae02 1 (some .boolean) :: Tw) ⟨0, 0, 0, 0⟩ (va_Pc [.ref (g.2.2.2.2.1 j)] (roB g [])) (vp_Si (fun x => x = 1)) 0 0 (fun _ => False) := by
  refine ro_metg (by decide) (Nat.le_of_ble_eq_true rfl) (lv0 := [(0, .ref (g.2.2.2.2.1 j))]) rfl ?_
  intro p e s m args below meth c ls Q cx hret hG hP hl
  have hx := cx.1
  have hb := cx.2.1
  refine va_gets hx hb hG.2.2.2.2.2.2.2.1 va_S.rf cx.2.2.2.1 (cx.2.2.2.2 _ lf_J0_38) (fun _ h => h) dJ0_isLatin1_aae02_0 ?_
  refine lv_if_eq (tgt := 17) hx hb dJ0_isLatin1_aae02_3 (by decide) (fun c1 => absurd c1 (by decide)) (fun _ => ?_)
  refine lv_aload_n hx hb dJ0_isLatin1_aae02_6 rfl (lv_at hl 0 rfl) ?_
  refine vk_getf hx hb (hG.2.2.2.2.2.1.1 j hj).2.1 va_S.rf cx.2.2.2.1 (cx.2.2.2.2 _ lf_J0_15) (fun _ h => h) dJ0_isLatin1_aae02_7 ?_
  refine lv_if_ne (tgt := 17) hx hb dJ0_isLatin1_aae02_10 (by decide) (fun c1 => absurd rfl c1) (fun _ => ?_)
  refine lv_iconst (v := 1) hx hb dJ0_isLatin1_aae02_13 (by decide) ?_
  refine lv_goto (tgt := 18) hx hb dJ0_isLatin1_aae02_14 (by decide) ?_
  exact hret _ _ _ dJ0_isLatin1_aae02_18 rfl rfl
set_option maxRecDepth 100000 in
theorem ctJ0_length_8abf5 (l : Launch) (g : GT) (j : Nat) (hj : j < 13) : Met l yJ0_length_8abf5 (Cond.code yJ0_length_8abf5 cJ0_length_8abf5 1 (some .int) :: Tw) ⟨1, 0, 0, 20⟩ (va_Pc [.ref (g.2.2.2.2.1 j)] (roB g [])) (vp_Si (fun x => x = nI (strN.getD j 0))) 0 0 (fun _ => False) := by
  refine ro_meti (by decide) (Nat.le_of_ble_eq_true rfl) (lv0 := [(0, .ref (g.2.2.2.2.1 j))]) rfl ?_
  intro p e s m args below meth c ls Q cx hret hG hP hl
  have hx := cx.1
  have hb := cx.2.1
  refine lv_aload_n hx hb dJ0_length_8abf5_0 rfl (lv_at hl 0 rfl) ?_
  refine vk_getf hx hb (hG.2.2.2.2.2.1.1 j hj).2.2.1 va_S.rf cx.2.2.2.1 (cx.2.2.2.2 _ lf_J0_9) (fun _ h => h) dJ0_length_8abf5_1 ?_
  refine va_tlen hx hb (hG.2.2.2.2.2.1.1 j hj).2.2.2 va_S.rf (v := nI (strN.getD j 0)) rfl dJ0_length_8abf5_4 ?_
  refine lv_aload_n hx hb dJ0_length_8abf5_5 rfl (lv_at hl 0 rfl) ?_
  refine ro_i (runV (As := []) (rest := [.int (nI (strN.getD j 0))]) cx hl.1 (ctJ0_coder_7d493 l g j hj) kmJ0_coder_7d493 kvJ0_coder_7d493 lm_J0_335 ⟨rfl, rfl⟩ ⟨Nat.le_of_ble_eq_true rfl, Nat.le_of_ble_eq_true rfl⟩ (xt_pre hG hj) rfl rfl (Nat.le_of_ble_eq_true rfl) dJ0_length_8abf5_6 ⟨Nat.le_of_ble_eq_true rfl, Nat.le_of_ble_eq_true rfl⟩) ?_
  refine lv_ishr hx hb dJ0_length_8abf5_9 ?_
  exact hret _ _ _ dJ0_length_8abf5_10 (shr0 _ (str_ok j hj).2.1)
set_option maxRecDepth 100000 in
theorem ctJ3_checkIndex_8e157 (l : Launch) (g : GT) (i n : Int32) (r : Option Nat) (h1 : ¬ i < 0) (h2 : i < n) : Met l yJ3_checkIndex_8e157 (Cond.code yJ3_checkIndex_8e157 cJ3_checkIndex_8e157 3 (some .int) :: Tw) ⟨0, 0, 0, 0⟩ (va_Pc [.int i, .int n, va_rf r] (roB g [])) (vp_Si (fun x => x = i)) 0 0 (fun _ => False) := by
  refine ro_meti (by decide) (by cases r <;> exact Nat.le_of_ble_eq_true rfl) (lv0 := [(0, .int i), (1, .int n), (2, va_rf r)]) (by cases r <;> rfl) ?_
  intro p e s m args below meth c ls Q cx hret hG hP hl
  have hx := cx.1
  have hb := cx.2.1
  refine lv_iload_n hx hb dJ3_checkIndex_8e157_0 rfl (lv_at hl 0 rfl) ?_
  refine lv_if_lt (tgt := 9) hx hb dJ3_checkIndex_8e157_1 (by decide) (fun c1 => absurd c1 h1) (fun _ => ?_)
  refine lv_iload_n hx hb dJ3_checkIndex_8e157_4 rfl (lv_at hl 0 rfl) ?_
  refine lv_iload_n hx hb dJ3_checkIndex_8e157_5 rfl (lv_at hl 1 rfl) ?_
  refine lv_icmp_lt (tgt := 16) hx hb dJ3_checkIndex_8e157_6 (by decide) (fun _ => ?_) (fun c1 => absurd h2 c1)
  refine lv_iload_n hx hb dJ3_checkIndex_8e157_16 rfl (lv_at hl 0 rfl) ?_
  exact hret _ _ _ dJ3_checkIndex_8e157_17 rfl
set_option maxRecDepth 100000 in
theorem ctJ0_checkIndex_df160 (l : Launch) (g : GT) (i n : Int32) (h1 : ¬ i < 0) (h2 : i < n) : Met l yJ0_checkIndex_df160 (Cond.code yJ0_checkIndex_df160 cJ0_checkIndex_df160 2 none :: Tw) ⟨1, 0, 0, 22⟩ (va_Pc [.int i, .int n] (roB g [])) (va_Sv (fun _ => True)) 0 0 (fun _ => False) := by
  refine ro_metu (by decide) (Nat.le_of_ble_eq_true rfl) (lv0 := [(0, .int i), (1, .int n)]) rfl ?_
  intro p e s m args below meth c ls Q cx hret hG hP hl
  have hx := cx.1
  have hb := cx.2.1
  refine lv_iload_n hx hb dJ0_checkIndex_df160_0 rfl (lv_at hl 0 rfl) ?_
  refine lv_iload_n hx hb dJ0_checkIndex_df160_1 rfl (lv_at hl 1 rfl) ?_
  obtain ⟨r, hZ⟩ : ∃ r : Option Nat, va_Z "jdk/internal/util/Preconditions" "SIOOBE_FORMATTER" "Ljava/util/function/BiFunction;" (va_rf r) (fun a => g.1 ≤ a) s s.heap := by
    rcases hG.2.2.2.2.2.2.2.2.1 with h | ⟨t, h⟩
    · exact ⟨none, h⟩
    · exact ⟨some t, h⟩
  refine va_gets hx hb hZ va_S.rf cx.2.2.2.1 (cx.2.2.2.2 _ lf_J0_1053) (fun _ h => h) dJ0_checkIndex_df160_2 ?_
  refine ro_i (runS (As := [.int i, .int n, va_rf r]) (rest := []) cx hl.1 (ctJ3_checkIndex_8e157 l g i n r h1 h2) kmJ3_checkIndex_8e157 ksJ3_checkIndex_8e157 lm_J0_1059 ⟨rfl, rfl⟩ ⟨Nat.le_of_ble_eq_true rfl, Nat.le_of_ble_eq_true rfl⟩ (xt_preS hG) rfl rfl (Nat.le_of_ble_eq_true rfl) dJ0_checkIndex_df160_5 ⟨Nat.le_of_ble_eq_true rfl, Nat.le_of_ble_eq_true rfl⟩) ?_
  refine lv_pop hx hb dJ0_checkIndex_df160_8 rfl ?_
  exact hret _ _ dJ0_checkIndex_df160_9
set_option maxRecDepth 100000 in
theorem ctJ1_charAt_3b067 (l : Launch) (g : GT) (j : Nat) (hj : j < 13) (i : Int32) (hi : vp_in i (strN.getD j 0)) : Met l yJ1_charAt_3b067 (Cond.code yJ1_charAt_3b067 cJ1_charAt_3b067 2 (some .char) :: Tw) ⟨2, 0, 0, 43⟩ (va_Pc [.ref (g.2.2.2.2.2 j), .int i] (roB g [])) (vp_Si (fun x => x = (strB.getD j []).getD i.toNatClampNeg 0)) 0 0 (fun _ => False) := by
  refine ro_metg (by decide) (Nat.le_of_ble_eq_true rfl) (lv0 := [(0, .ref (g.2.2.2.2.2 j)), (1, .int i)]) rfl ?_
  intro p e s m args below meth c ls Q cx hret hG hP hl
  have hx := cx.1
  have hb := cx.2.1
  obtain ⟨hs1, hs2, hs3⟩ := str_ok j hj
  obtain ⟨k, hk, rfl⟩ := vp_in_of hi (by omega)
  have hkc : (nI k).toNatClampNeg = k := nI_clamp (by omega)
  refine lv_iload_n hx hb dJ1_charAt_3b067_0 rfl (lv_at hl 1 rfl) ?_
  refine lv_aload_n hx hb dJ1_charAt_3b067_1 rfl (lv_at hl 0 rfl) ?_
  refine va_tlen hx hb (hG.2.2.2.2.2.1.1 j hj).2.2.2 va_S.rf (v := nI (strN.getD j 0)) rfl dJ1_charAt_3b067_2 ?_
  refine ro_v (runS (As := [.int (nI k), .int (nI (strN.getD j 0))]) (rest := []) cx hl.1 (ctJ0_checkIndex_df160 l g (nI k) (nI (strN.getD j 0)) (nI_pos (by omega)) (nI_lt hk (by omega))) kmJ0_checkIndex_df160 ksJ0_checkIndex_df160 lm_J1_9 ⟨rfl, rfl⟩ ⟨Nat.le_of_ble_eq_true rfl, Nat.le_of_ble_eq_true rfl⟩ (xt_preS hG) rfl rfl (Nat.le_of_ble_eq_true rfl) dJ1_charAt_3b067_3 ⟨Nat.le_of_ble_eq_true rfl, Nat.le_of_ble_eq_true rfl⟩) ?_
  refine lv_aload_n hx hb dJ1_charAt_3b067_6 rfl (lv_at hl 0 rfl) ?_
  refine lv_iload_n hx hb dJ1_charAt_3b067_7 rfl (lv_at hl 1 rfl) ?_
  refine va_tb hx hb (hG.2.2.2.2.2.1.1 j hj).2.2.2 va_S.rf hi (v := .int ((strB.getD j []).getD k 0)) (by rw [hkc]) dJ1_charAt_3b067_8 ?_
  refine lv_sipush (v := 255) hx hb dJ1_charAt_3b067_9 (by decide) ?_
  refine lv_iand hx hb dJ1_charAt_3b067_12 ?_
  refine lv_i2c (v := (strB.getD j []).getD k 0) hx hb dJ1_charAt_3b067_13 (hs3 k (by omega)).1 ?_
  exact hret _ _ _ dJ1_charAt_3b067_14 (hs3 k (by omega)).2 (by rw [hkc])
set_option maxRecDepth 100000 in
theorem ctJ0_charAt_5068e (l : Launch) (g : GT) (j : Nat) (hj : j < 13) (i : Int32) (hi : vp_in i (strN.getD j 0)) : Met l yJ0_charAt_5068e (Cond.code yJ0_charAt_5068e cJ0_charAt_5068e 2 (some .char) :: Tw) ⟨3, 0, 0, 64⟩ (va_Pc [.ref (g.2.2.2.2.1 j), .int i] (roB g [])) (vp_Si (fun x => x = (strB.getD j []).getD i.toNatClampNeg 0)) 0 0 (fun _ => False) := by
  refine ro_metg (by decide) (Nat.le_of_ble_eq_true rfl) (lv0 := [(0, .ref (g.2.2.2.2.1 j)), (1, .int i)]) rfl ?_
  intro p e s m args below meth c ls Q cx hret hG hP hl
  have hx := cx.1
  have hb := cx.2.1
  obtain ⟨hs1, hs2, hs3⟩ := str_ok j hj
  obtain ⟨k, hk, hik⟩ := vp_in_of hi (by omega)
  have hkc : i.toNatClampNeg = k := by rw [hik]; exact nI_clamp (by omega)
  refine lv_aload_n hx hb dJ0_charAt_5068e_0 rfl (lv_at hl 0 rfl) ?_
  refine ro_i (runV (As := []) (rest := []) cx hl.1 (ctJ0_isLatin1_aae02 l g j hj) kmJ0_isLatin1_aae02 kvJ0_isLatin1_aae02 lm_J0_492 ⟨rfl, rfl⟩ ⟨Nat.le_of_ble_eq_true rfl, Nat.le_of_ble_eq_true rfl⟩ (xt_pre hG hj) rfl rfl (Nat.le_of_ble_eq_true rfl) dJ0_charAt_5068e_1 ⟨Nat.le_of_ble_eq_true rfl, Nat.le_of_ble_eq_true rfl⟩) ?_
  refine lv_if_eq (tgt := 16) hx hb dJ0_charAt_5068e_4 (by decide) (fun c1 => absurd c1 (by decide)) (fun _ => ?_)
  refine lv_aload_n hx hb dJ0_charAt_5068e_7 rfl (lv_at hl 0 rfl) ?_
  refine vk_getf hx hb (hG.2.2.2.2.2.1.1 j hj).2.2.1 va_S.rf cx.2.2.2.1 (cx.2.2.2.2 _ lf_J0_9) (fun _ h => h) dJ0_charAt_5068e_8 ?_
  refine lv_iload_n hx hb dJ0_charAt_5068e_11 rfl (lv_at hl 1 rfl) ?_
  refine ro_i (runS (As := [.ref (g.2.2.2.2.2 j), .int i]) (rest := []) cx hl.1 (ctJ1_charAt_3b067 l g j hj i hi) kmJ1_charAt_3b067 ksJ1_charAt_3b067 lm_J0_495 ⟨rfl, rfl⟩ ⟨Nat.le_of_ble_eq_true rfl, Nat.le_of_ble_eq_true rfl⟩ (xt_preS hG) rfl rfl (Nat.le_of_ble_eq_true rfl) dJ0_charAt_5068e_12 ⟨Nat.le_of_ble_eq_true rfl, Nat.le_of_ble_eq_true rfl⟩) ?_
  exact hret _ _ _ dJ0_charAt_5068e_15 (by rw [hkc]; exact (hs3 k (by omega)).2) rfl
