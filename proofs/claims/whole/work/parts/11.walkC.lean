-- X1_allPlies
theorem dX1_allPlies_0 : decode cX1_allPlies 0 = .ok (.iconst 1, 1) := by decide +kernel
theorem dX1_allPlies_1 : decode cX1_allPlies 1 = .ok (.aload_n 0, 1) := by decide +kernel
theorem dX1_allPlies_2 : decode cX1_allPlies 2 = .ok (.invokevirtual 51, 3) := by decide +kernel
theorem dX1_allPlies_5 : decode cX1_allPlies 5 = .ok (.ishl, 1) := by decide +kernel
theorem dX1_allPlies_6 : decode cX1_allPlies 6 = .ok (.iconst 1, 1) := by decide +kernel
theorem dX1_allPlies_7 : decode cX1_allPlies 7 = .ok (.isub, 1) := by decide +kernel
theorem dX1_allPlies_8 : decode cX1_allPlies 8 = .ok (.ireturn, 1) := by decide +kernel
noncomputable def fX1_allPlies  (t_sizes : Nat → Int32) (t_acts : Int32) : Option (Int32) := (fX1_plies t_sizes t_acts).bind fun r1 => some ((1 <<< (r1 &&& 31)) - 1)
set_option maxHeartbeats 4000000 in
set_option maxRecDepth 100000 in
theorem ctX1_allPlies (l : Launch) (g : GT) (a_t : Nat → Nat) (t_told : Int32) (t_lines : Int32) (t_kinds : Int32) (t_acts : Int32) (t_sizes : Nat → Int32) (o : Int32) (h : fX1_allPlies t_sizes t_acts = some o) : Met l yX1_allPlies (Cond.code yX1_allPlies cX1_allPlies 1 (some .int) :: Tw) ⟨1, 0, 0, 20⟩ (va_Pc [.ref ((a_t 0))] (roB g [((a_t 0), .inr (1, [.ref (a_t 1), .ref (a_t 2), .ref (a_t 3), .ref (a_t 4), .ref (a_t 5), .int t_told, .int t_lines, .int t_kinds, .int t_acts])), ((a_t 4), .inl (g.2.2.1 0, 31, .inl t_sizes))])) (vp_Si (fun x => x = o)) 0 0 (fun _ => False) := by
  refine ro_meti (by decide) (Nat.le_of_ble_eq_true rfl) (lv0 := [(0, .ref ((a_t 0)))]) rfl ?_
  intro p e s m args below meth c ls Q cx hret hG hP hl
  have hx := cx.1
  have hb := cx.2.1
  have hG0 := hG
  unfold fX1_allPlies at h
  refine lv_iconst (v := 1) hx hb dX1_allPlies_0 (by decide) ?_
  refine lv_aload_n hx hb dX1_allPlies_1 rfl (lv_at hl 0 rfl) ?_
  obtain ⟨r1, hr2, h⟩ := bnd h
  refine ro_i (runV (As := []) (rest := [.int (1)]) cx hl.1 (ctX1_plies l g a_t t_told t_lines t_kinds t_acts t_sizes r1 hr2) kmX1_plies kvX1_plies lm_X1_51 ⟨rfl, rfl⟩ ⟨Nat.le_of_ble_eq_true rfl, Nat.le_of_ble_eq_true rfl⟩ (roV (q0 := 0) (ci := 1) hG (hP.sub [0, 1] rfl) hP rfl rfl) rfl rfl (Nat.le_of_ble_eq_true rfl) dX1_allPlies_2 ⟨Nat.le_of_ble_eq_true rfl, Nat.le_of_ble_eq_true rfl⟩) ?_
  refine lv_ishl hx hb dX1_allPlies_5 ?_
  refine lv_iconst (v := 1) hx hb dX1_allPlies_6 (by decide) ?_
  refine lv_isub hx hb dX1_allPlies_7 ?_
  exact hret _ _ _ dX1_allPlies_8 (Option.some.inj h)
-- X1_typeAt
theorem dX1_typeAt_0 : decode cX1_typeAt 0 = .ok (.aload_n 0, 1) := by decide +kernel
theorem dX1_typeAt_1 : decode cX1_typeAt 1 = .ok (.invokevirtual 55, 3) := by decide +kernel
theorem dX1_typeAt_4 : decode cX1_typeAt 4 = .ok (.iload_n 1, 1) := by decide +kernel
theorem dX1_typeAt_5 : decode cX1_typeAt 5 = .ok (.invokestatic 58, 3) := by decide +kernel
theorem dX1_typeAt_8 : decode cX1_typeAt 8 = .ok (.ireturn, 1) := by decide +kernel
noncomputable def fX1_typeAt  (t_rows : Nat → Int32) (t_acts : Int32) (v1 : Int32) : Option (Int32) := (fX1_row t_rows t_acts).bind fun r1 => some (fX3_typeAt r1 v1)
set_option maxHeartbeats 4000000 in
set_option maxRecDepth 100000 in
theorem ctX1_typeAt (l : Launch) (g : GT) (a_t : Nat → Nat) (t_told : Int32) (t_lines : Int32) (t_kinds : Int32) (t_acts : Int32) (t_rows : Nat → Int32) (v1 : Int32) (o : Int32) (h : fX1_typeAt t_rows t_acts v1 = some o) : Met l yX1_typeAt (Cond.code yX1_typeAt cX1_typeAt 2 (some .int) :: Tw) ⟨1, 0, 0, 21⟩ (va_Pc [.ref ((a_t 0)), .int v1] (roB g [((a_t 0), .inr (1, [.ref (a_t 1), .ref (a_t 2), .ref (a_t 3), .ref (a_t 4), .ref (a_t 5), .int t_told, .int t_lines, .int t_kinds, .int t_acts])), ((a_t 3), .inl (g.2.2.1 0, 31, .inl t_rows))])) (vp_Si (fun x => x = o)) 0 0 (fun _ => False) := by
  refine ro_meti (by decide) (Nat.le_of_ble_eq_true rfl) (lv0 := [(0, .ref ((a_t 0))), (1, .int v1)]) rfl ?_
  intro p e s m args below meth c ls Q cx hret hG hP hl
  have hx := cx.1
  have hb := cx.2.1
  have hG0 := hG
  unfold fX1_typeAt at h
  refine lv_aload_n hx hb dX1_typeAt_0 rfl (lv_at hl 0 rfl) ?_
  obtain ⟨r1, hr2, h⟩ := bnd h
  refine ro_i (runV (As := []) (rest := []) cx hl.1 (ctX1_row l g a_t t_told t_lines t_kinds t_acts t_rows r1 hr2) kmX1_row kvX1_row lm_X1_55 ⟨rfl, rfl⟩ ⟨Nat.le_of_ble_eq_true rfl, Nat.le_of_ble_eq_true rfl⟩ (roV (q0 := 0) (ci := 1) hG (hP.sub [0, 1] rfl) hP rfl rfl) rfl rfl (Nat.le_of_ble_eq_true rfl) dX1_typeAt_1 ⟨Nat.le_of_ble_eq_true rfl, Nat.le_of_ble_eq_true rfl⟩) ?_
  refine lv_iload_n hx hb dX1_typeAt_4 rfl (lv_at hl 1 rfl) ?_
  refine ro_i (runSN (As := [.int r1, .int v1]) (rest := []) hG cx hl.1 (ctX3_typeAt l g r1 v1 (fX3_typeAt r1 v1) rfl) kmX3_typeAt ksX3_typeAt nm_22 ⟨rfl, rfl⟩ ⟨Nat.le_of_ble_eq_true rfl, Nat.le_of_ble_eq_true rfl⟩ (roS hG (hP.sub [] rfl)) rfl rfl (Nat.le_of_ble_eq_true rfl) dX1_typeAt_5 ⟨Nat.le_of_ble_eq_true rfl, Nat.le_of_ble_eq_true rfl⟩) ?_
  exact hret _ _ _ dX1_typeAt_8 (Option.some.inj h)
-- X1_number
theorem dX1_number_0 : decode cX1_number 0 = .ok (.iload_n 1, 1) := by decide +kernel
theorem dX1_number_1 : decode cX1_number 1 = .ok (.ifCond .lt 17, 3) := by decide +kernel
theorem dX1_number_4 : decode cX1_number 4 = .ok (.iload_n 1, 1) := by decide +kernel
theorem dX1_number_5 : decode cX1_number 5 = .ok (.iconst 3, 1) := by decide +kernel
theorem dX1_number_6 : decode cX1_number 6 = .ok (.if_icmp .ge 12, 3) := by decide +kernel
theorem dX1_number_9 : decode cX1_number 9 = .ok (.iload_n 2, 1) := by decide +kernel
theorem dX1_number_10 : decode cX1_number 10 = .ok (.ifCond .lt 8, 3) := by decide +kernel
theorem dX1_number_13 : decode cX1_number 13 = .ok (.iload_n 2, 1) := by decide +kernel
theorem dX1_number_14 : decode cX1_number 14 = .ok (.iconst 4, 1) := by decide +kernel
theorem dX1_number_15 : decode cX1_number 15 = .ok (.if_icmp .le 7, 3) := by decide +kernel
theorem dX1_number_18 : decode cX1_number 18 = .ok (.iconst 0, 1) := by decide +kernel
theorem dX1_number_19 : decode cX1_number 19 = .ok (.goto 13, 3) := by decide +kernel
theorem dX1_number_22 : decode cX1_number 22 = .ok (.aload_n 0, 1) := by decide +kernel
theorem dX1_number_23 : decode cX1_number 23 = .ok (.getfield 9, 3) := by decide +kernel
theorem dX1_number_26 : decode cX1_number 26 = .ok (.iconst 5, 1) := by decide +kernel
theorem dX1_number_27 : decode cX1_number 27 = .ok (.iload_n 1, 1) := by decide +kernel
theorem dX1_number_28 : decode cX1_number 28 = .ok (.imul, 1) := by decide +kernel
theorem dX1_number_29 : decode cX1_number 29 = .ok (.iload_n 2, 1) := by decide +kernel
theorem dX1_number_30 : decode cX1_number 30 = .ok (.iadd, 1) := by decide +kernel
theorem dX1_number_31 : decode cX1_number 31 = .ok (.iaload, 1) := by decide +kernel
theorem dX1_number_32 : decode cX1_number 32 = .ok (.ireturn, 1) := by decide +kernel
noncomputable def fX1_number  (t_numbers : Nat → Int32) (v1 : Int32) (v2 : Int32) : Option (Int32) := (if v1 < 0 then some (0) else (if 3 ≤ v1 then some (0) else (if v2 < 0 then some (0) else (if v2 ≤ 4 then chk 15 ((5 * v1) + v2) (some (t_numbers ((5 * v1) + v2).toNatClampNeg)) else some (0)))))
set_option maxHeartbeats 4000000 in
set_option maxRecDepth 100000 in
theorem ctX1_number (l : Launch) (g : GT) (a_t : Nat → Nat) (t_told : Int32) (t_lines : Int32) (t_kinds : Int32) (t_acts : Int32) (t_numbers : Nat → Int32) (v1 : Int32) (v2 : Int32) (o : Int32) (h : fX1_number t_numbers v1 v2 = some o) : Met l yX1_number (Cond.code yX1_number cX1_number 3 (some .int) :: Tw) ⟨0, 0, 0, 0⟩ (va_Pc [.ref ((a_t 0)), .int v1, .int v2] (roB g [((a_t 0), .inr (1, [.ref (a_t 1), .ref (a_t 2), .ref (a_t 3), .ref (a_t 4), .ref (a_t 5), .int t_told, .int t_lines, .int t_kinds, .int t_acts])), ((a_t 1), .inl (g.2.2.1 0, 15, .inl t_numbers))])) (vp_Si (fun x => x = o)) 0 0 (fun _ => False) := by
  refine ro_meti (by decide) (Nat.le_of_ble_eq_true rfl) (lv0 := [(0, .ref ((a_t 0))), (1, .int v1), (2, .int v2)]) rfl ?_
  intro p e s m args below meth c ls Q cx hret hG hP hl
  have hx := cx.1
  have hb := cx.2.1
  have hG0 := hG
  unfold fX1_number at h
  refine lv_iload_n hx hb dX1_number_0 rfl (lv_at hl 1 rfl) ?_
  refine lv_if_lt (tgt := 18) hx hb dX1_number_1 (by decide) (fun c1 => ?_) (fun c1 => ?_)
  · have h := itp c1 h
    refine lv_iconst (v := 0) hx hb dX1_number_18 (by decide) ?_
    refine lv_goto (tgt := 32) hx hb dX1_number_19 (by decide) ?_
    exact hret _ _ _ dX1_number_32 (Option.some.inj h)
  · have h := itn c1 h
    refine lv_iload_n hx hb dX1_number_4 rfl (lv_at hl 1 rfl) ?_
    refine lv_iconst (v := 3) hx hb dX1_number_5 (by decide) ?_
    refine lv_icmp_ge (tgt := 18) hx hb dX1_number_6 (by decide) (fun c2 => ?_) (fun c2 => ?_)
    · have h := itp c2 h
      refine lv_iconst (v := 0) hx hb dX1_number_18 (by decide) ?_
      refine lv_goto (tgt := 32) hx hb dX1_number_19 (by decide) ?_
      exact hret _ _ _ dX1_number_32 (Option.some.inj h)
    · have h := itn c2 h
      refine lv_iload_n hx hb dX1_number_9 rfl (lv_at hl 2 rfl) ?_
      refine lv_if_lt (tgt := 18) hx hb dX1_number_10 (by decide) (fun c3 => ?_) (fun c3 => ?_)
      · have h := itp c3 h
        refine lv_iconst (v := 0) hx hb dX1_number_18 (by decide) ?_
        refine lv_goto (tgt := 32) hx hb dX1_number_19 (by decide) ?_
        exact hret _ _ _ dX1_number_32 (Option.some.inj h)
      · have h := itn c3 h
        refine lv_iload_n hx hb dX1_number_13 rfl (lv_at hl 2 rfl) ?_
        refine lv_iconst (v := 4) hx hb dX1_number_14 (by decide) ?_
        refine lv_icmp_le (tgt := 22) hx hb dX1_number_15 (by decide) (fun c4 => ?_) (fun c4 => ?_)
        · have h := itp c4 h
          refine lv_aload_n hx hb dX1_number_22 rfl (lv_at hl 0 rfl) ?_
          refine xa_get (C := RX1) (T := TX1) (N := 9) cx hG hP 0 rfl rfl uX1 0 (by decide) lf_X1_9 rfl dX1_number_23 ?_
          refine lv_iconst (v := 5) hx hb dX1_number_26 (by decide) ?_
          refine lv_iload_n hx hb dX1_number_27 rfl (lv_at hl 1 rfl) ?_
          refine lv_imul hx hb dX1_number_28 ?_
          refine lv_iload_n hx hb dX1_number_29 rfl (lv_at hl 2 rfl) ?_
          refine lv_iadd hx hb dX1_number_30 ?_
          obtain ⟨hi5, h⟩ := chk_out h
          refine xa_iald cx hG hP 1 rfl hi5 rfl dX1_number_31 ?_
          exact hret _ _ _ dX1_number_32 (Option.some.inj h)
        · have h := itn c4 h
          refine lv_iconst (v := 0) hx hb dX1_number_18 (by decide) ?_
          refine lv_goto (tgt := 32) hx hb dX1_number_19 (by decide) ?_
          exact hret _ _ _ dX1_number_32 (Option.some.inj h)
-- X1_setNumber
theorem dX1_setNumber_0 : decode cX1_setNumber 0 = .ok (.iload_n 1, 1) := by decide +kernel
theorem dX1_setNumber_1 : decode cX1_setNumber 1 = .ok (.ifCond .lt 28, 3) := by decide +kernel
theorem dX1_setNumber_4 : decode cX1_setNumber 4 = .ok (.iload_n 1, 1) := by decide +kernel
theorem dX1_setNumber_5 : decode cX1_setNumber 5 = .ok (.iconst 3, 1) := by decide +kernel
theorem dX1_setNumber_6 : decode cX1_setNumber 6 = .ok (.if_icmp .ge 23, 3) := by decide +kernel
theorem dX1_setNumber_9 : decode cX1_setNumber 9 = .ok (.iload_n 2, 1) := by decide +kernel
theorem dX1_setNumber_10 : decode cX1_setNumber 10 = .ok (.ifCond .lt 19, 3) := by decide +kernel
theorem dX1_setNumber_13 : decode cX1_setNumber 13 = .ok (.iload_n 2, 1) := by decide +kernel
theorem dX1_setNumber_14 : decode cX1_setNumber 14 = .ok (.iconst 4, 1) := by decide +kernel
theorem dX1_setNumber_15 : decode cX1_setNumber 15 = .ok (.if_icmp .gt 14, 3) := by decide +kernel
theorem dX1_setNumber_18 : decode cX1_setNumber 18 = .ok (.aload_n 0, 1) := by decide +kernel
theorem dX1_setNumber_19 : decode cX1_setNumber 19 = .ok (.getfield 9, 3) := by decide +kernel
theorem dX1_setNumber_22 : decode cX1_setNumber 22 = .ok (.iconst 5, 1) := by decide +kernel
theorem dX1_setNumber_23 : decode cX1_setNumber 23 = .ok (.iload_n 1, 1) := by decide +kernel
theorem dX1_setNumber_24 : decode cX1_setNumber 24 = .ok (.imul, 1) := by decide +kernel
theorem dX1_setNumber_25 : decode cX1_setNumber 25 = .ok (.iload_n 2, 1) := by decide +kernel
theorem dX1_setNumber_26 : decode cX1_setNumber 26 = .ok (.iadd, 1) := by decide +kernel
theorem dX1_setNumber_27 : decode cX1_setNumber 27 = .ok (.iload_n 3, 1) := by decide +kernel
theorem dX1_setNumber_28 : decode cX1_setNumber 28 = .ok (.iastore, 1) := by decide +kernel
theorem dX1_setNumber_29 : decode cX1_setNumber 29 = .ok (.return_, 1) := by decide +kernel
noncomputable def fX1_setNumber  (t_numbers : Nat → Int32) (v1 : Int32) (v2 : Int32) (v3 : Int32) : Option ((Nat → Int32)) := (if v1 < 0 then some t_numbers else (if 3 ≤ v1 then some t_numbers else (if v2 < 0 then some t_numbers else (if 4 < v2 then some t_numbers else chk 15 ((5 * v1) + v2) (some (upd t_numbers (((5 * v1) + v2).toNatClampNeg) v3))))))
set_option maxHeartbeats 4000000 in
set_option maxRecDepth 100000 in
theorem ctX1_setNumber (l : Launch) (g : GT) (sz : Nat) (a_t : Nat → Nat) (t_told : Int32) (t_lines : Int32) (t_kinds : Int32) (t_acts : Int32) (t_numbers : Nat → Int32) (v1 : Int32) (v2 : Int32) (v3 : Int32) (o_t_numbers : Nat → Int32) (h : fX1_setNumber t_numbers v1 v2 v3 = some (o_t_numbers)) : Met l yX1_setNumber (Cond.code yX1_setNumber cX1_setNumber 4 none :: Tw) ⟨0, 0, 0, 0⟩ (va_Pc [.ref ((a_t 0)), .int v1, .int v2, .int v3] (rwB g [((a_t 0), .inr (1, [.ref (a_t 1), .ref (a_t 2), .ref (a_t 3), .ref (a_t 4), .ref (a_t 5), .int t_told, .int t_lines, .int t_kinds, .int t_acts])), ((a_t 1), .inl (g.2.2.1 0, 15, .inl t_numbers))] sz)) (va_Qv (fun (_ : Nat → Nat) => True) (fun u => rwE g (va_A [((a_t 0), .inr (1, [.ref (a_t 1), .ref (a_t 2), .ref (a_t 3), .ref (a_t 4), .ref (a_t 5), .int t_told, .int t_lines, .int t_kinds, .int t_acts])), ((a_t 1), .inl (g.2.2.1 0, 15, .inl t_numbers))] sz) [((a_t 0), .inr (1, [.ref (a_t 1), .ref (a_t 2), .ref (a_t 3), .ref (a_t 4), .ref (a_t 5), .int t_told, .int t_lines, .int t_kinds, .int t_acts])), ((a_t 1), .inl (g.2.2.1 0, 15, .inl o_t_numbers))]) (va_A [((a_t 0), .inr (1, [.ref (a_t 1), .ref (a_t 2), .ref (a_t 3), .ref (a_t 4), .ref (a_t 5), .int t_told, .int t_lines, .int t_kinds, .int t_acts])), ((a_t 1), .inl (g.2.2.1 0, 15, .inl t_numbers))] sz)) 0 0 (va_A [((a_t 0), .inr (1, [.ref (a_t 1), .ref (a_t 2), .ref (a_t 3), .ref (a_t 4), .ref (a_t 5), .int t_told, .int t_lines, .int t_kinds, .int t_acts])), ((a_t 1), .inl (g.2.2.1 0, 15, .inl t_numbers))] sz) := by
  refine rw_metv (by decide) (Nat.le_of_ble_eq_true rfl) (lv0 := [(0, .ref ((a_t 0))), (1, .int v1), (2, .int v2), (3, .int v3)]) rfl ?_
  intro p e s m args below meth c ls Q A cx hret hG hAb hb0 hA hP hD hl
  have hx := cx.1
  have hb := cx.2.1
  have hG0 := hG
  have hGk : ∀ {H : Heap} {locs : List Loc}, va_S A s.heap H locs → GE g s H := fun hS => hG0.keptS hAb hS
  have hSb : ∀ {H : Heap} {locs : List Loc}, va_S A s.heap H locs → va_S (fun a => g.1 ≤ a) s.heap H locs := fun hS => ⟨hS.1, fun q h1 h2 => hS.2.1 q h1 (fun z => h2 (hAb q z)), fun l hl => hAb _ (hS.2.2 l hl)⟩
  have hS : va_S A s.heap s.heap [] := va_S.rf
  have hrt : ∀ (u : Nat → Nat) (pc : Nat) (ls : Array Slot) (x_t_numbers : Nat → Int32) (H : Heap) (locs : List Loc), decode cX1_setNumber pc = .ok (.return_, 1) → some (x_t_numbers) = some (o_t_numbers) → va_P g.2.1 vwCl [((a_t 0), .inr (1, [.ref (a_t 1), .ref (a_t 2), .ref (a_t 3), .ref (a_t 4), .ref (a_t 5), .int t_told, .int t_lines, .int t_kinds, .int t_acts])), ((a_t 1), .inl (g.2.2.1 0, 15, .inl x_t_numbers))] H → va_D A [((a_t 0), .inr (1, [.ref (a_t 1), .ref (a_t 2), .ref (a_t 3), .ref (a_t 4), .ref (a_t 5), .int t_told, .int t_lines, .int t_kinds, .int t_acts])), ((a_t 1), .inl (g.2.2.1 0, 15, .inl x_t_numbers))] → va_S A s.heap H locs → W p l e ⟨0, 0, 0, 0⟩ s m args below meth c H locs 0 0 Q (F0 m pc ls []) := by
    intro u pc ls x_t_numbers H locs hd h hP hD hS
    cases h
    exact hret u _ _ _ _ hd hP hD hS
  unfold fX1_setNumber at h
  refine lv_iload_n hx hb dX1_setNumber_0 rfl (lv_at hl 1 rfl) ?_
  refine lv_if_lt (tgt := 29) hx hb dX1_setNumber_1 (by decide) (fun c1 => ?_) (fun c1 => ?_)
  · have h := itp c1 h
    exact hrt (fun _ => 0) _ _ t_numbers _ _ dX1_setNumber_29 h (hP.sub [0, 1] rfl) (hD.sub [0, 1] (by decide) rfl) hS
  · have h := itn c1 h
    refine lv_iload_n hx hb dX1_setNumber_4 rfl (lv_at hl 1 rfl) ?_
    refine lv_iconst (v := 3) hx hb dX1_setNumber_5 (by decide) ?_
    refine lv_icmp_ge (tgt := 29) hx hb dX1_setNumber_6 (by decide) (fun c2 => ?_) (fun c2 => ?_)
    · have h := itp c2 h
      exact hrt (fun _ => 0) _ _ t_numbers _ _ dX1_setNumber_29 h (hP.sub [0, 1] rfl) (hD.sub [0, 1] (by decide) rfl) hS
    · have h := itn c2 h
      refine lv_iload_n hx hb dX1_setNumber_9 rfl (lv_at hl 2 rfl) ?_
      refine lv_if_lt (tgt := 29) hx hb dX1_setNumber_10 (by decide) (fun c3 => ?_) (fun c3 => ?_)
      · have h := itp c3 h
        exact hrt (fun _ => 0) _ _ t_numbers _ _ dX1_setNumber_29 h (hP.sub [0, 1] rfl) (hD.sub [0, 1] (by decide) rfl) hS
      · have h := itn c3 h
        refine lv_iload_n hx hb dX1_setNumber_13 rfl (lv_at hl 2 rfl) ?_
        refine lv_iconst (v := 4) hx hb dX1_setNumber_14 (by decide) ?_
        refine lv_icmp_gt (tgt := 29) hx hb dX1_setNumber_15 (by decide) (fun c4 => ?_) (fun c4 => ?_)
        · have h := itp c4 h
          exact hrt (fun _ => 0) _ _ t_numbers _ _ dX1_setNumber_29 h (hP.sub [0, 1] rfl) (hD.sub [0, 1] (by decide) rfl) hS
        · have h := itn c4 h
          refine lv_aload_n hx hb dX1_setNumber_18 rfl (lv_at hl 0 rfl) ?_
          refine xa_get (C := RX1) (T := TX1) (N := 9) cx hG hP 0 rfl rfl uX1 0 (by decide) lf_X1_9 rfl dX1_setNumber_19 ?_
          refine lv_iconst (v := 5) hx hb dX1_setNumber_22 (by decide) ?_
          refine lv_iload_n hx hb dX1_setNumber_23 rfl (lv_at hl 1 rfl) ?_
          refine lv_imul hx hb dX1_setNumber_24 ?_
          refine lv_iload_n hx hb dX1_setNumber_25 rfl (lv_at hl 2 rfl) ?_
          refine lv_iadd hx hb dX1_setNumber_26 ?_
          refine lv_iload_n hx hb dX1_setNumber_27 rfl (lv_at hl 3 rfl) ?_
          obtain ⟨hi5, h⟩ := chk_out h
          refine xw_iast (ws' := [((a_t 0), .inr (1, [.ref (a_t 1), .ref (a_t 2), .ref (a_t 3), .ref (a_t 4), .ref (a_t 5), .int t_told, .int t_lines, .int t_kinds, .int t_acts])), ((a_t 1), .inl (g.2.2.1 0, 15, .inl (upd t_numbers (((5 * v1) + v2).toNatClampNeg) v3)))]) (k := (((5 * v1) + v2).toNatClampNeg)) cx hG hP hD hS 1 rfl hi5 rfl rfl dX1_setNumber_28 (fun H locs hP hD hS => ?_)
          have hG := hGk hS
          exact hrt (fun _ => 0) _ _ (upd t_numbers (((5 * v1) + v2).toNatClampNeg) v3) _ _ dX1_setNumber_29 h (hP.sub [0, 1] rfl) (hD.sub [0, 1] (by decide) rfl) hS
-- X1_limitAt
theorem dX1_limitAt_0 : decode cX1_limitAt 0 = .ok (.aload_n 0, 1) := by decide +kernel
theorem dX1_limitAt_1 : decode cX1_limitAt 1 = .ok (.aload_n 0, 1) := by decide +kernel
theorem dX1_limitAt_2 : decode cX1_limitAt 2 = .ok (.invokevirtual 55, 3) := by decide +kernel
theorem dX1_limitAt_5 : decode cX1_limitAt 5 = .ok (.iload_n 1, 1) := by decide +kernel
theorem dX1_limitAt_6 : decode cX1_limitAt 6 = .ok (.invokestatic 58, 3) := by decide +kernel
theorem dX1_limitAt_9 : decode cX1_limitAt 9 = .ok (.iconst 4, 1) := by decide +kernel
theorem dX1_limitAt_10 : decode cX1_limitAt 10 = .ok (.idiv, 1) := by decide +kernel
theorem dX1_limitAt_11 : decode cX1_limitAt 11 = .ok (.iconst 4, 1) := by decide +kernel
theorem dX1_limitAt_12 : decode cX1_limitAt 12 = .ok (.invokevirtual 64, 3) := by decide +kernel
theorem dX1_limitAt_15 : decode cX1_limitAt 15 = .ok (.ireturn, 1) := by decide +kernel
noncomputable def fX1_limitAt  (t_numbers : Nat → Int32) (t_rows : Nat → Int32) (t_acts : Int32) (v1 : Int32) : Option (Int32) := (fX1_row t_rows t_acts).bind fun r1 => (fX1_number t_numbers ((fX3_typeAt r1 v1) / 4) 4).bind fun r3 => some r3
set_option maxHeartbeats 4000000 in
set_option maxRecDepth 100000 in
theorem ctX1_limitAt (l : Launch) (g : GT) (a_t : Nat → Nat) (t_told : Int32) (t_lines : Int32) (t_kinds : Int32) (t_acts : Int32) (t_numbers : Nat → Int32) (t_rows : Nat → Int32) (v1 : Int32) (o : Int32) (h : fX1_limitAt t_numbers t_rows t_acts v1 = some o) : Met l yX1_limitAt (Cond.code yX1_limitAt cX1_limitAt 2 (some .int) :: Tw) ⟨1, 0, 0, 22⟩ (va_Pc [.ref ((a_t 0)), .int v1] (roB g [((a_t 0), .inr (1, [.ref (a_t 1), .ref (a_t 2), .ref (a_t 3), .ref (a_t 4), .ref (a_t 5), .int t_told, .int t_lines, .int t_kinds, .int t_acts])), ((a_t 1), .inl (g.2.2.1 0, 15, .inl t_numbers)), ((a_t 3), .inl (g.2.2.1 0, 31, .inl t_rows))])) (vp_Si (fun x => x = o)) 0 0 (fun _ => False) := by
  refine ro_meti (by decide) (Nat.le_of_ble_eq_true rfl) (lv0 := [(0, .ref ((a_t 0))), (1, .int v1)]) rfl ?_
  intro p e s m args below meth c ls Q cx hret hG hP hl
  have hx := cx.1
  have hb := cx.2.1
  have hG0 := hG
  unfold fX1_limitAt at h
  refine lv_aload_n hx hb dX1_limitAt_0 rfl (lv_at hl 0 rfl) ?_
  refine lv_aload_n hx hb dX1_limitAt_1 rfl (lv_at hl 0 rfl) ?_
  obtain ⟨r1, hr2, h⟩ := bnd h
  refine ro_i (runV (As := []) (rest := [.ref ((a_t 0))]) cx hl.1 (ctX1_row l g a_t t_told t_lines t_kinds t_acts t_rows r1 hr2) kmX1_row kvX1_row lm_X1_55 ⟨rfl, rfl⟩ ⟨Nat.le_of_ble_eq_true rfl, Nat.le_of_ble_eq_true rfl⟩ (roV (q0 := 0) (ci := 1) hG (hP.sub [0, 2] rfl) hP rfl rfl) rfl rfl (Nat.le_of_ble_eq_true rfl) dX1_limitAt_2 ⟨Nat.le_of_ble_eq_true rfl, Nat.le_of_ble_eq_true rfl⟩) ?_
  refine lv_iload_n hx hb dX1_limitAt_5 rfl (lv_at hl 1 rfl) ?_
  refine ro_i (runSN (As := [.int r1, .int v1]) (rest := [.ref ((a_t 0))]) hG cx hl.1 (ctX3_typeAt l g r1 v1 (fX3_typeAt r1 v1) rfl) kmX3_typeAt ksX3_typeAt nm_22 ⟨rfl, rfl⟩ ⟨Nat.le_of_ble_eq_true rfl, Nat.le_of_ble_eq_true rfl⟩ (roS hG (hP.sub [] rfl)) rfl rfl (Nat.le_of_ble_eq_true rfl) dX1_limitAt_6 ⟨Nat.le_of_ble_eq_true rfl, Nat.le_of_ble_eq_true rfl⟩) ?_
  refine lv_iconst (v := 4) hx hb dX1_limitAt_9 (by decide) ?_
  refine lv_idiv hx hb dX1_limitAt_10 (by decide) ?_
  refine lv_iconst (v := 4) hx hb dX1_limitAt_11 (by decide) ?_
  obtain ⟨r3, hr4, h⟩ := bnd h
  refine ro_i (runV (As := [.int ((fX3_typeAt r1 v1) / 4), .int (4)]) (rest := []) cx hl.1 (ctX1_number l g a_t t_told t_lines t_kinds t_acts t_numbers ((fX3_typeAt r1 v1) / 4) (4) r3 hr4) kmX1_number kvX1_number lm_X1_64 ⟨rfl, rfl⟩ ⟨Nat.le_of_ble_eq_true rfl, Nat.le_of_ble_eq_true rfl⟩ (roV (q0 := 0) (ci := 1) hG (hP.sub [0, 1] rfl) hP rfl rfl) rfl rfl (Nat.le_of_ble_eq_true rfl) dX1_limitAt_12 ⟨Nat.le_of_ble_eq_true rfl, Nat.le_of_ble_eq_true rfl⟩) ?_
  exact hret _ _ _ dX1_limitAt_15 (Option.some.inj h)
-- X1_setCell
theorem dX1_setCell_0 : decode cX1_setCell 0 = .ok (.iload_n 2, 1) := by decide +kernel
theorem dX1_setCell_1 : decode cX1_setCell 1 = .ok (.ifCond .lt 24, 3) := by decide +kernel
theorem dX1_setCell_4 : decode cX1_setCell 4 = .ok (.iload_n 2, 1) := by decide +kernel
theorem dX1_setCell_5 : decode cX1_setCell 5 = .ok (.bipush 8, 2) := by decide +kernel
theorem dX1_setCell_7 : decode cX1_setCell 7 = .ok (.if_icmp .gt 18, 3) := by decide +kernel
theorem dX1_setCell_10 : decode cX1_setCell 10 = .ok (.aload_n 0, 1) := by decide +kernel
theorem dX1_setCell_11 : decode cX1_setCell 11 = .ok (.getfield 15, 3) := by decide +kernel
theorem dX1_setCell_14 : decode cX1_setCell 14 = .ok (.iload_n 1, 1) := by decide +kernel
theorem dX1_setCell_15 : decode cX1_setCell 15 = .ok (.bipush 15, 2) := by decide +kernel
theorem dX1_setCell_17 : decode cX1_setCell 17 = .ok (.iand, 1) := by decide +kernel
theorem dX1_setCell_18 : decode cX1_setCell 18 = .ok (.bipush 9, 2) := by decide +kernel
theorem dX1_setCell_20 : decode cX1_setCell 20 = .ok (.imul, 1) := by decide +kernel
theorem dX1_setCell_21 : decode cX1_setCell 21 = .ok (.iload_n 2, 1) := by decide +kernel
theorem dX1_setCell_22 : decode cX1_setCell 22 = .ok (.iadd, 1) := by decide +kernel
theorem dX1_setCell_23 : decode cX1_setCell 23 = .ok (.iload_n 3, 1) := by decide +kernel
theorem dX1_setCell_24 : decode cX1_setCell 24 = .ok (.iastore, 1) := by decide +kernel
theorem dX1_setCell_25 : decode cX1_setCell 25 = .ok (.return_, 1) := by decide +kernel
noncomputable def fX1_setCell  (t_cells : Nat → Int32) (v1 : Int32) (v2 : Int32) (v3 : Int32) : Option ((Nat → Int32)) := (if v2 < 0 then some t_cells else (if 8 < v2 then some t_cells else chk 144 (((v1 &&& 15) * 9) + v2) (some (upd t_cells ((((v1 &&& 15) * 9) + v2).toNatClampNeg) v3))))
set_option maxHeartbeats 4000000 in
set_option maxRecDepth 100000 in
theorem ctX1_setCell (l : Launch) (g : GT) (sz : Nat) (a_t : Nat → Nat) (t_told : Int32) (t_lines : Int32) (t_kinds : Int32) (t_acts : Int32) (t_cells : Nat → Int32) (v1 : Int32) (v2 : Int32) (v3 : Int32) (o_t_cells : Nat → Int32) (h : fX1_setCell t_cells v1 v2 v3 = some (o_t_cells)) : Met l yX1_setCell (Cond.code yX1_setCell cX1_setCell 4 none :: Tw) ⟨0, 0, 0, 0⟩ (va_Pc [.ref ((a_t 0)), .int v1, .int v2, .int v3] (rwB g [((a_t 0), .inr (1, [.ref (a_t 1), .ref (a_t 2), .ref (a_t 3), .ref (a_t 4), .ref (a_t 5), .int t_told, .int t_lines, .int t_kinds, .int t_acts])), ((a_t 2), .inl (g.2.2.1 0, 144, .inl t_cells))] sz)) (va_Qv (fun (_ : Nat → Nat) => True) (fun u => rwE g (va_A [((a_t 0), .inr (1, [.ref (a_t 1), .ref (a_t 2), .ref (a_t 3), .ref (a_t 4), .ref (a_t 5), .int t_told, .int t_lines, .int t_kinds, .int t_acts])), ((a_t 2), .inl (g.2.2.1 0, 144, .inl t_cells))] sz) [((a_t 0), .inr (1, [.ref (a_t 1), .ref (a_t 2), .ref (a_t 3), .ref (a_t 4), .ref (a_t 5), .int t_told, .int t_lines, .int t_kinds, .int t_acts])), ((a_t 2), .inl (g.2.2.1 0, 144, .inl o_t_cells))]) (va_A [((a_t 0), .inr (1, [.ref (a_t 1), .ref (a_t 2), .ref (a_t 3), .ref (a_t 4), .ref (a_t 5), .int t_told, .int t_lines, .int t_kinds, .int t_acts])), ((a_t 2), .inl (g.2.2.1 0, 144, .inl t_cells))] sz)) 0 0 (va_A [((a_t 0), .inr (1, [.ref (a_t 1), .ref (a_t 2), .ref (a_t 3), .ref (a_t 4), .ref (a_t 5), .int t_told, .int t_lines, .int t_kinds, .int t_acts])), ((a_t 2), .inl (g.2.2.1 0, 144, .inl t_cells))] sz) := by
  refine rw_metv (by decide) (Nat.le_of_ble_eq_true rfl) (lv0 := [(0, .ref ((a_t 0))), (1, .int v1), (2, .int v2), (3, .int v3)]) rfl ?_
  intro p e s m args below meth c ls Q A cx hret hG hAb hb0 hA hP hD hl
  have hx := cx.1
  have hb := cx.2.1
  have hG0 := hG
  have hGk : ∀ {H : Heap} {locs : List Loc}, va_S A s.heap H locs → GE g s H := fun hS => hG0.keptS hAb hS
  have hSb : ∀ {H : Heap} {locs : List Loc}, va_S A s.heap H locs → va_S (fun a => g.1 ≤ a) s.heap H locs := fun hS => ⟨hS.1, fun q h1 h2 => hS.2.1 q h1 (fun z => h2 (hAb q z)), fun l hl => hAb _ (hS.2.2 l hl)⟩
  have hS : va_S A s.heap s.heap [] := va_S.rf
  have hrt : ∀ (u : Nat → Nat) (pc : Nat) (ls : Array Slot) (x_t_cells : Nat → Int32) (H : Heap) (locs : List Loc), decode cX1_setCell pc = .ok (.return_, 1) → some (x_t_cells) = some (o_t_cells) → va_P g.2.1 vwCl [((a_t 0), .inr (1, [.ref (a_t 1), .ref (a_t 2), .ref (a_t 3), .ref (a_t 4), .ref (a_t 5), .int t_told, .int t_lines, .int t_kinds, .int t_acts])), ((a_t 2), .inl (g.2.2.1 0, 144, .inl x_t_cells))] H → va_D A [((a_t 0), .inr (1, [.ref (a_t 1), .ref (a_t 2), .ref (a_t 3), .ref (a_t 4), .ref (a_t 5), .int t_told, .int t_lines, .int t_kinds, .int t_acts])), ((a_t 2), .inl (g.2.2.1 0, 144, .inl x_t_cells))] → va_S A s.heap H locs → W p l e ⟨0, 0, 0, 0⟩ s m args below meth c H locs 0 0 Q (F0 m pc ls []) := by
    intro u pc ls x_t_cells H locs hd h hP hD hS
    cases h
    exact hret u _ _ _ _ hd hP hD hS
  unfold fX1_setCell at h
  refine lv_iload_n hx hb dX1_setCell_0 rfl (lv_at hl 2 rfl) ?_
  refine lv_if_lt (tgt := 25) hx hb dX1_setCell_1 (by decide) (fun c1 => ?_) (fun c1 => ?_)
  · have h := itp c1 h
    exact hrt (fun _ => 0) _ _ t_cells _ _ dX1_setCell_25 h (hP.sub [0, 1] rfl) (hD.sub [0, 1] (by decide) rfl) hS
  · have h := itn c1 h
    refine lv_iload_n hx hb dX1_setCell_4 rfl (lv_at hl 2 rfl) ?_
    refine lv_bipush (v := 8) hx hb dX1_setCell_5 (by decide) ?_
    refine lv_icmp_gt (tgt := 25) hx hb dX1_setCell_7 (by decide) (fun c2 => ?_) (fun c2 => ?_)
    · have h := itp c2 h
      exact hrt (fun _ => 0) _ _ t_cells _ _ dX1_setCell_25 h (hP.sub [0, 1] rfl) (hD.sub [0, 1] (by decide) rfl) hS
    · have h := itn c2 h
      refine lv_aload_n hx hb dX1_setCell_10 rfl (lv_at hl 0 rfl) ?_
      refine xa_get (C := RX1) (T := TX1) (N := 9) cx hG hP 0 rfl rfl uX1 1 (by decide) lf_X1_15 rfl dX1_setCell_11 ?_
      refine lv_iload_n hx hb dX1_setCell_14 rfl (lv_at hl 1 rfl) ?_
      refine lv_bipush (v := 15) hx hb dX1_setCell_15 (by decide) ?_
      refine lv_iand hx hb dX1_setCell_17 ?_
      refine lv_bipush (v := 9) hx hb dX1_setCell_18 (by decide) ?_
      refine lv_imul hx hb dX1_setCell_20 ?_
      refine lv_iload_n hx hb dX1_setCell_21 rfl (lv_at hl 2 rfl) ?_
      refine lv_iadd hx hb dX1_setCell_22 ?_
      refine lv_iload_n hx hb dX1_setCell_23 rfl (lv_at hl 3 rfl) ?_
      obtain ⟨hi3, h⟩ := chk_out h
      refine xw_iast (ws' := [((a_t 0), .inr (1, [.ref (a_t 1), .ref (a_t 2), .ref (a_t 3), .ref (a_t 4), .ref (a_t 5), .int t_told, .int t_lines, .int t_kinds, .int t_acts])), ((a_t 2), .inl (g.2.2.1 0, 144, .inl (upd t_cells ((((v1 &&& 15) * 9) + v2).toNatClampNeg) v3)))]) (k := ((((v1 &&& 15) * 9) + v2).toNatClampNeg)) cx hG hP hD hS 1 rfl hi3 rfl rfl dX1_setCell_24 (fun H locs hP hD hS => ?_)
      have hG := hGk hS
      exact hrt (fun _ => 0) _ _ (upd t_cells ((((v1 &&& 15) * 9) + v2).toNatClampNeg) v3) _ _ dX1_setCell_25 h (hP.sub [0, 1] rfl) (hD.sub [0, 1] (by decide) rfl) hS
-- X1_fillCells
theorem dX1_fillCells_0 : decode cX1_fillCells 0 = .ok (.aload_n 0, 1) := by decide +kernel
theorem dX1_fillCells_1 : decode cX1_fillCells 1 = .ok (.iload_n 1, 1) := by decide +kernel
theorem dX1_fillCells_2 : decode cX1_fillCells 2 = .ok (.iconst 0, 1) := by decide +kernel
theorem dX1_fillCells_3 : decode cX1_fillCells 3 = .ok (.invokevirtual 64, 3) := by decide +kernel
theorem dX1_fillCells_6 : decode cX1_fillCells 6 = .ok (.istore_n 2, 1) := by decide +kernel
theorem dX1_fillCells_7 : decode cX1_fillCells 7 = .ok (.aload_n 0, 1) := by decide +kernel
theorem dX1_fillCells_8 : decode cX1_fillCells 8 = .ok (.iload_n 1, 1) := by decide +kernel
theorem dX1_fillCells_9 : decode cX1_fillCells 9 = .ok (.iconst 1, 1) := by decide +kernel
theorem dX1_fillCells_10 : decode cX1_fillCells 10 = .ok (.invokevirtual 64, 3) := by decide +kernel
theorem dX1_fillCells_13 : decode cX1_fillCells 13 = .ok (.istore_n 3, 1) := by decide +kernel
theorem dX1_fillCells_14 : decode cX1_fillCells 14 = .ok (.aload_n 0, 1) := by decide +kernel
theorem dX1_fillCells_15 : decode cX1_fillCells 15 = .ok (.iload_n 1, 1) := by decide +kernel
theorem dX1_fillCells_16 : decode cX1_fillCells 16 = .ok (.iconst 2, 1) := by decide +kernel
theorem dX1_fillCells_17 : decode cX1_fillCells 17 = .ok (.invokevirtual 64, 3) := by decide +kernel
theorem dX1_fillCells_20 : decode cX1_fillCells 20 = .ok (.istore 4, 2) := by decide +kernel
theorem dX1_fillCells_22 : decode cX1_fillCells 22 = .ok (.aload_n 0, 1) := by decide +kernel
theorem dX1_fillCells_23 : decode cX1_fillCells 23 = .ok (.iload_n 1, 1) := by decide +kernel
theorem dX1_fillCells_24 : decode cX1_fillCells 24 = .ok (.iconst 3, 1) := by decide +kernel
theorem dX1_fillCells_25 : decode cX1_fillCells 25 = .ok (.invokevirtual 64, 3) := by decide +kernel
theorem dX1_fillCells_28 : decode cX1_fillCells 28 = .ok (.istore 5, 2) := by decide +kernel
theorem dX1_fillCells_30 : decode cX1_fillCells 30 = .ok (.iconst 0, 1) := by decide +kernel
theorem dX1_fillCells_31 : decode cX1_fillCells 31 = .ok (.istore 6, 2) := by decide +kernel
theorem dX1_fillCells_33 : decode cX1_fillCells 33 = .ok (.iload 6, 2) := by decide +kernel
theorem dX1_fillCells_35 : decode cX1_fillCells 35 = .ok (.iconst 4, 1) := by decide +kernel
theorem dX1_fillCells_36 : decode cX1_fillCells 36 = .ok (.if_icmp .ge 165, 3) := by decide +kernel
theorem dX1_fillCells_39 : decode cX1_fillCells 39 = .ok (.iload_n 1, 1) := by decide +kernel
theorem dX1_fillCells_40 : decode cX1_fillCells 40 = .ok (.iconst 4, 1) := by decide +kernel
theorem dX1_fillCells_41 : decode cX1_fillCells 41 = .ok (.imul, 1) := by decide +kernel
theorem dX1_fillCells_42 : decode cX1_fillCells 42 = .ok (.iload 6, 2) := by decide +kernel
theorem dX1_fillCells_44 : decode cX1_fillCells 44 = .ok (.iadd, 1) := by decide +kernel
theorem dX1_fillCells_45 : decode cX1_fillCells 45 = .ok (.istore 7, 2) := by decide +kernel
theorem dX1_fillCells_47 : decode cX1_fillCells 47 = .ok (.iconst 2, 1) := by decide +kernel
theorem dX1_fillCells_48 : decode cX1_fillCells 48 = .ok (.iload_n 3, 1) := by decide +kernel
theorem dX1_fillCells_49 : decode cX1_fillCells 49 = .ok (.imul, 1) := by decide +kernel
theorem dX1_fillCells_50 : decode cX1_fillCells 50 = .ok (.getstatic 67, 3) := by decide +kernel
theorem dX1_fillCells_53 : decode cX1_fillCells 53 = .ok (.iload 6, 2) := by decide +kernel
theorem dX1_fillCells_55 : decode cX1_fillCells 55 = .ok (.iaload, 1) := by decide +kernel
theorem dX1_fillCells_56 : decode cX1_fillCells 56 = .ok (.imul, 1) := by decide +kernel
theorem dX1_fillCells_57 : decode cX1_fillCells 57 = .ok (.istore 8, 2) := by decide +kernel
theorem dX1_fillCells_59 : decode cX1_fillCells 59 = .ok (.iconst 2, 1) := by decide +kernel
theorem dX1_fillCells_60 : decode cX1_fillCells 60 = .ok (.iload 4, 2) := by decide +kernel
theorem dX1_fillCells_62 : decode cX1_fillCells 62 = .ok (.imul, 1) := by decide +kernel
theorem dX1_fillCells_63 : decode cX1_fillCells 63 = .ok (.getstatic 70, 3) := by decide +kernel
theorem dX1_fillCells_66 : decode cX1_fillCells 66 = .ok (.iload 6, 2) := by decide +kernel
theorem dX1_fillCells_68 : decode cX1_fillCells 68 = .ok (.iaload, 1) := by decide +kernel
theorem dX1_fillCells_69 : decode cX1_fillCells 69 = .ok (.imul, 1) := by decide +kernel
theorem dX1_fillCells_70 : decode cX1_fillCells 70 = .ok (.istore 9, 2) := by decide +kernel
theorem dX1_fillCells_72 : decode cX1_fillCells 72 = .ok (.iload_n 3, 1) := by decide +kernel
theorem dX1_fillCells_73 : decode cX1_fillCells 73 = .ok (.getstatic 73, 3) := by decide +kernel
theorem dX1_fillCells_76 : decode cX1_fillCells 76 = .ok (.iload 6, 2) := by decide +kernel
theorem dX1_fillCells_78 : decode cX1_fillCells 78 = .ok (.iaload, 1) := by decide +kernel
theorem dX1_fillCells_79 : decode cX1_fillCells 79 = .ok (.imul, 1) := by decide +kernel
theorem dX1_fillCells_80 : decode cX1_fillCells 80 = .ok (.istore 10, 2) := by decide +kernel
theorem dX1_fillCells_82 : decode cX1_fillCells 82 = .ok (.aload_n 0, 1) := by decide +kernel
theorem dX1_fillCells_83 : decode cX1_fillCells 83 = .ok (.iload 7, 2) := by decide +kernel
theorem dX1_fillCells_85 : decode cX1_fillCells 85 = .ok (.iconst 0, 1) := by decide +kernel
theorem dX1_fillCells_86 : decode cX1_fillCells 86 = .ok (.iconst 2, 1) := by decide +kernel
theorem dX1_fillCells_87 : decode cX1_fillCells 87 = .ok (.iload_n 2, 1) := by decide +kernel
theorem dX1_fillCells_88 : decode cX1_fillCells 88 = .ok (.imul, 1) := by decide +kernel
theorem dX1_fillCells_89 : decode cX1_fillCells 89 = .ok (.iload 8, 2) := by decide +kernel
theorem dX1_fillCells_91 : decode cX1_fillCells 91 = .ok (.iadd, 1) := by decide +kernel
theorem dX1_fillCells_92 : decode cX1_fillCells 92 = .ok (.iload 9, 2) := by decide +kernel
theorem dX1_fillCells_94 : decode cX1_fillCells 94 = .ok (.iadd, 1) := by decide +kernel
theorem dX1_fillCells_95 : decode cX1_fillCells 95 = .ok (.invokevirtual 76, 3) := by decide +kernel
theorem dX1_fillCells_98 : decode cX1_fillCells 98 = .ok (.aload_n 0, 1) := by decide +kernel
theorem dX1_fillCells_99 : decode cX1_fillCells 99 = .ok (.iload 7, 2) := by decide +kernel
theorem dX1_fillCells_101 : decode cX1_fillCells 101 = .ok (.iconst 4, 1) := by decide +kernel
theorem dX1_fillCells_102 : decode cX1_fillCells 102 = .ok (.iconst 2, 1) := by decide +kernel
theorem dX1_fillCells_103 : decode cX1_fillCells 103 = .ok (.iload_n 2, 1) := by decide +kernel
theorem dX1_fillCells_104 : decode cX1_fillCells 104 = .ok (.imul, 1) := by decide +kernel
theorem dX1_fillCells_105 : decode cX1_fillCells 105 = .ok (.iload 8, 2) := by decide +kernel
theorem dX1_fillCells_107 : decode cX1_fillCells 107 = .ok (.isub, 1) := by decide +kernel
theorem dX1_fillCells_108 : decode cX1_fillCells 108 = .ok (.iload 9, 2) := by decide +kernel
theorem dX1_fillCells_110 : decode cX1_fillCells 110 = .ok (.iadd, 1) := by decide +kernel
theorem dX1_fillCells_111 : decode cX1_fillCells 111 = .ok (.invokevirtual 76, 3) := by decide +kernel
theorem dX1_fillCells_114 : decode cX1_fillCells 114 = .ok (.aload_n 0, 1) := by decide +kernel
theorem dX1_fillCells_115 : decode cX1_fillCells 115 = .ok (.iload 7, 2) := by decide +kernel
theorem dX1_fillCells_117 : decode cX1_fillCells 117 = .ok (.iconst 1, 1) := by decide +kernel
theorem dX1_fillCells_118 : decode cX1_fillCells 118 = .ok (.iconst 2, 1) := by decide +kernel
theorem dX1_fillCells_119 : decode cX1_fillCells 119 = .ok (.iload 5, 2) := by decide +kernel
theorem dX1_fillCells_121 : decode cX1_fillCells 121 = .ok (.imul, 1) := by decide +kernel
theorem dX1_fillCells_122 : decode cX1_fillCells 122 = .ok (.iload 9, 2) := by decide +kernel
theorem dX1_fillCells_124 : decode cX1_fillCells 124 = .ok (.isub, 1) := by decide +kernel
theorem dX1_fillCells_125 : decode cX1_fillCells 125 = .ok (.invokevirtual 76, 3) := by decide +kernel
theorem dX1_fillCells_128 : decode cX1_fillCells 128 = .ok (.aload_n 0, 1) := by decide +kernel
theorem dX1_fillCells_129 : decode cX1_fillCells 129 = .ok (.iload 7, 2) := by decide +kernel
theorem dX1_fillCells_131 : decode cX1_fillCells 131 = .ok (.iconst 3, 1) := by decide +kernel
theorem dX1_fillCells_132 : decode cX1_fillCells 132 = .ok (.iconst 2, 1) := by decide +kernel
theorem dX1_fillCells_133 : decode cX1_fillCells 133 = .ok (.iload 5, 2) := by decide +kernel
theorem dX1_fillCells_135 : decode cX1_fillCells 135 = .ok (.imul, 1) := by decide +kernel
theorem dX1_fillCells_136 : decode cX1_fillCells 136 = .ok (.iload 9, 2) := by decide +kernel
theorem dX1_fillCells_138 : decode cX1_fillCells 138 = .ok (.isub, 1) := by decide +kernel
theorem dX1_fillCells_139 : decode cX1_fillCells 139 = .ok (.invokevirtual 76, 3) := by decide +kernel
theorem dX1_fillCells_142 : decode cX1_fillCells 142 = .ok (.aload_n 0, 1) := by decide +kernel
theorem dX1_fillCells_143 : decode cX1_fillCells 143 = .ok (.iload 7, 2) := by decide +kernel
theorem dX1_fillCells_145 : decode cX1_fillCells 145 = .ok (.bipush 8, 2) := by decide +kernel
theorem dX1_fillCells_147 : decode cX1_fillCells 147 = .ok (.iload_n 2, 1) := by decide +kernel
theorem dX1_fillCells_148 : decode cX1_fillCells 148 = .ok (.iload 5, 2) := by decide +kernel
theorem dX1_fillCells_150 : decode cX1_fillCells 150 = .ok (.isub, 1) := by decide +kernel
theorem dX1_fillCells_151 : decode cX1_fillCells 151 = .ok (.iload 9, 2) := by decide +kernel
theorem dX1_fillCells_153 : decode cX1_fillCells 153 = .ok (.isub, 1) := by decide +kernel
theorem dX1_fillCells_154 : decode cX1_fillCells 154 = .ok (.invokevirtual 76, 3) := by decide +kernel
theorem dX1_fillCells_157 : decode cX1_fillCells 157 = .ok (.aload_n 0, 1) := by decide +kernel
theorem dX1_fillCells_158 : decode cX1_fillCells 158 = .ok (.iload 7, 2) := by decide +kernel
theorem dX1_fillCells_160 : decode cX1_fillCells 160 = .ok (.iconst 2, 1) := by decide +kernel
theorem dX1_fillCells_161 : decode cX1_fillCells 161 = .ok (.iload 10, 2) := by decide +kernel
theorem dX1_fillCells_163 : decode cX1_fillCells 163 = .ok (.invokevirtual 76, 3) := by decide +kernel
theorem dX1_fillCells_166 : decode cX1_fillCells 166 = .ok (.aload_n 0, 1) := by decide +kernel
theorem dX1_fillCells_167 : decode cX1_fillCells 167 = .ok (.iload 7, 2) := by decide +kernel
theorem dX1_fillCells_169 : decode cX1_fillCells 169 = .ok (.bipush 6, 2) := by decide +kernel
theorem dX1_fillCells_171 : decode cX1_fillCells 171 = .ok (.iload 10, 2) := by decide +kernel
theorem dX1_fillCells_173 : decode cX1_fillCells 173 = .ok (.invokevirtual 76, 3) := by decide +kernel
theorem dX1_fillCells_176 : decode cX1_fillCells 176 = .ok (.aload_n 0, 1) := by decide +kernel
theorem dX1_fillCells_177 : decode cX1_fillCells 177 = .ok (.iload 7, 2) := by decide +kernel
theorem dX1_fillCells_179 : decode cX1_fillCells 179 = .ok (.iconst 5, 1) := by decide +kernel
theorem dX1_fillCells_180 : decode cX1_fillCells 180 = .ok (.iload 10, 2) := by decide +kernel
theorem dX1_fillCells_182 : decode cX1_fillCells 182 = .ok (.invokevirtual 76, 3) := by decide +kernel
theorem dX1_fillCells_185 : decode cX1_fillCells 185 = .ok (.aload_n 0, 1) := by decide +kernel
theorem dX1_fillCells_186 : decode cX1_fillCells 186 = .ok (.iload 7, 2) := by decide +kernel
theorem dX1_fillCells_188 : decode cX1_fillCells 188 = .ok (.bipush 7, 2) := by decide +kernel
theorem dX1_fillCells_190 : decode cX1_fillCells 190 = .ok (.iload 10, 2) := by decide +kernel
theorem dX1_fillCells_192 : decode cX1_fillCells 192 = .ok (.invokevirtual 76, 3) := by decide +kernel
theorem dX1_fillCells_195 : decode cX1_fillCells 195 = .ok (.iinc 6 1, 3) := by decide +kernel
theorem dX1_fillCells_198 : decode cX1_fillCells 198 = .ok (.goto (-165), 3) := by decide +kernel
theorem dX1_fillCells_201 : decode cX1_fillCells 201 = .ok (.return_, 1) := by decide +kernel
noncomputable def fX1_fillCells_33  : Nat → (Nat → Int32) → Int32 → Int32 → Int32 → Int32 → Int32 → Int32 → Option ((Nat → Int32))
  | 0, _, _, _, _, _, _, _ => none
  | n + 1, t_cells, v1, v2, v3, v4, v5, v6 => (if 4 ≤ v6 then some t_cells else chk 4 v6 (chk 4 v6 (chk 4 v6 ((fX1_setCell t_cells ((v1 * 4) + v6) 0 (((2 * v2) + ((2 * v3) * (stF 2 v6.toNatClampNeg))) + ((2 * v4) * (stF 3 v6.toNatClampNeg)))).bind fun w14 => (fX1_setCell w14 ((v1 * 4) + v6) 4 (((2 * v2) - ((2 * v3) * (stF 2 v6.toNatClampNeg))) + ((2 * v4) * (stF 3 v6.toNatClampNeg)))).bind fun w17 => (fX1_setCell w17 ((v1 * 4) + v6) 1 ((2 * v5) - ((2 * v4) * (stF 3 v6.toNatClampNeg)))).bind fun w20 => (fX1_setCell w20 ((v1 * 4) + v6) 3 ((2 * v5) - ((2 * v4) * (stF 3 v6.toNatClampNeg)))).bind fun w23 => (fX1_setCell w23 ((v1 * 4) + v6) 8 ((v2 - v5) - ((2 * v4) * (stF 3 v6.toNatClampNeg)))).bind fun w26 => (fX1_setCell w26 ((v1 * 4) + v6) 2 (v3 * (stF 4 v6.toNatClampNeg))).bind fun w29 => (fX1_setCell w29 ((v1 * 4) + v6) 6 (v3 * (stF 4 v6.toNatClampNeg))).bind fun w32 => (fX1_setCell w32 ((v1 * 4) + v6) 5 (v3 * (stF 4 v6.toNatClampNeg))).bind fun w35 => (fX1_setCell w35 ((v1 * 4) + v6) 7 (v3 * (stF 4 v6.toNatClampNeg))).bind fun w38 => fX1_fillCells_33 n w38 v1 v2 v3 v4 v5 (v6 + 1)))))
theorem fX1_fillCells_33_z  (t_cells : Nat → Int32) (v1 : Int32) (v2 : Int32) (v3 : Int32) (v4 : Int32) (v5 : Int32) (v6 : Int32) : fX1_fillCells_33  0 t_cells v1 v2 v3 v4 v5 v6 = none := rfl
theorem fX1_fillCells_33_s  (n : Nat) (t_cells : Nat → Int32) (v1 : Int32) (v2 : Int32) (v3 : Int32) (v4 : Int32) (v5 : Int32) (v6 : Int32) : fX1_fillCells_33  (n + 1) t_cells v1 v2 v3 v4 v5 v6 = (if 4 ≤ v6 then some t_cells else chk 4 v6 (chk 4 v6 (chk 4 v6 ((fX1_setCell t_cells ((v1 * 4) + v6) 0 (((2 * v2) + ((2 * v3) * (stF 2 v6.toNatClampNeg))) + ((2 * v4) * (stF 3 v6.toNatClampNeg)))).bind fun w14 => (fX1_setCell w14 ((v1 * 4) + v6) 4 (((2 * v2) - ((2 * v3) * (stF 2 v6.toNatClampNeg))) + ((2 * v4) * (stF 3 v6.toNatClampNeg)))).bind fun w17 => (fX1_setCell w17 ((v1 * 4) + v6) 1 ((2 * v5) - ((2 * v4) * (stF 3 v6.toNatClampNeg)))).bind fun w20 => (fX1_setCell w20 ((v1 * 4) + v6) 3 ((2 * v5) - ((2 * v4) * (stF 3 v6.toNatClampNeg)))).bind fun w23 => (fX1_setCell w23 ((v1 * 4) + v6) 8 ((v2 - v5) - ((2 * v4) * (stF 3 v6.toNatClampNeg)))).bind fun w26 => (fX1_setCell w26 ((v1 * 4) + v6) 2 (v3 * (stF 4 v6.toNatClampNeg))).bind fun w29 => (fX1_setCell w29 ((v1 * 4) + v6) 6 (v3 * (stF 4 v6.toNatClampNeg))).bind fun w32 => (fX1_setCell w32 ((v1 * 4) + v6) 5 (v3 * (stF 4 v6.toNatClampNeg))).bind fun w35 => (fX1_setCell w35 ((v1 * 4) + v6) 7 (v3 * (stF 4 v6.toNatClampNeg))).bind fun w38 => fX1_fillCells_33 n w38 v1 v2 v3 v4 v5 (v6 + 1))))) := rfl
noncomputable def fX1_fillCells  (t_numbers : Nat → Int32) (t_cells : Nat → Int32) (v1 : Int32) : Option ((Nat → Int32)) := (fX1_number t_numbers v1 0).bind fun r1 => (fX1_number t_numbers v1 1).bind fun r3 => (fX1_number t_numbers v1 2).bind fun r5 => (fX1_number t_numbers v1 3).bind fun r7 => fX1_fillCells_33 FU t_cells v1 r1 r3 r5 r7 0
set_option maxHeartbeats 4000000 in
set_option maxRecDepth 100000 in
theorem ctX1_fillCells (l : Launch) (g : GT) (sz : Nat) (a_t : Nat → Nat) (t_told : Int32) (t_lines : Int32) (t_kinds : Int32) (t_acts : Int32) (t_numbers : Nat → Int32) (t_cells : Nat → Int32) (v1 : Int32) (o_t_cells : Nat → Int32) (h : fX1_fillCells t_numbers t_cells v1 = some (o_t_cells)) : Met l yX1_fillCells (Cond.code yX1_fillCells cX1_fillCells 11 none :: Tw) ⟨1, 0, 0, 23⟩ (va_Pc [.ref ((a_t 0)), .int v1] (rwB g [((a_t 0), .inr (1, [.ref (a_t 1), .ref (a_t 2), .ref (a_t 3), .ref (a_t 4), .ref (a_t 5), .int t_told, .int t_lines, .int t_kinds, .int t_acts])), ((a_t 1), .inl (g.2.2.1 0, 15, .inl t_numbers)), ((a_t 2), .inl (g.2.2.1 0, 144, .inl t_cells))] sz)) (va_Qv (fun (_ : Nat → Nat) => True) (fun u => rwE g (va_A [((a_t 0), .inr (1, [.ref (a_t 1), .ref (a_t 2), .ref (a_t 3), .ref (a_t 4), .ref (a_t 5), .int t_told, .int t_lines, .int t_kinds, .int t_acts])), ((a_t 1), .inl (g.2.2.1 0, 15, .inl t_numbers)), ((a_t 2), .inl (g.2.2.1 0, 144, .inl t_cells))] sz) [((a_t 0), .inr (1, [.ref (a_t 1), .ref (a_t 2), .ref (a_t 3), .ref (a_t 4), .ref (a_t 5), .int t_told, .int t_lines, .int t_kinds, .int t_acts])), ((a_t 1), .inl (g.2.2.1 0, 15, .inl t_numbers)), ((a_t 2), .inl (g.2.2.1 0, 144, .inl o_t_cells))]) (va_A [((a_t 0), .inr (1, [.ref (a_t 1), .ref (a_t 2), .ref (a_t 3), .ref (a_t 4), .ref (a_t 5), .int t_told, .int t_lines, .int t_kinds, .int t_acts])), ((a_t 1), .inl (g.2.2.1 0, 15, .inl t_numbers)), ((a_t 2), .inl (g.2.2.1 0, 144, .inl t_cells))] sz)) 0 0 (va_A [((a_t 0), .inr (1, [.ref (a_t 1), .ref (a_t 2), .ref (a_t 3), .ref (a_t 4), .ref (a_t 5), .int t_told, .int t_lines, .int t_kinds, .int t_acts])), ((a_t 1), .inl (g.2.2.1 0, 15, .inl t_numbers)), ((a_t 2), .inl (g.2.2.1 0, 144, .inl t_cells))] sz) := by
  refine rw_metv (by decide) (Nat.le_of_ble_eq_true rfl) (lv0 := [(0, .ref ((a_t 0))), (1, .int v1)]) rfl ?_
  intro p e s m args below meth c ls Q A cx hret hG hAb hb0 hA hP hD hl
  have hx := cx.1
  have hb := cx.2.1
  have hG0 := hG
  have hGk : ∀ {H : Heap} {locs : List Loc}, va_S A s.heap H locs → GE g s H := fun hS => hG0.keptS hAb hS
  have hSb : ∀ {H : Heap} {locs : List Loc}, va_S A s.heap H locs → va_S (fun a => g.1 ≤ a) s.heap H locs := fun hS => ⟨hS.1, fun q h1 h2 => hS.2.1 q h1 (fun z => h2 (hAb q z)), fun l hl => hAb _ (hS.2.2 l hl)⟩
  have hS : va_S A s.heap s.heap [] := va_S.rf
  have hrt : ∀ (u : Nat → Nat) (pc : Nat) (ls : Array Slot) (x_t_cells : Nat → Int32) (H : Heap) (locs : List Loc), decode cX1_fillCells pc = .ok (.return_, 1) → some (x_t_cells) = some (o_t_cells) → va_P g.2.1 vwCl [((a_t 0), .inr (1, [.ref (a_t 1), .ref (a_t 2), .ref (a_t 3), .ref (a_t 4), .ref (a_t 5), .int t_told, .int t_lines, .int t_kinds, .int t_acts])), ((a_t 1), .inl (g.2.2.1 0, 15, .inl t_numbers)), ((a_t 2), .inl (g.2.2.1 0, 144, .inl x_t_cells))] H → va_D A [((a_t 0), .inr (1, [.ref (a_t 1), .ref (a_t 2), .ref (a_t 3), .ref (a_t 4), .ref (a_t 5), .int t_told, .int t_lines, .int t_kinds, .int t_acts])), ((a_t 1), .inl (g.2.2.1 0, 15, .inl t_numbers)), ((a_t 2), .inl (g.2.2.1 0, 144, .inl x_t_cells))] → va_S A s.heap H locs → W p l e ⟨1, 0, 0, 23⟩ s m args below meth c H locs 0 0 Q (F0 m pc ls []) := by
    intro u pc ls x_t_cells H locs hd h hP hD hS
    cases h
    exact hret u _ _ _ _ hd hP hD hS
  have w33 : ∀ (n : Nat) (t_cells : Nat → Int32) (v1 : Int32) (v2 : Int32) (v3 : Int32) (v4 : Int32) (v5 : Int32) (v6 : Int32) (H : Heap) (locs : List Loc), va_P g.2.1 vwCl [((a_t 0), .inr (1, [.ref (a_t 1), .ref (a_t 2), .ref (a_t 3), .ref (a_t 4), .ref (a_t 5), .int t_told, .int t_lines, .int t_kinds, .int t_acts])), ((a_t 1), .inl (g.2.2.1 0, 15, .inl t_numbers)), ((a_t 2), .inl (g.2.2.1 0, 144, .inl t_cells))] H → va_D A [((a_t 0), .inr (1, [.ref (a_t 1), .ref (a_t 2), .ref (a_t 3), .ref (a_t 4), .ref (a_t 5), .int t_told, .int t_lines, .int t_kinds, .int t_acts])), ((a_t 1), .inl (g.2.2.1 0, 15, .inl t_numbers)), ((a_t 2), .inl (g.2.2.1 0, 144, .inl t_cells))] → va_S A s.heap H locs → ∀ (ls : Array Slot), lv_has ls 11 [(0, .ref ((a_t 0))), (1, .int v1), (2, .int v2), (3, .int v3), (4, .int v4), (5, .int v5), (6, .int v6)] → fX1_fillCells_33  n t_cells v1 v2 v3 v4 v5 v6 = some (o_t_cells) → W p l e ⟨1, 0, 0, 23⟩ s m args below meth c H locs 0 0 Q (F0 m 33 ls []) := by
    intro n
    induction n with
    | zero => intro t_cells v1 v2 v3 v4 v5 v6 H locs hP hD hS ls hl h; cases (fX1_fillCells_33_z  t_cells v1 v2 v3 v4 v5 v6).symm.trans h
    | succ n ih =>
    intro t_cells v1 v2 v3 v4 v5 v6 H locs hP hD hS ls hl h
    have h := (fX1_fillCells_33_s  n t_cells v1 v2 v3 v4 v5 v6).symm.trans h
    have hG := hGk hS
    refine lv_iload hx hb dX1_fillCells_33 (lv_at hl 6 rfl) ?_
    refine lv_iconst (v := 4) hx hb dX1_fillCells_35 (by decide) ?_
    refine lv_icmp_ge (tgt := 201) hx hb dX1_fillCells_36 (by decide) (fun c9 => ?_) (fun c9 => ?_)
    · have h := itp c9 h
      exact hrt (fun _ => 0) _ _ t_cells _ _ dX1_fillCells_201 h (hP.sub [0, 1, 2] rfl) (hD.sub [0, 1, 2] (by decide) rfl) hS
    · have h := itn c9 h
      refine lv_iload_n hx hb dX1_fillCells_39 rfl (lv_at hl 1 rfl) ?_
      refine lv_iconst (v := 4) hx hb dX1_fillCells_40 (by decide) ?_
      refine lv_imul hx hb dX1_fillCells_41 ?_
      refine lv_iload hx hb dX1_fillCells_42 (lv_at hl 6 rfl) ?_
      refine lv_iadd hx hb dX1_fillCells_44 ?_
      refine lv_istore (lv' := [(7, .int ((v1 * 4) + v6)), (0, .ref ((a_t 0))), (1, .int v1), (2, .int v2), (3, .int v3), (4, .int v4), (5, .int v5), (6, .int v6)]) hx hb dX1_fillCells_45 hl (by decide) rfl (fun ls hl => ?_)
      refine lv_iconst (v := 2) hx hb dX1_fillCells_47 (by decide) ?_
      refine lv_iload_n hx hb dX1_fillCells_48 rfl (lv_at hl 4 rfl) ?_
      refine lv_imul hx hb dX1_fillCells_49 ?_
      refine xs_get cx hG0 (hSb hS) 2 rfl lf_X1_67 dX1_fillCells_50 ?_
      refine lv_iload hx hb dX1_fillCells_53 (lv_at hl 7 rfl) ?_
      obtain ⟨hi10, h⟩ := chk_out h
      refine xs_ald (v := stF 2 v6.toNatClampNeg) cx hG0 (hSb hS) 2 ⟨rfl, rfl⟩ hi10 rfl dX1_fillCells_55 ?_
      refine lv_imul hx hb dX1_fillCells_56 ?_
      refine lv_istore (lv' := [(8, .int ((2 * v3) * (stF 2 v6.toNatClampNeg))), (7, .int ((v1 * 4) + v6)), (0, .ref ((a_t 0))), (1, .int v1), (2, .int v2), (3, .int v3), (4, .int v4), (5, .int v5), (6, .int v6)]) hx hb dX1_fillCells_57 hl (by decide) rfl (fun ls hl => ?_)
      refine lv_iconst (v := 2) hx hb dX1_fillCells_59 (by decide) ?_
      refine lv_iload hx hb dX1_fillCells_60 (lv_at hl 6 rfl) ?_
      refine lv_imul hx hb dX1_fillCells_62 ?_
      refine xs_get cx hG0 (hSb hS) 3 rfl lf_X1_70 dX1_fillCells_63 ?_
      refine lv_iload hx hb dX1_fillCells_66 (lv_at hl 8 rfl) ?_
      obtain ⟨hi11, h⟩ := chk_out h
      refine xs_ald (v := stF 3 v6.toNatClampNeg) cx hG0 (hSb hS) 3 ⟨rfl, rfl⟩ hi11 rfl dX1_fillCells_68 ?_
      refine lv_imul hx hb dX1_fillCells_69 ?_
      refine lv_istore (lv' := [(9, .int ((2 * v4) * (stF 3 v6.toNatClampNeg))), (8, .int ((2 * v3) * (stF 2 v6.toNatClampNeg))), (7, .int ((v1 * 4) + v6)), (0, .ref ((a_t 0))), (1, .int v1), (2, .int v2), (3, .int v3), (4, .int v4), (5, .int v5), (6, .int v6)]) hx hb dX1_fillCells_70 hl (by decide) rfl (fun ls hl => ?_)
      refine lv_iload_n hx hb dX1_fillCells_72 rfl (lv_at hl 6 rfl) ?_
      refine xs_get cx hG0 (hSb hS) 4 rfl lf_X1_73 dX1_fillCells_73 ?_
      refine lv_iload hx hb dX1_fillCells_76 (lv_at hl 9 rfl) ?_
      obtain ⟨hi12, h⟩ := chk_out h
      refine xs_ald (v := stF 4 v6.toNatClampNeg) cx hG0 (hSb hS) 4 ⟨rfl, rfl⟩ hi12 rfl dX1_fillCells_78 ?_
      refine lv_imul hx hb dX1_fillCells_79 ?_
      refine lv_istore (lv' := [(10, .int (v3 * (stF 4 v6.toNatClampNeg))), (9, .int ((2 * v4) * (stF 3 v6.toNatClampNeg))), (8, .int ((2 * v3) * (stF 2 v6.toNatClampNeg))), (7, .int ((v1 * 4) + v6)), (0, .ref ((a_t 0))), (1, .int v1), (2, .int v2), (3, .int v3), (4, .int v4), (5, .int v5), (6, .int v6)]) hx hb dX1_fillCells_80 hl (by decide) rfl (fun ls hl => ?_)
      refine lv_aload_n hx hb dX1_fillCells_82 rfl (lv_at hl 4 rfl) ?_
      refine lv_iload hx hb dX1_fillCells_83 (lv_at hl 3 rfl) ?_
      refine lv_iconst (v := 0) hx hb dX1_fillCells_85 (by decide) ?_
      refine lv_iconst (v := 2) hx hb dX1_fillCells_86 (by decide) ?_
      refine lv_iload_n hx hb dX1_fillCells_87 rfl (lv_at hl 6 rfl) ?_
      refine lv_imul hx hb dX1_fillCells_88 ?_
      refine lv_iload hx hb dX1_fillCells_89 (lv_at hl 2 rfl) ?_
      refine lv_iadd hx hb dX1_fillCells_91 ?_
      refine lv_iload hx hb dX1_fillCells_92 (lv_at hl 1 rfl) ?_
      refine lv_iadd hx hb dX1_fillCells_94 ?_
      obtain ⟨w14, hr13, h⟩ := bnd h
      refine rw_v (WN := fun u15 => [((a_t 1), .inl (g.2.2.1 0, 15, .inl t_numbers)), ((a_t 0), .inr (1, [.ref (a_t 1), .ref (a_t 2), .ref (a_t 3), .ref (a_t 4), .ref (a_t 5), .int t_told, .int t_lines, .int t_kinds, .int t_acts])), ((a_t 2), .inl (g.2.2.1 0, 144, .inl w14))]) (wr := [((a_t 1), .inl (g.2.2.1 0, 15, .inl t_numbers))]) (runV (As := [.int ((v1 * 4) + v6), .int (0), .int (((2 * v2) + ((2 * v3) * (stF 2 v6.toNatClampNeg))) + ((2 * v4) * (stF 3 v6.toNatClampNeg)))]) (rest := []) cx hl.1 (ctX1_setCell l g H.size a_t t_told t_lines t_kinds t_acts t_cells ((v1 * 4) + v6) (0) (((2 * v2) + ((2 * v3) * (stF 2 v6.toNatClampNeg))) + ((2 * v4) * (stF 3 v6.toNatClampNeg))) w14 hr13) kmX1_setCell kvX1_setCell lm_X1_76 ⟨rfl, rfl⟩ ⟨Nat.le_of_ble_eq_true rfl, Nat.le_of_ble_eq_true rfl⟩ (rwV (q0 := 0) (ci := 1) hG (hP.sub [0, 2] rfl) (hD.sub [0, 2] (by decide) rfl) hAb hb0 hS hP rfl rfl) rfl rfl (Nat.le_of_ble_eq_true rfl) dX1_fillCells_95 ⟨Nat.le_of_ble_eq_true rfl, Nat.le_of_ble_eq_true rfl⟩) hP hD hS hA [0, 2] [1] rfl rfl (by decide) (by decide) (fun _ => rfl) (fun u15 H locs hP hD hS => ?_)
      have hG := hGk hS
      refine lv_aload_n hx hb dX1_fillCells_98 rfl (lv_at hl 4 rfl) ?_
      refine lv_iload hx hb dX1_fillCells_99 (lv_at hl 3 rfl) ?_
      refine lv_iconst (v := 4) hx hb dX1_fillCells_101 (by decide) ?_
      refine lv_iconst (v := 2) hx hb dX1_fillCells_102 (by decide) ?_
      refine lv_iload_n hx hb dX1_fillCells_103 rfl (lv_at hl 6 rfl) ?_
      refine lv_imul hx hb dX1_fillCells_104 ?_
      refine lv_iload hx hb dX1_fillCells_105 (lv_at hl 2 rfl) ?_
      refine lv_isub hx hb dX1_fillCells_107 ?_
      refine lv_iload hx hb dX1_fillCells_108 (lv_at hl 1 rfl) ?_
      refine lv_iadd hx hb dX1_fillCells_110 ?_
      obtain ⟨w17, hr16, h⟩ := bnd h
      refine rw_v (WN := fun u18 => [((a_t 1), .inl (g.2.2.1 0, 15, .inl t_numbers)), ((a_t 0), .inr (1, [.ref (a_t 1), .ref (a_t 2), .ref (a_t 3), .ref (a_t 4), .ref (a_t 5), .int t_told, .int t_lines, .int t_kinds, .int t_acts])), ((a_t 2), .inl (g.2.2.1 0, 144, .inl w17))]) (wr := [((a_t 1), .inl (g.2.2.1 0, 15, .inl t_numbers))]) (runV (As := [.int ((v1 * 4) + v6), .int (4), .int (((2 * v2) - ((2 * v3) * (stF 2 v6.toNatClampNeg))) + ((2 * v4) * (stF 3 v6.toNatClampNeg)))]) (rest := []) cx hl.1 (ctX1_setCell l g H.size a_t t_told t_lines t_kinds t_acts w14 ((v1 * 4) + v6) (4) (((2 * v2) - ((2 * v3) * (stF 2 v6.toNatClampNeg))) + ((2 * v4) * (stF 3 v6.toNatClampNeg))) w17 hr16) kmX1_setCell kvX1_setCell lm_X1_76 ⟨rfl, rfl⟩ ⟨Nat.le_of_ble_eq_true rfl, Nat.le_of_ble_eq_true rfl⟩ (rwV (q0 := 1) (ci := 1) hG (hP.sub [1, 2] rfl) (hD.sub [1, 2] (by decide) rfl) hAb hb0 hS hP rfl rfl) rfl rfl (Nat.le_of_ble_eq_true rfl) dX1_fillCells_111 ⟨Nat.le_of_ble_eq_true rfl, Nat.le_of_ble_eq_true rfl⟩) hP hD hS hA [1, 2] [0] rfl rfl (by decide) (by decide) (fun _ => rfl) (fun u18 H locs hP hD hS => ?_)
      have hG := hGk hS
      refine lv_aload_n hx hb dX1_fillCells_114 rfl (lv_at hl 4 rfl) ?_
      refine lv_iload hx hb dX1_fillCells_115 (lv_at hl 3 rfl) ?_
      refine lv_iconst (v := 1) hx hb dX1_fillCells_117 (by decide) ?_
      refine lv_iconst (v := 2) hx hb dX1_fillCells_118 (by decide) ?_
      refine lv_iload hx hb dX1_fillCells_119 (lv_at hl 9 rfl) ?_
      refine lv_imul hx hb dX1_fillCells_121 ?_
      refine lv_iload hx hb dX1_fillCells_122 (lv_at hl 1 rfl) ?_
      refine lv_isub hx hb dX1_fillCells_124 ?_
      obtain ⟨w20, hr19, h⟩ := bnd h
      refine rw_v (WN := fun u21 => [((a_t 1), .inl (g.2.2.1 0, 15, .inl t_numbers)), ((a_t 0), .inr (1, [.ref (a_t 1), .ref (a_t 2), .ref (a_t 3), .ref (a_t 4), .ref (a_t 5), .int t_told, .int t_lines, .int t_kinds, .int t_acts])), ((a_t 2), .inl (g.2.2.1 0, 144, .inl w20))]) (wr := [((a_t 1), .inl (g.2.2.1 0, 15, .inl t_numbers))]) (runV (As := [.int ((v1 * 4) + v6), .int (1), .int ((2 * v5) - ((2 * v4) * (stF 3 v6.toNatClampNeg)))]) (rest := []) cx hl.1 (ctX1_setCell l g H.size a_t t_told t_lines t_kinds t_acts w17 ((v1 * 4) + v6) (1) ((2 * v5) - ((2 * v4) * (stF 3 v6.toNatClampNeg))) w20 hr19) kmX1_setCell kvX1_setCell lm_X1_76 ⟨rfl, rfl⟩ ⟨Nat.le_of_ble_eq_true rfl, Nat.le_of_ble_eq_true rfl⟩ (rwV (q0 := 1) (ci := 1) hG (hP.sub [1, 2] rfl) (hD.sub [1, 2] (by decide) rfl) hAb hb0 hS hP rfl rfl) rfl rfl (Nat.le_of_ble_eq_true rfl) dX1_fillCells_125 ⟨Nat.le_of_ble_eq_true rfl, Nat.le_of_ble_eq_true rfl⟩) hP hD hS hA [1, 2] [0] rfl rfl (by decide) (by decide) (fun _ => rfl) (fun u21 H locs hP hD hS => ?_)
      have hG := hGk hS
      refine lv_aload_n hx hb dX1_fillCells_128 rfl (lv_at hl 4 rfl) ?_
      refine lv_iload hx hb dX1_fillCells_129 (lv_at hl 3 rfl) ?_
      refine lv_iconst (v := 3) hx hb dX1_fillCells_131 (by decide) ?_
      refine lv_iconst (v := 2) hx hb dX1_fillCells_132 (by decide) ?_
      refine lv_iload hx hb dX1_fillCells_133 (lv_at hl 9 rfl) ?_
      refine lv_imul hx hb dX1_fillCells_135 ?_
      refine lv_iload hx hb dX1_fillCells_136 (lv_at hl 1 rfl) ?_
      refine lv_isub hx hb dX1_fillCells_138 ?_
      obtain ⟨w23, hr22, h⟩ := bnd h
      refine rw_v (WN := fun u24 => [((a_t 1), .inl (g.2.2.1 0, 15, .inl t_numbers)), ((a_t 0), .inr (1, [.ref (a_t 1), .ref (a_t 2), .ref (a_t 3), .ref (a_t 4), .ref (a_t 5), .int t_told, .int t_lines, .int t_kinds, .int t_acts])), ((a_t 2), .inl (g.2.2.1 0, 144, .inl w23))]) (wr := [((a_t 1), .inl (g.2.2.1 0, 15, .inl t_numbers))]) (runV (As := [.int ((v1 * 4) + v6), .int (3), .int ((2 * v5) - ((2 * v4) * (stF 3 v6.toNatClampNeg)))]) (rest := []) cx hl.1 (ctX1_setCell l g H.size a_t t_told t_lines t_kinds t_acts w20 ((v1 * 4) + v6) (3) ((2 * v5) - ((2 * v4) * (stF 3 v6.toNatClampNeg))) w23 hr22) kmX1_setCell kvX1_setCell lm_X1_76 ⟨rfl, rfl⟩ ⟨Nat.le_of_ble_eq_true rfl, Nat.le_of_ble_eq_true rfl⟩ (rwV (q0 := 1) (ci := 1) hG (hP.sub [1, 2] rfl) (hD.sub [1, 2] (by decide) rfl) hAb hb0 hS hP rfl rfl) rfl rfl (Nat.le_of_ble_eq_true rfl) dX1_fillCells_139 ⟨Nat.le_of_ble_eq_true rfl, Nat.le_of_ble_eq_true rfl⟩) hP hD hS hA [1, 2] [0] rfl rfl (by decide) (by decide) (fun _ => rfl) (fun u24 H locs hP hD hS => ?_)
      have hG := hGk hS
      refine lv_aload_n hx hb dX1_fillCells_142 rfl (lv_at hl 4 rfl) ?_
      refine lv_iload hx hb dX1_fillCells_143 (lv_at hl 3 rfl) ?_
      refine lv_bipush (v := 8) hx hb dX1_fillCells_145 (by decide) ?_
      refine lv_iload_n hx hb dX1_fillCells_147 rfl (lv_at hl 6 rfl) ?_
      refine lv_iload hx hb dX1_fillCells_148 (lv_at hl 9 rfl) ?_
      refine lv_isub hx hb dX1_fillCells_150 ?_
      refine lv_iload hx hb dX1_fillCells_151 (lv_at hl 1 rfl) ?_
      refine lv_isub hx hb dX1_fillCells_153 ?_
      obtain ⟨w26, hr25, h⟩ := bnd h
      refine rw_v (WN := fun u27 => [((a_t 1), .inl (g.2.2.1 0, 15, .inl t_numbers)), ((a_t 0), .inr (1, [.ref (a_t 1), .ref (a_t 2), .ref (a_t 3), .ref (a_t 4), .ref (a_t 5), .int t_told, .int t_lines, .int t_kinds, .int t_acts])), ((a_t 2), .inl (g.2.2.1 0, 144, .inl w26))]) (wr := [((a_t 1), .inl (g.2.2.1 0, 15, .inl t_numbers))]) (runV (As := [.int ((v1 * 4) + v6), .int (8), .int ((v2 - v5) - ((2 * v4) * (stF 3 v6.toNatClampNeg)))]) (rest := []) cx hl.1 (ctX1_setCell l g H.size a_t t_told t_lines t_kinds t_acts w23 ((v1 * 4) + v6) (8) ((v2 - v5) - ((2 * v4) * (stF 3 v6.toNatClampNeg))) w26 hr25) kmX1_setCell kvX1_setCell lm_X1_76 ⟨rfl, rfl⟩ ⟨Nat.le_of_ble_eq_true rfl, Nat.le_of_ble_eq_true rfl⟩ (rwV (q0 := 1) (ci := 1) hG (hP.sub [1, 2] rfl) (hD.sub [1, 2] (by decide) rfl) hAb hb0 hS hP rfl rfl) rfl rfl (Nat.le_of_ble_eq_true rfl) dX1_fillCells_154 ⟨Nat.le_of_ble_eq_true rfl, Nat.le_of_ble_eq_true rfl⟩) hP hD hS hA [1, 2] [0] rfl rfl (by decide) (by decide) (fun _ => rfl) (fun u27 H locs hP hD hS => ?_)
      have hG := hGk hS
      refine lv_aload_n hx hb dX1_fillCells_157 rfl (lv_at hl 4 rfl) ?_
      refine lv_iload hx hb dX1_fillCells_158 (lv_at hl 3 rfl) ?_
      refine lv_iconst (v := 2) hx hb dX1_fillCells_160 (by decide) ?_
      refine lv_iload hx hb dX1_fillCells_161 (lv_at hl 0 rfl) ?_
      obtain ⟨w29, hr28, h⟩ := bnd h
      refine rw_v (WN := fun u30 => [((a_t 1), .inl (g.2.2.1 0, 15, .inl t_numbers)), ((a_t 0), .inr (1, [.ref (a_t 1), .ref (a_t 2), .ref (a_t 3), .ref (a_t 4), .ref (a_t 5), .int t_told, .int t_lines, .int t_kinds, .int t_acts])), ((a_t 2), .inl (g.2.2.1 0, 144, .inl w29))]) (wr := [((a_t 1), .inl (g.2.2.1 0, 15, .inl t_numbers))]) (runV (As := [.int ((v1 * 4) + v6), .int (2), .int (v3 * (stF 4 v6.toNatClampNeg))]) (rest := []) cx hl.1 (ctX1_setCell l g H.size a_t t_told t_lines t_kinds t_acts w26 ((v1 * 4) + v6) (2) (v3 * (stF 4 v6.toNatClampNeg)) w29 hr28) kmX1_setCell kvX1_setCell lm_X1_76 ⟨rfl, rfl⟩ ⟨Nat.le_of_ble_eq_true rfl, Nat.le_of_ble_eq_true rfl⟩ (rwV (q0 := 1) (ci := 1) hG (hP.sub [1, 2] rfl) (hD.sub [1, 2] (by decide) rfl) hAb hb0 hS hP rfl rfl) rfl rfl (Nat.le_of_ble_eq_true rfl) dX1_fillCells_163 ⟨Nat.le_of_ble_eq_true rfl, Nat.le_of_ble_eq_true rfl⟩) hP hD hS hA [1, 2] [0] rfl rfl (by decide) (by decide) (fun _ => rfl) (fun u30 H locs hP hD hS => ?_)
      have hG := hGk hS
      refine lv_aload_n hx hb dX1_fillCells_166 rfl (lv_at hl 4 rfl) ?_
      refine lv_iload hx hb dX1_fillCells_167 (lv_at hl 3 rfl) ?_
      refine lv_bipush (v := 6) hx hb dX1_fillCells_169 (by decide) ?_
      refine lv_iload hx hb dX1_fillCells_171 (lv_at hl 0 rfl) ?_
      obtain ⟨w32, hr31, h⟩ := bnd h
      refine rw_v (WN := fun u33 => [((a_t 1), .inl (g.2.2.1 0, 15, .inl t_numbers)), ((a_t 0), .inr (1, [.ref (a_t 1), .ref (a_t 2), .ref (a_t 3), .ref (a_t 4), .ref (a_t 5), .int t_told, .int t_lines, .int t_kinds, .int t_acts])), ((a_t 2), .inl (g.2.2.1 0, 144, .inl w32))]) (wr := [((a_t 1), .inl (g.2.2.1 0, 15, .inl t_numbers))]) (runV (As := [.int ((v1 * 4) + v6), .int (6), .int (v3 * (stF 4 v6.toNatClampNeg))]) (rest := []) cx hl.1 (ctX1_setCell l g H.size a_t t_told t_lines t_kinds t_acts w29 ((v1 * 4) + v6) (6) (v3 * (stF 4 v6.toNatClampNeg)) w32 hr31) kmX1_setCell kvX1_setCell lm_X1_76 ⟨rfl, rfl⟩ ⟨Nat.le_of_ble_eq_true rfl, Nat.le_of_ble_eq_true rfl⟩ (rwV (q0 := 1) (ci := 1) hG (hP.sub [1, 2] rfl) (hD.sub [1, 2] (by decide) rfl) hAb hb0 hS hP rfl rfl) rfl rfl (Nat.le_of_ble_eq_true rfl) dX1_fillCells_173 ⟨Nat.le_of_ble_eq_true rfl, Nat.le_of_ble_eq_true rfl⟩) hP hD hS hA [1, 2] [0] rfl rfl (by decide) (by decide) (fun _ => rfl) (fun u33 H locs hP hD hS => ?_)
      have hG := hGk hS
      refine lv_aload_n hx hb dX1_fillCells_176 rfl (lv_at hl 4 rfl) ?_
      refine lv_iload hx hb dX1_fillCells_177 (lv_at hl 3 rfl) ?_
      refine lv_iconst (v := 5) hx hb dX1_fillCells_179 (by decide) ?_
      refine lv_iload hx hb dX1_fillCells_180 (lv_at hl 0 rfl) ?_
      obtain ⟨w35, hr34, h⟩ := bnd h
      refine rw_v (WN := fun u36 => [((a_t 1), .inl (g.2.2.1 0, 15, .inl t_numbers)), ((a_t 0), .inr (1, [.ref (a_t 1), .ref (a_t 2), .ref (a_t 3), .ref (a_t 4), .ref (a_t 5), .int t_told, .int t_lines, .int t_kinds, .int t_acts])), ((a_t 2), .inl (g.2.2.1 0, 144, .inl w35))]) (wr := [((a_t 1), .inl (g.2.2.1 0, 15, .inl t_numbers))]) (runV (As := [.int ((v1 * 4) + v6), .int (5), .int (v3 * (stF 4 v6.toNatClampNeg))]) (rest := []) cx hl.1 (ctX1_setCell l g H.size a_t t_told t_lines t_kinds t_acts w32 ((v1 * 4) + v6) (5) (v3 * (stF 4 v6.toNatClampNeg)) w35 hr34) kmX1_setCell kvX1_setCell lm_X1_76 ⟨rfl, rfl⟩ ⟨Nat.le_of_ble_eq_true rfl, Nat.le_of_ble_eq_true rfl⟩ (rwV (q0 := 1) (ci := 1) hG (hP.sub [1, 2] rfl) (hD.sub [1, 2] (by decide) rfl) hAb hb0 hS hP rfl rfl) rfl rfl (Nat.le_of_ble_eq_true rfl) dX1_fillCells_182 ⟨Nat.le_of_ble_eq_true rfl, Nat.le_of_ble_eq_true rfl⟩) hP hD hS hA [1, 2] [0] rfl rfl (by decide) (by decide) (fun _ => rfl) (fun u36 H locs hP hD hS => ?_)
      have hG := hGk hS
      refine lv_aload_n hx hb dX1_fillCells_185 rfl (lv_at hl 4 rfl) ?_
      refine lv_iload hx hb dX1_fillCells_186 (lv_at hl 3 rfl) ?_
      refine lv_bipush (v := 7) hx hb dX1_fillCells_188 (by decide) ?_
      refine lv_iload hx hb dX1_fillCells_190 (lv_at hl 0 rfl) ?_
      obtain ⟨w38, hr37, h⟩ := bnd h
      refine rw_v (WN := fun u39 => [((a_t 1), .inl (g.2.2.1 0, 15, .inl t_numbers)), ((a_t 0), .inr (1, [.ref (a_t 1), .ref (a_t 2), .ref (a_t 3), .ref (a_t 4), .ref (a_t 5), .int t_told, .int t_lines, .int t_kinds, .int t_acts])), ((a_t 2), .inl (g.2.2.1 0, 144, .inl w38))]) (wr := [((a_t 1), .inl (g.2.2.1 0, 15, .inl t_numbers))]) (runV (As := [.int ((v1 * 4) + v6), .int (7), .int (v3 * (stF 4 v6.toNatClampNeg))]) (rest := []) cx hl.1 (ctX1_setCell l g H.size a_t t_told t_lines t_kinds t_acts w35 ((v1 * 4) + v6) (7) (v3 * (stF 4 v6.toNatClampNeg)) w38 hr37) kmX1_setCell kvX1_setCell lm_X1_76 ⟨rfl, rfl⟩ ⟨Nat.le_of_ble_eq_true rfl, Nat.le_of_ble_eq_true rfl⟩ (rwV (q0 := 1) (ci := 1) hG (hP.sub [1, 2] rfl) (hD.sub [1, 2] (by decide) rfl) hAb hb0 hS hP rfl rfl) rfl rfl (Nat.le_of_ble_eq_true rfl) dX1_fillCells_192 ⟨Nat.le_of_ble_eq_true rfl, Nat.le_of_ble_eq_true rfl⟩) hP hD hS hA [1, 2] [0] rfl rfl (by decide) (by decide) (fun _ => rfl) (fun u39 H locs hP hD hS => ?_)
      have hG := hGk hS
      refine lv_iinc (v := v6 + 1) (lv' := [(6, .int (v6 + 1)), (10, .int (v3 * (stF 4 v6.toNatClampNeg))), (9, .int ((2 * v4) * (stF 3 v6.toNatClampNeg))), (8, .int ((2 * v3) * (stF 2 v6.toNatClampNeg))), (7, .int ((v1 * 4) + v6)), (0, .ref ((a_t 0))), (1, .int v1), (2, .int v2), (3, .int v3), (4, .int v4), (5, .int v5)]) hx hb dX1_fillCells_195 hl (k := 10) rfl rfl (by decide) rfl (fun ls hl => ?_)
      refine lv_goto (tgt := 33) hx hb dX1_fillCells_198 (by decide) ?_
      exact ih w38 v1 v2 v3 v4 v5 (v6 + 1) _ _ (hP.sub [1, 0, 2] rfl) (hD.sub [1, 0, 2] (by decide) rfl) hS _ (lv_sub hl [5, 6, 7, 8, 9, 10, 0] rfl) h
  unfold fX1_fillCells at h
  refine lv_aload_n hx hb dX1_fillCells_0 rfl (lv_at hl 0 rfl) ?_
  refine lv_iload_n hx hb dX1_fillCells_1 rfl (lv_at hl 1 rfl) ?_
  refine lv_iconst (v := 0) hx hb dX1_fillCells_2 (by decide) ?_
  obtain ⟨r1, hr2, h⟩ := bnd h
  refine ro_i (runV (As := [.int v1, .int (0)]) (rest := []) cx hl.1 (ctX1_number l g a_t t_told t_lines t_kinds t_acts t_numbers v1 (0) r1 hr2) kmX1_number kvX1_number lm_X1_64 ⟨rfl, rfl⟩ ⟨Nat.le_of_ble_eq_true rfl, Nat.le_of_ble_eq_true rfl⟩ (roV (q0 := 0) (ci := 1) hG (hP.sub [0, 1] rfl) hP rfl rfl) rfl rfl (Nat.le_of_ble_eq_true rfl) dX1_fillCells_3 ⟨Nat.le_of_ble_eq_true rfl, Nat.le_of_ble_eq_true rfl⟩) ?_
  refine lv_istore_n (lv' := [(2, .int r1), (0, .ref ((a_t 0))), (1, .int v1)]) hx hb dX1_fillCells_6 rfl hl (by decide) rfl (fun ls hl => ?_)
  refine lv_aload_n hx hb dX1_fillCells_7 rfl (lv_at hl 1 rfl) ?_
  refine lv_iload_n hx hb dX1_fillCells_8 rfl (lv_at hl 2 rfl) ?_
  refine lv_iconst (v := 1) hx hb dX1_fillCells_9 (by decide) ?_
  obtain ⟨r3, hr4, h⟩ := bnd h
  refine ro_i (runV (As := [.int v1, .int (1)]) (rest := []) cx hl.1 (ctX1_number l g a_t t_told t_lines t_kinds t_acts t_numbers v1 (1) r3 hr4) kmX1_number kvX1_number lm_X1_64 ⟨rfl, rfl⟩ ⟨Nat.le_of_ble_eq_true rfl, Nat.le_of_ble_eq_true rfl⟩ (roV (q0 := 0) (ci := 1) hG (hP.sub [0, 1] rfl) hP rfl rfl) rfl rfl (Nat.le_of_ble_eq_true rfl) dX1_fillCells_10 ⟨Nat.le_of_ble_eq_true rfl, Nat.le_of_ble_eq_true rfl⟩) ?_
  refine lv_istore_n (lv' := [(3, .int r3), (2, .int r1), (0, .ref ((a_t 0))), (1, .int v1)]) hx hb dX1_fillCells_13 rfl hl (by decide) rfl (fun ls hl => ?_)
  refine lv_aload_n hx hb dX1_fillCells_14 rfl (lv_at hl 2 rfl) ?_
  refine lv_iload_n hx hb dX1_fillCells_15 rfl (lv_at hl 3 rfl) ?_
  refine lv_iconst (v := 2) hx hb dX1_fillCells_16 (by decide) ?_
  obtain ⟨r5, hr6, h⟩ := bnd h
  refine ro_i (runV (As := [.int v1, .int (2)]) (rest := []) cx hl.1 (ctX1_number l g a_t t_told t_lines t_kinds t_acts t_numbers v1 (2) r5 hr6) kmX1_number kvX1_number lm_X1_64 ⟨rfl, rfl⟩ ⟨Nat.le_of_ble_eq_true rfl, Nat.le_of_ble_eq_true rfl⟩ (roV (q0 := 0) (ci := 1) hG (hP.sub [0, 1] rfl) hP rfl rfl) rfl rfl (Nat.le_of_ble_eq_true rfl) dX1_fillCells_17 ⟨Nat.le_of_ble_eq_true rfl, Nat.le_of_ble_eq_true rfl⟩) ?_
  refine lv_istore (lv' := [(4, .int r5), (3, .int r3), (2, .int r1), (0, .ref ((a_t 0))), (1, .int v1)]) hx hb dX1_fillCells_20 hl (by decide) rfl (fun ls hl => ?_)
  refine lv_aload_n hx hb dX1_fillCells_22 rfl (lv_at hl 3 rfl) ?_
  refine lv_iload_n hx hb dX1_fillCells_23 rfl (lv_at hl 4 rfl) ?_
  refine lv_iconst (v := 3) hx hb dX1_fillCells_24 (by decide) ?_
  obtain ⟨r7, hr8, h⟩ := bnd h
  refine ro_i (runV (As := [.int v1, .int (3)]) (rest := []) cx hl.1 (ctX1_number l g a_t t_told t_lines t_kinds t_acts t_numbers v1 (3) r7 hr8) kmX1_number kvX1_number lm_X1_64 ⟨rfl, rfl⟩ ⟨Nat.le_of_ble_eq_true rfl, Nat.le_of_ble_eq_true rfl⟩ (roV (q0 := 0) (ci := 1) hG (hP.sub [0, 1] rfl) hP rfl rfl) rfl rfl (Nat.le_of_ble_eq_true rfl) dX1_fillCells_25 ⟨Nat.le_of_ble_eq_true rfl, Nat.le_of_ble_eq_true rfl⟩) ?_
  refine lv_istore (lv' := [(5, .int r7), (4, .int r5), (3, .int r3), (2, .int r1), (0, .ref ((a_t 0))), (1, .int v1)]) hx hb dX1_fillCells_28 hl (by decide) rfl (fun ls hl => ?_)
  refine lv_iconst (v := 0) hx hb dX1_fillCells_30 (by decide) ?_
  refine lv_istore (lv' := [(6, .int (0)), (5, .int r7), (4, .int r5), (3, .int r3), (2, .int r1), (0, .ref ((a_t 0))), (1, .int v1)]) hx hb dX1_fillCells_31 hl (by decide) rfl (fun ls hl => ?_)
  exact w33 FU t_cells v1 r1 r3 r5 r7 0 _ _ hP hD hS _ (lv_sub hl [5, 6, 4, 3, 2, 1, 0] rfl) h
-- X1_cellAt
theorem dX1_cellAt_0 : decode cX1_cellAt 0 = .ok (.iload_n 2, 1) := by decide +kernel
theorem dX1_cellAt_1 : decode cX1_cellAt 1 = .ok (.ifCond .lt 9, 3) := by decide +kernel
theorem dX1_cellAt_4 : decode cX1_cellAt 4 = .ok (.iload_n 2, 1) := by decide +kernel
theorem dX1_cellAt_5 : decode cX1_cellAt 5 = .ok (.bipush 8, 2) := by decide +kernel
theorem dX1_cellAt_7 : decode cX1_cellAt 7 = .ok (.if_icmp .le 7, 3) := by decide +kernel
theorem dX1_cellAt_10 : decode cX1_cellAt 10 = .ok (.iconst 0, 1) := by decide +kernel
theorem dX1_cellAt_11 : decode cX1_cellAt 11 = .ok (.goto 17, 3) := by decide +kernel
theorem dX1_cellAt_14 : decode cX1_cellAt 14 = .ok (.aload_n 0, 1) := by decide +kernel
theorem dX1_cellAt_15 : decode cX1_cellAt 15 = .ok (.getfield 15, 3) := by decide +kernel
theorem dX1_cellAt_18 : decode cX1_cellAt 18 = .ok (.iload_n 1, 1) := by decide +kernel
theorem dX1_cellAt_19 : decode cX1_cellAt 19 = .ok (.bipush 15, 2) := by decide +kernel
theorem dX1_cellAt_21 : decode cX1_cellAt 21 = .ok (.iand, 1) := by decide +kernel
theorem dX1_cellAt_22 : decode cX1_cellAt 22 = .ok (.bipush 9, 2) := by decide +kernel
theorem dX1_cellAt_24 : decode cX1_cellAt 24 = .ok (.imul, 1) := by decide +kernel
theorem dX1_cellAt_25 : decode cX1_cellAt 25 = .ok (.iload_n 2, 1) := by decide +kernel
theorem dX1_cellAt_26 : decode cX1_cellAt 26 = .ok (.iadd, 1) := by decide +kernel
theorem dX1_cellAt_27 : decode cX1_cellAt 27 = .ok (.iaload, 1) := by decide +kernel
theorem dX1_cellAt_28 : decode cX1_cellAt 28 = .ok (.ireturn, 1) := by decide +kernel
noncomputable def fX1_cellAt  (t_cells : Nat → Int32) (v1 : Int32) (v2 : Int32) : Option (Int32) := (if v2 < 0 then some (0) else (if v2 ≤ 8 then chk 144 (((v1 &&& 15) * 9) + v2) (some (t_cells (((v1 &&& 15) * 9) + v2).toNatClampNeg)) else some (0)))
set_option maxHeartbeats 4000000 in
set_option maxRecDepth 100000 in
theorem ctX1_cellAt (l : Launch) (g : GT) (a_t : Nat → Nat) (t_told : Int32) (t_lines : Int32) (t_kinds : Int32) (t_acts : Int32) (t_cells : Nat → Int32) (v1 : Int32) (v2 : Int32) (o : Int32) (h : fX1_cellAt t_cells v1 v2 = some o) : Met l yX1_cellAt (Cond.code yX1_cellAt cX1_cellAt 3 (some .int) :: Tw) ⟨0, 0, 0, 0⟩ (va_Pc [.ref ((a_t 0)), .int v1, .int v2] (roB g [((a_t 0), .inr (1, [.ref (a_t 1), .ref (a_t 2), .ref (a_t 3), .ref (a_t 4), .ref (a_t 5), .int t_told, .int t_lines, .int t_kinds, .int t_acts])), ((a_t 2), .inl (g.2.2.1 0, 144, .inl t_cells))])) (vp_Si (fun x => x = o)) 0 0 (fun _ => False) := by
  refine ro_meti (by decide) (Nat.le_of_ble_eq_true rfl) (lv0 := [(0, .ref ((a_t 0))), (1, .int v1), (2, .int v2)]) rfl ?_
  intro p e s m args below meth c ls Q cx hret hG hP hl
  have hx := cx.1
  have hb := cx.2.1
  have hG0 := hG
  unfold fX1_cellAt at h
  refine lv_iload_n hx hb dX1_cellAt_0 rfl (lv_at hl 2 rfl) ?_
  refine lv_if_lt (tgt := 10) hx hb dX1_cellAt_1 (by decide) (fun c1 => ?_) (fun c1 => ?_)
  · have h := itp c1 h
    refine lv_iconst (v := 0) hx hb dX1_cellAt_10 (by decide) ?_
    refine lv_goto (tgt := 28) hx hb dX1_cellAt_11 (by decide) ?_
    exact hret _ _ _ dX1_cellAt_28 (Option.some.inj h)
  · have h := itn c1 h
    refine lv_iload_n hx hb dX1_cellAt_4 rfl (lv_at hl 2 rfl) ?_
    refine lv_bipush (v := 8) hx hb dX1_cellAt_5 (by decide) ?_
    refine lv_icmp_le (tgt := 14) hx hb dX1_cellAt_7 (by decide) (fun c2 => ?_) (fun c2 => ?_)
    · have h := itp c2 h
      refine lv_aload_n hx hb dX1_cellAt_14 rfl (lv_at hl 0 rfl) ?_
      refine xa_get (C := RX1) (T := TX1) (N := 9) cx hG hP 0 rfl rfl uX1 1 (by decide) lf_X1_15 rfl dX1_cellAt_15 ?_
      refine lv_iload_n hx hb dX1_cellAt_18 rfl (lv_at hl 1 rfl) ?_
      refine lv_bipush (v := 15) hx hb dX1_cellAt_19 (by decide) ?_
      refine lv_iand hx hb dX1_cellAt_21 ?_
      refine lv_bipush (v := 9) hx hb dX1_cellAt_22 (by decide) ?_
      refine lv_imul hx hb dX1_cellAt_24 ?_
      refine lv_iload_n hx hb dX1_cellAt_25 rfl (lv_at hl 2 rfl) ?_
      refine lv_iadd hx hb dX1_cellAt_26 ?_
      obtain ⟨hi3, h⟩ := chk_out h
      refine xa_iald cx hG hP 1 rfl hi3 rfl dX1_cellAt_27 ?_
      exact hret _ _ _ dX1_cellAt_28 (Option.some.inj h)
    · have h := itn c2 h
      refine lv_iconst (v := 0) hx hb dX1_cellAt_10 (by decide) ?_
      refine lv_goto (tgt := 28) hx hb dX1_cellAt_11 (by decide) ?_
      exact hret _ _ _ dX1_cellAt_28 (Option.some.inj h)
-- X1_totalOf
theorem dX1_totalOf_0 : decode cX1_totalOf 0 = .ok (.iload 5, 2) := by decide +kernel
theorem dX1_totalOf_2 : decode cX1_totalOf 2 = .ok (.ifCond .lt 10, 3) := by decide +kernel
theorem dX1_totalOf_5 : decode cX1_totalOf 5 = .ok (.iload 5, 2) := by decide +kernel
theorem dX1_totalOf_7 : decode cX1_totalOf 7 = .ok (.bipush 8, 2) := by decide +kernel
theorem dX1_totalOf_9 : decode cX1_totalOf 9 = .ok (.if_icmp .le 5, 3) := by decide +kernel
theorem dX1_totalOf_12 : decode cX1_totalOf 12 = .ok (.lconst 0, 1) := by decide +kernel
theorem dX1_totalOf_13 : decode cX1_totalOf 13 = .ok (.lreturn, 1) := by decide +kernel
theorem dX1_totalOf_14 : decode cX1_totalOf 14 = .ok (.iconst 0, 1) := by decide +kernel
theorem dX1_totalOf_15 : decode cX1_totalOf 15 = .ok (.istore 6, 2) := by decide +kernel
theorem dX1_totalOf_17 : decode cX1_totalOf 17 = .ok (.iload_n 1, 1) := by decide +kernel
theorem dX1_totalOf_18 : decode cX1_totalOf 18 = .ok (.istore 7, 2) := by decide +kernel
theorem dX1_totalOf_20 : decode cX1_totalOf 20 = .ok (.iconst 1, 1) := by decide +kernel
theorem dX1_totalOf_21 : decode cX1_totalOf 21 = .ok (.iload_n 2, 1) := by decide +kernel
theorem dX1_totalOf_22 : decode cX1_totalOf 22 = .ok (.isub, 1) := by decide +kernel
theorem dX1_totalOf_23 : decode cX1_totalOf 23 = .ok (.istore 8, 2) := by decide +kernel
theorem dX1_totalOf_25 : decode cX1_totalOf 25 = .ok (.iconst 0, 1) := by decide +kernel
theorem dX1_totalOf_26 : decode cX1_totalOf 26 = .ok (.istore 9, 2) := by decide +kernel
theorem dX1_totalOf_28 : decode cX1_totalOf 28 = .ok (.iload 9, 2) := by decide +kernel
theorem dX1_totalOf_30 : decode cX1_totalOf 30 = .ok (.iload_n 2, 1) := by decide +kernel
theorem dX1_totalOf_31 : decode cX1_totalOf 31 = .ok (.if_icmp .ge 87, 3) := by decide +kernel
theorem dX1_totalOf_34 : decode cX1_totalOf 34 = .ok (.iload_n 3, 1) := by decide +kernel
theorem dX1_totalOf_35 : decode cX1_totalOf 35 = .ok (.iload 9, 2) := by decide +kernel
theorem dX1_totalOf_37 : decode cX1_totalOf 37 = .ok (.ishr, 1) := by decide +kernel
theorem dX1_totalOf_38 : decode cX1_totalOf 38 = .ok (.iconst 1, 1) := by decide +kernel
theorem dX1_totalOf_39 : decode cX1_totalOf 39 = .ok (.iand, 1) := by decide +kernel
theorem dX1_totalOf_40 : decode cX1_totalOf 40 = .ok (.ifCond .ne 22, 3) := by decide +kernel
theorem dX1_totalOf_43 : decode cX1_totalOf 43 = .ok (.aload_n 0, 1) := by decide +kernel
theorem dX1_totalOf_44 : decode cX1_totalOf 44 = .ok (.getfield 15, 3) := by decide +kernel
theorem dX1_totalOf_47 : decode cX1_totalOf 47 = .ok (.iload 7, 2) := by decide +kernel
theorem dX1_totalOf_49 : decode cX1_totalOf 49 = .ok (.bipush 15, 2) := by decide +kernel
theorem dX1_totalOf_51 : decode cX1_totalOf 51 = .ok (.iand, 1) := by decide +kernel
theorem dX1_totalOf_52 : decode cX1_totalOf 52 = .ok (.bipush 9, 2) := by decide +kernel
theorem dX1_totalOf_54 : decode cX1_totalOf 54 = .ok (.imul, 1) := by decide +kernel
theorem dX1_totalOf_55 : decode cX1_totalOf 55 = .ok (.iload 5, 2) := by decide +kernel
theorem dX1_totalOf_57 : decode cX1_totalOf 57 = .ok (.iadd, 1) := by decide +kernel
theorem dX1_totalOf_58 : decode cX1_totalOf 58 = .ok (.iaload, 1) := by decide +kernel
theorem dX1_totalOf_59 : decode cX1_totalOf 59 = .ok (.goto 4, 3) := by decide +kernel
theorem dX1_totalOf_62 : decode cX1_totalOf 62 = .ok (.iconst 0, 1) := by decide +kernel
theorem dX1_totalOf_63 : decode cX1_totalOf 63 = .ok (.istore 10, 2) := by decide +kernel
theorem dX1_totalOf_65 : decode cX1_totalOf 65 = .ok (.iload 6, 2) := by decide +kernel
theorem dX1_totalOf_67 : decode cX1_totalOf 67 = .ok (.iload 4, 2) := by decide +kernel
theorem dX1_totalOf_69 : decode cX1_totalOf 69 = .ok (.iconst 2, 1) := by decide +kernel
theorem dX1_totalOf_70 : decode cX1_totalOf 70 = .ok (.if_icmp .ne 14, 3) := by decide +kernel
theorem dX1_totalOf_73 : decode cX1_totalOf 73 = .ok (.iload 8, 2) := by decide +kernel
theorem dX1_totalOf_75 : decode cX1_totalOf 75 = .ok (.invokestatic 84, 3) := by decide +kernel
theorem dX1_totalOf_78 : decode cX1_totalOf 78 = .ok (.iload 10, 2) := by decide +kernel
theorem dX1_totalOf_80 : decode cX1_totalOf 80 = .ok (.imul, 1) := by decide +kernel
theorem dX1_totalOf_81 : decode cX1_totalOf 81 = .ok (.goto 19, 3) := by decide +kernel
theorem dX1_totalOf_84 : decode cX1_totalOf 84 = .ok (.iload 4, 2) := by decide +kernel
theorem dX1_totalOf_86 : decode cX1_totalOf 86 = .ok (.iconst 1, 1) := by decide +kernel
theorem dX1_totalOf_87 : decode cX1_totalOf 87 = .ok (.if_icmp .ne 11, 3) := by decide +kernel
theorem dX1_totalOf_90 : decode cX1_totalOf 90 = .ok (.iload 8, 2) := by decide +kernel
theorem dX1_totalOf_92 : decode cX1_totalOf 92 = .ok (.iload 10, 2) := by decide +kernel
theorem dX1_totalOf_94 : decode cX1_totalOf 94 = .ok (.imul, 1) := by decide +kernel
theorem dX1_totalOf_95 : decode cX1_totalOf 95 = .ok (.goto 5, 3) := by decide +kernel
theorem dX1_totalOf_98 : decode cX1_totalOf 98 = .ok (.iload 10, 2) := by decide +kernel
theorem dX1_totalOf_100 : decode cX1_totalOf 100 = .ok (.iadd, 1) := by decide +kernel
theorem dX1_totalOf_101 : decode cX1_totalOf 101 = .ok (.istore 6, 2) := by decide +kernel
theorem dX1_totalOf_103 : decode cX1_totalOf 103 = .ok (.iload 7, 2) := by decide +kernel
theorem dX1_totalOf_105 : decode cX1_totalOf 105 = .ok (.iconst 4, 1) := by decide +kernel
theorem dX1_totalOf_106 : decode cX1_totalOf 106 = .ok (.iushr, 1) := by decide +kernel
theorem dX1_totalOf_107 : decode cX1_totalOf 107 = .ok (.istore 7, 2) := by decide +kernel
theorem dX1_totalOf_109 : decode cX1_totalOf 109 = .ok (.iinc 8 2, 3) := by decide +kernel
theorem dX1_totalOf_112 : decode cX1_totalOf 112 = .ok (.iinc 9 1, 3) := by decide +kernel
theorem dX1_totalOf_115 : decode cX1_totalOf 115 = .ok (.goto (-87), 3) := by decide +kernel
theorem dX1_totalOf_118 : decode cX1_totalOf 118 = .ok (.iload 6, 2) := by decide +kernel
theorem dX1_totalOf_120 : decode cX1_totalOf 120 = .ok (.i2l, 1) := by decide +kernel
theorem dX1_totalOf_121 : decode cX1_totalOf 121 = .ok (.lreturn, 1) := by decide +kernel
noncomputable def fX1_totalOf_100 (k28 : (Nat → Int32) → Int32 → Int32 → Int32 → Int32 → Int32 → Int32 → Int32 → Int32 → Option (Int64)) (t_cells : Nat → Int32) (v2 : Int32) (v3 : Int32) (v4 : Int32) (v5 : Int32) (v7 : Int32) (v8 : Int32) (v9 : Int32) (z0 : Int32) (z1 : Int32) : Option (Int64) := k28 t_cells v2 v3 v4 v5 (z0 + z1) (iushr v7 4) (v8 + 2) (v9 + 1)
noncomputable def fX1_totalOf_63 (k28 : (Nat → Int32) → Int32 → Int32 → Int32 → Int32 → Int32 → Int32 → Int32 → Int32 → Option (Int64)) (t_cells : Nat → Int32) (v2 : Int32) (v3 : Int32) (v4 : Int32) (v5 : Int32) (v6 : Int32) (v7 : Int32) (v8 : Int32) (v9 : Int32) (z0 : Int32) : Option (Int64) := (if v4 = 2 then fX1_totalOf_100 k28 t_cells v2 v3 v4 v5 v7 v8 v9 v6 ((fX3_thickOf v8) * z0) else (if v4 = 1 then fX1_totalOf_100 k28 t_cells v2 v3 v4 v5 v7 v8 v9 v6 (v8 * z0) else fX1_totalOf_100 k28 t_cells v2 v3 v4 v5 v7 v8 v9 v6 z0))
noncomputable def fX1_totalOf_28  : Nat → (Nat → Int32) → Int32 → Int32 → Int32 → Int32 → Int32 → Int32 → Int32 → Int32 → Option (Int64)
  | 0, _, _, _, _, _, _, _, _, _ => none
  | n + 1, t_cells, v2, v3, v4, v5, v6, v7, v8, v9 => (if v2 ≤ v9 then some v6.toInt64 else (if ((v3 >>> (v9 &&& 31)) &&& 1) = 0 then chk 144 (((v7 &&& 15) * 9) + v5) (fX1_totalOf_63 (fX1_totalOf_28 n) t_cells v2 v3 v4 v5 v6 v7 v8 v9 (t_cells (((v7 &&& 15) * 9) + v5).toNatClampNeg)) else fX1_totalOf_63 (fX1_totalOf_28 n) t_cells v2 v3 v4 v5 v6 v7 v8 v9 0))
theorem fX1_totalOf_28_z  (t_cells : Nat → Int32) (v2 : Int32) (v3 : Int32) (v4 : Int32) (v5 : Int32) (v6 : Int32) (v7 : Int32) (v8 : Int32) (v9 : Int32) : fX1_totalOf_28  0 t_cells v2 v3 v4 v5 v6 v7 v8 v9 = none := rfl
theorem fX1_totalOf_28_s  (n : Nat) (t_cells : Nat → Int32) (v2 : Int32) (v3 : Int32) (v4 : Int32) (v5 : Int32) (v6 : Int32) (v7 : Int32) (v8 : Int32) (v9 : Int32) : fX1_totalOf_28  (n + 1) t_cells v2 v3 v4 v5 v6 v7 v8 v9 = (if v2 ≤ v9 then some v6.toInt64 else (if ((v3 >>> (v9 &&& 31)) &&& 1) = 0 then chk 144 (((v7 &&& 15) * 9) + v5) (fX1_totalOf_63 (fX1_totalOf_28 n) t_cells v2 v3 v4 v5 v6 v7 v8 v9 (t_cells (((v7 &&& 15) * 9) + v5).toNatClampNeg)) else fX1_totalOf_63 (fX1_totalOf_28 n) t_cells v2 v3 v4 v5 v6 v7 v8 v9 0)) := rfl
noncomputable def fX1_totalOf  (t_cells : Nat → Int32) (v1 : Int32) (v2 : Int32) (v3 : Int32) (v4 : Int32) (v5 : Int32) : Option (Int64) := (if v5 < 0 then some (0) else (if v5 ≤ 8 then fX1_totalOf_28 FU t_cells v2 v3 v4 v5 0 v1 (1 - v2) 0 else some (0)))
set_option maxHeartbeats 4000000 in
set_option maxRecDepth 100000 in
theorem ctX1_totalOf (l : Launch) (g : GT) (a_t : Nat → Nat) (t_told : Int32) (t_lines : Int32) (t_kinds : Int32) (t_acts : Int32) (t_cells : Nat → Int32) (v1 : Int32) (v2 : Int32) (v3 : Int32) (v4 : Int32) (v5 : Int32) (o : Int64) (h : fX1_totalOf t_cells v1 v2 v3 v4 v5 = some o) : Met l yX1_totalOf (Cond.code yX1_totalOf cX1_totalOf 11 (some .long) :: Tw) ⟨1, 0, 0, 20⟩ (va_Pc [.ref ((a_t 0)), .int v1, .int v2, .int v3, .int v4, .int v5] (roB g [((a_t 0), .inr (1, [.ref (a_t 1), .ref (a_t 2), .ref (a_t 3), .ref (a_t 4), .ref (a_t 5), .int t_told, .int t_lines, .int t_kinds, .int t_acts])), ((a_t 2), .inl (g.2.2.1 0, 144, .inl t_cells))])) (vp_Sl (fun x => x = o)) 0 0 (fun _ => False) := by
  refine ro_metl (by decide) (Nat.le_of_ble_eq_true rfl) (lv0 := [(0, .ref ((a_t 0))), (1, .int v1), (2, .int v2), (3, .int v3), (4, .int v4), (5, .int v5)]) rfl ?_
  intro p e s m args below meth c ls Q cx hret hG hP hl
  have hx := cx.1
  have hb := cx.2.1
  have hG0 := hG
  have w100 : ∀ (k28 : (Nat → Int32) → Int32 → Int32 → Int32 → Int32 → Int32 → Int32 → Int32 → Int32 → Option (Int64)) (hk28 : ∀ (v2 : Int32) (v3 : Int32) (v4 : Int32) (v5 : Int32) (v6 : Int32) (v7 : Int32) (v8 : Int32) (v9 : Int32) (ls : Array Slot), lv_has ls 11 [(0, .ref ((a_t 0))), (2, .int v2), (3, .int v3), (4, .int v4), (5, .int v5), (6, .int v6), (7, .int v7), (8, .int v8), (9, .int v9)] → k28 t_cells v2 v3 v4 v5 v6 v7 v8 v9 = some o → W p l e ⟨1, 0, 0, 20⟩ s m args below meth c s.heap [] 0 0 Q (F0 m 28 ls [])) (v2 : Int32) (v3 : Int32) (v4 : Int32) (v5 : Int32) (v7 : Int32) (v8 : Int32) (v9 : Int32) (z0 : Int32) (z1 : Int32) (ls : Array Slot), lv_has ls 11 [(0, .ref ((a_t 0))), (2, .int v2), (3, .int v3), (4, .int v4), (5, .int v5), (7, .int v7), (8, .int v8), (9, .int v9)] → fX1_totalOf_100 k28 t_cells v2 v3 v4 v5 v7 v8 v9 z0 z1 = some o → W p l e ⟨1, 0, 0, 20⟩ s m args below meth c s.heap [] 0 0 Q (F0 m 100 ls [.int z1, .int z0]) := by
    intro k28 hk28 v2 v3 v4 v5 v7 v8 v9 z0 z1 ls hl h
    unfold fX1_totalOf_100 at h
    refine lv_iadd hx hb dX1_totalOf_100 ?_
    refine lv_istore (lv' := [(6, .int (z0 + z1)), (0, .ref ((a_t 0))), (2, .int v2), (3, .int v3), (4, .int v4), (5, .int v5), (7, .int v7), (8, .int v8), (9, .int v9)]) hx hb dX1_totalOf_101 hl (by decide) rfl (fun ls hl => ?_)
    refine lv_iload hx hb dX1_totalOf_103 (lv_at hl 6 rfl) ?_
    refine lv_iconst (v := 4) hx hb dX1_totalOf_105 (by decide) ?_
    refine lv_iushr (v := iushr v7 4) hx hb dX1_totalOf_106 rfl ?_
    refine lv_istore (lv' := [(7, .int (iushr v7 4)), (6, .int (z0 + z1)), (0, .ref ((a_t 0))), (2, .int v2), (3, .int v3), (4, .int v4), (5, .int v5), (8, .int v8), (9, .int v9)]) hx hb dX1_totalOf_107 hl (by decide) rfl (fun ls hl => ?_)
    refine lv_iinc (v := v8 + 2) (lv' := [(8, .int (v8 + 2)), (7, .int (iushr v7 4)), (6, .int (z0 + z1)), (0, .ref ((a_t 0))), (2, .int v2), (3, .int v3), (4, .int v4), (5, .int v5), (9, .int v9)]) hx hb dX1_totalOf_109 hl (k := 7) rfl rfl (by decide) rfl (fun ls hl => ?_)
    refine lv_iinc (v := v9 + 1) (lv' := [(9, .int (v9 + 1)), (8, .int (v8 + 2)), (7, .int (iushr v7 4)), (6, .int (z0 + z1)), (0, .ref ((a_t 0))), (2, .int v2), (3, .int v3), (4, .int v4), (5, .int v5)]) hx hb dX1_totalOf_112 hl (k := 8) rfl rfl (by decide) rfl (fun ls hl => ?_)
    refine lv_goto (tgt := 28) hx hb dX1_totalOf_115 (by decide) ?_
    exact hk28 v2 v3 v4 v5 (z0 + z1) (iushr v7 4) (v8 + 2) (v9 + 1) _ (lv_sub hl [4, 5, 6, 7, 8, 3, 2, 1, 0] rfl) h
  have w63 : ∀ (k28 : (Nat → Int32) → Int32 → Int32 → Int32 → Int32 → Int32 → Int32 → Int32 → Int32 → Option (Int64)) (hk28 : ∀ (v2 : Int32) (v3 : Int32) (v4 : Int32) (v5 : Int32) (v6 : Int32) (v7 : Int32) (v8 : Int32) (v9 : Int32) (ls : Array Slot), lv_has ls 11 [(0, .ref ((a_t 0))), (2, .int v2), (3, .int v3), (4, .int v4), (5, .int v5), (6, .int v6), (7, .int v7), (8, .int v8), (9, .int v9)] → k28 t_cells v2 v3 v4 v5 v6 v7 v8 v9 = some o → W p l e ⟨1, 0, 0, 20⟩ s m args below meth c s.heap [] 0 0 Q (F0 m 28 ls [])) (v2 : Int32) (v3 : Int32) (v4 : Int32) (v5 : Int32) (v6 : Int32) (v7 : Int32) (v8 : Int32) (v9 : Int32) (z0 : Int32) (ls : Array Slot), lv_has ls 11 [(0, .ref ((a_t 0))), (2, .int v2), (3, .int v3), (4, .int v4), (5, .int v5), (6, .int v6), (7, .int v7), (8, .int v8), (9, .int v9)] → fX1_totalOf_63 k28 t_cells v2 v3 v4 v5 v6 v7 v8 v9 z0 = some o → W p l e ⟨1, 0, 0, 20⟩ s m args below meth c s.heap [] 0 0 Q (F0 m 63 ls [.int z0]) := by
    intro k28 hk28 v2 v3 v4 v5 v6 v7 v8 v9 z0 ls hl h
    unfold fX1_totalOf_63 at h
    refine lv_istore (lv' := [(10, .int z0), (0, .ref ((a_t 0))), (2, .int v2), (3, .int v3), (4, .int v4), (5, .int v5), (6, .int v6), (7, .int v7), (8, .int v8), (9, .int v9)]) hx hb dX1_totalOf_63 hl (by decide) rfl (fun ls hl => ?_)
    refine lv_iload hx hb dX1_totalOf_65 (lv_at hl 6 rfl) ?_
    refine lv_iload hx hb dX1_totalOf_67 (lv_at hl 4 rfl) ?_
    refine lv_iconst (v := 2) hx hb dX1_totalOf_69 (by decide) ?_
    refine lv_icmp_ne (tgt := 84) hx hb dX1_totalOf_70 (by decide) (fun c6 => ?_) (fun c6 => ?_)
    · have h := itn c6 h
      refine lv_iload hx hb dX1_totalOf_84 (lv_at hl 4 rfl) ?_
      refine lv_iconst (v := 1) hx hb dX1_totalOf_86 (by decide) ?_
      refine lv_icmp_ne (tgt := 98) hx hb dX1_totalOf_87 (by decide) (fun c7 => ?_) (fun c7 => ?_)
      · have h := itn c7 h
        refine lv_iload hx hb dX1_totalOf_98 (lv_at hl 0 rfl) ?_
        exact w100 _ hk28 v2 v3 v4 v5 v7 v8 v9 v6 z0 _ (lv_sub hl [1, 2, 3, 4, 5, 7, 8, 9] rfl) h
      · have h := itp c7 h
        refine lv_iload hx hb dX1_totalOf_90 (lv_at hl 8 rfl) ?_
        refine lv_iload hx hb dX1_totalOf_92 (lv_at hl 0 rfl) ?_
        refine lv_imul hx hb dX1_totalOf_94 ?_
        refine lv_goto (tgt := 100) hx hb dX1_totalOf_95 (by decide) ?_
        exact w100 _ hk28 v2 v3 v4 v5 v7 v8 v9 v6 (v8 * z0) _ (lv_sub hl [1, 2, 3, 4, 5, 7, 8, 9] rfl) h
    · have h := itp c6 h
      refine lv_iload hx hb dX1_totalOf_73 (lv_at hl 8 rfl) ?_
      refine ro_i (runSN (As := [.int v8]) (rest := [.int v6]) hG cx hl.1 (ctX3_thickOf l g v8 (fX3_thickOf v8) rfl) kmX3_thickOf ksX3_thickOf nm_28 ⟨rfl, rfl⟩ ⟨Nat.le_of_ble_eq_true rfl, Nat.le_of_ble_eq_true rfl⟩ (roS hG (hP.sub [] rfl)) rfl rfl (Nat.le_of_ble_eq_true rfl) dX1_totalOf_75 ⟨Nat.le_of_ble_eq_true rfl, Nat.le_of_ble_eq_true rfl⟩) ?_
      refine lv_iload hx hb dX1_totalOf_78 (lv_at hl 0 rfl) ?_
      refine lv_imul hx hb dX1_totalOf_80 ?_
      refine lv_goto (tgt := 100) hx hb dX1_totalOf_81 (by decide) ?_
      exact w100 _ hk28 v2 v3 v4 v5 v7 v8 v9 v6 ((fX3_thickOf v8) * z0) _ (lv_sub hl [1, 2, 3, 4, 5, 7, 8, 9] rfl) h
  have w28 : ∀ (n : Nat) (v2 : Int32) (v3 : Int32) (v4 : Int32) (v5 : Int32) (v6 : Int32) (v7 : Int32) (v8 : Int32) (v9 : Int32) (ls : Array Slot), lv_has ls 11 [(0, .ref ((a_t 0))), (2, .int v2), (3, .int v3), (4, .int v4), (5, .int v5), (6, .int v6), (7, .int v7), (8, .int v8), (9, .int v9)] → fX1_totalOf_28  n t_cells v2 v3 v4 v5 v6 v7 v8 v9 = some o → W p l e ⟨1, 0, 0, 20⟩ s m args below meth c s.heap [] 0 0 Q (F0 m 28 ls []) := by
    intro n
    induction n with
    | zero => intro v2 v3 v4 v5 v6 v7 v8 v9 ls hl h; cases (fX1_totalOf_28_z  t_cells v2 v3 v4 v5 v6 v7 v8 v9).symm.trans h
    | succ n ih =>
    intro v2 v3 v4 v5 v6 v7 v8 v9 ls hl h
    have h := (fX1_totalOf_28_s  n t_cells v2 v3 v4 v5 v6 v7 v8 v9).symm.trans h
    refine lv_iload hx hb dX1_totalOf_28 (lv_at hl 8 rfl) ?_
    refine lv_iload_n hx hb dX1_totalOf_30 rfl (lv_at hl 1 rfl) ?_
    refine lv_icmp_ge (tgt := 118) hx hb dX1_totalOf_31 (by decide) (fun c3 => ?_) (fun c3 => ?_)
    · have h := itp c3 h
      refine lv_iload hx hb dX1_totalOf_118 (lv_at hl 5 rfl) ?_
      refine lv_i2l (v := v6.toInt64) hx hb dX1_totalOf_120 rfl ?_
      exact hret _ _ _ dX1_totalOf_121 (Option.some.inj h)
    · have h := itn c3 h
      refine lv_iload_n hx hb dX1_totalOf_34 rfl (lv_at hl 2 rfl) ?_
      refine lv_iload hx hb dX1_totalOf_35 (lv_at hl 8 rfl) ?_
      refine lv_ishr hx hb dX1_totalOf_37 ?_
      refine lv_iconst (v := 1) hx hb dX1_totalOf_38 (by decide) ?_
      refine lv_iand hx hb dX1_totalOf_39 ?_
      refine lv_if_ne (tgt := 62) hx hb dX1_totalOf_40 (by decide) (fun c4 => ?_) (fun c4 => ?_)
      · have h := itn c4 h
        refine lv_iconst (v := 0) hx hb dX1_totalOf_62 (by decide) ?_
        exact w63 _ ih v2 v3 v4 v5 v6 v7 v8 v9 0 _ (lv_sub hl [0, 1, 2, 3, 4, 5, 6, 7, 8] rfl) h
      · have h := itp c4 h
        refine lv_aload_n hx hb dX1_totalOf_43 rfl (lv_at hl 0 rfl) ?_
        refine xa_get (C := RX1) (T := TX1) (N := 9) cx hG hP 0 rfl rfl uX1 1 (by decide) lf_X1_15 rfl dX1_totalOf_44 ?_
        refine lv_iload hx hb dX1_totalOf_47 (lv_at hl 6 rfl) ?_
        refine lv_bipush (v := 15) hx hb dX1_totalOf_49 (by decide) ?_
        refine lv_iand hx hb dX1_totalOf_51 ?_
        refine lv_bipush (v := 9) hx hb dX1_totalOf_52 (by decide) ?_
        refine lv_imul hx hb dX1_totalOf_54 ?_
        refine lv_iload hx hb dX1_totalOf_55 (lv_at hl 4 rfl) ?_
        refine lv_iadd hx hb dX1_totalOf_57 ?_
        obtain ⟨hi5, h⟩ := chk_out h
        refine xa_iald cx hG hP 1 rfl hi5 rfl dX1_totalOf_58 ?_
        refine lv_goto (tgt := 63) hx hb dX1_totalOf_59 (by decide) ?_
        exact w63 _ ih v2 v3 v4 v5 v6 v7 v8 v9 (t_cells (((v7 &&& 15) * 9) + v5).toNatClampNeg) _ (lv_sub hl [0, 1, 2, 3, 4, 5, 6, 7, 8] rfl) h
  unfold fX1_totalOf at h
  refine lv_iload hx hb dX1_totalOf_0 (lv_at hl 5 rfl) ?_
  refine lv_if_lt (tgt := 12) hx hb dX1_totalOf_2 (by decide) (fun c1 => ?_) (fun c1 => ?_)
  · have h := itp c1 h
    refine lv_lconst (v := 0) hx hb dX1_totalOf_12 (by decide) ?_
    exact hret _ _ _ dX1_totalOf_13 (Option.some.inj h)
  · have h := itn c1 h
    refine lv_iload hx hb dX1_totalOf_5 (lv_at hl 5 rfl) ?_
    refine lv_bipush (v := 8) hx hb dX1_totalOf_7 (by decide) ?_
    refine lv_icmp_le (tgt := 14) hx hb dX1_totalOf_9 (by decide) (fun c2 => ?_) (fun c2 => ?_)
    · have h := itp c2 h
      refine lv_iconst (v := 0) hx hb dX1_totalOf_14 (by decide) ?_
      refine lv_istore (lv' := [(6, .int (0)), (0, .ref ((a_t 0))), (1, .int v1), (2, .int v2), (3, .int v3), (4, .int v4), (5, .int v5)]) hx hb dX1_totalOf_15 hl (by decide) rfl (fun ls hl => ?_)
      refine lv_iload_n hx hb dX1_totalOf_17 rfl (lv_at hl 2 rfl) ?_
      refine lv_istore (lv' := [(7, .int v1), (6, .int (0)), (0, .ref ((a_t 0))), (1, .int v1), (2, .int v2), (3, .int v3), (4, .int v4), (5, .int v5)]) hx hb dX1_totalOf_18 hl (by decide) rfl (fun ls hl => ?_)
      refine lv_iconst (v := 1) hx hb dX1_totalOf_20 (by decide) ?_
      refine lv_iload_n hx hb dX1_totalOf_21 rfl (lv_at hl 4 rfl) ?_
      refine lv_isub hx hb dX1_totalOf_22 ?_
      refine lv_istore (lv' := [(8, .int (1 - v2)), (7, .int v1), (6, .int (0)), (0, .ref ((a_t 0))), (1, .int v1), (2, .int v2), (3, .int v3), (4, .int v4), (5, .int v5)]) hx hb dX1_totalOf_23 hl (by decide) rfl (fun ls hl => ?_)
      refine lv_iconst (v := 0) hx hb dX1_totalOf_25 (by decide) ?_
      refine lv_istore (lv' := [(9, .int (0)), (8, .int (1 - v2)), (7, .int v1), (6, .int (0)), (0, .ref ((a_t 0))), (1, .int v1), (2, .int v2), (3, .int v3), (4, .int v4), (5, .int v5)]) hx hb dX1_totalOf_26 hl (by decide) rfl (fun ls hl => ?_)
      exact w28 FU v2 v3 v4 v5 0 v1 (1 - v2) 0 _ (lv_sub hl [4, 6, 7, 8, 9, 3, 2, 1, 0] rfl) h
    · have h := itn c2 h
      refine lv_lconst (v := 0) hx hb dX1_totalOf_12 (by decide) ?_
      exact hret _ _ _ dX1_totalOf_13 (Option.some.inj h)
-- X1_total
theorem dX1_total_0 : decode cX1_total 0 = .ok (.aload_n 0, 1) := by decide +kernel
theorem dX1_total_1 : decode cX1_total 1 = .ok (.aload_n 0, 1) := by decide +kernel
theorem dX1_total_2 : decode cX1_total 2 = .ok (.invokevirtual 55, 3) := by decide +kernel
theorem dX1_total_5 : decode cX1_total 5 = .ok (.aload_n 0, 1) := by decide +kernel
theorem dX1_total_6 : decode cX1_total 6 = .ok (.invokevirtual 51, 3) := by decide +kernel
theorem dX1_total_9 : decode cX1_total 9 = .ok (.iload_n 1, 1) := by decide +kernel
theorem dX1_total_10 : decode cX1_total 10 = .ok (.iload_n 2, 1) := by decide +kernel
theorem dX1_total_11 : decode cX1_total 11 = .ok (.iload_n 3, 1) := by decide +kernel
theorem dX1_total_12 : decode cX1_total 12 = .ok (.invokevirtual 80, 3) := by decide +kernel
theorem dX1_total_15 : decode cX1_total 15 = .ok (.lreturn, 1) := by decide +kernel
noncomputable def fX1_total  (t_cells : Nat → Int32) (t_rows : Nat → Int32) (t_sizes : Nat → Int32) (t_acts : Int32) (v1 : Int32) (v2 : Int32) (v3 : Int32) : Option (Int64) := (fX1_row t_rows t_acts).bind fun r1 => (fX1_plies t_sizes t_acts).bind fun r3 => (fX1_totalOf t_cells r1 r3 v1 v2 v3).bind fun r5 => some r5
set_option maxHeartbeats 4000000 in
set_option maxRecDepth 100000 in
theorem ctX1_total (l : Launch) (g : GT) (a_t : Nat → Nat) (t_told : Int32) (t_lines : Int32) (t_kinds : Int32) (t_acts : Int32) (t_cells : Nat → Int32) (t_rows : Nat → Int32) (t_sizes : Nat → Int32) (v1 : Int32) (v2 : Int32) (v3 : Int32) (o : Int64) (h : fX1_total t_cells t_rows t_sizes t_acts v1 v2 v3 = some o) : Met l yX1_total (Cond.code yX1_total cX1_total 4 (some .long) :: Tw) ⟨2, 0, 0, 50⟩ (va_Pc [.ref ((a_t 0)), .int v1, .int v2, .int v3] (roB g [((a_t 0), .inr (1, [.ref (a_t 1), .ref (a_t 2), .ref (a_t 3), .ref (a_t 4), .ref (a_t 5), .int t_told, .int t_lines, .int t_kinds, .int t_acts])), ((a_t 2), .inl (g.2.2.1 0, 144, .inl t_cells)), ((a_t 3), .inl (g.2.2.1 0, 31, .inl t_rows)), ((a_t 4), .inl (g.2.2.1 0, 31, .inl t_sizes))])) (vp_Sl (fun x => x = o)) 0 0 (fun _ => False) := by
  refine ro_metl (by decide) (Nat.le_of_ble_eq_true rfl) (lv0 := [(0, .ref ((a_t 0))), (1, .int v1), (2, .int v2), (3, .int v3)]) rfl ?_
  intro p e s m args below meth c ls Q cx hret hG hP hl
  have hx := cx.1
  have hb := cx.2.1
  have hG0 := hG
  unfold fX1_total at h
  refine lv_aload_n hx hb dX1_total_0 rfl (lv_at hl 0 rfl) ?_
  refine lv_aload_n hx hb dX1_total_1 rfl (lv_at hl 0 rfl) ?_
  obtain ⟨r1, hr2, h⟩ := bnd h
  refine ro_i (runV (As := []) (rest := [.ref ((a_t 0))]) cx hl.1 (ctX1_row l g a_t t_told t_lines t_kinds t_acts t_rows r1 hr2) kmX1_row kvX1_row lm_X1_55 ⟨rfl, rfl⟩ ⟨Nat.le_of_ble_eq_true rfl, Nat.le_of_ble_eq_true rfl⟩ (roV (q0 := 0) (ci := 1) hG (hP.sub [0, 2] rfl) hP rfl rfl) rfl rfl (Nat.le_of_ble_eq_true rfl) dX1_total_2 ⟨Nat.le_of_ble_eq_true rfl, Nat.le_of_ble_eq_true rfl⟩) ?_
  refine lv_aload_n hx hb dX1_total_5 rfl (lv_at hl 0 rfl) ?_
  obtain ⟨r3, hr4, h⟩ := bnd h
  refine ro_i (runV (As := []) (rest := [.int r1, .ref ((a_t 0))]) cx hl.1 (ctX1_plies l g a_t t_told t_lines t_kinds t_acts t_sizes r3 hr4) kmX1_plies kvX1_plies lm_X1_51 ⟨rfl, rfl⟩ ⟨Nat.le_of_ble_eq_true rfl, Nat.le_of_ble_eq_true rfl⟩ (roV (q0 := 0) (ci := 1) hG (hP.sub [0, 3] rfl) hP rfl rfl) rfl rfl (Nat.le_of_ble_eq_true rfl) dX1_total_6 ⟨Nat.le_of_ble_eq_true rfl, Nat.le_of_ble_eq_true rfl⟩) ?_
  refine lv_iload_n hx hb dX1_total_9 rfl (lv_at hl 1 rfl) ?_
  refine lv_iload_n hx hb dX1_total_10 rfl (lv_at hl 2 rfl) ?_
  refine lv_iload_n hx hb dX1_total_11 rfl (lv_at hl 3 rfl) ?_
  obtain ⟨r5, hr6, h⟩ := bnd h
  refine ro_l (runV (As := [.int r1, .int r3, .int v1, .int v2, .int v3]) (rest := []) cx hl.1 (ctX1_totalOf l g a_t t_told t_lines t_kinds t_acts t_cells r1 r3 v1 v2 v3 r5 hr6) kmX1_totalOf kvX1_totalOf lm_X1_80 ⟨rfl, rfl⟩ ⟨Nat.le_of_ble_eq_true rfl, Nat.le_of_ble_eq_true rfl⟩ (roV (q0 := 0) (ci := 1) hG (hP.sub [0, 1] rfl) hP rfl rfl) rfl rfl (Nat.le_of_ble_eq_true rfl) dX1_total_12 ⟨Nat.le_of_ble_eq_true rfl, Nat.le_of_ble_eq_true rfl⟩) ?_
  exact hret _ _ _ dX1_total_15 (Option.some.inj h)
-- X1_warpWithout
theorem dX1_warpWithout_0 : decode cX1_warpWithout 0 = .ok (.lconst 0, 1) := by decide +kernel
theorem dX1_warpWithout_1 : decode cX1_warpWithout 1 = .ok (.lstore_n 2, 1) := by decide +kernel
theorem dX1_warpWithout_2 : decode cX1_warpWithout 2 = .ok (.iconst 0, 1) := by decide +kernel
theorem dX1_warpWithout_3 : decode cX1_warpWithout 3 = .ok (.istore 4, 2) := by decide +kernel
theorem dX1_warpWithout_5 : decode cX1_warpWithout 5 = .ok (.iload 4, 2) := by decide +kernel
theorem dX1_warpWithout_7 : decode cX1_warpWithout 7 = .ok (.bipush 9, 2) := by decide +kernel
theorem dX1_warpWithout_9 : decode cX1_warpWithout 9 = .ok (.if_icmp .ge 23, 3) := by decide +kernel
theorem dX1_warpWithout_12 : decode cX1_warpWithout 12 = .ok (.lload_n 2, 1) := by decide +kernel
theorem dX1_warpWithout_13 : decode cX1_warpWithout 13 = .ok (.aload_n 0, 1) := by decide +kernel
theorem dX1_warpWithout_14 : decode cX1_warpWithout 14 = .ok (.iload_n 1, 1) := by decide +kernel
theorem dX1_warpWithout_15 : decode cX1_warpWithout 15 = .ok (.iconst 1, 1) := by decide +kernel
theorem dX1_warpWithout_16 : decode cX1_warpWithout 16 = .ok (.iload 4, 2) := by decide +kernel
theorem dX1_warpWithout_18 : decode cX1_warpWithout 18 = .ok (.invokevirtual 88, 3) := by decide +kernel
theorem dX1_warpWithout_21 : decode cX1_warpWithout 21 = .ok (.invokestatic 92, 3) := by decide +kernel
theorem dX1_warpWithout_24 : decode cX1_warpWithout 24 = .ok (.ladd, 1) := by decide +kernel
theorem dX1_warpWithout_25 : decode cX1_warpWithout 25 = .ok (.lstore_n 2, 1) := by decide +kernel
theorem dX1_warpWithout_26 : decode cX1_warpWithout 26 = .ok (.iinc 4 1, 3) := by decide +kernel
theorem dX1_warpWithout_29 : decode cX1_warpWithout 29 = .ok (.goto (-24), 3) := by decide +kernel
theorem dX1_warpWithout_32 : decode cX1_warpWithout 32 = .ok (.lload_n 2, 1) := by decide +kernel
theorem dX1_warpWithout_33 : decode cX1_warpWithout 33 = .ok (.lreturn, 1) := by decide +kernel
noncomputable def fX1_warpWithout_5  : Nat → (Nat → Int32) → (Nat → Int32) → (Nat → Int32) → Int32 → Int32 → Int64 → Int32 → Option (Int64)
  | 0, _, _, _, _, _, _, _ => none
  | n + 1, t_cells, t_rows, t_sizes, t_acts, v1, v2, v4 => (if 9 ≤ v4 then some v2 else (fX1_total t_cells t_rows t_sizes t_acts v1 1 v4).bind fun r2 => fX1_warpWithout_5 n t_cells t_rows t_sizes t_acts v1 (v2 + (labs r2)) (v4 + 1))
theorem fX1_warpWithout_5_z  (t_cells : Nat → Int32) (t_rows : Nat → Int32) (t_sizes : Nat → Int32) (t_acts : Int32) (v1 : Int32) (v2 : Int64) (v4 : Int32) : fX1_warpWithout_5  0 t_cells t_rows t_sizes t_acts v1 v2 v4 = none := rfl
theorem fX1_warpWithout_5_s  (n : Nat) (t_cells : Nat → Int32) (t_rows : Nat → Int32) (t_sizes : Nat → Int32) (t_acts : Int32) (v1 : Int32) (v2 : Int64) (v4 : Int32) : fX1_warpWithout_5  (n + 1) t_cells t_rows t_sizes t_acts v1 v2 v4 = (if 9 ≤ v4 then some v2 else (fX1_total t_cells t_rows t_sizes t_acts v1 1 v4).bind fun r2 => fX1_warpWithout_5 n t_cells t_rows t_sizes t_acts v1 (v2 + (labs r2)) (v4 + 1)) := rfl
noncomputable def fX1_warpWithout  (t_cells : Nat → Int32) (t_rows : Nat → Int32) (t_sizes : Nat → Int32) (t_acts : Int32) (v1 : Int32) : Option (Int64) := fX1_warpWithout_5 FU t_cells t_rows t_sizes t_acts v1 0 0
set_option maxHeartbeats 4000000 in
set_option maxRecDepth 100000 in
theorem ctX1_warpWithout (l : Launch) (g : GT) (a_t : Nat → Nat) (t_told : Int32) (t_lines : Int32) (t_kinds : Int32) (t_acts : Int32) (t_cells : Nat → Int32) (t_rows : Nat → Int32) (t_sizes : Nat → Int32) (v1 : Int32) (o : Int64) (h : fX1_warpWithout t_cells t_rows t_sizes t_acts v1 = some o) : Met l yX1_warpWithout (Cond.code yX1_warpWithout cX1_warpWithout 5 (some .long) :: Tw) ⟨3, 0, 0, 73⟩ (va_Pc [.ref ((a_t 0)), .int v1] (roB g [((a_t 0), .inr (1, [.ref (a_t 1), .ref (a_t 2), .ref (a_t 3), .ref (a_t 4), .ref (a_t 5), .int t_told, .int t_lines, .int t_kinds, .int t_acts])), ((a_t 2), .inl (g.2.2.1 0, 144, .inl t_cells)), ((a_t 3), .inl (g.2.2.1 0, 31, .inl t_rows)), ((a_t 4), .inl (g.2.2.1 0, 31, .inl t_sizes))])) (vp_Sl (fun x => x = o)) 0 0 (fun _ => False) := by
  refine ro_metl (by decide) (Nat.le_of_ble_eq_true rfl) (lv0 := [(0, .ref ((a_t 0))), (1, .int v1)]) rfl ?_
  intro p e s m args below meth c ls Q cx hret hG hP hl
  have hx := cx.1
  have hb := cx.2.1
  have hG0 := hG
  have w5 : ∀ (n : Nat) (v1 : Int32) (v2 : Int64) (v4 : Int32) (ls : Array Slot), lv_has ls 5 [(0, .ref ((a_t 0))), (1, .int v1), (2, .long v2), (4, .int v4)] → fX1_warpWithout_5  n t_cells t_rows t_sizes t_acts v1 v2 v4 = some o → W p l e ⟨3, 0, 0, 73⟩ s m args below meth c s.heap [] 0 0 Q (F0 m 5 ls []) := by
    intro n
    induction n with
    | zero => intro v1 v2 v4 ls hl h; cases (fX1_warpWithout_5_z  t_cells t_rows t_sizes t_acts v1 v2 v4).symm.trans h
    | succ n ih =>
    intro v1 v2 v4 ls hl h
    have h := (fX1_warpWithout_5_s  n t_cells t_rows t_sizes t_acts v1 v2 v4).symm.trans h
    refine lv_iload hx hb dX1_warpWithout_5 (lv_at hl 3 rfl) ?_
    refine lv_bipush (v := 9) hx hb dX1_warpWithout_7 (by decide) ?_
    refine lv_icmp_ge (tgt := 32) hx hb dX1_warpWithout_9 (by decide) (fun c1 => ?_) (fun c1 => ?_)
    · have h := itp c1 h
      refine lv_lload_n hx hb dX1_warpWithout_32 rfl (lv_at hl 2 rfl) ?_
      exact hret _ _ _ dX1_warpWithout_33 (Option.some.inj h)
    · have h := itn c1 h
      refine lv_lload_n hx hb dX1_warpWithout_12 rfl (lv_at hl 2 rfl) ?_
      refine lv_aload_n hx hb dX1_warpWithout_13 rfl (lv_at hl 0 rfl) ?_
      refine lv_iload_n hx hb dX1_warpWithout_14 rfl (lv_at hl 1 rfl) ?_
      refine lv_iconst (v := 1) hx hb dX1_warpWithout_15 (by decide) ?_
      refine lv_iload hx hb dX1_warpWithout_16 (lv_at hl 3 rfl) ?_
      obtain ⟨r2, hr3, h⟩ := bnd h
      refine ro_l (runV (As := [.int v1, .int (1), .int v4]) (rest := [.long v2]) cx hl.1 (ctX1_total l g a_t t_told t_lines t_kinds t_acts t_cells t_rows t_sizes v1 (1) v4 r2 hr3) kmX1_total kvX1_total lm_X1_88 ⟨rfl, rfl⟩ ⟨Nat.le_of_ble_eq_true rfl, Nat.le_of_ble_eq_true rfl⟩ (roV (q0 := 0) (ci := 1) hG (hP.sub [0, 1, 2, 3] rfl) hP rfl rfl) rfl rfl (Nat.le_of_ble_eq_true rfl) dX1_warpWithout_18 ⟨Nat.le_of_ble_eq_true rfl, Nat.le_of_ble_eq_true rfl⟩) ?_
      refine xm_labs cx hl.1 lm_X1_92 ⟨ksJ9_abs_067f4, kmJ9_abs_067f4.2.1, kmJ9_abs_067f4.1⟩ (Nat.le_of_ble_eq_true rfl) (Nat.le_of_ble_eq_true rfl) (Nat.le_of_ble_eq_true rfl) (Nat.le_of_ble_eq_true rfl) dX1_warpWithout_21 ?_
      refine lv_ladd hx hb dX1_warpWithout_24 ?_
      refine lv_lstore_n (lv' := [(2, .long (v2 + (labs r2))), (0, .ref ((a_t 0))), (1, .int v1), (4, .int v4)]) hx hb dX1_warpWithout_25 rfl hl (by decide) rfl (fun ls hl => ?_)
      refine lv_iinc (v := v4 + 1) (lv' := [(4, .int (v4 + 1)), (2, .long (v2 + (labs r2))), (0, .ref ((a_t 0))), (1, .int v1)]) hx hb dX1_warpWithout_26 hl (k := 3) rfl rfl (by decide) rfl (fun ls hl => ?_)
      refine lv_goto (tgt := 5) hx hb dX1_warpWithout_29 (by decide) ?_
      exact ih v1 (v2 + (labs r2)) (v4 + 1) _ (lv_sub hl [2, 3, 1, 0] rfl) h
  unfold fX1_warpWithout at h
  refine lv_lconst (v := 0) hx hb dX1_warpWithout_0 (by decide) ?_
  refine lv_lstore_n (lv' := [(2, .long (0)), (0, .ref ((a_t 0))), (1, .int v1)]) hx hb dX1_warpWithout_1 rfl hl (by decide) rfl (fun ls hl => ?_)
  refine lv_iconst (v := 0) hx hb dX1_warpWithout_2 (by decide) ?_
  refine lv_istore (lv' := [(4, .int (0)), (2, .long (0)), (0, .ref ((a_t 0))), (1, .int v1)]) hx hb dX1_warpWithout_3 hl (by decide) rfl (fun ls hl => ?_)
  exact w5 FU v1 0 0 _ (lv_sub hl [2, 3, 1, 0] rfl) h
-- X1_twistNow
theorem dX1_twistNow_0 : decode cX1_twistNow 0 = .ok (.aload_n 0, 1) := by decide +kernel
theorem dX1_twistNow_1 : decode cX1_twistNow 1 = .ok (.iconst 0, 1) := by decide +kernel
theorem dX1_twistNow_2 : decode cX1_twistNow 2 = .ok (.iconst 0, 1) := by decide +kernel
theorem dX1_twistNow_3 : decode cX1_twistNow 3 = .ok (.iconst 2, 1) := by decide +kernel
theorem dX1_twistNow_4 : decode cX1_twistNow 4 = .ok (.invokevirtual 88, 3) := by decide +kernel
theorem dX1_twistNow_7 : decode cX1_twistNow 7 = .ok (.invokestatic 92, 3) := by decide +kernel
theorem dX1_twistNow_10 : decode cX1_twistNow 10 = .ok (.aload_n 0, 1) := by decide +kernel
theorem dX1_twistNow_11 : decode cX1_twistNow 11 = .ok (.iconst 0, 1) := by decide +kernel
theorem dX1_twistNow_12 : decode cX1_twistNow 12 = .ok (.iconst 0, 1) := by decide +kernel
theorem dX1_twistNow_13 : decode cX1_twistNow 13 = .ok (.iconst 5, 1) := by decide +kernel
theorem dX1_twistNow_14 : decode cX1_twistNow 14 = .ok (.invokevirtual 88, 3) := by decide +kernel
theorem dX1_twistNow_17 : decode cX1_twistNow 17 = .ok (.invokestatic 92, 3) := by decide +kernel
theorem dX1_twistNow_20 : decode cX1_twistNow 20 = .ok (.ladd, 1) := by decide +kernel
theorem dX1_twistNow_21 : decode cX1_twistNow 21 = .ok (.aload_n 0, 1) := by decide +kernel
theorem dX1_twistNow_22 : decode cX1_twistNow 22 = .ok (.iconst 0, 1) := by decide +kernel
theorem dX1_twistNow_23 : decode cX1_twistNow 23 = .ok (.iconst 2, 1) := by decide +kernel
theorem dX1_twistNow_24 : decode cX1_twistNow 24 = .ok (.iconst 2, 1) := by decide +kernel
theorem dX1_twistNow_25 : decode cX1_twistNow 25 = .ok (.invokevirtual 88, 3) := by decide +kernel
theorem dX1_twistNow_28 : decode cX1_twistNow 28 = .ok (.invokestatic 92, 3) := by decide +kernel
theorem dX1_twistNow_31 : decode cX1_twistNow 31 = .ok (.ladd, 1) := by decide +kernel
theorem dX1_twistNow_32 : decode cX1_twistNow 32 = .ok (.aload_n 0, 1) := by decide +kernel
theorem dX1_twistNow_33 : decode cX1_twistNow 33 = .ok (.iconst 0, 1) := by decide +kernel
theorem dX1_twistNow_34 : decode cX1_twistNow 34 = .ok (.iconst 2, 1) := by decide +kernel
theorem dX1_twistNow_35 : decode cX1_twistNow 35 = .ok (.iconst 5, 1) := by decide +kernel
theorem dX1_twistNow_36 : decode cX1_twistNow 36 = .ok (.invokevirtual 88, 3) := by decide +kernel
theorem dX1_twistNow_39 : decode cX1_twistNow 39 = .ok (.invokestatic 92, 3) := by decide +kernel
theorem dX1_twistNow_42 : decode cX1_twistNow 42 = .ok (.ladd, 1) := by decide +kernel
theorem dX1_twistNow_43 : decode cX1_twistNow 43 = .ok (.lreturn, 1) := by decide +kernel
noncomputable def fX1_twistNow  (t_cells : Nat → Int32) (t_rows : Nat → Int32) (t_sizes : Nat → Int32) (t_acts : Int32) : Option (Int64) := (fX1_total t_cells t_rows t_sizes t_acts 0 0 2).bind fun r1 => (fX1_total t_cells t_rows t_sizes t_acts 0 0 5).bind fun r3 => (fX1_total t_cells t_rows t_sizes t_acts 0 2 2).bind fun r5 => (fX1_total t_cells t_rows t_sizes t_acts 0 2 5).bind fun r7 => some ((((labs r1) + (labs r3)) + (labs r5)) + (labs r7))
set_option maxHeartbeats 4000000 in
set_option maxRecDepth 100000 in
theorem ctX1_twistNow (l : Launch) (g : GT) (a_t : Nat → Nat) (t_told : Int32) (t_lines : Int32) (t_kinds : Int32) (t_acts : Int32) (t_cells : Nat → Int32) (t_rows : Nat → Int32) (t_sizes : Nat → Int32) (o : Int64) (h : fX1_twistNow t_cells t_rows t_sizes t_acts = some o) : Met l yX1_twistNow (Cond.code yX1_twistNow cX1_twistNow 1 (some .long) :: Tw) ⟨3, 0, 0, 73⟩ (va_Pc [.ref ((a_t 0))] (roB g [((a_t 0), .inr (1, [.ref (a_t 1), .ref (a_t 2), .ref (a_t 3), .ref (a_t 4), .ref (a_t 5), .int t_told, .int t_lines, .int t_kinds, .int t_acts])), ((a_t 2), .inl (g.2.2.1 0, 144, .inl t_cells)), ((a_t 3), .inl (g.2.2.1 0, 31, .inl t_rows)), ((a_t 4), .inl (g.2.2.1 0, 31, .inl t_sizes))])) (vp_Sl (fun x => x = o)) 0 0 (fun _ => False) := by
  refine ro_metl (by decide) (Nat.le_of_ble_eq_true rfl) (lv0 := [(0, .ref ((a_t 0)))]) rfl ?_
  intro p e s m args below meth c ls Q cx hret hG hP hl
  have hx := cx.1
  have hb := cx.2.1
  have hG0 := hG
  unfold fX1_twistNow at h
  refine lv_aload_n hx hb dX1_twistNow_0 rfl (lv_at hl 0 rfl) ?_
  refine lv_iconst (v := 0) hx hb dX1_twistNow_1 (by decide) ?_
  refine lv_iconst (v := 0) hx hb dX1_twistNow_2 (by decide) ?_
  refine lv_iconst (v := 2) hx hb dX1_twistNow_3 (by decide) ?_
  obtain ⟨r1, hr2, h⟩ := bnd h
  refine ro_l (runV (As := [.int (0), .int (0), .int (2)]) (rest := []) cx hl.1 (ctX1_total l g a_t t_told t_lines t_kinds t_acts t_cells t_rows t_sizes (0) (0) (2) r1 hr2) kmX1_total kvX1_total lm_X1_88 ⟨rfl, rfl⟩ ⟨Nat.le_of_ble_eq_true rfl, Nat.le_of_ble_eq_true rfl⟩ (roV (q0 := 0) (ci := 1) hG (hP.sub [0, 1, 2, 3] rfl) hP rfl rfl) rfl rfl (Nat.le_of_ble_eq_true rfl) dX1_twistNow_4 ⟨Nat.le_of_ble_eq_true rfl, Nat.le_of_ble_eq_true rfl⟩) ?_
  refine xm_labs cx hl.1 lm_X1_92 ⟨ksJ9_abs_067f4, kmJ9_abs_067f4.2.1, kmJ9_abs_067f4.1⟩ (Nat.le_of_ble_eq_true rfl) (Nat.le_of_ble_eq_true rfl) (Nat.le_of_ble_eq_true rfl) (Nat.le_of_ble_eq_true rfl) dX1_twistNow_7 ?_
  refine lv_aload_n hx hb dX1_twistNow_10 rfl (lv_at hl 0 rfl) ?_
  refine lv_iconst (v := 0) hx hb dX1_twistNow_11 (by decide) ?_
  refine lv_iconst (v := 0) hx hb dX1_twistNow_12 (by decide) ?_
  refine lv_iconst (v := 5) hx hb dX1_twistNow_13 (by decide) ?_
  obtain ⟨r3, hr4, h⟩ := bnd h
  refine ro_l (runV (As := [.int (0), .int (0), .int (5)]) (rest := [.long (labs r1)]) cx hl.1 (ctX1_total l g a_t t_told t_lines t_kinds t_acts t_cells t_rows t_sizes (0) (0) (5) r3 hr4) kmX1_total kvX1_total lm_X1_88 ⟨rfl, rfl⟩ ⟨Nat.le_of_ble_eq_true rfl, Nat.le_of_ble_eq_true rfl⟩ (roV (q0 := 0) (ci := 1) hG (hP.sub [0, 1, 2, 3] rfl) hP rfl rfl) rfl rfl (Nat.le_of_ble_eq_true rfl) dX1_twistNow_14 ⟨Nat.le_of_ble_eq_true rfl, Nat.le_of_ble_eq_true rfl⟩) ?_
  refine xm_labs cx hl.1 lm_X1_92 ⟨ksJ9_abs_067f4, kmJ9_abs_067f4.2.1, kmJ9_abs_067f4.1⟩ (Nat.le_of_ble_eq_true rfl) (Nat.le_of_ble_eq_true rfl) (Nat.le_of_ble_eq_true rfl) (Nat.le_of_ble_eq_true rfl) dX1_twistNow_17 ?_
  refine lv_ladd hx hb dX1_twistNow_20 ?_
  refine lv_aload_n hx hb dX1_twistNow_21 rfl (lv_at hl 0 rfl) ?_
  refine lv_iconst (v := 0) hx hb dX1_twistNow_22 (by decide) ?_
  refine lv_iconst (v := 2) hx hb dX1_twistNow_23 (by decide) ?_
  refine lv_iconst (v := 2) hx hb dX1_twistNow_24 (by decide) ?_
  obtain ⟨r5, hr6, h⟩ := bnd h
  refine ro_l (runV (As := [.int (0), .int (2), .int (2)]) (rest := [.long ((labs r1) + (labs r3))]) cx hl.1 (ctX1_total l g a_t t_told t_lines t_kinds t_acts t_cells t_rows t_sizes (0) (2) (2) r5 hr6) kmX1_total kvX1_total lm_X1_88 ⟨rfl, rfl⟩ ⟨Nat.le_of_ble_eq_true rfl, Nat.le_of_ble_eq_true rfl⟩ (roV (q0 := 0) (ci := 1) hG (hP.sub [0, 1, 2, 3] rfl) hP rfl rfl) rfl rfl (Nat.le_of_ble_eq_true rfl) dX1_twistNow_25 ⟨Nat.le_of_ble_eq_true rfl, Nat.le_of_ble_eq_true rfl⟩) ?_
  refine xm_labs cx hl.1 lm_X1_92 ⟨ksJ9_abs_067f4, kmJ9_abs_067f4.2.1, kmJ9_abs_067f4.1⟩ (Nat.le_of_ble_eq_true rfl) (Nat.le_of_ble_eq_true rfl) (Nat.le_of_ble_eq_true rfl) (Nat.le_of_ble_eq_true rfl) dX1_twistNow_28 ?_
  refine lv_ladd hx hb dX1_twistNow_31 ?_
  refine lv_aload_n hx hb dX1_twistNow_32 rfl (lv_at hl 0 rfl) ?_
  refine lv_iconst (v := 0) hx hb dX1_twistNow_33 (by decide) ?_
  refine lv_iconst (v := 2) hx hb dX1_twistNow_34 (by decide) ?_
  refine lv_iconst (v := 5) hx hb dX1_twistNow_35 (by decide) ?_
  obtain ⟨r7, hr8, h⟩ := bnd h
  refine ro_l (runV (As := [.int (0), .int (2), .int (5)]) (rest := [.long (((labs r1) + (labs r3)) + (labs r5))]) cx hl.1 (ctX1_total l g a_t t_told t_lines t_kinds t_acts t_cells t_rows t_sizes (0) (2) (5) r7 hr8) kmX1_total kvX1_total lm_X1_88 ⟨rfl, rfl⟩ ⟨Nat.le_of_ble_eq_true rfl, Nat.le_of_ble_eq_true rfl⟩ (roV (q0 := 0) (ci := 1) hG (hP.sub [0, 1, 2, 3] rfl) hP rfl rfl) rfl rfl (Nat.le_of_ble_eq_true rfl) dX1_twistNow_36 ⟨Nat.le_of_ble_eq_true rfl, Nat.le_of_ble_eq_true rfl⟩) ?_
  refine xm_labs cx hl.1 lm_X1_92 ⟨ksJ9_abs_067f4, kmJ9_abs_067f4.2.1, kmJ9_abs_067f4.1⟩ (Nat.le_of_ble_eq_true rfl) (Nat.le_of_ble_eq_true rfl) (Nat.le_of_ble_eq_true rfl) (Nat.le_of_ble_eq_true rfl) dX1_twistNow_39 ?_
  refine lv_ladd hx hb dX1_twistNow_42 ?_
  exact hret _ _ _ dX1_twistNow_43 (Option.some.inj h)
-- X1_isRowFlat
theorem dX1_isRowFlat_0 : decode cX1_isRowFlat 0 = .ok (.getstatic 108, 3) := by decide +kernel
theorem dX1_isRowFlat_3 : decode cX1_isRowFlat 3 = .ok (.astore_n 3, 1) := by decide +kernel
theorem dX1_isRowFlat_4 : decode cX1_isRowFlat 4 = .ok (.aload_n 3, 1) := by decide +kernel
theorem dX1_isRowFlat_5 : decode cX1_isRowFlat 5 = .ok (.arraylength, 1) := by decide +kernel
theorem dX1_isRowFlat_6 : decode cX1_isRowFlat 6 = .ok (.istore 4, 2) := by decide +kernel
theorem dX1_isRowFlat_8 : decode cX1_isRowFlat 8 = .ok (.iconst 0, 1) := by decide +kernel
theorem dX1_isRowFlat_9 : decode cX1_isRowFlat 9 = .ok (.istore 5, 2) := by decide +kernel
theorem dX1_isRowFlat_11 : decode cX1_isRowFlat 11 = .ok (.iload 5, 2) := by decide +kernel
theorem dX1_isRowFlat_13 : decode cX1_isRowFlat 13 = .ok (.iload 4, 2) := by decide +kernel
theorem dX1_isRowFlat_15 : decode cX1_isRowFlat 15 = .ok (.if_icmp .ge 32, 3) := by decide +kernel
theorem dX1_isRowFlat_18 : decode cX1_isRowFlat 18 = .ok (.aload_n 3, 1) := by decide +kernel
theorem dX1_isRowFlat_19 : decode cX1_isRowFlat 19 = .ok (.iload 5, 2) := by decide +kernel
theorem dX1_isRowFlat_21 : decode cX1_isRowFlat 21 = .ok (.iaload, 1) := by decide +kernel
theorem dX1_isRowFlat_22 : decode cX1_isRowFlat 22 = .ok (.istore 6, 2) := by decide +kernel
theorem dX1_isRowFlat_24 : decode cX1_isRowFlat 24 = .ok (.aload_n 0, 1) := by decide +kernel
theorem dX1_isRowFlat_25 : decode cX1_isRowFlat 25 = .ok (.iload_n 1, 1) := by decide +kernel
theorem dX1_isRowFlat_26 : decode cX1_isRowFlat 26 = .ok (.iload_n 2, 1) := by decide +kernel
theorem dX1_isRowFlat_27 : decode cX1_isRowFlat 27 = .ok (.iconst 0, 1) := by decide +kernel
theorem dX1_isRowFlat_28 : decode cX1_isRowFlat 28 = .ok (.iconst 1, 1) := by decide +kernel
theorem dX1_isRowFlat_29 : decode cX1_isRowFlat 29 = .ok (.iload 6, 2) := by decide +kernel
theorem dX1_isRowFlat_31 : decode cX1_isRowFlat 31 = .ok (.invokevirtual 80, 3) := by decide +kernel
theorem dX1_isRowFlat_34 : decode cX1_isRowFlat 34 = .ok (.lconst 0, 1) := by decide +kernel
theorem dX1_isRowFlat_35 : decode cX1_isRowFlat 35 = .ok (.lcmp, 1) := by decide +kernel
theorem dX1_isRowFlat_36 : decode cX1_isRowFlat 36 = .ok (.ifCond .eq 5, 3) := by decide +kernel
theorem dX1_isRowFlat_39 : decode cX1_isRowFlat 39 = .ok (.iconst 0, 1) := by decide +kernel
theorem dX1_isRowFlat_40 : decode cX1_isRowFlat 40 = .ok (.ireturn, 1) := by decide +kernel
theorem dX1_isRowFlat_41 : decode cX1_isRowFlat 41 = .ok (.iinc 5 1, 3) := by decide +kernel
theorem dX1_isRowFlat_44 : decode cX1_isRowFlat 44 = .ok (.goto (-33), 3) := by decide +kernel
theorem dX1_isRowFlat_47 : decode cX1_isRowFlat 47 = .ok (.iconst 1, 1) := by decide +kernel
theorem dX1_isRowFlat_48 : decode cX1_isRowFlat 48 = .ok (.ireturn, 1) := by decide +kernel
noncomputable def fX1_isRowFlat_11  : Nat → (Nat → Int32) → Int32 → Int32 → Int32 → Int32 → Option (Int32)
  | 0, _, _, _, _, _ => none
  | n + 1, t_cells, v1, v2, v4, v5 => (if v4 ≤ v5 then some (1) else chk 5 v5 ((fX1_totalOf t_cells v1 v2 0 1 (stF 5 v5.toNatClampNeg)).bind fun r3 => (if (lg_cmp r3 0) = 0 then fX1_isRowFlat_11 n t_cells v1 v2 v4 (v5 + 1) else some (0))))
theorem fX1_isRowFlat_11_z  (t_cells : Nat → Int32) (v1 : Int32) (v2 : Int32) (v4 : Int32) (v5 : Int32) : fX1_isRowFlat_11  0 t_cells v1 v2 v4 v5 = none := rfl
theorem fX1_isRowFlat_11_s  (n : Nat) (t_cells : Nat → Int32) (v1 : Int32) (v2 : Int32) (v4 : Int32) (v5 : Int32) : fX1_isRowFlat_11  (n + 1) t_cells v1 v2 v4 v5 = (if v4 ≤ v5 then some (1) else chk 5 v5 ((fX1_totalOf t_cells v1 v2 0 1 (stF 5 v5.toNatClampNeg)).bind fun r3 => (if (lg_cmp r3 0) = 0 then fX1_isRowFlat_11 n t_cells v1 v2 v4 (v5 + 1) else some (0)))) := rfl
noncomputable def fX1_isRowFlat  (t_cells : Nat → Int32) (v1 : Int32) (v2 : Int32) : Option (Int32) := fX1_isRowFlat_11 FU t_cells v1 v2 5 0
set_option maxHeartbeats 4000000 in
set_option maxRecDepth 100000 in
theorem ctX1_isRowFlat (l : Launch) (g : GT) (a_t : Nat → Nat) (t_told : Int32) (t_lines : Int32) (t_kinds : Int32) (t_acts : Int32) (t_cells : Nat → Int32) (v1 : Int32) (v2 : Int32) (o : Int32) (h : fX1_isRowFlat t_cells v1 v2 = some o) : Met l yX1_isRowFlat (Cond.code yX1_isRowFlat cX1_isRowFlat 7 (some .boolean) :: Tw) ⟨2, 0, 0, 50⟩ (va_Pc [.ref ((a_t 0)), .int v1, .int v2] (roB g [((a_t 0), .inr (1, [.ref (a_t 1), .ref (a_t 2), .ref (a_t 3), .ref (a_t 4), .ref (a_t 5), .int t_told, .int t_lines, .int t_kinds, .int t_acts])), ((a_t 2), .inl (g.2.2.1 0, 144, .inl t_cells))])) (vp_Si (fun x => x = o ∧ (x = 0 ∨ x = 1))) 0 0 (fun _ => False) := by
  refine ro_metz (by decide) (Nat.le_of_ble_eq_true rfl) (lv0 := [(0, .ref ((a_t 0))), (1, .int v1), (2, .int v2)]) rfl ?_
  intro p e s m args below meth c ls Q cx hret hG hP hl
  have hx := cx.1
  have hb := cx.2.1
  have hG0 := hG
  have w11 : ∀ (n : Nat) (v1 : Int32) (v2 : Int32) (v4 : Int32) (v5 : Int32) (ls : Array Slot), lv_has ls 7 [(0, .ref ((a_t 0))), (1, .int v1), (2, .int v2), (3, .ref ((g.2.2.2.1 5))), (4, .int v4), (5, .int v5)] → fX1_isRowFlat_11  n t_cells v1 v2 v4 v5 = some o → W p l e ⟨2, 0, 0, 50⟩ s m args below meth c s.heap [] 0 0 Q (F0 m 11 ls []) := by
    intro n
    induction n with
    | zero => intro v1 v2 v4 v5 ls hl h; cases (fX1_isRowFlat_11_z  t_cells v1 v2 v4 v5).symm.trans h
    | succ n ih =>
    intro v1 v2 v4 v5 ls hl h
    have h := (fX1_isRowFlat_11_s  n t_cells v1 v2 v4 v5).symm.trans h
    refine lv_iload hx hb dX1_isRowFlat_11 (lv_at hl 5 rfl) ?_
    refine lv_iload hx hb dX1_isRowFlat_13 (lv_at hl 4 rfl) ?_
    refine lv_icmp_ge (tgt := 47) hx hb dX1_isRowFlat_15 (by decide) (fun c1 => ?_) (fun c1 => ?_)
    · have h := itp c1 h
      refine lv_iconst (v := 1) hx hb dX1_isRowFlat_47 (by decide) ?_
      exact hret _ _ _ dX1_isRowFlat_48 (by decide) (Option.some.inj h)
    · have h := itn c1 h
      refine lv_aload_n hx hb dX1_isRowFlat_18 rfl (lv_at hl 3 rfl) ?_
      refine lv_iload hx hb dX1_isRowFlat_19 (lv_at hl 5 rfl) ?_
      obtain ⟨hi2, h⟩ := chk_out h
      refine xs_ald (v := stF 5 v5.toNatClampNeg) cx hG0 va_S.rf 5 ⟨rfl, rfl⟩ hi2 rfl dX1_isRowFlat_21 ?_
      refine lv_istore (lv' := [(6, .int (stF 5 v5.toNatClampNeg)), (0, .ref ((a_t 0))), (1, .int v1), (2, .int v2), (3, .ref ((g.2.2.2.1 5))), (4, .int v4), (5, .int v5)]) hx hb dX1_isRowFlat_22 hl (by decide) rfl (fun ls hl => ?_)
      refine lv_aload_n hx hb dX1_isRowFlat_24 rfl (lv_at hl 1 rfl) ?_
      refine lv_iload_n hx hb dX1_isRowFlat_25 rfl (lv_at hl 2 rfl) ?_
      refine lv_iload_n hx hb dX1_isRowFlat_26 rfl (lv_at hl 3 rfl) ?_
      refine lv_iconst (v := 0) hx hb dX1_isRowFlat_27 (by decide) ?_
      refine lv_iconst (v := 1) hx hb dX1_isRowFlat_28 (by decide) ?_
      refine lv_iload hx hb dX1_isRowFlat_29 (lv_at hl 0 rfl) ?_
      obtain ⟨r3, hr4, h⟩ := bnd h
      refine ro_l (runV (As := [.int v1, .int v2, .int (0), .int (1), .int (stF 5 v5.toNatClampNeg)]) (rest := []) cx hl.1 (ctX1_totalOf l g a_t t_told t_lines t_kinds t_acts t_cells v1 v2 (0) (1) (stF 5 v5.toNatClampNeg) r3 hr4) kmX1_totalOf kvX1_totalOf lm_X1_80 ⟨rfl, rfl⟩ ⟨Nat.le_of_ble_eq_true rfl, Nat.le_of_ble_eq_true rfl⟩ (roV (q0 := 0) (ci := 1) hG (hP.sub [0, 1] rfl) hP rfl rfl) rfl rfl (Nat.le_of_ble_eq_true rfl) dX1_isRowFlat_31 ⟨Nat.le_of_ble_eq_true rfl, Nat.le_of_ble_eq_true rfl⟩) ?_
      refine lv_lconst (v := 0) hx hb dX1_isRowFlat_34 (by decide) ?_
      refine W.lcmp hx hb dX1_isRowFlat_35 ?_
      refine lv_if_eq (tgt := 41) hx hb dX1_isRowFlat_36 (by decide) (fun c5 => ?_) (fun c5 => ?_)
      · have h := itp c5 h
        refine lv_iinc (v := v5 + 1) (lv' := [(5, .int (v5 + 1)), (6, .int (stF 5 v5.toNatClampNeg)), (0, .ref ((a_t 0))), (1, .int v1), (2, .int v2), (3, .ref ((g.2.2.2.1 5))), (4, .int v4)]) hx hb dX1_isRowFlat_41 hl (k := 6) rfl rfl (by decide) rfl (fun ls hl => ?_)
        refine lv_goto (tgt := 11) hx hb dX1_isRowFlat_44 (by decide) ?_
        exact ih v1 v2 v4 (v5 + 1) _ (lv_sub hl [2, 3, 4, 5, 6, 0] rfl) h
      · have h := itn c5 h
        refine lv_iconst (v := 0) hx hb dX1_isRowFlat_39 (by decide) ?_
        exact hret _ _ _ dX1_isRowFlat_40 (by decide) (Option.some.inj h)
  unfold fX1_isRowFlat at h
  refine xs_get cx hG0 va_S.rf 5 rfl lf_X1_108 dX1_isRowFlat_0 ?_
  refine lv_astore_n (lv' := [(3, .ref ((g.2.2.2.1 5))), (0, .ref ((a_t 0))), (1, .int v1), (2, .int v2)]) hx hb dX1_isRowFlat_3 rfl hl (by decide) rfl (fun ls hl => ?_)
  refine lv_aload_n hx hb dX1_isRowFlat_4 rfl (lv_at hl 0 rfl) ?_
  refine xs_len cx hG0 va_S.rf 5 rfl (v := 5) rfl dX1_isRowFlat_5 ?_
  refine lv_istore (lv' := [(4, .int (5)), (3, .ref ((g.2.2.2.1 5))), (0, .ref ((a_t 0))), (1, .int v1), (2, .int v2)]) hx hb dX1_isRowFlat_6 hl (by decide) rfl (fun ls hl => ?_)
  refine lv_iconst (v := 0) hx hb dX1_isRowFlat_8 (by decide) ?_
  refine lv_istore (lv' := [(5, .int (0)), (4, .int (5)), (3, .ref ((g.2.2.2.1 5))), (0, .ref ((a_t 0))), (1, .int v1), (2, .int v2)]) hx hb dX1_isRowFlat_9 hl (by decide) rfl (fun ls hl => ?_)
  exact w11 FU v1 v2 5 0 _ (lv_sub hl [3, 4, 5, 2, 1, 0] rfl) h
-- X1_isRowStraight
theorem dX1_isRowStraight_0 : decode cX1_isRowStraight 0 = .ok (.aload_n 0, 1) := by decide +kernel
theorem dX1_isRowStraight_1 : decode cX1_isRowStraight 1 = .ok (.iload_n 1, 1) := by decide +kernel
theorem dX1_isRowStraight_2 : decode cX1_isRowStraight 2 = .ok (.iload_n 2, 1) := by decide +kernel
theorem dX1_isRowStraight_3 : decode cX1_isRowStraight 3 = .ok (.iconst 0, 1) := by decide +kernel
theorem dX1_isRowStraight_4 : decode cX1_isRowStraight 4 = .ok (.iconst 0, 1) := by decide +kernel
theorem dX1_isRowStraight_5 : decode cX1_isRowStraight 5 = .ok (.iconst 2, 1) := by decide +kernel
theorem dX1_isRowStraight_6 : decode cX1_isRowStraight 6 = .ok (.invokevirtual 80, 3) := by decide +kernel
theorem dX1_isRowStraight_9 : decode cX1_isRowStraight 9 = .ok (.lconst 0, 1) := by decide +kernel
theorem dX1_isRowStraight_10 : decode cX1_isRowStraight 10 = .ok (.lcmp, 1) := by decide +kernel
theorem dX1_isRowStraight_11 : decode cX1_isRowStraight 11 = .ok (.ifCond .ne 21, 3) := by decide +kernel
theorem dX1_isRowStraight_14 : decode cX1_isRowStraight 14 = .ok (.aload_n 0, 1) := by decide +kernel
theorem dX1_isRowStraight_15 : decode cX1_isRowStraight 15 = .ok (.iload_n 1, 1) := by decide +kernel
theorem dX1_isRowStraight_16 : decode cX1_isRowStraight 16 = .ok (.iload_n 2, 1) := by decide +kernel
theorem dX1_isRowStraight_17 : decode cX1_isRowStraight 17 = .ok (.iconst 0, 1) := by decide +kernel
theorem dX1_isRowStraight_18 : decode cX1_isRowStraight 18 = .ok (.iconst 2, 1) := by decide +kernel
theorem dX1_isRowStraight_19 : decode cX1_isRowStraight 19 = .ok (.iconst 2, 1) := by decide +kernel
theorem dX1_isRowStraight_20 : decode cX1_isRowStraight 20 = .ok (.invokevirtual 80, 3) := by decide +kernel
theorem dX1_isRowStraight_23 : decode cX1_isRowStraight 23 = .ok (.lconst 0, 1) := by decide +kernel
theorem dX1_isRowStraight_24 : decode cX1_isRowStraight 24 = .ok (.lcmp, 1) := by decide +kernel
theorem dX1_isRowStraight_25 : decode cX1_isRowStraight 25 = .ok (.ifCond .ne 7, 3) := by decide +kernel
theorem dX1_isRowStraight_28 : decode cX1_isRowStraight 28 = .ok (.iconst 1, 1) := by decide +kernel
theorem dX1_isRowStraight_29 : decode cX1_isRowStraight 29 = .ok (.goto 4, 3) := by decide +kernel
theorem dX1_isRowStraight_32 : decode cX1_isRowStraight 32 = .ok (.iconst 0, 1) := by decide +kernel
theorem dX1_isRowStraight_33 : decode cX1_isRowStraight 33 = .ok (.ireturn, 1) := by decide +kernel
noncomputable def fX1_isRowStraight  (t_cells : Nat → Int32) (v1 : Int32) (v2 : Int32) : Option (Int32) := (fX1_totalOf t_cells v1 v2 0 0 2).bind fun r1 => (if (lg_cmp r1 0) = 0 then (fX1_totalOf t_cells v1 v2 0 2 2).bind fun r4 => (if (lg_cmp r4 0) = 0 then some (1) else some (0)) else some (0))
set_option maxHeartbeats 4000000 in
set_option maxRecDepth 100000 in
theorem ctX1_isRowStraight (l : Launch) (g : GT) (a_t : Nat → Nat) (t_told : Int32) (t_lines : Int32) (t_kinds : Int32) (t_acts : Int32) (t_cells : Nat → Int32) (v1 : Int32) (v2 : Int32) (o : Int32) (h : fX1_isRowStraight t_cells v1 v2 = some o) : Met l yX1_isRowStraight (Cond.code yX1_isRowStraight cX1_isRowStraight 3 (some .boolean) :: Tw) ⟨2, 0, 0, 50⟩ (va_Pc [.ref ((a_t 0)), .int v1, .int v2] (roB g [((a_t 0), .inr (1, [.ref (a_t 1), .ref (a_t 2), .ref (a_t 3), .ref (a_t 4), .ref (a_t 5), .int t_told, .int t_lines, .int t_kinds, .int t_acts])), ((a_t 2), .inl (g.2.2.1 0, 144, .inl t_cells))])) (vp_Si (fun x => x = o ∧ (x = 0 ∨ x = 1))) 0 0 (fun _ => False) := by
  refine ro_metz (by decide) (Nat.le_of_ble_eq_true rfl) (lv0 := [(0, .ref ((a_t 0))), (1, .int v1), (2, .int v2)]) rfl ?_
  intro p e s m args below meth c ls Q cx hret hG hP hl
  have hx := cx.1
  have hb := cx.2.1
  have hG0 := hG
  unfold fX1_isRowStraight at h
  refine lv_aload_n hx hb dX1_isRowStraight_0 rfl (lv_at hl 0 rfl) ?_
  refine lv_iload_n hx hb dX1_isRowStraight_1 rfl (lv_at hl 1 rfl) ?_
  refine lv_iload_n hx hb dX1_isRowStraight_2 rfl (lv_at hl 2 rfl) ?_
  refine lv_iconst (v := 0) hx hb dX1_isRowStraight_3 (by decide) ?_
  refine lv_iconst (v := 0) hx hb dX1_isRowStraight_4 (by decide) ?_
  refine lv_iconst (v := 2) hx hb dX1_isRowStraight_5 (by decide) ?_
  obtain ⟨r1, hr2, h⟩ := bnd h
  refine ro_l (runV (As := [.int v1, .int v2, .int (0), .int (0), .int (2)]) (rest := []) cx hl.1 (ctX1_totalOf l g a_t t_told t_lines t_kinds t_acts t_cells v1 v2 (0) (0) (2) r1 hr2) kmX1_totalOf kvX1_totalOf lm_X1_80 ⟨rfl, rfl⟩ ⟨Nat.le_of_ble_eq_true rfl, Nat.le_of_ble_eq_true rfl⟩ (roV (q0 := 0) (ci := 1) hG (hP.sub [0, 1] rfl) hP rfl rfl) rfl rfl (Nat.le_of_ble_eq_true rfl) dX1_isRowStraight_6 ⟨Nat.le_of_ble_eq_true rfl, Nat.le_of_ble_eq_true rfl⟩) ?_
  refine lv_lconst (v := 0) hx hb dX1_isRowStraight_9 (by decide) ?_
  refine W.lcmp hx hb dX1_isRowStraight_10 ?_
  refine lv_if_ne (tgt := 32) hx hb dX1_isRowStraight_11 (by decide) (fun c3 => ?_) (fun c3 => ?_)
  · have h := itn c3 h
    refine lv_iconst (v := 0) hx hb dX1_isRowStraight_32 (by decide) ?_
    exact hret _ _ _ dX1_isRowStraight_33 (by decide) (Option.some.inj h)
  · have h := itp c3 h
    refine lv_aload_n hx hb dX1_isRowStraight_14 rfl (lv_at hl 0 rfl) ?_
    refine lv_iload_n hx hb dX1_isRowStraight_15 rfl (lv_at hl 1 rfl) ?_
    refine lv_iload_n hx hb dX1_isRowStraight_16 rfl (lv_at hl 2 rfl) ?_
    refine lv_iconst (v := 0) hx hb dX1_isRowStraight_17 (by decide) ?_
    refine lv_iconst (v := 2) hx hb dX1_isRowStraight_18 (by decide) ?_
    refine lv_iconst (v := 2) hx hb dX1_isRowStraight_19 (by decide) ?_
    obtain ⟨r4, hr5, h⟩ := bnd h
    refine ro_l (runV (As := [.int v1, .int v2, .int (0), .int (2), .int (2)]) (rest := []) cx hl.1 (ctX1_totalOf l g a_t t_told t_lines t_kinds t_acts t_cells v1 v2 (0) (2) (2) r4 hr5) kmX1_totalOf kvX1_totalOf lm_X1_80 ⟨rfl, rfl⟩ ⟨Nat.le_of_ble_eq_true rfl, Nat.le_of_ble_eq_true rfl⟩ (roV (q0 := 0) (ci := 1) hG (hP.sub [0, 1] rfl) hP rfl rfl) rfl rfl (Nat.le_of_ble_eq_true rfl) dX1_isRowStraight_20 ⟨Nat.le_of_ble_eq_true rfl, Nat.le_of_ble_eq_true rfl⟩) ?_
    refine lv_lconst (v := 0) hx hb dX1_isRowStraight_23 (by decide) ?_
    refine W.lcmp hx hb dX1_isRowStraight_24 ?_
    refine lv_if_ne (tgt := 32) hx hb dX1_isRowStraight_25 (by decide) (fun c6 => ?_) (fun c6 => ?_)
    · have h := itn c6 h
      refine lv_iconst (v := 0) hx hb dX1_isRowStraight_32 (by decide) ?_
      exact hret _ _ _ dX1_isRowStraight_33 (by decide) (Option.some.inj h)
    · have h := itp c6 h
      refine lv_iconst (v := 1) hx hb dX1_isRowStraight_28 (by decide) ?_
      refine lv_goto (tgt := 33) hx hb dX1_isRowStraight_29 (by decide) ?_
      exact hret _ _ _ dX1_isRowStraight_33 (by decide) (Option.some.inj h)
-- X1_shape
theorem dX1_shape_0 : decode cX1_shape 0 = .ok (.iload_n 1, 1) := by decide +kernel
theorem dX1_shape_1 : decode cX1_shape 1 = .ok (.iload_n 2, 1) := by decide +kernel
theorem dX1_shape_2 : decode cX1_shape 2 = .ok (.invokestatic 98, 3) := by decide +kernel
theorem dX1_shape_5 : decode cX1_shape 5 = .ok (.ifCond .eq 7, 3) := by decide +kernel
theorem dX1_shape_8 : decode cX1_shape 8 = .ok (.iconst 1, 1) := by decide +kernel
theorem dX1_shape_9 : decode cX1_shape 9 = .ok (.goto 4, 3) := by decide +kernel
theorem dX1_shape_12 : decode cX1_shape 12 = .ok (.iconst 0, 1) := by decide +kernel
theorem dX1_shape_13 : decode cX1_shape 13 = .ok (.istore_n 3, 1) := by decide +kernel
theorem dX1_shape_14 : decode cX1_shape 14 = .ok (.iload_n 3, 1) := by decide +kernel
theorem dX1_shape_15 : decode cX1_shape 15 = .ok (.ifCond .ne 12, 3) := by decide +kernel
theorem dX1_shape_18 : decode cX1_shape 18 = .ok (.aload_n 0, 1) := by decide +kernel
theorem dX1_shape_19 : decode cX1_shape 19 = .ok (.iload_n 1, 1) := by decide +kernel
theorem dX1_shape_20 : decode cX1_shape 20 = .ok (.iload_n 2, 1) := by decide +kernel
theorem dX1_shape_21 : decode cX1_shape 21 = .ok (.invokevirtual 102, 3) := by decide +kernel
theorem dX1_shape_24 : decode cX1_shape 24 = .ok (.ifCond .eq 7, 3) := by decide +kernel
theorem dX1_shape_27 : decode cX1_shape 27 = .ok (.iload_n 3, 1) := by decide +kernel
theorem dX1_shape_28 : decode cX1_shape 28 = .ok (.iconst 2, 1) := by decide +kernel
theorem dX1_shape_29 : decode cX1_shape 29 = .ok (.ior, 1) := by decide +kernel
theorem dX1_shape_30 : decode cX1_shape 30 = .ok (.istore_n 3, 1) := by decide +kernel
theorem dX1_shape_31 : decode cX1_shape 31 = .ok (.aload_n 0, 1) := by decide +kernel
theorem dX1_shape_32 : decode cX1_shape 32 = .ok (.iload_n 1, 1) := by decide +kernel
theorem dX1_shape_33 : decode cX1_shape 33 = .ok (.iload_n 2, 1) := by decide +kernel
theorem dX1_shape_34 : decode cX1_shape 34 = .ok (.invokevirtual 105, 3) := by decide +kernel
theorem dX1_shape_37 : decode cX1_shape 37 = .ok (.ifCond .eq 9, 3) := by decide +kernel
theorem dX1_shape_40 : decode cX1_shape 40 = .ok (.iload_n 3, 1) := by decide +kernel
theorem dX1_shape_41 : decode cX1_shape 41 = .ok (.iconst 4, 1) := by decide +kernel
theorem dX1_shape_42 : decode cX1_shape 42 = .ok (.ior, 1) := by decide +kernel
theorem dX1_shape_43 : decode cX1_shape 43 = .ok (.goto 4, 3) := by decide +kernel
theorem dX1_shape_46 : decode cX1_shape 46 = .ok (.iload_n 3, 1) := by decide +kernel
theorem dX1_shape_47 : decode cX1_shape 47 = .ok (.ireturn, 1) := by decide +kernel
noncomputable def fX1_shape_31  (t_cells : Nat → Int32) (v1 : Int32) (v2 : Int32) (v3 : Int32) : Option (Int32) := (fX1_isRowStraight t_cells v1 v2).bind fun r10 => (if r10 = 0 then some v3 else some (v3 ||| 4))
noncomputable def fX1_shape_27  (t_cells : Nat → Int32) (v1 : Int32) (v2 : Int32) (v3 : Int32) : Option (Int32) := fX1_shape_31 t_cells v1 v2 (v3 ||| 2)
noncomputable def fX1_shape_13  (t_cells : Nat → Int32) (v1 : Int32) (v2 : Int32) (z0 : Int32) : Option (Int32) := (if z0 = 0 then (fX1_isRowFlat t_cells v1 v2).bind fun r6 => (if r6 = 0 then fX1_shape_31 t_cells v1 v2 z0 else fX1_shape_27 t_cells v1 v2 z0) else fX1_shape_27 t_cells v1 v2 z0)
noncomputable def fX1_shape  (t_cells : Nat → Int32) (v1 : Int32) (v2 : Int32) : Option (Int32) := (fX3_isMirrored v1 v2).bind fun r1 => (if r1 = 0 then fX1_shape_13 t_cells v1 v2 0 else fX1_shape_13 t_cells v1 v2 1)
set_option maxHeartbeats 4000000 in
set_option maxRecDepth 100000 in
theorem ctX1_shape (l : Launch) (g : GT) (a_t : Nat → Nat) (t_told : Int32) (t_lines : Int32) (t_kinds : Int32) (t_acts : Int32) (t_cells : Nat → Int32) (v1 : Int32) (v2 : Int32) (o : Int32) (h : fX1_shape t_cells v1 v2 = some o) : Met l yX1_shape (Cond.code yX1_shape cX1_shape 4 (some .int) :: Tw) ⟨3, 0, 0, 76⟩ (va_Pc [.ref ((a_t 0)), .int v1, .int v2] (roB g [((a_t 0), .inr (1, [.ref (a_t 1), .ref (a_t 2), .ref (a_t 3), .ref (a_t 4), .ref (a_t 5), .int t_told, .int t_lines, .int t_kinds, .int t_acts])), ((a_t 2), .inl (g.2.2.1 0, 144, .inl t_cells))])) (vp_Si (fun x => x = o)) 0 0 (fun _ => False) := by
  refine ro_meti (by decide) (Nat.le_of_ble_eq_true rfl) (lv0 := [(0, .ref ((a_t 0))), (1, .int v1), (2, .int v2)]) rfl ?_
  intro p e s m args below meth c ls Q cx hret hG hP hl
  have hx := cx.1
  have hb := cx.2.1
  have hG0 := hG
  have w31 : ∀ (v1 : Int32) (v2 : Int32) (v3 : Int32) (ls : Array Slot), lv_has ls 4 [(0, .ref ((a_t 0))), (1, .int v1), (2, .int v2), (3, .int v3)] → fX1_shape_31  t_cells v1 v2 v3 = some o → W p l e ⟨3, 0, 0, 76⟩ s m args below meth c s.heap [] 0 0 Q (F0 m 31 ls []) := by
    intro v1 v2 v3 ls hl h
    unfold fX1_shape_31 at h
    refine lv_aload_n hx hb dX1_shape_31 rfl (lv_at hl 0 rfl) ?_
    refine lv_iload_n hx hb dX1_shape_32 rfl (lv_at hl 1 rfl) ?_
    refine lv_iload_n hx hb dX1_shape_33 rfl (lv_at hl 2 rfl) ?_
    obtain ⟨r10, hr11, h⟩ := bnd h
    refine ro_z (runV (As := [.int v1, .int v2]) (rest := []) cx hl.1 (ctX1_isRowStraight l g a_t t_told t_lines t_kinds t_acts t_cells v1 v2 r10 hr11) kmX1_isRowStraight kvX1_isRowStraight lm_X1_105 ⟨rfl, rfl⟩ ⟨Nat.le_of_ble_eq_true rfl, Nat.le_of_ble_eq_true rfl⟩ (roV (q0 := 0) (ci := 1) hG (hP.sub [0, 1] rfl) hP rfl rfl) rfl rfl (Nat.le_of_ble_eq_true rfl) dX1_shape_34 ⟨Nat.le_of_ble_eq_true rfl, Nat.le_of_ble_eq_true rfl⟩) (fun hz12 => ?_)
    refine lv_if_eq (tgt := 46) hx hb dX1_shape_37 (by decide) (fun c13 => ?_) (fun c13 => ?_)
    · have h := itp c13 h
      refine lv_iload_n hx hb dX1_shape_46 rfl (lv_at hl 3 rfl) ?_
      exact hret _ _ _ dX1_shape_47 (Option.some.inj h)
    · have h := itn c13 h
      refine lv_iload_n hx hb dX1_shape_40 rfl (lv_at hl 3 rfl) ?_
      refine lv_iconst (v := 4) hx hb dX1_shape_41 (by decide) ?_
      refine lv_ior hx hb dX1_shape_42 ?_
      refine lv_goto (tgt := 47) hx hb dX1_shape_43 (by decide) ?_
      exact hret _ _ _ dX1_shape_47 (Option.some.inj h)
  have w27 : ∀ (v1 : Int32) (v2 : Int32) (v3 : Int32) (ls : Array Slot), lv_has ls 4 [(0, .ref ((a_t 0))), (1, .int v1), (2, .int v2), (3, .int v3)] → fX1_shape_27  t_cells v1 v2 v3 = some o → W p l e ⟨3, 0, 0, 76⟩ s m args below meth c s.heap [] 0 0 Q (F0 m 27 ls []) := by
    intro v1 v2 v3 ls hl h
    unfold fX1_shape_27 at h
    refine lv_iload_n hx hb dX1_shape_27 rfl (lv_at hl 3 rfl) ?_
    refine lv_iconst (v := 2) hx hb dX1_shape_28 (by decide) ?_
    refine lv_ior hx hb dX1_shape_29 ?_
    refine lv_istore_n (lv' := [(3, .int (v3 ||| 2)), (0, .ref ((a_t 0))), (1, .int v1), (2, .int v2)]) hx hb dX1_shape_30 rfl hl (by decide) rfl (fun ls hl => ?_)
    exact w31 v1 v2 (v3 ||| 2) _ (lv_sub hl [1, 2, 3, 0] rfl) h
  have w13 : ∀ (v1 : Int32) (v2 : Int32) (z0 : Int32) (ls : Array Slot), lv_has ls 4 [(0, .ref ((a_t 0))), (1, .int v1), (2, .int v2)] → fX1_shape_13  t_cells v1 v2 z0 = some o → W p l e ⟨3, 0, 0, 76⟩ s m args below meth c s.heap [] 0 0 Q (F0 m 13 ls [.int z0]) := by
    intro v1 v2 z0 ls hl h
    unfold fX1_shape_13 at h
    refine lv_istore_n (lv' := [(3, .int z0), (0, .ref ((a_t 0))), (1, .int v1), (2, .int v2)]) hx hb dX1_shape_13 rfl hl (by decide) rfl (fun ls hl => ?_)
    refine lv_iload_n hx hb dX1_shape_14 rfl (lv_at hl 0 rfl) ?_
    refine lv_if_ne (tgt := 27) hx hb dX1_shape_15 (by decide) (fun c5 => ?_) (fun c5 => ?_)
    · have h := itn c5 h
      exact w27 v1 v2 z0 _ (lv_sub hl [1, 2, 3, 0] rfl) h
    · have h := itp c5 h
      refine lv_aload_n hx hb dX1_shape_18 rfl (lv_at hl 1 rfl) ?_
      refine lv_iload_n hx hb dX1_shape_19 rfl (lv_at hl 2 rfl) ?_
      refine lv_iload_n hx hb dX1_shape_20 rfl (lv_at hl 3 rfl) ?_
      obtain ⟨r6, hr7, h⟩ := bnd h
      refine ro_z (runV (As := [.int v1, .int v2]) (rest := []) cx hl.1 (ctX1_isRowFlat l g a_t t_told t_lines t_kinds t_acts t_cells v1 v2 r6 hr7) kmX1_isRowFlat kvX1_isRowFlat lm_X1_102 ⟨rfl, rfl⟩ ⟨Nat.le_of_ble_eq_true rfl, Nat.le_of_ble_eq_true rfl⟩ (roV (q0 := 0) (ci := 1) hG (hP.sub [0, 1] rfl) hP rfl rfl) rfl rfl (Nat.le_of_ble_eq_true rfl) dX1_shape_21 ⟨Nat.le_of_ble_eq_true rfl, Nat.le_of_ble_eq_true rfl⟩) (fun hz8 => ?_)
      refine lv_if_eq (tgt := 31) hx hb dX1_shape_24 (by decide) (fun c9 => ?_) (fun c9 => ?_)
      · have h := itp c9 h
        exact w31 v1 v2 z0 _ (lv_sub hl [1, 2, 3, 0] rfl) h
      · have h := itn c9 h
        exact w27 v1 v2 z0 _ (lv_sub hl [1, 2, 3, 0] rfl) h
  unfold fX1_shape at h
  refine lv_iload_n hx hb dX1_shape_0 rfl (lv_at hl 1 rfl) ?_
  refine lv_iload_n hx hb dX1_shape_1 rfl (lv_at hl 2 rfl) ?_
  obtain ⟨r1, hr2, h⟩ := bnd h
  refine ro_z (runSN (As := [.int v1, .int v2]) (rest := []) hG cx hl.1 (ctX3_isMirrored l g v1 v2 r1 hr2) kmX3_isMirrored ksX3_isMirrored nm_30 ⟨rfl, rfl⟩ ⟨Nat.le_of_ble_eq_true rfl, Nat.le_of_ble_eq_true rfl⟩ (roS hG (hP.sub [] rfl)) rfl rfl (Nat.le_of_ble_eq_true rfl) dX1_shape_2 ⟨Nat.le_of_ble_eq_true rfl, Nat.le_of_ble_eq_true rfl⟩) (fun hz3 => ?_)
  refine lv_if_eq (tgt := 12) hx hb dX1_shape_5 (by decide) (fun c4 => ?_) (fun c4 => ?_)
  · have h := itp c4 h
    refine lv_iconst (v := 0) hx hb dX1_shape_12 (by decide) ?_
    exact w13 v1 v2 0 _ (lv_sub hl [0, 1, 2] rfl) h
  · have h := itn c4 h
    refine lv_iconst (v := 1) hx hb dX1_shape_8 (by decide) ?_
    refine lv_goto (tgt := 13) hx hb dX1_shape_9 (by decide) ?_
    exact w13 v1 v2 1 _ (lv_sub hl [0, 1, 2] rfl) h
-- X1_suits
theorem dX1_suits_0 : decode cX1_suits 0 = .ok (.iload_n 1, 1) := by decide +kernel
theorem dX1_suits_1 : decode cX1_suits 1 = .ok (.iload_n 2, 1) := by decide +kernel
theorem dX1_suits_2 : decode cX1_suits 2 = .ok (.invokestatic 111, 3) := by decide +kernel
theorem dX1_suits_5 : decode cX1_suits 5 = .ok (.aload_n 0, 1) := by decide +kernel
theorem dX1_suits_6 : decode cX1_suits 6 = .ok (.invokevirtual 114, 3) := by decide +kernel
theorem dX1_suits_9 : decode cX1_suits 9 = .ok (.if_icmp .gt 19, 3) := by decide +kernel
theorem dX1_suits_12 : decode cX1_suits 12 = .ok (.aload_n 0, 1) := by decide +kernel
theorem dX1_suits_13 : decode cX1_suits 13 = .ok (.iload_n 1, 1) := by decide +kernel
theorem dX1_suits_14 : decode cX1_suits 14 = .ok (.iload_n 2, 1) := by decide +kernel
theorem dX1_suits_15 : decode cX1_suits 15 = .ok (.invokevirtual 117, 3) := by decide +kernel
theorem dX1_suits_18 : decode cX1_suits 18 = .ok (.iload_n 3, 1) := by decide +kernel
theorem dX1_suits_19 : decode cX1_suits 19 = .ok (.iand, 1) := by decide +kernel
theorem dX1_suits_20 : decode cX1_suits 20 = .ok (.iload_n 3, 1) := by decide +kernel
theorem dX1_suits_21 : decode cX1_suits 21 = .ok (.if_icmp .ne 7, 3) := by decide +kernel
theorem dX1_suits_24 : decode cX1_suits 24 = .ok (.iconst 1, 1) := by decide +kernel
theorem dX1_suits_25 : decode cX1_suits 25 = .ok (.goto 4, 3) := by decide +kernel
theorem dX1_suits_28 : decode cX1_suits 28 = .ok (.iconst 0, 1) := by decide +kernel
theorem dX1_suits_29 : decode cX1_suits 29 = .ok (.ireturn, 1) := by decide +kernel
noncomputable def fX1_suits  (t_cells : Nat → Int32) (t_rooms : Nat → Int32) (t_acts : Int32) (v1 : Int32) (v2 : Int32) (v3 : Int32) : Option (Int32) := (fX3_longestRun v1 v2).bind fun r1 => (fX1_roomNow t_rooms t_acts).bind fun r3 => (if r3 < r1 then some (0) else (fX1_shape t_cells v1 v2).bind fun r6 => (if (r6 &&& v3) = v3 then some (1) else some (0)))
set_option maxHeartbeats 4000000 in
set_option maxRecDepth 100000 in
theorem ctX1_suits (l : Launch) (g : GT) (a_t : Nat → Nat) (t_told : Int32) (t_lines : Int32) (t_kinds : Int32) (t_acts : Int32) (t_cells : Nat → Int32) (t_rooms : Nat → Int32) (v1 : Int32) (v2 : Int32) (v3 : Int32) (o : Int32) (h : fX1_suits t_cells t_rooms t_acts v1 v2 v3 = some o) : Met l yX1_suits (Cond.code yX1_suits cX1_suits 4 (some .boolean) :: Tw) ⟨4, 0, 0, 99⟩ (va_Pc [.ref ((a_t 0)), .int v1, .int v2, .int v3] (roB g [((a_t 0), .inr (1, [.ref (a_t 1), .ref (a_t 2), .ref (a_t 3), .ref (a_t 4), .ref (a_t 5), .int t_told, .int t_lines, .int t_kinds, .int t_acts])), ((a_t 2), .inl (g.2.2.1 0, 144, .inl t_cells)), ((a_t 5), .inl (g.2.2.1 0, 31, .inl t_rooms))])) (vp_Si (fun x => x = o ∧ (x = 0 ∨ x = 1))) 0 0 (fun _ => False) := by
  refine ro_metz (by decide) (Nat.le_of_ble_eq_true rfl) (lv0 := [(0, .ref ((a_t 0))), (1, .int v1), (2, .int v2), (3, .int v3)]) rfl ?_
  intro p e s m args below meth c ls Q cx hret hG hP hl
  have hx := cx.1
  have hb := cx.2.1
  have hG0 := hG
  unfold fX1_suits at h
  refine lv_iload_n hx hb dX1_suits_0 rfl (lv_at hl 1 rfl) ?_
  refine lv_iload_n hx hb dX1_suits_1 rfl (lv_at hl 2 rfl) ?_
  obtain ⟨r1, hr2, h⟩ := bnd h
  refine ro_i (runSN (As := [.int v1, .int v2]) (rest := []) hG cx hl.1 (ctX3_longestRun l g v1 v2 r1 hr2) kmX3_longestRun ksX3_longestRun nm_86 ⟨rfl, rfl⟩ ⟨Nat.le_of_ble_eq_true rfl, Nat.le_of_ble_eq_true rfl⟩ (roS hG (hP.sub [] rfl)) rfl rfl (Nat.le_of_ble_eq_true rfl) dX1_suits_2 ⟨Nat.le_of_ble_eq_true rfl, Nat.le_of_ble_eq_true rfl⟩) ?_
  refine lv_aload_n hx hb dX1_suits_5 rfl (lv_at hl 0 rfl) ?_
  obtain ⟨r3, hr4, h⟩ := bnd h
  refine ro_i (runV (As := []) (rest := [.int r1]) cx hl.1 (ctX1_roomNow l g a_t t_told t_lines t_kinds t_acts t_rooms r3 hr4) kmX1_roomNow kvX1_roomNow lm_X1_114 ⟨rfl, rfl⟩ ⟨Nat.le_of_ble_eq_true rfl, Nat.le_of_ble_eq_true rfl⟩ (roV (q0 := 0) (ci := 1) hG (hP.sub [0, 2] rfl) hP rfl rfl) rfl rfl (Nat.le_of_ble_eq_true rfl) dX1_suits_6 ⟨Nat.le_of_ble_eq_true rfl, Nat.le_of_ble_eq_true rfl⟩) ?_
  refine lv_icmp_gt (tgt := 28) hx hb dX1_suits_9 (by decide) (fun c5 => ?_) (fun c5 => ?_)
  · have h := itp c5 h
    refine lv_iconst (v := 0) hx hb dX1_suits_28 (by decide) ?_
    exact hret _ _ _ dX1_suits_29 (by decide) (Option.some.inj h)
  · have h := itn c5 h
    refine lv_aload_n hx hb dX1_suits_12 rfl (lv_at hl 0 rfl) ?_
    refine lv_iload_n hx hb dX1_suits_13 rfl (lv_at hl 1 rfl) ?_
    refine lv_iload_n hx hb dX1_suits_14 rfl (lv_at hl 2 rfl) ?_
    obtain ⟨r6, hr7, h⟩ := bnd h
    refine ro_i (runV (As := [.int v1, .int v2]) (rest := []) cx hl.1 (ctX1_shape l g a_t t_told t_lines t_kinds t_acts t_cells v1 v2 r6 hr7) kmX1_shape kvX1_shape lm_X1_117 ⟨rfl, rfl⟩ ⟨Nat.le_of_ble_eq_true rfl, Nat.le_of_ble_eq_true rfl⟩ (roV (q0 := 0) (ci := 1) hG (hP.sub [0, 1] rfl) hP rfl rfl) rfl rfl (Nat.le_of_ble_eq_true rfl) dX1_suits_15 ⟨Nat.le_of_ble_eq_true rfl, Nat.le_of_ble_eq_true rfl⟩) ?_
    refine lv_iload_n hx hb dX1_suits_18 rfl (lv_at hl 3 rfl) ?_
    refine lv_iand hx hb dX1_suits_19 ?_
    refine lv_iload_n hx hb dX1_suits_20 rfl (lv_at hl 3 rfl) ?_
    refine lv_icmp_ne (tgt := 28) hx hb dX1_suits_21 (by decide) (fun c8 => ?_) (fun c8 => ?_)
    · have h := itn c8 h
      refine lv_iconst (v := 0) hx hb dX1_suits_28 (by decide) ?_
      exact hret _ _ _ dX1_suits_29 (by decide) (Option.some.inj h)
    · have h := itp c8 h
      refine lv_iconst (v := 1) hx hb dX1_suits_24 (by decide) ?_
      refine lv_goto (tgt := 29) hx hb dX1_suits_25 (by decide) ?_
      exact hret _ _ _ dX1_suits_29 (by decide) (Option.some.inj h)
-- X1_pliesOfKind
theorem dX1_pliesOfKind_0 : decode cX1_pliesOfKind 0 = .ok (.iconst 0, 1) := by decide +kernel
theorem dX1_pliesOfKind_1 : decode cX1_pliesOfKind 1 = .ok (.istore_n 2, 1) := by decide +kernel
theorem dX1_pliesOfKind_2 : decode cX1_pliesOfKind 2 = .ok (.iconst 0, 1) := by decide +kernel
theorem dX1_pliesOfKind_3 : decode cX1_pliesOfKind 3 = .ok (.istore_n 3, 1) := by decide +kernel
theorem dX1_pliesOfKind_4 : decode cX1_pliesOfKind 4 = .ok (.iload_n 3, 1) := by decide +kernel
theorem dX1_pliesOfKind_5 : decode cX1_pliesOfKind 5 = .ok (.iconst 4, 1) := by decide +kernel
theorem dX1_pliesOfKind_6 : decode cX1_pliesOfKind 6 = .ok (.if_icmp .ge 28, 3) := by decide +kernel
theorem dX1_pliesOfKind_9 : decode cX1_pliesOfKind 9 = .ok (.iload_n 2, 1) := by decide +kernel
theorem dX1_pliesOfKind_10 : decode cX1_pliesOfKind 10 = .ok (.aload_n 0, 1) := by decide +kernel
theorem dX1_pliesOfKind_11 : decode cX1_pliesOfKind 11 = .ok (.invokevirtual 55, 3) := by decide +kernel
theorem dX1_pliesOfKind_14 : decode cX1_pliesOfKind 14 = .ok (.aload_n 0, 1) := by decide +kernel
theorem dX1_pliesOfKind_15 : decode cX1_pliesOfKind 15 = .ok (.invokevirtual 51, 3) := by decide +kernel
theorem dX1_pliesOfKind_18 : decode cX1_pliesOfKind 18 = .ok (.iload_n 1, 1) := by decide +kernel
theorem dX1_pliesOfKind_19 : decode cX1_pliesOfKind 19 = .ok (.iconst 4, 1) := by decide +kernel
theorem dX1_pliesOfKind_20 : decode cX1_pliesOfKind 20 = .ok (.imul, 1) := by decide +kernel
theorem dX1_pliesOfKind_21 : decode cX1_pliesOfKind 21 = .ok (.iload_n 3, 1) := by decide +kernel
theorem dX1_pliesOfKind_22 : decode cX1_pliesOfKind 22 = .ok (.iadd, 1) := by decide +kernel
theorem dX1_pliesOfKind_23 : decode cX1_pliesOfKind 23 = .ok (.invokestatic 120, 3) := by decide +kernel
theorem dX1_pliesOfKind_26 : decode cX1_pliesOfKind 26 = .ok (.iadd, 1) := by decide +kernel
theorem dX1_pliesOfKind_27 : decode cX1_pliesOfKind 27 = .ok (.istore_n 2, 1) := by decide +kernel
theorem dX1_pliesOfKind_28 : decode cX1_pliesOfKind 28 = .ok (.iinc 3 1, 3) := by decide +kernel
theorem dX1_pliesOfKind_31 : decode cX1_pliesOfKind 31 = .ok (.goto (-27), 3) := by decide +kernel
theorem dX1_pliesOfKind_34 : decode cX1_pliesOfKind 34 = .ok (.iload_n 2, 1) := by decide +kernel
theorem dX1_pliesOfKind_35 : decode cX1_pliesOfKind 35 = .ok (.ireturn, 1) := by decide +kernel
noncomputable def fX1_pliesOfKind_4  : Nat → (Nat → Int32) → (Nat → Int32) → Int32 → Int32 → Int32 → Int32 → Option (Int32)
  | 0, _, _, _, _, _, _ => none
  | n + 1, t_rows, t_sizes, t_acts, v1, v2, v3 => (if 4 ≤ v3 then some v2 else (fX1_row t_rows t_acts).bind fun r2 => (fX1_plies t_sizes t_acts).bind fun r4 => (fX3_howMany r2 r4 ((v1 * 4) + v3)).bind fun r6 => fX1_pliesOfKind_4 n t_rows t_sizes t_acts v1 (v2 + r6) (v3 + 1))
theorem fX1_pliesOfKind_4_z  (t_rows : Nat → Int32) (t_sizes : Nat → Int32) (t_acts : Int32) (v1 : Int32) (v2 : Int32) (v3 : Int32) : fX1_pliesOfKind_4  0 t_rows t_sizes t_acts v1 v2 v3 = none := rfl
theorem fX1_pliesOfKind_4_s  (n : Nat) (t_rows : Nat → Int32) (t_sizes : Nat → Int32) (t_acts : Int32) (v1 : Int32) (v2 : Int32) (v3 : Int32) : fX1_pliesOfKind_4  (n + 1) t_rows t_sizes t_acts v1 v2 v3 = (if 4 ≤ v3 then some v2 else (fX1_row t_rows t_acts).bind fun r2 => (fX1_plies t_sizes t_acts).bind fun r4 => (fX3_howMany r2 r4 ((v1 * 4) + v3)).bind fun r6 => fX1_pliesOfKind_4 n t_rows t_sizes t_acts v1 (v2 + r6) (v3 + 1)) := rfl
noncomputable def fX1_pliesOfKind  (t_rows : Nat → Int32) (t_sizes : Nat → Int32) (t_acts : Int32) (v1 : Int32) : Option (Int32) := fX1_pliesOfKind_4 FU t_rows t_sizes t_acts v1 0 0
set_option maxHeartbeats 4000000 in
set_option maxRecDepth 100000 in
theorem ctX1_pliesOfKind (l : Launch) (g : GT) (a_t : Nat → Nat) (t_told : Int32) (t_lines : Int32) (t_kinds : Int32) (t_acts : Int32) (t_rows : Nat → Int32) (t_sizes : Nat → Int32) (v1 : Int32) (o : Int32) (h : fX1_pliesOfKind t_rows t_sizes t_acts v1 = some o) : Met l yX1_pliesOfKind (Cond.code yX1_pliesOfKind cX1_pliesOfKind 4 (some .int) :: Tw) ⟨2, 0, 0, 45⟩ (va_Pc [.ref ((a_t 0)), .int v1] (roB g [((a_t 0), .inr (1, [.ref (a_t 1), .ref (a_t 2), .ref (a_t 3), .ref (a_t 4), .ref (a_t 5), .int t_told, .int t_lines, .int t_kinds, .int t_acts])), ((a_t 3), .inl (g.2.2.1 0, 31, .inl t_rows)), ((a_t 4), .inl (g.2.2.1 0, 31, .inl t_sizes))])) (vp_Si (fun x => x = o)) 0 0 (fun _ => False) := by
  refine ro_meti (by decide) (Nat.le_of_ble_eq_true rfl) (lv0 := [(0, .ref ((a_t 0))), (1, .int v1)]) rfl ?_
  intro p e s m args below meth c ls Q cx hret hG hP hl
  have hx := cx.1
  have hb := cx.2.1
  have hG0 := hG
  have w4 : ∀ (n : Nat) (v1 : Int32) (v2 : Int32) (v3 : Int32) (ls : Array Slot), lv_has ls 4 [(0, .ref ((a_t 0))), (1, .int v1), (2, .int v2), (3, .int v3)] → fX1_pliesOfKind_4  n t_rows t_sizes t_acts v1 v2 v3 = some o → W p l e ⟨2, 0, 0, 45⟩ s m args below meth c s.heap [] 0 0 Q (F0 m 4 ls []) := by
    intro n
    induction n with
    | zero => intro v1 v2 v3 ls hl h; cases (fX1_pliesOfKind_4_z  t_rows t_sizes t_acts v1 v2 v3).symm.trans h
    | succ n ih =>
    intro v1 v2 v3 ls hl h
    have h := (fX1_pliesOfKind_4_s  n t_rows t_sizes t_acts v1 v2 v3).symm.trans h
    refine lv_iload_n hx hb dX1_pliesOfKind_4 rfl (lv_at hl 3 rfl) ?_
    refine lv_iconst (v := 4) hx hb dX1_pliesOfKind_5 (by decide) ?_
    refine lv_icmp_ge (tgt := 34) hx hb dX1_pliesOfKind_6 (by decide) (fun c1 => ?_) (fun c1 => ?_)
    · have h := itp c1 h
      refine lv_iload_n hx hb dX1_pliesOfKind_34 rfl (lv_at hl 2 rfl) ?_
      exact hret _ _ _ dX1_pliesOfKind_35 (Option.some.inj h)
    · have h := itn c1 h
      refine lv_iload_n hx hb dX1_pliesOfKind_9 rfl (lv_at hl 2 rfl) ?_
      refine lv_aload_n hx hb dX1_pliesOfKind_10 rfl (lv_at hl 0 rfl) ?_
      obtain ⟨r2, hr3, h⟩ := bnd h
      refine ro_i (runV (As := []) (rest := [.int v2]) cx hl.1 (ctX1_row l g a_t t_told t_lines t_kinds t_acts t_rows r2 hr3) kmX1_row kvX1_row lm_X1_55 ⟨rfl, rfl⟩ ⟨Nat.le_of_ble_eq_true rfl, Nat.le_of_ble_eq_true rfl⟩ (roV (q0 := 0) (ci := 1) hG (hP.sub [0, 1] rfl) hP rfl rfl) rfl rfl (Nat.le_of_ble_eq_true rfl) dX1_pliesOfKind_11 ⟨Nat.le_of_ble_eq_true rfl, Nat.le_of_ble_eq_true rfl⟩) ?_
      refine lv_aload_n hx hb dX1_pliesOfKind_14 rfl (lv_at hl 0 rfl) ?_
      obtain ⟨r4, hr5, h⟩ := bnd h
      refine ro_i (runV (As := []) (rest := [.int r2, .int v2]) cx hl.1 (ctX1_plies l g a_t t_told t_lines t_kinds t_acts t_sizes r4 hr5) kmX1_plies kvX1_plies lm_X1_51 ⟨rfl, rfl⟩ ⟨Nat.le_of_ble_eq_true rfl, Nat.le_of_ble_eq_true rfl⟩ (roV (q0 := 0) (ci := 1) hG (hP.sub [0, 2] rfl) hP rfl rfl) rfl rfl (Nat.le_of_ble_eq_true rfl) dX1_pliesOfKind_15 ⟨Nat.le_of_ble_eq_true rfl, Nat.le_of_ble_eq_true rfl⟩) ?_
      refine lv_iload_n hx hb dX1_pliesOfKind_18 rfl (lv_at hl 1 rfl) ?_
      refine lv_iconst (v := 4) hx hb dX1_pliesOfKind_19 (by decide) ?_
      refine lv_imul hx hb dX1_pliesOfKind_20 ?_
      refine lv_iload_n hx hb dX1_pliesOfKind_21 rfl (lv_at hl 3 rfl) ?_
      refine lv_iadd hx hb dX1_pliesOfKind_22 ?_
      obtain ⟨r6, hr7, h⟩ := bnd h
      refine ro_i (runSN (As := [.int r2, .int r4, .int ((v1 * 4) + v3)]) (rest := [.int v2]) hG cx hl.1 (ctX3_howMany l g r2 r4 ((v1 * 4) + v3) r6 hr7) kmX3_howMany ksX3_howMany nm_19 ⟨rfl, rfl⟩ ⟨Nat.le_of_ble_eq_true rfl, Nat.le_of_ble_eq_true rfl⟩ (roS hG (hP.sub [] rfl)) rfl rfl (Nat.le_of_ble_eq_true rfl) dX1_pliesOfKind_23 ⟨Nat.le_of_ble_eq_true rfl, Nat.le_of_ble_eq_true rfl⟩) ?_
      refine lv_iadd hx hb dX1_pliesOfKind_26 ?_
      refine lv_istore_n (lv' := [(2, .int (v2 + r6)), (0, .ref ((a_t 0))), (1, .int v1), (3, .int v3)]) hx hb dX1_pliesOfKind_27 rfl hl (by decide) rfl (fun ls hl => ?_)
      refine lv_iinc (v := v3 + 1) (lv' := [(3, .int (v3 + 1)), (2, .int (v2 + r6)), (0, .ref ((a_t 0))), (1, .int v1)]) hx hb dX1_pliesOfKind_28 hl (k := 3) rfl rfl (by decide) rfl (fun ls hl => ?_)
      refine lv_goto (tgt := 4) hx hb dX1_pliesOfKind_31 (by decide) ?_
      exact ih v1 (v2 + r6) (v3 + 1) _ (lv_sub hl [2, 3, 1, 0] rfl) h
  unfold fX1_pliesOfKind at h
  refine lv_iconst (v := 0) hx hb dX1_pliesOfKind_0 (by decide) ?_
  refine lv_istore_n (lv' := [(2, .int (0)), (0, .ref ((a_t 0))), (1, .int v1)]) hx hb dX1_pliesOfKind_1 rfl hl (by decide) rfl (fun ls hl => ?_)
  refine lv_iconst (v := 0) hx hb dX1_pliesOfKind_2 (by decide) ?_
  refine lv_istore_n (lv' := [(3, .int (0)), (2, .int (0)), (0, .ref ((a_t 0))), (1, .int v1)]) hx hb dX1_pliesOfKind_3 rfl hl (by decide) rfl (fun ls hl => ?_)
  exact w4 FU v1 0 0 _ (lv_sub hl [2, 3, 1, 0] rfl) h
-- X1_isBalanced
theorem dX1_isBalanced_0 : decode cX1_isBalanced 0 = .ok (.iconst 0, 1) := by decide +kernel
theorem dX1_isBalanced_1 : decode cX1_isBalanced 1 = .ok (.istore_n 1, 1) := by decide +kernel
theorem dX1_isBalanced_2 : decode cX1_isBalanced 2 = .ok (.iload_n 1, 1) := by decide +kernel
theorem dX1_isBalanced_3 : decode cX1_isBalanced 3 = .ok (.aload_n 0, 1) := by decide +kernel
theorem dX1_isBalanced_4 : decode cX1_isBalanced 4 = .ok (.getfield 35, 3) := by decide +kernel
theorem dX1_isBalanced_7 : decode cX1_isBalanced 7 = .ok (.if_icmp .ge 48, 3) := by decide +kernel
theorem dX1_isBalanced_10 : decode cX1_isBalanced 10 = .ok (.aload_n 0, 1) := by decide +kernel
theorem dX1_isBalanced_11 : decode cX1_isBalanced 11 = .ok (.invokevirtual 55, 3) := by decide +kernel
theorem dX1_isBalanced_14 : decode cX1_isBalanced 14 = .ok (.aload_n 0, 1) := by decide +kernel
theorem dX1_isBalanced_15 : decode cX1_isBalanced 15 = .ok (.invokevirtual 51, 3) := by decide +kernel
theorem dX1_isBalanced_18 : decode cX1_isBalanced 18 = .ok (.iload_n 1, 1) := by decide +kernel
theorem dX1_isBalanced_19 : decode cX1_isBalanced 19 = .ok (.iconst 4, 1) := by decide +kernel
theorem dX1_isBalanced_20 : decode cX1_isBalanced 20 = .ok (.imul, 1) := by decide +kernel
theorem dX1_isBalanced_21 : decode cX1_isBalanced 21 = .ok (.iconst 1, 1) := by decide +kernel
theorem dX1_isBalanced_22 : decode cX1_isBalanced 22 = .ok (.iadd, 1) := by decide +kernel
theorem dX1_isBalanced_23 : decode cX1_isBalanced 23 = .ok (.invokestatic 120, 3) := by decide +kernel
theorem dX1_isBalanced_26 : decode cX1_isBalanced 26 = .ok (.istore_n 2, 1) := by decide +kernel
theorem dX1_isBalanced_27 : decode cX1_isBalanced 27 = .ok (.iload_n 2, 1) := by decide +kernel
theorem dX1_isBalanced_28 : decode cX1_isBalanced 28 = .ok (.aload_n 0, 1) := by decide +kernel
theorem dX1_isBalanced_29 : decode cX1_isBalanced 29 = .ok (.invokevirtual 55, 3) := by decide +kernel
theorem dX1_isBalanced_32 : decode cX1_isBalanced 32 = .ok (.aload_n 0, 1) := by decide +kernel
theorem dX1_isBalanced_33 : decode cX1_isBalanced 33 = .ok (.invokevirtual 51, 3) := by decide +kernel
theorem dX1_isBalanced_36 : decode cX1_isBalanced 36 = .ok (.iload_n 1, 1) := by decide +kernel
theorem dX1_isBalanced_37 : decode cX1_isBalanced 37 = .ok (.iconst 4, 1) := by decide +kernel
theorem dX1_isBalanced_38 : decode cX1_isBalanced 38 = .ok (.imul, 1) := by decide +kernel
theorem dX1_isBalanced_39 : decode cX1_isBalanced 39 = .ok (.iconst 2, 1) := by decide +kernel
theorem dX1_isBalanced_40 : decode cX1_isBalanced 40 = .ok (.iadd, 1) := by decide +kernel
theorem dX1_isBalanced_41 : decode cX1_isBalanced 41 = .ok (.invokestatic 120, 3) := by decide +kernel
theorem dX1_isBalanced_44 : decode cX1_isBalanced 44 = .ok (.if_icmp .eq 5, 3) := by decide +kernel
theorem dX1_isBalanced_47 : decode cX1_isBalanced 47 = .ok (.iconst 0, 1) := by decide +kernel
theorem dX1_isBalanced_48 : decode cX1_isBalanced 48 = .ok (.ireturn, 1) := by decide +kernel
theorem dX1_isBalanced_49 : decode cX1_isBalanced 49 = .ok (.iinc 1 1, 3) := by decide +kernel
theorem dX1_isBalanced_52 : decode cX1_isBalanced 52 = .ok (.goto (-50), 3) := by decide +kernel
theorem dX1_isBalanced_55 : decode cX1_isBalanced 55 = .ok (.iconst 1, 1) := by decide +kernel
theorem dX1_isBalanced_56 : decode cX1_isBalanced 56 = .ok (.ireturn, 1) := by decide +kernel
noncomputable def fX1_isBalanced_2  : Nat → (Nat → Int32) → (Nat → Int32) → Int32 → Int32 → Int32 → Option (Int32)
  | 0, _, _, _, _, _ => none
  | n + 1, t_rows, t_sizes, t_kinds, t_acts, v1 => (if t_kinds ≤ v1 then some (1) else (fX1_row t_rows t_acts).bind fun r2 => (fX1_plies t_sizes t_acts).bind fun r4 => (fX3_howMany r2 r4 ((v1 * 4) + 1)).bind fun r6 => (fX1_row t_rows t_acts).bind fun r8 => (fX1_plies t_sizes t_acts).bind fun r10 => (fX3_howMany r8 r10 ((v1 * 4) + 2)).bind fun r12 => (if r6 = r12 then fX1_isBalanced_2 n t_rows t_sizes t_kinds t_acts (v1 + 1) else some (0)))
theorem fX1_isBalanced_2_z  (t_rows : Nat → Int32) (t_sizes : Nat → Int32) (t_kinds : Int32) (t_acts : Int32) (v1 : Int32) : fX1_isBalanced_2  0 t_rows t_sizes t_kinds t_acts v1 = none := rfl
theorem fX1_isBalanced_2_s  (n : Nat) (t_rows : Nat → Int32) (t_sizes : Nat → Int32) (t_kinds : Int32) (t_acts : Int32) (v1 : Int32) : fX1_isBalanced_2  (n + 1) t_rows t_sizes t_kinds t_acts v1 = (if t_kinds ≤ v1 then some (1) else (fX1_row t_rows t_acts).bind fun r2 => (fX1_plies t_sizes t_acts).bind fun r4 => (fX3_howMany r2 r4 ((v1 * 4) + 1)).bind fun r6 => (fX1_row t_rows t_acts).bind fun r8 => (fX1_plies t_sizes t_acts).bind fun r10 => (fX3_howMany r8 r10 ((v1 * 4) + 2)).bind fun r12 => (if r6 = r12 then fX1_isBalanced_2 n t_rows t_sizes t_kinds t_acts (v1 + 1) else some (0))) := rfl
noncomputable def fX1_isBalanced  (t_rows : Nat → Int32) (t_sizes : Nat → Int32) (t_kinds : Int32) (t_acts : Int32) : Option (Int32) := fX1_isBalanced_2 FU t_rows t_sizes t_kinds t_acts 0
set_option maxHeartbeats 4000000 in
set_option maxRecDepth 100000 in
theorem ctX1_isBalanced (l : Launch) (g : GT) (a_t : Nat → Nat) (t_told : Int32) (t_lines : Int32) (t_kinds : Int32) (t_acts : Int32) (t_rows : Nat → Int32) (t_sizes : Nat → Int32) (o : Int32) (h : fX1_isBalanced t_rows t_sizes t_kinds t_acts = some o) : Met l yX1_isBalanced (Cond.code yX1_isBalanced cX1_isBalanced 3 (some .boolean) :: Tw) ⟨2, 0, 0, 45⟩ (va_Pc [.ref ((a_t 0))] (roB g [((a_t 0), .inr (1, [.ref (a_t 1), .ref (a_t 2), .ref (a_t 3), .ref (a_t 4), .ref (a_t 5), .int t_told, .int t_lines, .int t_kinds, .int t_acts])), ((a_t 3), .inl (g.2.2.1 0, 31, .inl t_rows)), ((a_t 4), .inl (g.2.2.1 0, 31, .inl t_sizes))])) (vp_Si (fun x => x = o ∧ (x = 0 ∨ x = 1))) 0 0 (fun _ => False) := by
  refine ro_metz (by decide) (Nat.le_of_ble_eq_true rfl) (lv0 := [(0, .ref ((a_t 0)))]) rfl ?_
  intro p e s m args below meth c ls Q cx hret hG hP hl
  have hx := cx.1
  have hb := cx.2.1
  have hG0 := hG
  have w2 : ∀ (n : Nat) (v1 : Int32) (ls : Array Slot), lv_has ls 3 [(0, .ref ((a_t 0))), (1, .int v1)] → fX1_isBalanced_2  n t_rows t_sizes t_kinds t_acts v1 = some o → W p l e ⟨2, 0, 0, 45⟩ s m args below meth c s.heap [] 0 0 Q (F0 m 2 ls []) := by
    intro n
    induction n with
    | zero => intro v1 ls hl h; cases (fX1_isBalanced_2_z  t_rows t_sizes t_kinds t_acts v1).symm.trans h
    | succ n ih =>
    intro v1 ls hl h
    have h := (fX1_isBalanced_2_s  n t_rows t_sizes t_kinds t_acts v1).symm.trans h
    refine lv_iload_n hx hb dX1_isBalanced_2 rfl (lv_at hl 1 rfl) ?_
    refine lv_aload_n hx hb dX1_isBalanced_3 rfl (lv_at hl 0 rfl) ?_
    refine xa_get (C := RX1) (T := TX1) (N := 9) cx hG hP 0 rfl rfl uX1 7 (by decide) lf_X1_35 rfl dX1_isBalanced_4 ?_
    refine lv_icmp_ge (tgt := 55) hx hb dX1_isBalanced_7 (by decide) (fun c1 => ?_) (fun c1 => ?_)
    · have h := itp c1 h
      refine lv_iconst (v := 1) hx hb dX1_isBalanced_55 (by decide) ?_
      exact hret _ _ _ dX1_isBalanced_56 (by decide) (Option.some.inj h)
    · have h := itn c1 h
      refine lv_aload_n hx hb dX1_isBalanced_10 rfl (lv_at hl 0 rfl) ?_
      obtain ⟨r2, hr3, h⟩ := bnd h
      refine ro_i (runV (As := []) (rest := []) cx hl.1 (ctX1_row l g a_t t_told t_lines t_kinds t_acts t_rows r2 hr3) kmX1_row kvX1_row lm_X1_55 ⟨rfl, rfl⟩ ⟨Nat.le_of_ble_eq_true rfl, Nat.le_of_ble_eq_true rfl⟩ (roV (q0 := 0) (ci := 1) hG (hP.sub [0, 1] rfl) hP rfl rfl) rfl rfl (Nat.le_of_ble_eq_true rfl) dX1_isBalanced_11 ⟨Nat.le_of_ble_eq_true rfl, Nat.le_of_ble_eq_true rfl⟩) ?_
      refine lv_aload_n hx hb dX1_isBalanced_14 rfl (lv_at hl 0 rfl) ?_
      obtain ⟨r4, hr5, h⟩ := bnd h
      refine ro_i (runV (As := []) (rest := [.int r2]) cx hl.1 (ctX1_plies l g a_t t_told t_lines t_kinds t_acts t_sizes r4 hr5) kmX1_plies kvX1_plies lm_X1_51 ⟨rfl, rfl⟩ ⟨Nat.le_of_ble_eq_true rfl, Nat.le_of_ble_eq_true rfl⟩ (roV (q0 := 0) (ci := 1) hG (hP.sub [0, 2] rfl) hP rfl rfl) rfl rfl (Nat.le_of_ble_eq_true rfl) dX1_isBalanced_15 ⟨Nat.le_of_ble_eq_true rfl, Nat.le_of_ble_eq_true rfl⟩) ?_
      refine lv_iload_n hx hb dX1_isBalanced_18 rfl (lv_at hl 1 rfl) ?_
      refine lv_iconst (v := 4) hx hb dX1_isBalanced_19 (by decide) ?_
      refine lv_imul hx hb dX1_isBalanced_20 ?_
      refine lv_iconst (v := 1) hx hb dX1_isBalanced_21 (by decide) ?_
      refine lv_iadd hx hb dX1_isBalanced_22 ?_
      obtain ⟨r6, hr7, h⟩ := bnd h
      refine ro_i (runSN (As := [.int r2, .int r4, .int ((v1 * 4) + 1)]) (rest := []) hG cx hl.1 (ctX3_howMany l g r2 r4 ((v1 * 4) + 1) r6 hr7) kmX3_howMany ksX3_howMany nm_19 ⟨rfl, rfl⟩ ⟨Nat.le_of_ble_eq_true rfl, Nat.le_of_ble_eq_true rfl⟩ (roS hG (hP.sub [] rfl)) rfl rfl (Nat.le_of_ble_eq_true rfl) dX1_isBalanced_23 ⟨Nat.le_of_ble_eq_true rfl, Nat.le_of_ble_eq_true rfl⟩) ?_
      refine lv_istore_n (lv' := [(2, .int r6), (0, .ref ((a_t 0))), (1, .int v1)]) hx hb dX1_isBalanced_26 rfl hl (by decide) rfl (fun ls hl => ?_)
      refine lv_iload_n hx hb dX1_isBalanced_27 rfl (lv_at hl 0 rfl) ?_
      refine lv_aload_n hx hb dX1_isBalanced_28 rfl (lv_at hl 1 rfl) ?_
      obtain ⟨r8, hr9, h⟩ := bnd h
      refine ro_i (runV (As := []) (rest := [.int r6]) cx hl.1 (ctX1_row l g a_t t_told t_lines t_kinds t_acts t_rows r8 hr9) kmX1_row kvX1_row lm_X1_55 ⟨rfl, rfl⟩ ⟨Nat.le_of_ble_eq_true rfl, Nat.le_of_ble_eq_true rfl⟩ (roV (q0 := 0) (ci := 1) hG (hP.sub [0, 1] rfl) hP rfl rfl) rfl rfl (Nat.le_of_ble_eq_true rfl) dX1_isBalanced_29 ⟨Nat.le_of_ble_eq_true rfl, Nat.le_of_ble_eq_true rfl⟩) ?_
      refine lv_aload_n hx hb dX1_isBalanced_32 rfl (lv_at hl 1 rfl) ?_
      obtain ⟨r10, hr11, h⟩ := bnd h
      refine ro_i (runV (As := []) (rest := [.int r8, .int r6]) cx hl.1 (ctX1_plies l g a_t t_told t_lines t_kinds t_acts t_sizes r10 hr11) kmX1_plies kvX1_plies lm_X1_51 ⟨rfl, rfl⟩ ⟨Nat.le_of_ble_eq_true rfl, Nat.le_of_ble_eq_true rfl⟩ (roV (q0 := 0) (ci := 1) hG (hP.sub [0, 2] rfl) hP rfl rfl) rfl rfl (Nat.le_of_ble_eq_true rfl) dX1_isBalanced_33 ⟨Nat.le_of_ble_eq_true rfl, Nat.le_of_ble_eq_true rfl⟩) ?_
      refine lv_iload_n hx hb dX1_isBalanced_36 rfl (lv_at hl 2 rfl) ?_
      refine lv_iconst (v := 4) hx hb dX1_isBalanced_37 (by decide) ?_
      refine lv_imul hx hb dX1_isBalanced_38 ?_
      refine lv_iconst (v := 2) hx hb dX1_isBalanced_39 (by decide) ?_
      refine lv_iadd hx hb dX1_isBalanced_40 ?_
      obtain ⟨r12, hr13, h⟩ := bnd h
      refine ro_i (runSN (As := [.int r8, .int r10, .int ((v1 * 4) + 2)]) (rest := [.int r6]) hG cx hl.1 (ctX3_howMany l g r8 r10 ((v1 * 4) + 2) r12 hr13) kmX3_howMany ksX3_howMany nm_19 ⟨rfl, rfl⟩ ⟨Nat.le_of_ble_eq_true rfl, Nat.le_of_ble_eq_true rfl⟩ (roS hG (hP.sub [] rfl)) rfl rfl (Nat.le_of_ble_eq_true rfl) dX1_isBalanced_41 ⟨Nat.le_of_ble_eq_true rfl, Nat.le_of_ble_eq_true rfl⟩) ?_
      refine lv_icmp_eq (tgt := 49) hx hb dX1_isBalanced_44 (by decide) (fun c14 => ?_) (fun c14 => ?_)
      · have h := itp c14 h
        refine lv_iinc (v := v1 + 1) (lv' := [(1, .int (v1 + 1)), (2, .int r6), (0, .ref ((a_t 0)))]) hx hb dX1_isBalanced_49 hl (k := 2) rfl rfl (by decide) rfl (fun ls hl => ?_)
        refine lv_goto (tgt := 2) hx hb dX1_isBalanced_52 (by decide) ?_
        exact ih (v1 + 1) _ (lv_sub hl [2, 0] rfl) h
      · have h := itn c14 h
        refine lv_iconst (v := 0) hx hb dX1_isBalanced_47 (by decide) ?_
        exact hret _ _ _ dX1_isBalanced_48 (by decide) (Option.some.inj h)
  unfold fX1_isBalanced at h
  refine lv_iconst (v := 0) hx hb dX1_isBalanced_0 (by decide) ?_
  refine lv_istore_n (lv' := [(1, .int (0)), (0, .ref ((a_t 0)))]) hx hb dX1_isBalanced_1 rfl hl (by decide) rfl (fun ls hl => ?_)
  exact w2 FU 0 _ (lv_sub hl [1, 0] rfl) h
-- X1_isOfSamePlies
theorem dX1_isOfSamePlies_0 : decode cX1_isOfSamePlies 0 = .ok (.aload_n 0, 1) := by decide +kernel
theorem dX1_isOfSamePlies_1 : decode cX1_isOfSamePlies 1 = .ok (.invokevirtual 51, 3) := by decide +kernel
theorem dX1_isOfSamePlies_4 : decode cX1_isOfSamePlies 4 = .ok (.aload_n 1, 1) := by decide +kernel
theorem dX1_isOfSamePlies_5 : decode cX1_isOfSamePlies 5 = .ok (.invokevirtual 51, 3) := by decide +kernel
theorem dX1_isOfSamePlies_8 : decode cX1_isOfSamePlies 8 = .ok (.if_icmp .ne 32, 3) := by decide +kernel
theorem dX1_isOfSamePlies_11 : decode cX1_isOfSamePlies 11 = .ok (.aload_n 0, 1) := by decide +kernel
theorem dX1_isOfSamePlies_12 : decode cX1_isOfSamePlies 12 = .ok (.invokevirtual 55, 3) := by decide +kernel
theorem dX1_isOfSamePlies_15 : decode cX1_isOfSamePlies 15 = .ok (.aload_n 0, 1) := by decide +kernel
theorem dX1_isOfSamePlies_16 : decode cX1_isOfSamePlies 16 = .ok (.invokevirtual 51, 3) := by decide +kernel
theorem dX1_isOfSamePlies_19 : decode cX1_isOfSamePlies 19 = .ok (.invokestatic 124, 3) := by decide +kernel
theorem dX1_isOfSamePlies_22 : decode cX1_isOfSamePlies 22 = .ok (.aload_n 1, 1) := by decide +kernel
theorem dX1_isOfSamePlies_23 : decode cX1_isOfSamePlies 23 = .ok (.invokevirtual 55, 3) := by decide +kernel
theorem dX1_isOfSamePlies_26 : decode cX1_isOfSamePlies 26 = .ok (.aload_n 1, 1) := by decide +kernel
theorem dX1_isOfSamePlies_27 : decode cX1_isOfSamePlies 27 = .ok (.invokevirtual 51, 3) := by decide +kernel
theorem dX1_isOfSamePlies_30 : decode cX1_isOfSamePlies 30 = .ok (.invokestatic 124, 3) := by decide +kernel
theorem dX1_isOfSamePlies_33 : decode cX1_isOfSamePlies 33 = .ok (.if_icmp .ne 7, 3) := by decide +kernel
theorem dX1_isOfSamePlies_36 : decode cX1_isOfSamePlies 36 = .ok (.iconst 1, 1) := by decide +kernel
theorem dX1_isOfSamePlies_37 : decode cX1_isOfSamePlies 37 = .ok (.goto 4, 3) := by decide +kernel
theorem dX1_isOfSamePlies_40 : decode cX1_isOfSamePlies 40 = .ok (.iconst 0, 1) := by decide +kernel
theorem dX1_isOfSamePlies_41 : decode cX1_isOfSamePlies 41 = .ok (.ireturn, 1) := by decide +kernel
noncomputable def fX1_isOfSamePlies  (t_rows : Nat → Int32) (t_sizes : Nat → Int32) (t_acts : Int32) (p1_rows : Nat → Int32) (p1_sizes : Nat → Int32) (p1_acts : Int32) : Option (Int32) := (fX1_plies t_sizes t_acts).bind fun r1 => (fX1_plies p1_sizes p1_acts).bind fun r3 => (if r1 = r3 then (fX1_row t_rows t_acts).bind fun r6 => (fX1_plies t_sizes t_acts).bind fun r8 => (fX3_sorted r6 r8).bind fun r10 => (fX1_row p1_rows p1_acts).bind fun r12 => (fX1_plies p1_sizes p1_acts).bind fun r14 => (fX3_sorted r12 r14).bind fun r16 => (if r10 = r16 then some (1) else some (0)) else some (0))
set_option maxHeartbeats 4000000 in
set_option maxRecDepth 100000 in
theorem ctX1_isOfSamePlies (l : Launch) (g : GT) (a_t : Nat → Nat) (a_p1 : Nat → Nat) (t_told : Int32) (t_lines : Int32) (t_kinds : Int32) (t_acts : Int32) (t_rows : Nat → Int32) (t_sizes : Nat → Int32) (p1_told : Int32) (p1_lines : Int32) (p1_kinds : Int32) (p1_acts : Int32) (p1_rows : Nat → Int32) (p1_sizes : Nat → Int32) (o : Int32) (h : fX1_isOfSamePlies t_rows t_sizes t_acts p1_rows p1_sizes p1_acts = some o) : Met l yX1_isOfSamePlies (Cond.code yX1_isOfSamePlies cX1_isOfSamePlies 2 (some .boolean) :: Tw) ⟨2, 0, 0, 46⟩ (va_Pc [.ref ((a_t 0)), .ref ((a_p1 0))] (roB g [((a_t 0), .inr (1, [.ref (a_t 1), .ref (a_t 2), .ref (a_t 3), .ref (a_t 4), .ref (a_t 5), .int t_told, .int t_lines, .int t_kinds, .int t_acts])), ((a_t 3), .inl (g.2.2.1 0, 31, .inl t_rows)), ((a_t 4), .inl (g.2.2.1 0, 31, .inl t_sizes)), ((a_p1 0), .inr (1, [.ref (a_p1 1), .ref (a_p1 2), .ref (a_p1 3), .ref (a_p1 4), .ref (a_p1 5), .int p1_told, .int p1_lines, .int p1_kinds, .int p1_acts])), ((a_p1 3), .inl (g.2.2.1 0, 31, .inl p1_rows)), ((a_p1 4), .inl (g.2.2.1 0, 31, .inl p1_sizes))])) (vp_Si (fun x => x = o ∧ (x = 0 ∨ x = 1))) 0 0 (fun _ => False) := by
  refine ro_metz (by decide) (Nat.le_of_ble_eq_true rfl) (lv0 := [(0, .ref ((a_t 0))), (1, .ref ((a_p1 0)))]) rfl ?_
  intro p e s m args below meth c ls Q cx hret hG hP hl
  have hx := cx.1
  have hb := cx.2.1
  have hG0 := hG
  unfold fX1_isOfSamePlies at h
  refine lv_aload_n hx hb dX1_isOfSamePlies_0 rfl (lv_at hl 0 rfl) ?_
  obtain ⟨r1, hr2, h⟩ := bnd h
  refine ro_i (runV (As := []) (rest := []) cx hl.1 (ctX1_plies l g a_t t_told t_lines t_kinds t_acts t_sizes r1 hr2) kmX1_plies kvX1_plies lm_X1_51 ⟨rfl, rfl⟩ ⟨Nat.le_of_ble_eq_true rfl, Nat.le_of_ble_eq_true rfl⟩ (roV (q0 := 0) (ci := 1) hG (hP.sub [0, 2] rfl) hP rfl rfl) rfl rfl (Nat.le_of_ble_eq_true rfl) dX1_isOfSamePlies_1 ⟨Nat.le_of_ble_eq_true rfl, Nat.le_of_ble_eq_true rfl⟩) ?_
  refine lv_aload_n hx hb dX1_isOfSamePlies_4 rfl (lv_at hl 1 rfl) ?_
  obtain ⟨r3, hr4, h⟩ := bnd h
  refine ro_i (runV (As := []) (rest := [.int r1]) cx hl.1 (ctX1_plies l g a_p1 p1_told p1_lines p1_kinds p1_acts p1_sizes r3 hr4) kmX1_plies kvX1_plies lm_X1_51 ⟨rfl, rfl⟩ ⟨Nat.le_of_ble_eq_true rfl, Nat.le_of_ble_eq_true rfl⟩ (roV (q0 := 3) (ci := 1) hG (hP.sub [3, 5] rfl) hP rfl rfl) rfl rfl (Nat.le_of_ble_eq_true rfl) dX1_isOfSamePlies_5 ⟨Nat.le_of_ble_eq_true rfl, Nat.le_of_ble_eq_true rfl⟩) ?_
  refine lv_icmp_ne (tgt := 40) hx hb dX1_isOfSamePlies_8 (by decide) (fun c5 => ?_) (fun c5 => ?_)
  · have h := itn c5 h
    refine lv_iconst (v := 0) hx hb dX1_isOfSamePlies_40 (by decide) ?_
    exact hret _ _ _ dX1_isOfSamePlies_41 (by decide) (Option.some.inj h)
  · have h := itp c5 h
    refine lv_aload_n hx hb dX1_isOfSamePlies_11 rfl (lv_at hl 0 rfl) ?_
    obtain ⟨r6, hr7, h⟩ := bnd h
    refine ro_i (runV (As := []) (rest := []) cx hl.1 (ctX1_row l g a_t t_told t_lines t_kinds t_acts t_rows r6 hr7) kmX1_row kvX1_row lm_X1_55 ⟨rfl, rfl⟩ ⟨Nat.le_of_ble_eq_true rfl, Nat.le_of_ble_eq_true rfl⟩ (roV (q0 := 0) (ci := 1) hG (hP.sub [0, 1] rfl) hP rfl rfl) rfl rfl (Nat.le_of_ble_eq_true rfl) dX1_isOfSamePlies_12 ⟨Nat.le_of_ble_eq_true rfl, Nat.le_of_ble_eq_true rfl⟩) ?_
    refine lv_aload_n hx hb dX1_isOfSamePlies_15 rfl (lv_at hl 0 rfl) ?_
    obtain ⟨r8, hr9, h⟩ := bnd h
    refine ro_i (runV (As := []) (rest := [.int r6]) cx hl.1 (ctX1_plies l g a_t t_told t_lines t_kinds t_acts t_sizes r8 hr9) kmX1_plies kvX1_plies lm_X1_51 ⟨rfl, rfl⟩ ⟨Nat.le_of_ble_eq_true rfl, Nat.le_of_ble_eq_true rfl⟩ (roV (q0 := 0) (ci := 1) hG (hP.sub [0, 2] rfl) hP rfl rfl) rfl rfl (Nat.le_of_ble_eq_true rfl) dX1_isOfSamePlies_16 ⟨Nat.le_of_ble_eq_true rfl, Nat.le_of_ble_eq_true rfl⟩) ?_
    obtain ⟨r10, hr11, h⟩ := bnd h
    refine ro_i (runSN (As := [.int r6, .int r8]) (rest := []) hG cx hl.1 (ctX3_sorted l g r6 r8 r10 hr11) kmX3_sorted ksX3_sorted nm_104 ⟨rfl, rfl⟩ ⟨Nat.le_of_ble_eq_true rfl, Nat.le_of_ble_eq_true rfl⟩ (roS hG (hP.sub [] rfl)) rfl rfl (Nat.le_of_ble_eq_true rfl) dX1_isOfSamePlies_19 ⟨Nat.le_of_ble_eq_true rfl, Nat.le_of_ble_eq_true rfl⟩) ?_
    refine lv_aload_n hx hb dX1_isOfSamePlies_22 rfl (lv_at hl 1 rfl) ?_
    obtain ⟨r12, hr13, h⟩ := bnd h
    refine ro_i (runV (As := []) (rest := [.int r10]) cx hl.1 (ctX1_row l g a_p1 p1_told p1_lines p1_kinds p1_acts p1_rows r12 hr13) kmX1_row kvX1_row lm_X1_55 ⟨rfl, rfl⟩ ⟨Nat.le_of_ble_eq_true rfl, Nat.le_of_ble_eq_true rfl⟩ (roV (q0 := 3) (ci := 1) hG (hP.sub [3, 4] rfl) hP rfl rfl) rfl rfl (Nat.le_of_ble_eq_true rfl) dX1_isOfSamePlies_23 ⟨Nat.le_of_ble_eq_true rfl, Nat.le_of_ble_eq_true rfl⟩) ?_
    refine lv_aload_n hx hb dX1_isOfSamePlies_26 rfl (lv_at hl 1 rfl) ?_
    obtain ⟨r14, hr15, h⟩ := bnd h
    refine ro_i (runV (As := []) (rest := [.int r12, .int r10]) cx hl.1 (ctX1_plies l g a_p1 p1_told p1_lines p1_kinds p1_acts p1_sizes r14 hr15) kmX1_plies kvX1_plies lm_X1_51 ⟨rfl, rfl⟩ ⟨Nat.le_of_ble_eq_true rfl, Nat.le_of_ble_eq_true rfl⟩ (roV (q0 := 3) (ci := 1) hG (hP.sub [3, 5] rfl) hP rfl rfl) rfl rfl (Nat.le_of_ble_eq_true rfl) dX1_isOfSamePlies_27 ⟨Nat.le_of_ble_eq_true rfl, Nat.le_of_ble_eq_true rfl⟩) ?_
    obtain ⟨r16, hr17, h⟩ := bnd h
    refine ro_i (runSN (As := [.int r12, .int r14]) (rest := [.int r10]) hG cx hl.1 (ctX3_sorted l g r12 r14 r16 hr17) kmX3_sorted ksX3_sorted nm_104 ⟨rfl, rfl⟩ ⟨Nat.le_of_ble_eq_true rfl, Nat.le_of_ble_eq_true rfl⟩ (roS hG (hP.sub [] rfl)) rfl rfl (Nat.le_of_ble_eq_true rfl) dX1_isOfSamePlies_30 ⟨Nat.le_of_ble_eq_true rfl, Nat.le_of_ble_eq_true rfl⟩) ?_
    refine lv_icmp_ne (tgt := 40) hx hb dX1_isOfSamePlies_33 (by decide) (fun c18 => ?_) (fun c18 => ?_)
    · have h := itn c18 h
      refine lv_iconst (v := 0) hx hb dX1_isOfSamePlies_40 (by decide) ?_
      exact hret _ _ _ dX1_isOfSamePlies_41 (by decide) (Option.some.inj h)
    · have h := itp c18 h
      refine lv_iconst (v := 1) hx hb dX1_isOfSamePlies_36 (by decide) ?_
      refine lv_goto (tgt := 41) hx hb dX1_isOfSamePlies_37 (by decide) ?_
      exact hret _ _ _ dX1_isOfSamePlies_41 (by decide) (Option.some.inj h)
-- X1_longestCommon
theorem dX1_longestCommon_0 : decode cX1_longestCommon 0 = .ok (.bipush 9, 2) := by decide +kernel
theorem dX1_longestCommon_2 : decode cX1_longestCommon 2 = .ok (.newarray .int, 2) := by decide +kernel
theorem dX1_longestCommon_4 : decode cX1_longestCommon 4 = .ok (.astore_n 2, 1) := by decide +kernel
theorem dX1_longestCommon_5 : decode cX1_longestCommon 5 = .ok (.iconst 0, 1) := by decide +kernel
theorem dX1_longestCommon_6 : decode cX1_longestCommon 6 = .ok (.istore_n 3, 1) := by decide +kernel
theorem dX1_longestCommon_7 : decode cX1_longestCommon 7 = .ok (.iload_n 3, 1) := by decide +kernel
theorem dX1_longestCommon_8 : decode cX1_longestCommon 8 = .ok (.aload_n 0, 1) := by decide +kernel
theorem dX1_longestCommon_9 : decode cX1_longestCommon 9 = .ok (.invokevirtual 51, 3) := by decide +kernel
theorem dX1_longestCommon_12 : decode cX1_longestCommon 12 = .ok (.if_icmp .ge 97, 3) := by decide +kernel
theorem dX1_longestCommon_15 : decode cX1_longestCommon 15 = .ok (.iconst 0, 1) := by decide +kernel
theorem dX1_longestCommon_16 : decode cX1_longestCommon 16 = .ok (.istore 4, 2) := by decide +kernel
theorem dX1_longestCommon_18 : decode cX1_longestCommon 18 = .ok (.iconst 1, 1) := by decide +kernel
theorem dX1_longestCommon_19 : decode cX1_longestCommon 19 = .ok (.istore 5, 2) := by decide +kernel
theorem dX1_longestCommon_21 : decode cX1_longestCommon 21 = .ok (.iload 5, 2) := by decide +kernel
theorem dX1_longestCommon_23 : decode cX1_longestCommon 23 = .ok (.aload_n 1, 1) := by decide +kernel
theorem dX1_longestCommon_24 : decode cX1_longestCommon 24 = .ok (.invokevirtual 51, 3) := by decide +kernel
theorem dX1_longestCommon_27 : decode cX1_longestCommon 27 = .ok (.if_icmp .gt 76, 3) := by decide +kernel
theorem dX1_longestCommon_30 : decode cX1_longestCommon 30 = .ok (.iload 5, 2) := by decide +kernel
theorem dX1_longestCommon_32 : decode cX1_longestCommon 32 = .ok (.bipush 8, 2) := by decide +kernel
theorem dX1_longestCommon_34 : decode cX1_longestCommon 34 = .ok (.if_icmp .gt 69, 3) := by decide +kernel
theorem dX1_longestCommon_37 : decode cX1_longestCommon 37 = .ok (.aload_n 2, 1) := by decide +kernel
theorem dX1_longestCommon_38 : decode cX1_longestCommon 38 = .ok (.iload 5, 2) := by decide +kernel
theorem dX1_longestCommon_40 : decode cX1_longestCommon 40 = .ok (.iaload, 1) := by decide +kernel
theorem dX1_longestCommon_41 : decode cX1_longestCommon 41 = .ok (.istore 6, 2) := by decide +kernel
theorem dX1_longestCommon_43 : decode cX1_longestCommon 43 = .ok (.aload_n 0, 1) := by decide +kernel
theorem dX1_longestCommon_44 : decode cX1_longestCommon 44 = .ok (.iload_n 3, 1) := by decide +kernel
theorem dX1_longestCommon_45 : decode cX1_longestCommon 45 = .ok (.invokevirtual 131, 3) := by decide +kernel
theorem dX1_longestCommon_48 : decode cX1_longestCommon 48 = .ok (.aload_n 1, 1) := by decide +kernel
theorem dX1_longestCommon_49 : decode cX1_longestCommon 49 = .ok (.iload 5, 2) := by decide +kernel
theorem dX1_longestCommon_51 : decode cX1_longestCommon 51 = .ok (.iconst 1, 1) := by decide +kernel
theorem dX1_longestCommon_52 : decode cX1_longestCommon 52 = .ok (.isub, 1) := by decide +kernel
theorem dX1_longestCommon_53 : decode cX1_longestCommon 53 = .ok (.invokevirtual 131, 3) := by decide +kernel
theorem dX1_longestCommon_56 : decode cX1_longestCommon 56 = .ok (.if_icmp .ne 7, 3) := by decide +kernel
theorem dX1_longestCommon_59 : decode cX1_longestCommon 59 = .ok (.iconst 1, 1) := by decide +kernel
theorem dX1_longestCommon_60 : decode cX1_longestCommon 60 = .ok (.goto 4, 3) := by decide +kernel
theorem dX1_longestCommon_63 : decode cX1_longestCommon 63 = .ok (.iconst 0, 1) := by decide +kernel
theorem dX1_longestCommon_64 : decode cX1_longestCommon 64 = .ok (.istore 7, 2) := by decide +kernel
theorem dX1_longestCommon_66 : decode cX1_longestCommon 66 = .ok (.aload_n 2, 1) := by decide +kernel
theorem dX1_longestCommon_67 : decode cX1_longestCommon 67 = .ok (.iload 5, 2) := by decide +kernel
theorem dX1_longestCommon_69 : decode cX1_longestCommon 69 = .ok (.iload 7, 2) := by decide +kernel
theorem dX1_longestCommon_71 : decode cX1_longestCommon 71 = .ok (.ifCond .eq 10, 3) := by decide +kernel
theorem dX1_longestCommon_74 : decode cX1_longestCommon 74 = .ok (.iload 4, 2) := by decide +kernel
theorem dX1_longestCommon_76 : decode cX1_longestCommon 76 = .ok (.iconst 1, 1) := by decide +kernel
theorem dX1_longestCommon_77 : decode cX1_longestCommon 77 = .ok (.iadd, 1) := by decide +kernel
theorem dX1_longestCommon_78 : decode cX1_longestCommon 78 = .ok (.goto 14, 3) := by decide +kernel
theorem dX1_longestCommon_81 : decode cX1_longestCommon 81 = .ok (.iload 6, 2) := by decide +kernel
theorem dX1_longestCommon_83 : decode cX1_longestCommon 83 = .ok (.aload_n 2, 1) := by decide +kernel
theorem dX1_longestCommon_84 : decode cX1_longestCommon 84 = .ok (.iload 5, 2) := by decide +kernel
theorem dX1_longestCommon_86 : decode cX1_longestCommon 86 = .ok (.iconst 1, 1) := by decide +kernel
theorem dX1_longestCommon_87 : decode cX1_longestCommon 87 = .ok (.isub, 1) := by decide +kernel
theorem dX1_longestCommon_88 : decode cX1_longestCommon 88 = .ok (.iaload, 1) := by decide +kernel
theorem dX1_longestCommon_89 : decode cX1_longestCommon 89 = .ok (.invokestatic 133, 3) := by decide +kernel
theorem dX1_longestCommon_92 : decode cX1_longestCommon 92 = .ok (.iastore, 1) := by decide +kernel
theorem dX1_longestCommon_93 : decode cX1_longestCommon 93 = .ok (.iload 6, 2) := by decide +kernel
theorem dX1_longestCommon_95 : decode cX1_longestCommon 95 = .ok (.istore 4, 2) := by decide +kernel
theorem dX1_longestCommon_97 : decode cX1_longestCommon 97 = .ok (.iinc 5 1, 3) := by decide +kernel
theorem dX1_longestCommon_100 : decode cX1_longestCommon 100 = .ok (.goto (-79), 3) := by decide +kernel
theorem dX1_longestCommon_103 : decode cX1_longestCommon 103 = .ok (.iinc 3 1, 3) := by decide +kernel
theorem dX1_longestCommon_106 : decode cX1_longestCommon 106 = .ok (.goto (-99), 3) := by decide +kernel
theorem dX1_longestCommon_109 : decode cX1_longestCommon 109 = .ok (.aload_n 2, 1) := by decide +kernel
theorem dX1_longestCommon_110 : decode cX1_longestCommon 110 = .ok (.aload_n 1, 1) := by decide +kernel
theorem dX1_longestCommon_111 : decode cX1_longestCommon 111 = .ok (.invokevirtual 51, 3) := by decide +kernel
theorem dX1_longestCommon_114 : decode cX1_longestCommon 114 = .ok (.bipush 8, 2) := by decide +kernel
theorem dX1_longestCommon_116 : decode cX1_longestCommon 116 = .ok (.invokestatic 136, 3) := by decide +kernel
theorem dX1_longestCommon_119 : decode cX1_longestCommon 119 = .ok (.iaload, 1) := by decide +kernel
theorem dX1_longestCommon_120 : decode cX1_longestCommon 120 = .ok (.ireturn, 1) := by decide +kernel
noncomputable def fX1_longestCommon_92 (k7 : (Nat → Int32) → (Nat → Int32) → Int32 → (Nat → Int32) → (Nat → Int32) → Int32 → (Nat → Int32) → Int32 → Option (Int32)) (k21 : (Nat → Int32) → (Nat → Int32) → Int32 → (Nat → Int32) → (Nat → Int32) → Int32 → (Nat → Int32) → Int32 → Int32 → Int32 → Option (Int32)) (t_rows : Nat → Int32) (t_sizes : Nat → Int32) (t_acts : Int32) (p1_rows : Nat → Int32) (p1_sizes : Nat → Int32) (p1_acts : Int32) (n2 : Nat → Int32) (v3 : Int32) (v5 : Int32) (v6 : Int32) (z1 : Int32) (z2 : Int32) : Option (Int32) := chk 9 z1 (k21 t_rows t_sizes t_acts p1_rows p1_sizes p1_acts (upd n2 z1.toNatClampNeg z2) v3 v6 (v5 + 1))
noncomputable def fX1_longestCommon_64 (k7 : (Nat → Int32) → (Nat → Int32) → Int32 → (Nat → Int32) → (Nat → Int32) → Int32 → (Nat → Int32) → Int32 → Option (Int32)) (k21 : (Nat → Int32) → (Nat → Int32) → Int32 → (Nat → Int32) → (Nat → Int32) → Int32 → (Nat → Int32) → Int32 → Int32 → Int32 → Option (Int32)) (t_rows : Nat → Int32) (t_sizes : Nat → Int32) (t_acts : Int32) (p1_rows : Nat → Int32) (p1_sizes : Nat → Int32) (p1_acts : Int32) (n2 : Nat → Int32) (v3 : Int32) (v4 : Int32) (v5 : Int32) (v6 : Int32) (z0 : Int32) : Option (Int32) := (if z0 = 0 then chk 9 (v5 - 1) (fX1_longestCommon_92 k7 k21 t_rows t_sizes t_acts p1_rows p1_sizes p1_acts n2 v3 v5 v6 v5 (imax v6 (n2 (v5 - 1).toNatClampNeg))) else fX1_longestCommon_92 k7 k21 t_rows t_sizes t_acts p1_rows p1_sizes p1_acts n2 v3 v5 v6 v5 (v4 + 1))
noncomputable def fX1_longestCommon_103 (k7 : (Nat → Int32) → (Nat → Int32) → Int32 → (Nat → Int32) → (Nat → Int32) → Int32 → (Nat → Int32) → Int32 → Option (Int32)) (t_rows : Nat → Int32) (t_sizes : Nat → Int32) (t_acts : Int32) (p1_rows : Nat → Int32) (p1_sizes : Nat → Int32) (p1_acts : Int32) (n2 : Nat → Int32) (v3 : Int32) : Option (Int32) := k7 t_rows t_sizes t_acts p1_rows p1_sizes p1_acts n2 (v3 + 1)
noncomputable def fX1_longestCommon_21 (k7 : (Nat → Int32) → (Nat → Int32) → Int32 → (Nat → Int32) → (Nat → Int32) → Int32 → (Nat → Int32) → Int32 → Option (Int32)) : Nat → (Nat → Int32) → (Nat → Int32) → Int32 → (Nat → Int32) → (Nat → Int32) → Int32 → (Nat → Int32) → Int32 → Int32 → Int32 → Option (Int32)
  | 0, _, _, _, _, _, _, _, _, _, _ => none
  | n + 1, t_rows, t_sizes, t_acts, p1_rows, p1_sizes, p1_acts, n2, v3, v4, v5 => (fX1_plies p1_sizes p1_acts).bind fun r4 => (if r4 < v5 then fX1_longestCommon_103 k7 t_rows t_sizes t_acts p1_rows p1_sizes p1_acts n2 v3 else (if 8 < v5 then fX1_longestCommon_103 k7 t_rows t_sizes t_acts p1_rows p1_sizes p1_acts n2 v3 else chk 9 v5 ((fX1_typeAt t_rows t_acts v3).bind fun r9 => (fX1_typeAt p1_rows p1_acts (v5 - 1)).bind fun r11 => (if r9 = r11 then fX1_longestCommon_64 k7 (fX1_longestCommon_21 k7 n) t_rows t_sizes t_acts p1_rows p1_sizes p1_acts n2 v3 v4 v5 (n2 v5.toNatClampNeg) 1 else fX1_longestCommon_64 k7 (fX1_longestCommon_21 k7 n) t_rows t_sizes t_acts p1_rows p1_sizes p1_acts n2 v3 v4 v5 (n2 v5.toNatClampNeg) 0))))
theorem fX1_longestCommon_21_z (k7 : (Nat → Int32) → (Nat → Int32) → Int32 → (Nat → Int32) → (Nat → Int32) → Int32 → (Nat → Int32) → Int32 → Option (Int32)) (t_rows : Nat → Int32) (t_sizes : Nat → Int32) (t_acts : Int32) (p1_rows : Nat → Int32) (p1_sizes : Nat → Int32) (p1_acts : Int32) (n2 : Nat → Int32) (v3 : Int32) (v4 : Int32) (v5 : Int32) : fX1_longestCommon_21 k7 0 t_rows t_sizes t_acts p1_rows p1_sizes p1_acts n2 v3 v4 v5 = none := rfl
theorem fX1_longestCommon_21_s (k7 : (Nat → Int32) → (Nat → Int32) → Int32 → (Nat → Int32) → (Nat → Int32) → Int32 → (Nat → Int32) → Int32 → Option (Int32)) (n : Nat) (t_rows : Nat → Int32) (t_sizes : Nat → Int32) (t_acts : Int32) (p1_rows : Nat → Int32) (p1_sizes : Nat → Int32) (p1_acts : Int32) (n2 : Nat → Int32) (v3 : Int32) (v4 : Int32) (v5 : Int32) : fX1_longestCommon_21 k7 (n + 1) t_rows t_sizes t_acts p1_rows p1_sizes p1_acts n2 v3 v4 v5 = (fX1_plies p1_sizes p1_acts).bind fun r4 => (if r4 < v5 then fX1_longestCommon_103 k7 t_rows t_sizes t_acts p1_rows p1_sizes p1_acts n2 v3 else (if 8 < v5 then fX1_longestCommon_103 k7 t_rows t_sizes t_acts p1_rows p1_sizes p1_acts n2 v3 else chk 9 v5 ((fX1_typeAt t_rows t_acts v3).bind fun r9 => (fX1_typeAt p1_rows p1_acts (v5 - 1)).bind fun r11 => (if r9 = r11 then fX1_longestCommon_64 k7 (fX1_longestCommon_21 k7 n) t_rows t_sizes t_acts p1_rows p1_sizes p1_acts n2 v3 v4 v5 (n2 v5.toNatClampNeg) 1 else fX1_longestCommon_64 k7 (fX1_longestCommon_21 k7 n) t_rows t_sizes t_acts p1_rows p1_sizes p1_acts n2 v3 v4 v5 (n2 v5.toNatClampNeg) 0)))) := rfl
noncomputable def fX1_longestCommon_109  (p1_sizes : Nat → Int32) (p1_acts : Int32) (n2 : Nat → Int32) : Option (Int32) := (fX1_plies p1_sizes p1_acts).bind fun r17 => chk 9 (imin r17 8) (some (n2 (imin r17 8).toNatClampNeg))
noncomputable def fX1_longestCommon_7  : Nat → (Nat → Int32) → (Nat → Int32) → Int32 → (Nat → Int32) → (Nat → Int32) → Int32 → (Nat → Int32) → Int32 → Option (Int32)
  | 0, _, _, _, _, _, _, _, _ => none
  | n + 1, t_rows, t_sizes, t_acts, p1_rows, p1_sizes, p1_acts, n2, v3 => (fX1_plies t_sizes t_acts).bind fun r1 => (if r1 ≤ v3 then fX1_longestCommon_109 p1_sizes p1_acts n2 else fX1_longestCommon_21 (fX1_longestCommon_7 n) FU t_rows t_sizes t_acts p1_rows p1_sizes p1_acts n2 v3 0 1)
theorem fX1_longestCommon_7_z  (t_rows : Nat → Int32) (t_sizes : Nat → Int32) (t_acts : Int32) (p1_rows : Nat → Int32) (p1_sizes : Nat → Int32) (p1_acts : Int32) (n2 : Nat → Int32) (v3 : Int32) : fX1_longestCommon_7  0 t_rows t_sizes t_acts p1_rows p1_sizes p1_acts n2 v3 = none := rfl
theorem fX1_longestCommon_7_s  (n : Nat) (t_rows : Nat → Int32) (t_sizes : Nat → Int32) (t_acts : Int32) (p1_rows : Nat → Int32) (p1_sizes : Nat → Int32) (p1_acts : Int32) (n2 : Nat → Int32) (v3 : Int32) : fX1_longestCommon_7  (n + 1) t_rows t_sizes t_acts p1_rows p1_sizes p1_acts n2 v3 = (fX1_plies t_sizes t_acts).bind fun r1 => (if r1 ≤ v3 then fX1_longestCommon_109 p1_sizes p1_acts n2 else fX1_longestCommon_21 (fX1_longestCommon_7 n) FU t_rows t_sizes t_acts p1_rows p1_sizes p1_acts n2 v3 0 1) := rfl
noncomputable def fX1_longestCommon  (t_rows : Nat → Int32) (t_sizes : Nat → Int32) (t_acts : Int32) (p1_rows : Nat → Int32) (p1_sizes : Nat → Int32) (p1_acts : Int32) : Option (Int32) := fX1_longestCommon_7 FU t_rows t_sizes t_acts p1_rows p1_sizes p1_acts (fun _ => 0) 0
set_option maxHeartbeats 4000000 in
set_option maxRecDepth 100000 in
theorem ctX1_longestCommon (l : Launch) (g : GT) (sz : Nat) (a_t : Nat → Nat) (a_p1 : Nat → Nat) (t_told : Int32) (t_lines : Int32) (t_kinds : Int32) (t_acts : Int32) (t_rows : Nat → Int32) (t_sizes : Nat → Int32) (p1_told : Int32) (p1_lines : Int32) (p1_kinds : Int32) (p1_acts : Int32) (p1_rows : Nat → Int32) (p1_sizes : Nat → Int32) (o : Int32) (h : fX1_longestCommon t_rows t_sizes t_acts p1_rows p1_sizes p1_acts = some (o)) : Met l yX1_longestCommon (Cond.code yX1_longestCommon cX1_longestCommon 8 (some .int) :: Tw) ⟨2, 1, 9, 42⟩ (va_Pc [.ref ((a_t 0)), .ref ((a_p1 0))] (raB g [((a_t 0), .inr (1, [.ref (a_t 1), .ref (a_t 2), .ref (a_t 3), .ref (a_t 4), .ref (a_t 5), .int t_told, .int t_lines, .int t_kinds, .int t_acts])), ((a_t 3), .inl (g.2.2.1 0, 31, .inl t_rows)), ((a_t 4), .inl (g.2.2.1 0, 31, .inl t_sizes)), ((a_p1 0), .inr (1, [.ref (a_p1 1), .ref (a_p1 2), .ref (a_p1 3), .ref (a_p1 4), .ref (a_p1 5), .int p1_told, .int p1_lines, .int p1_kinds, .int p1_acts])), ((a_p1 3), .inl (g.2.2.1 0, 31, .inl p1_rows)), ((a_p1 4), .inl (g.2.2.1 0, 31, .inl p1_sizes))] sz)) (va_Qi (fun x (_ : Unit) => x = o) (fun _ _ => True) (fun q => sz ≤ q)) 1 9 (fun q => sz ≤ q) := by
  refine ra_meti (by decide) (Nat.le_of_ble_eq_true rfl) (lv0 := [(0, .ref ((a_t 0))), (1, .ref ((a_p1 0)))]) rfl ?_
  intro p e s m args below meth c ls Q cx hret hG hb0 hO hl
  have hA : ∀ q, s.heap.size ≤ q → (fun q : Nat => s.heap.size ≤ q) q := fun _ h => h
  have hAb : ∀ q, (fun q : Nat => s.heap.size ≤ q) q → g.1 ≤ q := fun q h => Nat.le_trans hb0 h
  generalize hAe : (fun q : Nat => s.heap.size ≤ q) = A at hret hA hAb
  have hO0 := hO
  have hOk : ∀ {H : Heap} {locs : List Loc}, va_S A s.heap H locs → va_P g.2.1 vwCl [((a_t 0), .inr (1, [.ref (a_t 1), .ref (a_t 2), .ref (a_t 3), .ref (a_t 4), .ref (a_t 5), .int t_told, .int t_lines, .int t_kinds, .int t_acts])), ((a_t 3), .inl (g.2.2.1 0, 31, .inl t_rows)), ((a_t 4), .inl (g.2.2.1 0, 31, .inl t_sizes)), ((a_p1 0), .inr (1, [.ref (a_p1 1), .ref (a_p1 2), .ref (a_p1 3), .ref (a_p1 4), .ref (a_p1 5), .int p1_told, .int p1_lines, .int p1_kinds, .int p1_acts])), ((a_p1 3), .inl (g.2.2.1 0, 31, .inl p1_rows)), ((a_p1 4), .inl (g.2.2.1 0, 31, .inl p1_sizes))] H := fun hS => xw_old hO0 (by rw [hAe]; exact hS)
  have hP : va_P g.2.1 vwCl [] s.heap := fun k q hk => by simp at hk
  have hD : va_D A [] := ⟨fun i j p q hi => by simp at hi, fun k q hk => by simp at hk⟩
  have hx := cx.1
  have hb := cx.2.1
  have hG0 := hG
  have hGk : ∀ {H : Heap} {locs : List Loc}, va_S A s.heap H locs → GE g s H := fun hS => hG0.keptS hAb hS
  have hSb : ∀ {H : Heap} {locs : List Loc}, va_S A s.heap H locs → va_S (fun a => g.1 ≤ a) s.heap H locs := fun hS => ⟨hS.1, fun q h1 h2 => hS.2.1 q h1 (fun z => h2 (hAb q z)), fun l hl => hAb _ (hS.2.2 l hl)⟩
  have hS : va_S A s.heap s.heap [] := va_S.rf
  have w92 : ∀ (k7 : (Nat → Int32) → (Nat → Int32) → Int32 → (Nat → Int32) → (Nat → Int32) → Int32 → (Nat → Int32) → Int32 → Option (Int32)) (hk7 : ∀ (q_n2 : Nat) (n2 : Nat → Int32) (v3 : Int32) (H : Heap) (locs : List Loc), va_P g.2.1 vwCl [(q_n2, .inl (g.2.2.1 0, 9, .inl n2))] H → va_D A [(q_n2, .inl (g.2.2.1 0, 9, .inl n2))] → va_S A s.heap H locs → ∀ (ls : Array Slot), lv_has ls 8 [(0, .ref ((a_t 0))), (1, .ref ((a_p1 0))), (2, .ref q_n2), (3, .int v3)] → k7 t_rows t_sizes t_acts p1_rows p1_sizes p1_acts n2 v3 = some (o) → W p l e ⟨2, 1, 9, 42⟩ s m args below meth c H locs 1 9 Q (F0 m 7 ls [])) (k21 : (Nat → Int32) → (Nat → Int32) → Int32 → (Nat → Int32) → (Nat → Int32) → Int32 → (Nat → Int32) → Int32 → Int32 → Int32 → Option (Int32)) (hk21 : ∀ (q_n2 : Nat) (n2 : Nat → Int32) (v3 : Int32) (v4 : Int32) (v5 : Int32) (H : Heap) (locs : List Loc), va_P g.2.1 vwCl [(q_n2, .inl (g.2.2.1 0, 9, .inl n2))] H → va_D A [(q_n2, .inl (g.2.2.1 0, 9, .inl n2))] → va_S A s.heap H locs → ∀ (ls : Array Slot), lv_has ls 8 [(0, .ref ((a_t 0))), (1, .ref ((a_p1 0))), (2, .ref q_n2), (3, .int v3), (4, .int v4), (5, .int v5)] → k21 t_rows t_sizes t_acts p1_rows p1_sizes p1_acts n2 v3 v4 v5 = some (o) → W p l e ⟨2, 1, 9, 42⟩ s m args below meth c H locs 1 9 Q (F0 m 21 ls [])) (q_n2 : Nat) (n2 : Nat → Int32) (v3 : Int32) (v5 : Int32) (v6 : Int32) (z1 : Int32) (z2 : Int32) (H : Heap) (locs : List Loc), va_P g.2.1 vwCl [(q_n2, .inl (g.2.2.1 0, 9, .inl n2))] H → va_D A [(q_n2, .inl (g.2.2.1 0, 9, .inl n2))] → va_S A s.heap H locs → ∀ (ls : Array Slot), lv_has ls 8 [(0, .ref ((a_t 0))), (1, .ref ((a_p1 0))), (2, .ref q_n2), (3, .int v3), (5, .int v5), (6, .int v6)] → fX1_longestCommon_92 k7 k21 t_rows t_sizes t_acts p1_rows p1_sizes p1_acts n2 v3 v5 v6 z1 z2 = some (o) → W p l e ⟨2, 1, 9, 42⟩ s m args below meth c H locs 1 9 Q (F0 m 92 ls [.int z2, .int z1, .ref q_n2]) := by
    intro k7 hk7 k21 hk21 q_n2 n2 v3 v5 v6 z1 z2 H locs hP hD hS ls hl h
    unfold fX1_longestCommon_92 at h
    have hG := hGk hS
    have hO := hOk hS
    obtain ⟨hi16, h⟩ := chk_out h
    refine xw_iast (ws' := [(q_n2, .inl (g.2.2.1 0, 9, .inl (upd n2 z1.toNatClampNeg z2)))]) (k := z1.toNatClampNeg) cx hG hP hD hS 0 rfl hi16 rfl rfl dX1_longestCommon_92 (fun H locs hP hD hS => ?_)
    have hG := hGk hS
    have hO := hOk hS
    refine lv_iload hx hb dX1_longestCommon_93 (lv_at hl 5 rfl) ?_
    refine lv_istore (lv' := [(4, .int v6), (0, .ref ((a_t 0))), (1, .ref ((a_p1 0))), (2, .ref q_n2), (3, .int v3), (5, .int v5), (6, .int v6)]) hx hb dX1_longestCommon_95 hl (by decide) rfl (fun ls hl => ?_)
    refine lv_iinc (v := v5 + 1) (lv' := [(5, .int (v5 + 1)), (4, .int v6), (0, .ref ((a_t 0))), (1, .ref ((a_p1 0))), (2, .ref q_n2), (3, .int v3), (6, .int v6)]) hx hb dX1_longestCommon_97 hl (k := 5) rfl rfl (by decide) rfl (fun ls hl => ?_)
    refine lv_goto (tgt := 21) hx hb dX1_longestCommon_100 (by decide) ?_
    exact hk21 q_n2 (upd n2 z1.toNatClampNeg z2) v3 v6 (v5 + 1) _ _ hP hD hS _ (lv_sub hl [2, 3, 4, 5, 1, 0] rfl) h
  have w64 : ∀ (k7 : (Nat → Int32) → (Nat → Int32) → Int32 → (Nat → Int32) → (Nat → Int32) → Int32 → (Nat → Int32) → Int32 → Option (Int32)) (hk7 : ∀ (q_n2 : Nat) (n2 : Nat → Int32) (v3 : Int32) (H : Heap) (locs : List Loc), va_P g.2.1 vwCl [(q_n2, .inl (g.2.2.1 0, 9, .inl n2))] H → va_D A [(q_n2, .inl (g.2.2.1 0, 9, .inl n2))] → va_S A s.heap H locs → ∀ (ls : Array Slot), lv_has ls 8 [(0, .ref ((a_t 0))), (1, .ref ((a_p1 0))), (2, .ref q_n2), (3, .int v3)] → k7 t_rows t_sizes t_acts p1_rows p1_sizes p1_acts n2 v3 = some (o) → W p l e ⟨2, 1, 9, 42⟩ s m args below meth c H locs 1 9 Q (F0 m 7 ls [])) (k21 : (Nat → Int32) → (Nat → Int32) → Int32 → (Nat → Int32) → (Nat → Int32) → Int32 → (Nat → Int32) → Int32 → Int32 → Int32 → Option (Int32)) (hk21 : ∀ (q_n2 : Nat) (n2 : Nat → Int32) (v3 : Int32) (v4 : Int32) (v5 : Int32) (H : Heap) (locs : List Loc), va_P g.2.1 vwCl [(q_n2, .inl (g.2.2.1 0, 9, .inl n2))] H → va_D A [(q_n2, .inl (g.2.2.1 0, 9, .inl n2))] → va_S A s.heap H locs → ∀ (ls : Array Slot), lv_has ls 8 [(0, .ref ((a_t 0))), (1, .ref ((a_p1 0))), (2, .ref q_n2), (3, .int v3), (4, .int v4), (5, .int v5)] → k21 t_rows t_sizes t_acts p1_rows p1_sizes p1_acts n2 v3 v4 v5 = some (o) → W p l e ⟨2, 1, 9, 42⟩ s m args below meth c H locs 1 9 Q (F0 m 21 ls [])) (q_n2 : Nat) (n2 : Nat → Int32) (v3 : Int32) (v4 : Int32) (v5 : Int32) (v6 : Int32) (z0 : Int32) (H : Heap) (locs : List Loc), va_P g.2.1 vwCl [(q_n2, .inl (g.2.2.1 0, 9, .inl n2))] H → va_D A [(q_n2, .inl (g.2.2.1 0, 9, .inl n2))] → va_S A s.heap H locs → ∀ (ls : Array Slot), lv_has ls 8 [(0, .ref ((a_t 0))), (1, .ref ((a_p1 0))), (2, .ref q_n2), (3, .int v3), (4, .int v4), (5, .int v5), (6, .int v6)] → fX1_longestCommon_64 k7 k21 t_rows t_sizes t_acts p1_rows p1_sizes p1_acts n2 v3 v4 v5 v6 z0 = some (o) → W p l e ⟨2, 1, 9, 42⟩ s m args below meth c H locs 1 9 Q (F0 m 64 ls [.int z0]) := by
    intro k7 hk7 k21 hk21 q_n2 n2 v3 v4 v5 v6 z0 H locs hP hD hS ls hl h
    unfold fX1_longestCommon_64 at h
    have hG := hGk hS
    have hO := hOk hS
    refine lv_istore (lv' := [(7, .int z0), (0, .ref ((a_t 0))), (1, .ref ((a_p1 0))), (2, .ref q_n2), (3, .int v3), (4, .int v4), (5, .int v5), (6, .int v6)]) hx hb dX1_longestCommon_64 hl (by decide) rfl (fun ls hl => ?_)
    refine lv_aload_n hx hb dX1_longestCommon_66 rfl (lv_at hl 3 rfl) ?_
    refine lv_iload hx hb dX1_longestCommon_67 (lv_at hl 6 rfl) ?_
    refine lv_iload hx hb dX1_longestCommon_69 (lv_at hl 0 rfl) ?_
    refine lv_if_eq (tgt := 81) hx hb dX1_longestCommon_71 (by decide) (fun c14 => ?_) (fun c14 => ?_)
    · have h := itp c14 h
      refine lv_iload hx hb dX1_longestCommon_81 (lv_at hl 7 rfl) ?_
      refine lv_aload_n hx hb dX1_longestCommon_83 rfl (lv_at hl 3 rfl) ?_
      refine lv_iload hx hb dX1_longestCommon_84 (lv_at hl 6 rfl) ?_
      refine lv_iconst (v := 1) hx hb dX1_longestCommon_86 (by decide) ?_
      refine lv_isub hx hb dX1_longestCommon_87 ?_
      obtain ⟨hi15, h⟩ := chk_out h
      refine xa_iald cx hG hP 0 rfl hi15 rfl dX1_longestCommon_88 ?_
      refine xm_imax cx hl.1 lm_X1_133 ⟨ksJ9_max_7cf53, kmJ9_max_7cf53.2.1, kmJ9_max_7cf53.1⟩ (Nat.le_of_ble_eq_true rfl) (Nat.le_of_ble_eq_true rfl) (Nat.le_of_ble_eq_true rfl) (Nat.le_of_ble_eq_true rfl) dX1_longestCommon_89 ?_
      exact w92 _ hk7 _ hk21 q_n2 n2 v3 v5 v6 v5 (imax v6 (n2 (v5 - 1).toNatClampNeg)) _ _ hP hD hS _ (lv_sub hl [1, 2, 3, 4, 6, 7] rfl) h
    · have h := itn c14 h
      refine lv_iload hx hb dX1_longestCommon_74 (lv_at hl 5 rfl) ?_
      refine lv_iconst (v := 1) hx hb dX1_longestCommon_76 (by decide) ?_
      refine lv_iadd hx hb dX1_longestCommon_77 ?_
      refine lv_goto (tgt := 92) hx hb dX1_longestCommon_78 (by decide) ?_
      exact w92 _ hk7 _ hk21 q_n2 n2 v3 v5 v6 v5 (v4 + 1) _ _ hP hD hS _ (lv_sub hl [1, 2, 3, 4, 6, 7] rfl) h
  have w103 : ∀ (k7 : (Nat → Int32) → (Nat → Int32) → Int32 → (Nat → Int32) → (Nat → Int32) → Int32 → (Nat → Int32) → Int32 → Option (Int32)) (hk7 : ∀ (q_n2 : Nat) (n2 : Nat → Int32) (v3 : Int32) (H : Heap) (locs : List Loc), va_P g.2.1 vwCl [(q_n2, .inl (g.2.2.1 0, 9, .inl n2))] H → va_D A [(q_n2, .inl (g.2.2.1 0, 9, .inl n2))] → va_S A s.heap H locs → ∀ (ls : Array Slot), lv_has ls 8 [(0, .ref ((a_t 0))), (1, .ref ((a_p1 0))), (2, .ref q_n2), (3, .int v3)] → k7 t_rows t_sizes t_acts p1_rows p1_sizes p1_acts n2 v3 = some (o) → W p l e ⟨2, 1, 9, 42⟩ s m args below meth c H locs 1 9 Q (F0 m 7 ls [])) (q_n2 : Nat) (n2 : Nat → Int32) (v3 : Int32) (H : Heap) (locs : List Loc), va_P g.2.1 vwCl [(q_n2, .inl (g.2.2.1 0, 9, .inl n2))] H → va_D A [(q_n2, .inl (g.2.2.1 0, 9, .inl n2))] → va_S A s.heap H locs → ∀ (ls : Array Slot), lv_has ls 8 [(0, .ref ((a_t 0))), (1, .ref ((a_p1 0))), (2, .ref q_n2), (3, .int v3)] → fX1_longestCommon_103 k7 t_rows t_sizes t_acts p1_rows p1_sizes p1_acts n2 v3 = some (o) → W p l e ⟨2, 1, 9, 42⟩ s m args below meth c H locs 1 9 Q (F0 m 103 ls []) := by
    intro k7 hk7 q_n2 n2 v3 H locs hP hD hS ls hl h
    unfold fX1_longestCommon_103 at h
    have hG := hGk hS
    have hO := hOk hS
    refine lv_iinc (v := v3 + 1) (lv' := [(3, .int (v3 + 1)), (0, .ref ((a_t 0))), (1, .ref ((a_p1 0))), (2, .ref q_n2)]) hx hb dX1_longestCommon_103 hl (k := 3) rfl rfl (by decide) rfl (fun ls hl => ?_)
    refine lv_goto (tgt := 7) hx hb dX1_longestCommon_106 (by decide) ?_
    exact hk7 q_n2 n2 (v3 + 1) _ _ hP hD hS _ (lv_sub hl [1, 2, 3, 0] rfl) h
  have w21 : ∀ (k7 : (Nat → Int32) → (Nat → Int32) → Int32 → (Nat → Int32) → (Nat → Int32) → Int32 → (Nat → Int32) → Int32 → Option (Int32)) (hk7 : ∀ (q_n2 : Nat) (n2 : Nat → Int32) (v3 : Int32) (H : Heap) (locs : List Loc), va_P g.2.1 vwCl [(q_n2, .inl (g.2.2.1 0, 9, .inl n2))] H → va_D A [(q_n2, .inl (g.2.2.1 0, 9, .inl n2))] → va_S A s.heap H locs → ∀ (ls : Array Slot), lv_has ls 8 [(0, .ref ((a_t 0))), (1, .ref ((a_p1 0))), (2, .ref q_n2), (3, .int v3)] → k7 t_rows t_sizes t_acts p1_rows p1_sizes p1_acts n2 v3 = some (o) → W p l e ⟨2, 1, 9, 42⟩ s m args below meth c H locs 1 9 Q (F0 m 7 ls [])) (n : Nat) (q_n2 : Nat) (n2 : Nat → Int32) (v3 : Int32) (v4 : Int32) (v5 : Int32) (H : Heap) (locs : List Loc), va_P g.2.1 vwCl [(q_n2, .inl (g.2.2.1 0, 9, .inl n2))] H → va_D A [(q_n2, .inl (g.2.2.1 0, 9, .inl n2))] → va_S A s.heap H locs → ∀ (ls : Array Slot), lv_has ls 8 [(0, .ref ((a_t 0))), (1, .ref ((a_p1 0))), (2, .ref q_n2), (3, .int v3), (4, .int v4), (5, .int v5)] → fX1_longestCommon_21 k7 n t_rows t_sizes t_acts p1_rows p1_sizes p1_acts n2 v3 v4 v5 = some (o) → W p l e ⟨2, 1, 9, 42⟩ s m args below meth c H locs 1 9 Q (F0 m 21 ls []) := by
    intro k7 hk7 n
    induction n with
    | zero => intro q_n2 n2 v3 v4 v5 H locs hP hD hS ls hl h; cases (fX1_longestCommon_21_z k7 t_rows t_sizes t_acts p1_rows p1_sizes p1_acts n2 v3 v4 v5).symm.trans h
    | succ n ih =>
    intro q_n2 n2 v3 v4 v5 H locs hP hD hS ls hl h
    have h := (fX1_longestCommon_21_s k7 n t_rows t_sizes t_acts p1_rows p1_sizes p1_acts n2 v3 v4 v5).symm.trans h
    have hG := hGk hS
    have hO := hOk hS
    refine lv_iload hx hb dX1_longestCommon_21 (lv_at hl 5 rfl) ?_
    refine lv_aload_n hx hb dX1_longestCommon_23 rfl (lv_at hl 1 rfl) ?_
    obtain ⟨r4, hr5, h⟩ := bnd h
    refine ro_i (runV (As := []) (rest := [.int v5]) cx hl.1 (ctX1_plies l g a_p1 p1_told p1_lines p1_kinds p1_acts p1_sizes r4 hr5) kmX1_plies kvX1_plies lm_X1_51 ⟨rfl, rfl⟩ ⟨Nat.le_of_ble_eq_true rfl, Nat.le_of_ble_eq_true rfl⟩ (roV (q0 := 3) (ci := 1) hG (hO.sub [3, 5] rfl) hO rfl rfl) rfl rfl (Nat.le_of_ble_eq_true rfl) dX1_longestCommon_24 ⟨Nat.le_of_ble_eq_true rfl, Nat.le_of_ble_eq_true rfl⟩) ?_
    refine lv_icmp_gt (tgt := 103) hx hb dX1_longestCommon_27 (by decide) (fun c6 => ?_) (fun c6 => ?_)
    · have h := itp c6 h
      exact w103 _ hk7 q_n2 n2 v3 _ _ hP hD hS _ (lv_sub hl [0, 1, 2, 3] rfl) h
    · have h := itn c6 h
      refine lv_iload hx hb dX1_longestCommon_30 (lv_at hl 5 rfl) ?_
      refine lv_bipush (v := 8) hx hb dX1_longestCommon_32 (by decide) ?_
      refine lv_icmp_gt (tgt := 103) hx hb dX1_longestCommon_34 (by decide) (fun c7 => ?_) (fun c7 => ?_)
      · have h := itp c7 h
        exact w103 _ hk7 q_n2 n2 v3 _ _ hP hD hS _ (lv_sub hl [0, 1, 2, 3] rfl) h
      · have h := itn c7 h
        refine lv_aload_n hx hb dX1_longestCommon_37 rfl (lv_at hl 2 rfl) ?_
        refine lv_iload hx hb dX1_longestCommon_38 (lv_at hl 5 rfl) ?_
        obtain ⟨hi8, h⟩ := chk_out h
        refine xa_iald cx hG hP 0 rfl hi8 rfl dX1_longestCommon_40 ?_
        refine lv_istore (lv' := [(6, .int (n2 v5.toNatClampNeg)), (0, .ref ((a_t 0))), (1, .ref ((a_p1 0))), (2, .ref q_n2), (3, .int v3), (4, .int v4), (5, .int v5)]) hx hb dX1_longestCommon_41 hl (by decide) rfl (fun ls hl => ?_)
        refine lv_aload_n hx hb dX1_longestCommon_43 rfl (lv_at hl 1 rfl) ?_
        refine lv_iload_n hx hb dX1_longestCommon_44 rfl (lv_at hl 4 rfl) ?_
        obtain ⟨r9, hr10, h⟩ := bnd h
        refine ro_i (runV (As := [.int v3]) (rest := []) cx hl.1 (ctX1_typeAt l g a_t t_told t_lines t_kinds t_acts t_rows v3 r9 hr10) kmX1_typeAt kvX1_typeAt lm_X1_131 ⟨rfl, rfl⟩ ⟨Nat.le_of_ble_eq_true rfl, Nat.le_of_ble_eq_true rfl⟩ (roV (q0 := 0) (ci := 1) hG (hO.sub [0, 1] rfl) hO rfl rfl) rfl rfl (Nat.le_of_ble_eq_true rfl) dX1_longestCommon_45 ⟨Nat.le_of_ble_eq_true rfl, Nat.le_of_ble_eq_true rfl⟩) ?_
        refine lv_aload_n hx hb dX1_longestCommon_48 rfl (lv_at hl 2 rfl) ?_
        refine lv_iload hx hb dX1_longestCommon_49 (lv_at hl 6 rfl) ?_
        refine lv_iconst (v := 1) hx hb dX1_longestCommon_51 (by decide) ?_
        refine lv_isub hx hb dX1_longestCommon_52 ?_
        obtain ⟨r11, hr12, h⟩ := bnd h
        refine ro_i (runV (As := [.int (v5 - 1)]) (rest := [.int r9]) cx hl.1 (ctX1_typeAt l g a_p1 p1_told p1_lines p1_kinds p1_acts p1_rows (v5 - 1) r11 hr12) kmX1_typeAt kvX1_typeAt lm_X1_131 ⟨rfl, rfl⟩ ⟨Nat.le_of_ble_eq_true rfl, Nat.le_of_ble_eq_true rfl⟩ (roV (q0 := 3) (ci := 1) hG (hO.sub [3, 4] rfl) hO rfl rfl) rfl rfl (Nat.le_of_ble_eq_true rfl) dX1_longestCommon_53 ⟨Nat.le_of_ble_eq_true rfl, Nat.le_of_ble_eq_true rfl⟩) ?_
        refine lv_icmp_ne (tgt := 63) hx hb dX1_longestCommon_56 (by decide) (fun c13 => ?_) (fun c13 => ?_)
        · have h := itn c13 h
          refine lv_iconst (v := 0) hx hb dX1_longestCommon_63 (by decide) ?_
          exact w64 _ hk7 _ ih q_n2 n2 v3 v4 v5 (n2 v5.toNatClampNeg) 0 _ _ hP hD hS _ (lv_sub hl [1, 2, 3, 4, 5, 6, 0] rfl) h
        · have h := itp c13 h
          refine lv_iconst (v := 1) hx hb dX1_longestCommon_59 (by decide) ?_
          refine lv_goto (tgt := 64) hx hb dX1_longestCommon_60 (by decide) ?_
          exact w64 _ hk7 _ ih q_n2 n2 v3 v4 v5 (n2 v5.toNatClampNeg) 1 _ _ hP hD hS _ (lv_sub hl [1, 2, 3, 4, 5, 6, 0] rfl) h
  have w109 : ∀ (q_n2 : Nat) (n2 : Nat → Int32) (H : Heap) (locs : List Loc), va_P g.2.1 vwCl [(q_n2, .inl (g.2.2.1 0, 9, .inl n2))] H → va_D A [(q_n2, .inl (g.2.2.1 0, 9, .inl n2))] → va_S A s.heap H locs → ∀ (ls : Array Slot), lv_has ls 8 [(1, .ref ((a_p1 0))), (2, .ref q_n2)] → fX1_longestCommon_109  p1_sizes p1_acts n2 = some (o) → W p l e ⟨2, 1, 9, 42⟩ s m args below meth c H locs 1 9 Q (F0 m 109 ls []) := by
    intro q_n2 n2 H locs hP hD hS ls hl h
    unfold fX1_longestCommon_109 at h
    have hG := hGk hS
    have hO := hOk hS
    refine lv_aload_n hx hb dX1_longestCommon_109 rfl (lv_at hl 1 rfl) ?_
    refine lv_aload_n hx hb dX1_longestCommon_110 rfl (lv_at hl 0 rfl) ?_
    obtain ⟨r17, hr18, h⟩ := bnd h
    refine ro_i (runV (As := []) (rest := [.ref q_n2]) cx hl.1 (ctX1_plies l g a_p1 p1_told p1_lines p1_kinds p1_acts p1_sizes r17 hr18) kmX1_plies kvX1_plies lm_X1_51 ⟨rfl, rfl⟩ ⟨Nat.le_of_ble_eq_true rfl, Nat.le_of_ble_eq_true rfl⟩ (roV (q0 := 3) (ci := 1) hG (hO.sub [3, 5] rfl) hO rfl rfl) rfl rfl (Nat.le_of_ble_eq_true rfl) dX1_longestCommon_111 ⟨Nat.le_of_ble_eq_true rfl, Nat.le_of_ble_eq_true rfl⟩) ?_
    refine lv_bipush (v := 8) hx hb dX1_longestCommon_114 (by decide) ?_
    refine xm_imin cx hl.1 lm_X1_136 ⟨ksJ9_min_7cf53, kmJ9_min_7cf53.2.1, kmJ9_min_7cf53.1⟩ (Nat.le_of_ble_eq_true rfl) (Nat.le_of_ble_eq_true rfl) (Nat.le_of_ble_eq_true rfl) (Nat.le_of_ble_eq_true rfl) dX1_longestCommon_116 ?_
    obtain ⟨hi19, h⟩ := chk_out h
    refine xa_iald cx hG hP 0 rfl hi19 rfl dX1_longestCommon_119 ?_
    exact hret _ _ _ _ _ dX1_longestCommon_120 (Option.some.inj h) hS
  have w7 : ∀ (n : Nat) (q_n2 : Nat) (n2 : Nat → Int32) (v3 : Int32) (H : Heap) (locs : List Loc), va_P g.2.1 vwCl [(q_n2, .inl (g.2.2.1 0, 9, .inl n2))] H → va_D A [(q_n2, .inl (g.2.2.1 0, 9, .inl n2))] → va_S A s.heap H locs → ∀ (ls : Array Slot), lv_has ls 8 [(0, .ref ((a_t 0))), (1, .ref ((a_p1 0))), (2, .ref q_n2), (3, .int v3)] → fX1_longestCommon_7  n t_rows t_sizes t_acts p1_rows p1_sizes p1_acts n2 v3 = some (o) → W p l e ⟨2, 1, 9, 42⟩ s m args below meth c H locs 1 9 Q (F0 m 7 ls []) := by
    intro n
    induction n with
    | zero => intro q_n2 n2 v3 H locs hP hD hS ls hl h; cases (fX1_longestCommon_7_z  t_rows t_sizes t_acts p1_rows p1_sizes p1_acts n2 v3).symm.trans h
    | succ n ih =>
    intro q_n2 n2 v3 H locs hP hD hS ls hl h
    have h := (fX1_longestCommon_7_s  n t_rows t_sizes t_acts p1_rows p1_sizes p1_acts n2 v3).symm.trans h
    have hG := hGk hS
    have hO := hOk hS
    refine lv_iload_n hx hb dX1_longestCommon_7 rfl (lv_at hl 3 rfl) ?_
    refine lv_aload_n hx hb dX1_longestCommon_8 rfl (lv_at hl 0 rfl) ?_
    obtain ⟨r1, hr2, h⟩ := bnd h
    refine ro_i (runV (As := []) (rest := [.int v3]) cx hl.1 (ctX1_plies l g a_t t_told t_lines t_kinds t_acts t_sizes r1 hr2) kmX1_plies kvX1_plies lm_X1_51 ⟨rfl, rfl⟩ ⟨Nat.le_of_ble_eq_true rfl, Nat.le_of_ble_eq_true rfl⟩ (roV (q0 := 0) (ci := 1) hG (hO.sub [0, 2] rfl) hO rfl rfl) rfl rfl (Nat.le_of_ble_eq_true rfl) dX1_longestCommon_9 ⟨Nat.le_of_ble_eq_true rfl, Nat.le_of_ble_eq_true rfl⟩) ?_
    refine lv_icmp_ge (tgt := 109) hx hb dX1_longestCommon_12 (by decide) (fun c3 => ?_) (fun c3 => ?_)
    · have h := itp c3 h
      exact w109 q_n2 n2 _ _ hP hD hS _ (lv_sub hl [1, 2] rfl) h
    · have h := itn c3 h
      refine lv_iconst (v := 0) hx hb dX1_longestCommon_15 (by decide) ?_
      refine lv_istore (lv' := [(4, .int (0)), (0, .ref ((a_t 0))), (1, .ref ((a_p1 0))), (2, .ref q_n2), (3, .int v3)]) hx hb dX1_longestCommon_16 hl (by decide) rfl (fun ls hl => ?_)
      refine lv_iconst (v := 1) hx hb dX1_longestCommon_18 (by decide) ?_
      refine lv_istore (lv' := [(5, .int (1)), (4, .int (0)), (0, .ref ((a_t 0))), (1, .ref ((a_p1 0))), (2, .ref q_n2), (3, .int v3)]) hx hb dX1_longestCommon_19 hl (by decide) rfl (fun ls hl => ?_)
      exact w21 _ ih FU q_n2 n2 v3 0 1 _ _ hP hD hS _ (lv_sub hl [2, 3, 4, 5, 1, 0] rfl) h
  unfold fX1_longestCommon at h
  refine lv_bipush (v := 9) hx hb dX1_longestCommon_0 (by decide) ?_
  refine xw_newi (N' := 9) cx hG hP hD hS hA arI (by decide) (by decide) (Nat.le_of_ble_eq_true rfl) (Nat.le_of_ble_eq_true rfl) (Nat.le_of_ble_eq_true rfl) dX1_longestCommon_2 (fun q_n2 H hP hD hS => ?_)
  have hP : va_P g.2.1 vwCl [(q_n2, .inl (g.2.2.1 0, 9, .inl (fun _ => 0)))] H := hP
  have hD : va_D A [(q_n2, .inl (g.2.2.1 0, 9, .inl (fun _ => 0)))] := hD
  have hG := hGk hS
  have hO := hOk hS
  refine lv_astore_n (lv' := [(2, .ref q_n2), (0, .ref ((a_t 0))), (1, .ref ((a_p1 0)))]) hx hb dX1_longestCommon_4 rfl hl (by decide) rfl (fun ls hl => ?_)
  refine lv_iconst (v := 0) hx hb dX1_longestCommon_5 (by decide) ?_
  refine lv_istore_n (lv' := [(3, .int (0)), (2, .ref q_n2), (0, .ref ((a_t 0))), (1, .ref ((a_p1 0)))]) hx hb dX1_longestCommon_6 rfl hl (by decide) rfl (fun ls hl => ?_)
  exact w7 FU q_n2 (fun _ => 0) 0 _ _ hP hD hS _ (lv_sub hl [2, 3, 1, 0] rfl) h
-- X1_isPartOf
theorem dX1_isPartOf_0 : decode cX1_isPartOf 0 = .ok (.aload_n 0, 1) := by decide +kernel
theorem dX1_isPartOf_1 : decode cX1_isPartOf 1 = .ok (.aload_n 1, 1) := by decide +kernel
theorem dX1_isPartOf_2 : decode cX1_isPartOf 2 = .ok (.invokevirtual 127, 3) := by decide +kernel
theorem dX1_isPartOf_5 : decode cX1_isPartOf 5 = .ok (.aload_n 0, 1) := by decide +kernel
theorem dX1_isPartOf_6 : decode cX1_isPartOf 6 = .ok (.invokevirtual 51, 3) := by decide +kernel
theorem dX1_isPartOf_9 : decode cX1_isPartOf 9 = .ok (.if_icmp .ne 7, 3) := by decide +kernel
theorem dX1_isPartOf_12 : decode cX1_isPartOf 12 = .ok (.iconst 1, 1) := by decide +kernel
theorem dX1_isPartOf_13 : decode cX1_isPartOf 13 = .ok (.goto 4, 3) := by decide +kernel
theorem dX1_isPartOf_16 : decode cX1_isPartOf 16 = .ok (.iconst 0, 1) := by decide +kernel
theorem dX1_isPartOf_17 : decode cX1_isPartOf 17 = .ok (.ireturn, 1) := by decide +kernel
noncomputable def fX1_isPartOf  (t_rows : Nat → Int32) (t_sizes : Nat → Int32) (t_acts : Int32) (p1_rows : Nat → Int32) (p1_sizes : Nat → Int32) (p1_acts : Int32) : Option (Int32) := (fX1_longestCommon t_rows t_sizes t_acts p1_rows p1_sizes p1_acts).bind fun r1 => (fX1_plies t_sizes t_acts).bind fun r3 => (if r1 = r3 then some (1) else some (0))
set_option maxHeartbeats 4000000 in
set_option maxRecDepth 100000 in
theorem ctX1_isPartOf (l : Launch) (g : GT) (sz : Nat) (a_t : Nat → Nat) (a_p1 : Nat → Nat) (t_told : Int32) (t_lines : Int32) (t_kinds : Int32) (t_acts : Int32) (t_rows : Nat → Int32) (t_sizes : Nat → Int32) (p1_told : Int32) (p1_lines : Int32) (p1_kinds : Int32) (p1_acts : Int32) (p1_rows : Nat → Int32) (p1_sizes : Nat → Int32) (o : Int32) (h : fX1_isPartOf t_rows t_sizes t_acts p1_rows p1_sizes p1_acts = some (o)) : Met l yX1_isPartOf (Cond.code yX1_isPartOf cX1_isPartOf 2 (some .boolean) :: Tw) ⟨3, 1, 9, 69⟩ (va_Pc [.ref ((a_t 0)), .ref ((a_p1 0))] (raB g [((a_t 0), .inr (1, [.ref (a_t 1), .ref (a_t 2), .ref (a_t 3), .ref (a_t 4), .ref (a_t 5), .int t_told, .int t_lines, .int t_kinds, .int t_acts])), ((a_t 3), .inl (g.2.2.1 0, 31, .inl t_rows)), ((a_t 4), .inl (g.2.2.1 0, 31, .inl t_sizes)), ((a_p1 0), .inr (1, [.ref (a_p1 1), .ref (a_p1 2), .ref (a_p1 3), .ref (a_p1 4), .ref (a_p1 5), .int p1_told, .int p1_lines, .int p1_kinds, .int p1_acts])), ((a_p1 3), .inl (g.2.2.1 0, 31, .inl p1_rows)), ((a_p1 4), .inl (g.2.2.1 0, 31, .inl p1_sizes))] sz)) (va_Qi (fun x (_ : Unit) => x = o ∧ (x = 0 ∨ x = 1)) (fun _ _ => True) (fun q => sz ≤ q)) 1 9 (fun q => sz ≤ q) := by
  refine ra_metz (by decide) (Nat.le_of_ble_eq_true rfl) (lv0 := [(0, .ref ((a_t 0))), (1, .ref ((a_p1 0)))]) rfl ?_
  intro p e s m args below meth c ls Q cx hret hG hb0 hO hl
  have hA : ∀ q, s.heap.size ≤ q → (fun q : Nat => s.heap.size ≤ q) q := fun _ h => h
  have hAb : ∀ q, (fun q : Nat => s.heap.size ≤ q) q → g.1 ≤ q := fun q h => Nat.le_trans hb0 h
  generalize hAe : (fun q : Nat => s.heap.size ≤ q) = A at hret hA hAb
  have hO0 := hO
  have hOk : ∀ {H : Heap} {locs : List Loc}, va_S A s.heap H locs → va_P g.2.1 vwCl [((a_t 0), .inr (1, [.ref (a_t 1), .ref (a_t 2), .ref (a_t 3), .ref (a_t 4), .ref (a_t 5), .int t_told, .int t_lines, .int t_kinds, .int t_acts])), ((a_t 3), .inl (g.2.2.1 0, 31, .inl t_rows)), ((a_t 4), .inl (g.2.2.1 0, 31, .inl t_sizes)), ((a_p1 0), .inr (1, [.ref (a_p1 1), .ref (a_p1 2), .ref (a_p1 3), .ref (a_p1 4), .ref (a_p1 5), .int p1_told, .int p1_lines, .int p1_kinds, .int p1_acts])), ((a_p1 3), .inl (g.2.2.1 0, 31, .inl p1_rows)), ((a_p1 4), .inl (g.2.2.1 0, 31, .inl p1_sizes))] H := fun hS => xw_old hO0 (by rw [hAe]; exact hS)
  have hP : va_P g.2.1 vwCl [] s.heap := fun k q hk => by simp at hk
  have hD : va_D A [] := ⟨fun i j p q hi => by simp at hi, fun k q hk => by simp at hk⟩
  have hx := cx.1
  have hb := cx.2.1
  have hG0 := hG
  have hGk : ∀ {H : Heap} {locs : List Loc}, va_S A s.heap H locs → GE g s H := fun hS => hG0.keptS hAb hS
  have hSb : ∀ {H : Heap} {locs : List Loc}, va_S A s.heap H locs → va_S (fun a => g.1 ≤ a) s.heap H locs := fun hS => ⟨hS.1, fun q h1 h2 => hS.2.1 q h1 (fun z => h2 (hAb q z)), fun l hl => hAb _ (hS.2.2 l hl)⟩
  have hS : va_S A s.heap s.heap [] := va_S.rf
  unfold fX1_isPartOf at h
  refine lv_aload_n hx hb dX1_isPartOf_0 rfl (lv_at hl 0 rfl) ?_
  refine lv_aload_n hx hb dX1_isPartOf_1 rfl (lv_at hl 1 rfl) ?_
  obtain ⟨r1, hr2, h⟩ := bnd h
  refine ra_i (runV (As := [.ref ((a_p1 0))]) (rest := []) cx hl.1 (ctX1_longestCommon l g s.heap.size a_t a_p1 t_told t_lines t_kinds t_acts t_rows t_sizes p1_told p1_lines p1_kinds p1_acts p1_rows p1_sizes r1 hr2) kmX1_longestCommon kvX1_longestCommon lm_X1_127 ⟨rfl, rfl⟩ ⟨Nat.le_of_ble_eq_true rfl, Nat.le_of_ble_eq_true rfl⟩ (raV (q0 := 0) (ci := 1) hG (hO.sub [0, 1, 2, 3, 4, 5] rfl) hb0 hS hO rfl rfl) rfl rfl (Nat.le_of_ble_eq_true rfl) dX1_isPartOf_2 ⟨Nat.le_of_ble_eq_true rfl, Nat.le_of_ble_eq_true rfl⟩) hS hA (fun H locs _ hS => ?_)
  have hG := hGk hS
  have hO := hOk hS
  refine lv_aload_n hx hb dX1_isPartOf_5 rfl (lv_at hl 0 rfl) ?_
  obtain ⟨r3, hr4, h⟩ := bnd h
  refine ro_i (runV (As := []) (rest := [.int r1]) cx hl.1 (ctX1_plies l g a_t t_told t_lines t_kinds t_acts t_sizes r3 hr4) kmX1_plies kvX1_plies lm_X1_51 ⟨rfl, rfl⟩ ⟨Nat.le_of_ble_eq_true rfl, Nat.le_of_ble_eq_true rfl⟩ (roV (q0 := 0) (ci := 1) hG (hO.sub [0, 2] rfl) hO rfl rfl) rfl rfl (Nat.le_of_ble_eq_true rfl) dX1_isPartOf_6 ⟨Nat.le_of_ble_eq_true rfl, Nat.le_of_ble_eq_true rfl⟩) ?_
  refine lv_icmp_ne (tgt := 16) hx hb dX1_isPartOf_9 (by decide) (fun c5 => ?_) (fun c5 => ?_)
  · have h := itn c5 h
    refine lv_iconst (v := 0) hx hb dX1_isPartOf_16 (by decide) ?_
    exact hret _ _ _ _ _ dX1_isPartOf_17 (by decide) (Option.some.inj h) hS
  · have h := itp c5 h
    refine lv_iconst (v := 1) hx hb dX1_isPartOf_12 (by decide) ?_
    refine lv_goto (tgt := 17) hx hb dX1_isPartOf_13 (by decide) ?_
    exact hret _ _ _ _ _ dX1_isPartOf_17 (by decide) (Option.some.inj h) hS
-- X5_add
theorem dX5_add_0 : decode cX5_add 0 = .ok (.bipush 24, 2) := by decide +kernel
theorem dX5_add_2 : decode cX5_add 2 = .ok (.istore_n 2, 1) := by decide +kernel
theorem dX5_add_3 : decode cX5_add 3 = .ok (.iload_n 2, 1) := by decide +kernel
theorem dX5_add_4 : decode cX5_add 4 = .ok (.ifCond .lt 49, 3) := by decide +kernel
theorem dX5_add_7 : decode cX5_add 7 = .ok (.aload_n 0, 1) := by decide +kernel
theorem dX5_add_8 : decode cX5_add 8 = .ok (.getfield 15, 3) := by decide +kernel
theorem dX5_add_11 : decode cX5_add 11 = .ok (.ifCond .lt 36, 3) := by decide +kernel
theorem dX5_add_14 : decode cX5_add 14 = .ok (.aload_n 0, 1) := by decide +kernel
theorem dX5_add_15 : decode cX5_add 15 = .ok (.getfield 15, 3) := by decide +kernel
theorem dX5_add_18 : decode cX5_add 18 = .ok (.sipush 600, 3) := by decide +kernel
theorem dX5_add_21 : decode cX5_add 21 = .ok (.if_icmp .ge 26, 3) := by decide +kernel
theorem dX5_add_24 : decode cX5_add 24 = .ok (.aload_n 0, 1) := by decide +kernel
theorem dX5_add_25 : decode cX5_add 25 = .ok (.getfield 9, 3) := by decide +kernel
theorem dX5_add_28 : decode cX5_add 28 = .ok (.aload_n 0, 1) := by decide +kernel
theorem dX5_add_29 : decode cX5_add 29 = .ok (.getfield 15, 3) := by decide +kernel
theorem dX5_add_32 : decode cX5_add 32 = .ok (.iload_n 1, 1) := by decide +kernel
theorem dX5_add_33 : decode cX5_add 33 = .ok (.iload_n 2, 1) := by decide +kernel
theorem dX5_add_34 : decode cX5_add 34 = .ok (.iushr, 1) := by decide +kernel
theorem dX5_add_35 : decode cX5_add 35 = .ok (.i2b, 1) := by decide +kernel
theorem dX5_add_36 : decode cX5_add 36 = .ok (.bastore, 1) := by decide +kernel
theorem dX5_add_37 : decode cX5_add 37 = .ok (.aload_n 0, 1) := by decide +kernel
theorem dX5_add_38 : decode cX5_add 38 = .ok (.dup, 1) := by decide +kernel
theorem dX5_add_39 : decode cX5_add 39 = .ok (.getfield 15, 3) := by decide +kernel
theorem dX5_add_42 : decode cX5_add 42 = .ok (.iconst 1, 1) := by decide +kernel
theorem dX5_add_43 : decode cX5_add 43 = .ok (.iadd, 1) := by decide +kernel
theorem dX5_add_44 : decode cX5_add 44 = .ok (.putfield 15, 3) := by decide +kernel
theorem dX5_add_47 : decode cX5_add 47 = .ok (.iinc 2 (-8), 3) := by decide +kernel
theorem dX5_add_50 : decode cX5_add 50 = .ok (.goto (-47), 3) := by decide +kernel
theorem dX5_add_53 : decode cX5_add 53 = .ok (.return_, 1) := by decide +kernel
noncomputable def fX5_add_47 (k3 : (Nat → Int32) → Int32 → Int32 → Int32 → Option ((Nat → Int32) × Int32)) (t_bytes : Nat → Int32) (t_size : Int32) (v1 : Int32) (v2 : Int32) : Option ((Nat → Int32) × Int32) := k3 t_bytes t_size v1 (v2 + (-8))
noncomputable def fX5_add_3  : Nat → (Nat → Int32) → Int32 → Int32 → Int32 → Option ((Nat → Int32) × Int32)
  | 0, _, _, _, _ => none
  | n + 1, t_bytes, t_size, v1, v2 => (if v2 < 0 then some (t_bytes, t_size) else (if t_size < 0 then fX5_add_47 (fX5_add_3 n) t_bytes t_size v1 v2 else (if 600 ≤ t_size then fX5_add_47 (fX5_add_3 n) t_bytes t_size v1 v2 else chk 600 t_size (fX5_add_47 (fX5_add_3 n) (upd t_bytes t_size.toNatClampNeg (vp_nar .byte ((iushr v1 v2).toInt8.toInt32))) (t_size + 1) v1 v2))))
theorem fX5_add_3_z  (t_bytes : Nat → Int32) (t_size : Int32) (v1 : Int32) (v2 : Int32) : fX5_add_3  0 t_bytes t_size v1 v2 = none := rfl
theorem fX5_add_3_s  (n : Nat) (t_bytes : Nat → Int32) (t_size : Int32) (v1 : Int32) (v2 : Int32) : fX5_add_3  (n + 1) t_bytes t_size v1 v2 = (if v2 < 0 then some (t_bytes, t_size) else (if t_size < 0 then fX5_add_47 (fX5_add_3 n) t_bytes t_size v1 v2 else (if 600 ≤ t_size then fX5_add_47 (fX5_add_3 n) t_bytes t_size v1 v2 else chk 600 t_size (fX5_add_47 (fX5_add_3 n) (upd t_bytes t_size.toNatClampNeg (vp_nar .byte ((iushr v1 v2).toInt8.toInt32))) (t_size + 1) v1 v2)))) := rfl
noncomputable def fX5_add  (t_bytes : Nat → Int32) (t_size : Int32) (v1 : Int32) : Option ((Nat → Int32) × Int32) := fX5_add_3 FU t_bytes t_size v1 24
set_option maxHeartbeats 4000000 in
set_option maxRecDepth 100000 in
theorem ctX5_add (l : Launch) (g : GT) (sz : Nat) (a_t : Nat → Nat) (t_size : Int32) (t_bytes : Nat → Int32) (v1 : Int32) (o_t_bytes : Nat → Int32) (o_t_size : Int32) (h : fX5_add t_bytes t_size v1 = some (o_t_bytes, o_t_size)) : Met l yX5_add (Cond.code yX5_add cX5_add 3 none :: Tw) ⟨0, 0, 0, 0⟩ (va_Pc [.ref ((a_t 0)), .int v1] (rwB g [((a_t 0), .inr (4, [.ref (a_t 1), .int t_size])), ((a_t 1), .inl (g.2.2.1 2, 600, .inl t_bytes))] sz)) (va_Qv (fun (_ : Nat → Nat) => True) (fun u => rwE g (va_A [((a_t 0), .inr (4, [.ref (a_t 1), .int t_size])), ((a_t 1), .inl (g.2.2.1 2, 600, .inl t_bytes))] sz) [((a_t 0), .inr (4, [.ref (a_t 1), .int o_t_size])), ((a_t 1), .inl (g.2.2.1 2, 600, .inl o_t_bytes))]) (va_A [((a_t 0), .inr (4, [.ref (a_t 1), .int t_size])), ((a_t 1), .inl (g.2.2.1 2, 600, .inl t_bytes))] sz)) 0 0 (va_A [((a_t 0), .inr (4, [.ref (a_t 1), .int t_size])), ((a_t 1), .inl (g.2.2.1 2, 600, .inl t_bytes))] sz) := by
  refine rw_metv (by decide) (Nat.le_of_ble_eq_true rfl) (lv0 := [(0, .ref ((a_t 0))), (1, .int v1)]) rfl ?_
  intro p e s m args below meth c ls Q A cx hret hG hAb hb0 hA hP hD hl
  have hx := cx.1
  have hb := cx.2.1
  have hG0 := hG
  have hGk : ∀ {H : Heap} {locs : List Loc}, va_S A s.heap H locs → GE g s H := fun hS => hG0.keptS hAb hS
  have hSb : ∀ {H : Heap} {locs : List Loc}, va_S A s.heap H locs → va_S (fun a => g.1 ≤ a) s.heap H locs := fun hS => ⟨hS.1, fun q h1 h2 => hS.2.1 q h1 (fun z => h2 (hAb q z)), fun l hl => hAb _ (hS.2.2 l hl)⟩
  have hS : va_S A s.heap s.heap [] := va_S.rf
  have hrt : ∀ (u : Nat → Nat) (pc : Nat) (ls : Array Slot) (x_t_bytes : Nat → Int32) (x_t_size : Int32) (H : Heap) (locs : List Loc), decode cX5_add pc = .ok (.return_, 1) → some (x_t_bytes, x_t_size) = some (o_t_bytes, o_t_size) → va_P g.2.1 vwCl [((a_t 0), .inr (4, [.ref (a_t 1), .int x_t_size])), ((a_t 1), .inl (g.2.2.1 2, 600, .inl x_t_bytes))] H → va_D A [((a_t 0), .inr (4, [.ref (a_t 1), .int x_t_size])), ((a_t 1), .inl (g.2.2.1 2, 600, .inl x_t_bytes))] → va_S A s.heap H locs → W p l e ⟨0, 0, 0, 0⟩ s m args below meth c H locs 0 0 Q (F0 m pc ls []) := by
    intro u pc ls x_t_bytes x_t_size H locs hd h hP hD hS
    cases h
    exact hret u _ _ _ _ hd hP hD hS
  have w47 : ∀ (k3 : (Nat → Int32) → Int32 → Int32 → Int32 → Option ((Nat → Int32) × Int32)) (hk3 : ∀ (t_bytes : Nat → Int32) (t_size : Int32) (v1 : Int32) (v2 : Int32) (H : Heap) (locs : List Loc), va_P g.2.1 vwCl [((a_t 0), .inr (4, [.ref (a_t 1), .int t_size])), ((a_t 1), .inl (g.2.2.1 2, 600, .inl t_bytes))] H → va_D A [((a_t 0), .inr (4, [.ref (a_t 1), .int t_size])), ((a_t 1), .inl (g.2.2.1 2, 600, .inl t_bytes))] → va_S A s.heap H locs → ∀ (ls : Array Slot), lv_has ls 3 [(0, .ref ((a_t 0))), (1, .int v1), (2, .int v2)] → k3 t_bytes t_size v1 v2 = some (o_t_bytes, o_t_size) → W p l e ⟨0, 0, 0, 0⟩ s m args below meth c H locs 0 0 Q (F0 m 3 ls [])) (t_bytes : Nat → Int32) (t_size : Int32) (v1 : Int32) (v2 : Int32) (H : Heap) (locs : List Loc), va_P g.2.1 vwCl [((a_t 0), .inr (4, [.ref (a_t 1), .int t_size])), ((a_t 1), .inl (g.2.2.1 2, 600, .inl t_bytes))] H → va_D A [((a_t 0), .inr (4, [.ref (a_t 1), .int t_size])), ((a_t 1), .inl (g.2.2.1 2, 600, .inl t_bytes))] → va_S A s.heap H locs → ∀ (ls : Array Slot), lv_has ls 3 [(0, .ref ((a_t 0))), (1, .int v1), (2, .int v2)] → fX5_add_47 k3 t_bytes t_size v1 v2 = some (o_t_bytes, o_t_size) → W p l e ⟨0, 0, 0, 0⟩ s m args below meth c H locs 0 0 Q (F0 m 47 ls []) := by
    intro k3 hk3 t_bytes t_size v1 v2 H locs hP hD hS ls hl h
    unfold fX5_add_47 at h
    have hG := hGk hS
    refine lv_iinc (v := v2 + (-8)) (lv' := [(2, .int (v2 + (-8))), (0, .ref ((a_t 0))), (1, .int v1)]) hx hb dX5_add_47 hl (k := 2) rfl rfl (by decide) rfl (fun ls hl => ?_)
    refine lv_goto (tgt := 3) hx hb dX5_add_50 (by decide) ?_
    exact hk3 t_bytes t_size v1 (v2 + (-8)) _ _ hP hD hS _ (lv_sub hl [1, 2, 0] rfl) h
  have w3 : ∀ (n : Nat) (t_bytes : Nat → Int32) (t_size : Int32) (v1 : Int32) (v2 : Int32) (H : Heap) (locs : List Loc), va_P g.2.1 vwCl [((a_t 0), .inr (4, [.ref (a_t 1), .int t_size])), ((a_t 1), .inl (g.2.2.1 2, 600, .inl t_bytes))] H → va_D A [((a_t 0), .inr (4, [.ref (a_t 1), .int t_size])), ((a_t 1), .inl (g.2.2.1 2, 600, .inl t_bytes))] → va_S A s.heap H locs → ∀ (ls : Array Slot), lv_has ls 3 [(0, .ref ((a_t 0))), (1, .int v1), (2, .int v2)] → fX5_add_3  n t_bytes t_size v1 v2 = some (o_t_bytes, o_t_size) → W p l e ⟨0, 0, 0, 0⟩ s m args below meth c H locs 0 0 Q (F0 m 3 ls []) := by
    intro n
    induction n with
    | zero => intro t_bytes t_size v1 v2 H locs hP hD hS ls hl h; cases (fX5_add_3_z  t_bytes t_size v1 v2).symm.trans h
    | succ n ih =>
    intro t_bytes t_size v1 v2 H locs hP hD hS ls hl h
    have h := (fX5_add_3_s  n t_bytes t_size v1 v2).symm.trans h
    have hG := hGk hS
    refine lv_iload_n hx hb dX5_add_3 rfl (lv_at hl 2 rfl) ?_
    refine lv_if_lt (tgt := 53) hx hb dX5_add_4 (by decide) (fun c1 => ?_) (fun c1 => ?_)
    · have h := itp c1 h
      exact hrt (fun _ => 0) _ _ t_bytes t_size _ _ dX5_add_53 h (hP.sub [0, 1] rfl) (hD.sub [0, 1] (by decide) rfl) hS
    · have h := itn c1 h
      refine lv_aload_n hx hb dX5_add_7 rfl (lv_at hl 0 rfl) ?_
      refine xa_get (C := RX5) (T := TX5) (N := 2) cx hG hP 0 rfl rfl uX5 1 (by decide) lf_X5_15 rfl dX5_add_8 ?_
      refine lv_if_lt (tgt := 47) hx hb dX5_add_11 (by decide) (fun c2 => ?_) (fun c2 => ?_)
      · have h := itp c2 h
        exact w47 _ ih t_bytes t_size v1 v2 _ _ hP hD hS _ (lv_sub hl [0, 1, 2] rfl) h
      · have h := itn c2 h
        refine lv_aload_n hx hb dX5_add_14 rfl (lv_at hl 0 rfl) ?_
        refine xa_get (C := RX5) (T := TX5) (N := 2) cx hG hP 0 rfl rfl uX5 1 (by decide) lf_X5_15 rfl dX5_add_15 ?_
        refine lv_sipush (v := 600) hx hb dX5_add_18 (by decide) ?_
        refine lv_icmp_ge (tgt := 47) hx hb dX5_add_21 (by decide) (fun c3 => ?_) (fun c3 => ?_)
        · have h := itp c3 h
          exact w47 _ ih t_bytes t_size v1 v2 _ _ hP hD hS _ (lv_sub hl [0, 1, 2] rfl) h
        · have h := itn c3 h
          refine lv_aload_n hx hb dX5_add_24 rfl (lv_at hl 0 rfl) ?_
          refine xa_get (C := RX5) (T := TX5) (N := 2) cx hG hP 0 rfl rfl uX5 0 (by decide) lf_X5_9 rfl dX5_add_25 ?_
          refine lv_aload_n hx hb dX5_add_28 rfl (lv_at hl 0 rfl) ?_
          refine xa_get (C := RX5) (T := TX5) (N := 2) cx hG hP 0 rfl rfl uX5 1 (by decide) lf_X5_15 rfl dX5_add_29 ?_
          refine lv_iload_n hx hb dX5_add_32 rfl (lv_at hl 1 rfl) ?_
          refine lv_iload_n hx hb dX5_add_33 rfl (lv_at hl 2 rfl) ?_
          refine lv_iushr (v := iushr v1 v2) hx hb dX5_add_34 rfl ?_
          refine lv_i2b (v := (iushr v1 v2).toInt8.toInt32) hx hb dX5_add_35 rfl ?_
          obtain ⟨hi4, h⟩ := chk_out h
          refine xw_bast (ws' := [((a_t 0), .inr (4, [.ref (a_t 1), .int t_size])), ((a_t 1), .inl (g.2.2.1 2, 600, .inl (upd t_bytes t_size.toNatClampNeg (vp_nar .byte ((iushr v1 v2).toInt8.toInt32)))))]) (k := t_size.toNatClampNeg) cx hG hP hD hS 1 rfl hi4 rfl rfl dX5_add_36 (fun H locs hP hD hS => ?_)
          have hG := hGk hS
          refine lv_aload_n hx hb dX5_add_37 rfl (lv_at hl 0 rfl) ?_
          refine lv_dup hx hb dX5_add_38 rfl ?_
          refine xa_get (C := RX5) (T := TX5) (N := 2) cx hG hP 0 rfl rfl uX5 1 (by decide) lf_X5_15 rfl dX5_add_39 ?_
          refine lv_iconst (v := 1) hx hb dX5_add_42 (by decide) ?_
          refine lv_iadd hx hb dX5_add_43 ?_
          refine xw_put (C := RX5) (T := TX5) (N := 2) (ty := .int) (v := .int (t_size + 1)) (ws' := [((a_t 0), .inr (4, [.ref (a_t 1), .int (t_size + 1)])), ((a_t 1), .inl (g.2.2.1 2, 600, .inl (upd t_bytes t_size.toNatClampNeg (vp_nar .byte ((iushr v1 v2).toInt8.toInt32)))))]) cx hG hP hD hS 0 rfl rfl uX5 tyX5 tyX5_ok nmX5 1 (by decide) lf_X5_15 rfl (by decide +kernel) rfl rfl (Nat.le_of_ble_eq_true rfl) rfl dX5_add_44 (fun H locs hP hD hS => ?_)
          have hG := hGk hS
          exact w47 _ ih (upd t_bytes t_size.toNatClampNeg (vp_nar .byte ((iushr v1 v2).toInt8.toInt32))) (t_size + 1) v1 v2 _ _ hP hD hS _ (lv_sub hl [0, 1, 2] rfl) h
  unfold fX5_add at h
  refine lv_bipush (v := 24) hx hb dX5_add_0 (by decide) ?_
  refine lv_istore_n (lv' := [(2, .int (24)), (0, .ref ((a_t 0))), (1, .int v1)]) hx hb dX5_add_2 rfl hl (by decide) rfl (fun ls hl => ?_)
  exact w3 FU t_bytes t_size v1 24 _ _ hP hD hS _ (lv_sub hl [1, 2, 0] rfl) h
-- X5_at
theorem dX5_at_0 : decode cX5_at 0 = .ok (.iload_n 1, 1) := by decide +kernel
theorem dX5_at_1 : decode cX5_at 1 = .ok (.ifCond .lt 18, 3) := by decide +kernel
theorem dX5_at_4 : decode cX5_at 4 = .ok (.iload_n 1, 1) := by decide +kernel
theorem dX5_at_5 : decode cX5_at 5 = .ok (.aload_n 0, 1) := by decide +kernel
theorem dX5_at_6 : decode cX5_at 6 = .ok (.getfield 15, 3) := by decide +kernel
theorem dX5_at_9 : decode cX5_at 9 = .ok (.if_icmp .ge 10, 3) := by decide +kernel
theorem dX5_at_12 : decode cX5_at 12 = .ok (.iload_n 1, 1) := by decide +kernel
theorem dX5_at_13 : decode cX5_at 13 = .ok (.sipush 600, 3) := by decide +kernel
theorem dX5_at_16 : decode cX5_at 16 = .ok (.if_icmp .lt 7, 3) := by decide +kernel
theorem dX5_at_19 : decode cX5_at 19 = .ok (.iconst (-1), 1) := by decide +kernel
theorem dX5_at_20 : decode cX5_at 20 = .ok (.goto 13, 3) := by decide +kernel
theorem dX5_at_23 : decode cX5_at 23 = .ok (.aload_n 0, 1) := by decide +kernel
theorem dX5_at_24 : decode cX5_at 24 = .ok (.getfield 9, 3) := by decide +kernel
theorem dX5_at_27 : decode cX5_at 27 = .ok (.iload_n 1, 1) := by decide +kernel
theorem dX5_at_28 : decode cX5_at 28 = .ok (.baload, 1) := by decide +kernel
theorem dX5_at_29 : decode cX5_at 29 = .ok (.sipush 255, 3) := by decide +kernel
theorem dX5_at_32 : decode cX5_at 32 = .ok (.iand, 1) := by decide +kernel
theorem dX5_at_33 : decode cX5_at 33 = .ok (.ireturn, 1) := by decide +kernel
noncomputable def fX5_at  (t_bytes : Nat → Int32) (t_size : Int32) (v1 : Int32) : Option (Int32) := (if v1 < 0 then some (-1) else (if t_size ≤ v1 then some (-1) else (if v1 < 600 then chk 600 v1 (some ((t_bytes v1.toNatClampNeg) &&& 255)) else some (-1))))
set_option maxHeartbeats 4000000 in
set_option maxRecDepth 100000 in
theorem ctX5_at (l : Launch) (g : GT) (a_t : Nat → Nat) (t_size : Int32) (t_bytes : Nat → Int32) (v1 : Int32) (o : Int32) (h : fX5_at t_bytes t_size v1 = some o) : Met l yX5_at (Cond.code yX5_at cX5_at 2 (some .int) :: Tw) ⟨0, 0, 0, 0⟩ (va_Pc [.ref ((a_t 0)), .int v1] (roB g [((a_t 0), .inr (4, [.ref (a_t 1), .int t_size])), ((a_t 1), .inl (g.2.2.1 2, 600, .inl t_bytes))])) (vp_Si (fun x => x = o)) 0 0 (fun _ => False) := by
  refine ro_meti (by decide) (Nat.le_of_ble_eq_true rfl) (lv0 := [(0, .ref ((a_t 0))), (1, .int v1)]) rfl ?_
  intro p e s m args below meth c ls Q cx hret hG hP hl
  have hx := cx.1
  have hb := cx.2.1
  have hG0 := hG
  unfold fX5_at at h
  refine lv_iload_n hx hb dX5_at_0 rfl (lv_at hl 1 rfl) ?_
  refine lv_if_lt (tgt := 19) hx hb dX5_at_1 (by decide) (fun c1 => ?_) (fun c1 => ?_)
  · have h := itp c1 h
    refine lv_iconst (v := -1) hx hb dX5_at_19 (by decide) ?_
    refine lv_goto (tgt := 33) hx hb dX5_at_20 (by decide) ?_
    exact hret _ _ _ dX5_at_33 (Option.some.inj h)
  · have h := itn c1 h
    refine lv_iload_n hx hb dX5_at_4 rfl (lv_at hl 1 rfl) ?_
    refine lv_aload_n hx hb dX5_at_5 rfl (lv_at hl 0 rfl) ?_
    refine xa_get (C := RX5) (T := TX5) (N := 2) cx hG hP 0 rfl rfl uX5 1 (by decide) lf_X5_15 rfl dX5_at_6 ?_
    refine lv_icmp_ge (tgt := 19) hx hb dX5_at_9 (by decide) (fun c2 => ?_) (fun c2 => ?_)
    · have h := itp c2 h
      refine lv_iconst (v := -1) hx hb dX5_at_19 (by decide) ?_
      refine lv_goto (tgt := 33) hx hb dX5_at_20 (by decide) ?_
      exact hret _ _ _ dX5_at_33 (Option.some.inj h)
    · have h := itn c2 h
      refine lv_iload_n hx hb dX5_at_12 rfl (lv_at hl 1 rfl) ?_
      refine lv_sipush (v := 600) hx hb dX5_at_13 (by decide) ?_
      refine lv_icmp_lt (tgt := 23) hx hb dX5_at_16 (by decide) (fun c3 => ?_) (fun c3 => ?_)
      · have h := itp c3 h
        refine lv_aload_n hx hb dX5_at_23 rfl (lv_at hl 0 rfl) ?_
        refine xa_get (C := RX5) (T := TX5) (N := 2) cx hG hP 0 rfl rfl uX5 0 (by decide) lf_X5_9 rfl dX5_at_24 ?_
        refine lv_iload_n hx hb dX5_at_27 rfl (lv_at hl 1 rfl) ?_
        obtain ⟨hi4, h⟩ := chk_out h
        refine xa_bald cx hG hP 1 rfl hi4 rfl dX5_at_28 ?_
        refine lv_sipush (v := 255) hx hb dX5_at_29 (by decide) ?_
        refine lv_iand hx hb dX5_at_32 ?_
        exact hret _ _ _ dX5_at_33 (Option.some.inj h)
      · have h := itn c3 h
        refine lv_iconst (v := -1) hx hb dX5_at_19 (by decide) ?_
        refine lv_goto (tgt := 33) hx hb dX5_at_20 (by decide) ?_
        exact hret _ _ _ dX5_at_33 (Option.some.inj h)
-- X5_classAt
theorem dX5_classAt_0 : decode cX5_classAt 0 = .ok (.iload_n 1, 1) := by decide +kernel
theorem dX5_classAt_1 : decode cX5_classAt 1 = .ok (.ifCond .lt 18, 3) := by decide +kernel
theorem dX5_classAt_4 : decode cX5_classAt 4 = .ok (.iload_n 1, 1) := by decide +kernel
theorem dX5_classAt_5 : decode cX5_classAt 5 = .ok (.aload_n 0, 1) := by decide +kernel
theorem dX5_classAt_6 : decode cX5_classAt 6 = .ok (.getfield 15, 3) := by decide +kernel
theorem dX5_classAt_9 : decode cX5_classAt 9 = .ok (.if_icmp .ge 10, 3) := by decide +kernel
theorem dX5_classAt_12 : decode cX5_classAt 12 = .ok (.iload_n 1, 1) := by decide +kernel
theorem dX5_classAt_13 : decode cX5_classAt 13 = .ok (.sipush 600, 3) := by decide +kernel
theorem dX5_classAt_16 : decode cX5_classAt 16 = .ok (.if_icmp .lt 5, 3) := by decide +kernel
theorem dX5_classAt_19 : decode cX5_classAt 19 = .ok (.iconst 5, 1) := by decide +kernel
theorem dX5_classAt_20 : decode cX5_classAt 20 = .ok (.ireturn, 1) := by decide +kernel
theorem dX5_classAt_21 : decode cX5_classAt 21 = .ok (.aload_n 0, 1) := by decide +kernel
theorem dX5_classAt_22 : decode cX5_classAt 22 = .ok (.getfield 9, 3) := by decide +kernel
theorem dX5_classAt_25 : decode cX5_classAt 25 = .ok (.iload_n 1, 1) := by decide +kernel
theorem dX5_classAt_26 : decode cX5_classAt 26 = .ok (.baload, 1) := by decide +kernel
theorem dX5_classAt_27 : decode cX5_classAt 27 = .ok (.istore_n 2, 1) := by decide +kernel
theorem dX5_classAt_28 : decode cX5_classAt 28 = .ok (.iload_n 2, 1) := by decide +kernel
theorem dX5_classAt_29 : decode cX5_classAt 29 = .ok (.bipush 97, 2) := by decide +kernel
theorem dX5_classAt_31 : decode cX5_classAt 31 = .ok (.if_icmp .lt 11, 3) := by decide +kernel
theorem dX5_classAt_34 : decode cX5_classAt 34 = .ok (.iload_n 2, 1) := by decide +kernel
theorem dX5_classAt_35 : decode cX5_classAt 35 = .ok (.bipush 122, 2) := by decide +kernel
theorem dX5_classAt_37 : decode cX5_classAt 37 = .ok (.if_icmp .gt 5, 3) := by decide +kernel
theorem dX5_classAt_40 : decode cX5_classAt 40 = .ok (.iconst 1, 1) := by decide +kernel
theorem dX5_classAt_41 : decode cX5_classAt 41 = .ok (.ireturn, 1) := by decide +kernel
theorem dX5_classAt_42 : decode cX5_classAt 42 = .ok (.iload_n 2, 1) := by decide +kernel
theorem dX5_classAt_43 : decode cX5_classAt 43 = .ok (.bipush 48, 2) := by decide +kernel
theorem dX5_classAt_45 : decode cX5_classAt 45 = .ok (.if_icmp .lt 11, 3) := by decide +kernel
theorem dX5_classAt_48 : decode cX5_classAt 48 = .ok (.iload_n 2, 1) := by decide +kernel
theorem dX5_classAt_49 : decode cX5_classAt 49 = .ok (.bipush 57, 2) := by decide +kernel
theorem dX5_classAt_51 : decode cX5_classAt 51 = .ok (.if_icmp .gt 5, 3) := by decide +kernel
theorem dX5_classAt_54 : decode cX5_classAt 54 = .ok (.iconst 2, 1) := by decide +kernel
theorem dX5_classAt_55 : decode cX5_classAt 55 = .ok (.ireturn, 1) := by decide +kernel
theorem dX5_classAt_56 : decode cX5_classAt 56 = .ok (.iload_n 2, 1) := by decide +kernel
theorem dX5_classAt_57 : decode cX5_classAt 57 = .ok (.bipush 32, 2) := by decide +kernel
theorem dX5_classAt_59 : decode cX5_classAt 59 = .ok (.if_icmp .eq 9, 3) := by decide +kernel
theorem dX5_classAt_62 : decode cX5_classAt 62 = .ok (.iload_n 2, 1) := by decide +kernel
theorem dX5_classAt_63 : decode cX5_classAt 63 = .ok (.bipush 10, 2) := by decide +kernel
theorem dX5_classAt_65 : decode cX5_classAt 65 = .ok (.if_icmp .ne 5, 3) := by decide +kernel
theorem dX5_classAt_68 : decode cX5_classAt 68 = .ok (.iconst 4, 1) := by decide +kernel
theorem dX5_classAt_69 : decode cX5_classAt 69 = .ok (.ireturn, 1) := by decide +kernel
theorem dX5_classAt_70 : decode cX5_classAt 70 = .ok (.iload_n 2, 1) := by decide +kernel
theorem dX5_classAt_71 : decode cX5_classAt 71 = .ok (.bipush 59, 2) := by decide +kernel
theorem dX5_classAt_73 : decode cX5_classAt 73 = .ok (.if_icmp .ne 7, 3) := by decide +kernel
theorem dX5_classAt_76 : decode cX5_classAt 76 = .ok (.iconst 3, 1) := by decide +kernel
theorem dX5_classAt_77 : decode cX5_classAt 77 = .ok (.goto 4, 3) := by decide +kernel
theorem dX5_classAt_80 : decode cX5_classAt 80 = .ok (.iconst 0, 1) := by decide +kernel
theorem dX5_classAt_81 : decode cX5_classAt 81 = .ok (.ireturn, 1) := by decide +kernel
noncomputable def fX5_classAt_56  (v2 : Int32) : Option (Int32) := (if v2 = 32 then some (4) else (if v2 = 10 then some (4) else (if v2 = 59 then some (3) else some (0))))
noncomputable def fX5_classAt_42  (v2 : Int32) : Option (Int32) := (if v2 < 48 then fX5_classAt_56 v2 else (if 57 < v2 then fX5_classAt_56 v2 else some (2)))
noncomputable def fX5_classAt  (t_bytes : Nat → Int32) (t_size : Int32) (v1 : Int32) : Option (Int32) := (if v1 < 0 then some (5) else (if t_size ≤ v1 then some (5) else (if v1 < 600 then chk 600 v1 ((if (t_bytes v1.toNatClampNeg) < 97 then fX5_classAt_42 (t_bytes v1.toNatClampNeg) else (if 122 < (t_bytes v1.toNatClampNeg) then fX5_classAt_42 (t_bytes v1.toNatClampNeg) else some (1)))) else some (5))))
set_option maxHeartbeats 4000000 in
set_option maxRecDepth 100000 in
theorem ctX5_classAt (l : Launch) (g : GT) (a_t : Nat → Nat) (t_size : Int32) (t_bytes : Nat → Int32) (v1 : Int32) (o : Int32) (h : fX5_classAt t_bytes t_size v1 = some o) : Met l yX5_classAt (Cond.code yX5_classAt cX5_classAt 3 (some .int) :: Tw) ⟨0, 0, 0, 0⟩ (va_Pc [.ref ((a_t 0)), .int v1] (roB g [((a_t 0), .inr (4, [.ref (a_t 1), .int t_size])), ((a_t 1), .inl (g.2.2.1 2, 600, .inl t_bytes))])) (vp_Si (fun x => x = o)) 0 0 (fun _ => False) := by
  refine ro_meti (by decide) (Nat.le_of_ble_eq_true rfl) (lv0 := [(0, .ref ((a_t 0))), (1, .int v1)]) rfl ?_
  intro p e s m args below meth c ls Q cx hret hG hP hl
  have hx := cx.1
  have hb := cx.2.1
  have hG0 := hG
  have w56 : ∀ (v2 : Int32) (ls : Array Slot), lv_has ls 3 [(2, .int v2)] → fX5_classAt_56  v2 = some o → W p l e ⟨0, 0, 0, 0⟩ s m args below meth c s.heap [] 0 0 Q (F0 m 56 ls []) := by
    intro v2 ls hl h
    unfold fX5_classAt_56 at h
    refine lv_iload_n hx hb dX5_classAt_56 rfl (lv_at hl 0 rfl) ?_
    refine lv_bipush (v := 32) hx hb dX5_classAt_57 (by decide) ?_
    refine lv_icmp_eq (tgt := 68) hx hb dX5_classAt_59 (by decide) (fun c9 => ?_) (fun c9 => ?_)
    · have h := itp c9 h
      refine lv_iconst (v := 4) hx hb dX5_classAt_68 (by decide) ?_
      exact hret _ _ _ dX5_classAt_69 (Option.some.inj h)
    · have h := itn c9 h
      refine lv_iload_n hx hb dX5_classAt_62 rfl (lv_at hl 0 rfl) ?_
      refine lv_bipush (v := 10) hx hb dX5_classAt_63 (by decide) ?_
      refine lv_icmp_ne (tgt := 70) hx hb dX5_classAt_65 (by decide) (fun c10 => ?_) (fun c10 => ?_)
      · have h := itn c10 h
        refine lv_iload_n hx hb dX5_classAt_70 rfl (lv_at hl 0 rfl) ?_
        refine lv_bipush (v := 59) hx hb dX5_classAt_71 (by decide) ?_
        refine lv_icmp_ne (tgt := 80) hx hb dX5_classAt_73 (by decide) (fun c11 => ?_) (fun c11 => ?_)
        · have h := itn c11 h
          refine lv_iconst (v := 0) hx hb dX5_classAt_80 (by decide) ?_
          exact hret _ _ _ dX5_classAt_81 (Option.some.inj h)
        · have h := itp c11 h
          refine lv_iconst (v := 3) hx hb dX5_classAt_76 (by decide) ?_
          refine lv_goto (tgt := 81) hx hb dX5_classAt_77 (by decide) ?_
          exact hret _ _ _ dX5_classAt_81 (Option.some.inj h)
      · have h := itp c10 h
        refine lv_iconst (v := 4) hx hb dX5_classAt_68 (by decide) ?_
        exact hret _ _ _ dX5_classAt_69 (Option.some.inj h)
  have w42 : ∀ (v2 : Int32) (ls : Array Slot), lv_has ls 3 [(2, .int v2)] → fX5_classAt_42  v2 = some o → W p l e ⟨0, 0, 0, 0⟩ s m args below meth c s.heap [] 0 0 Q (F0 m 42 ls []) := by
    intro v2 ls hl h
    unfold fX5_classAt_42 at h
    refine lv_iload_n hx hb dX5_classAt_42 rfl (lv_at hl 0 rfl) ?_
    refine lv_bipush (v := 48) hx hb dX5_classAt_43 (by decide) ?_
    refine lv_icmp_lt (tgt := 56) hx hb dX5_classAt_45 (by decide) (fun c7 => ?_) (fun c7 => ?_)
    · have h := itp c7 h
      exact w56 v2 _ (lv_sub hl [0] rfl) h
    · have h := itn c7 h
      refine lv_iload_n hx hb dX5_classAt_48 rfl (lv_at hl 0 rfl) ?_
      refine lv_bipush (v := 57) hx hb dX5_classAt_49 (by decide) ?_
      refine lv_icmp_gt (tgt := 56) hx hb dX5_classAt_51 (by decide) (fun c8 => ?_) (fun c8 => ?_)
      · have h := itp c8 h
        exact w56 v2 _ (lv_sub hl [0] rfl) h
      · have h := itn c8 h
        refine lv_iconst (v := 2) hx hb dX5_classAt_54 (by decide) ?_
        exact hret _ _ _ dX5_classAt_55 (Option.some.inj h)
  unfold fX5_classAt at h
  refine lv_iload_n hx hb dX5_classAt_0 rfl (lv_at hl 1 rfl) ?_
  refine lv_if_lt (tgt := 19) hx hb dX5_classAt_1 (by decide) (fun c1 => ?_) (fun c1 => ?_)
  · have h := itp c1 h
    refine lv_iconst (v := 5) hx hb dX5_classAt_19 (by decide) ?_
    exact hret _ _ _ dX5_classAt_20 (Option.some.inj h)
  · have h := itn c1 h
    refine lv_iload_n hx hb dX5_classAt_4 rfl (lv_at hl 1 rfl) ?_
    refine lv_aload_n hx hb dX5_classAt_5 rfl (lv_at hl 0 rfl) ?_
    refine xa_get (C := RX5) (T := TX5) (N := 2) cx hG hP 0 rfl rfl uX5 1 (by decide) lf_X5_15 rfl dX5_classAt_6 ?_
    refine lv_icmp_ge (tgt := 19) hx hb dX5_classAt_9 (by decide) (fun c2 => ?_) (fun c2 => ?_)
    · have h := itp c2 h
      refine lv_iconst (v := 5) hx hb dX5_classAt_19 (by decide) ?_
      exact hret _ _ _ dX5_classAt_20 (Option.some.inj h)
    · have h := itn c2 h
      refine lv_iload_n hx hb dX5_classAt_12 rfl (lv_at hl 1 rfl) ?_
      refine lv_sipush (v := 600) hx hb dX5_classAt_13 (by decide) ?_
      refine lv_icmp_lt (tgt := 21) hx hb dX5_classAt_16 (by decide) (fun c3 => ?_) (fun c3 => ?_)
      · have h := itp c3 h
        refine lv_aload_n hx hb dX5_classAt_21 rfl (lv_at hl 0 rfl) ?_
        refine xa_get (C := RX5) (T := TX5) (N := 2) cx hG hP 0 rfl rfl uX5 0 (by decide) lf_X5_9 rfl dX5_classAt_22 ?_
        refine lv_iload_n hx hb dX5_classAt_25 rfl (lv_at hl 1 rfl) ?_
        obtain ⟨hi4, h⟩ := chk_out h
        refine xa_bald cx hG hP 1 rfl hi4 rfl dX5_classAt_26 ?_
        refine lv_istore_n (lv' := [(2, .int (t_bytes v1.toNatClampNeg)), (0, .ref ((a_t 0))), (1, .int v1)]) hx hb dX5_classAt_27 rfl hl (by decide) rfl (fun ls hl => ?_)
        refine lv_iload_n hx hb dX5_classAt_28 rfl (lv_at hl 0 rfl) ?_
        refine lv_bipush (v := 97) hx hb dX5_classAt_29 (by decide) ?_
        refine lv_icmp_lt (tgt := 42) hx hb dX5_classAt_31 (by decide) (fun c5 => ?_) (fun c5 => ?_)
        · have h := itp c5 h
          exact w42 (t_bytes v1.toNatClampNeg) _ (lv_sub hl [0] rfl) h
        · have h := itn c5 h
          refine lv_iload_n hx hb dX5_classAt_34 rfl (lv_at hl 0 rfl) ?_
          refine lv_bipush (v := 122) hx hb dX5_classAt_35 (by decide) ?_
          refine lv_icmp_gt (tgt := 42) hx hb dX5_classAt_37 (by decide) (fun c6 => ?_) (fun c6 => ?_)
          · have h := itp c6 h
            exact w42 (t_bytes v1.toNatClampNeg) _ (lv_sub hl [0] rfl) h
          · have h := itn c6 h
            refine lv_iconst (v := 1) hx hb dX5_classAt_40 (by decide) ?_
            exact hret _ _ _ dX5_classAt_41 (Option.some.inj h)
      · have h := itn c3 h
        refine lv_iconst (v := 5) hx hb dX5_classAt_19 (by decide) ?_
        exact hret _ _ _ dX5_classAt_20 (Option.some.inj h)
