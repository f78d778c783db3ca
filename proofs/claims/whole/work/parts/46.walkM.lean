-- X8_turn
theorem dX8_turn_0 : decode cX8_turn 0 = .ok (.aload_n 0, 1) := by decide +kernel
theorem dX8_turn_1 : decode cX8_turn 1 = .ok (.iload_n 1, 1) := by decide +kernel
theorem dX8_turn_2 : decode cX8_turn 2 = .ok (.invokevirtual 199, 3) := by decide +kernel
theorem dX8_turn_5 : decode cX8_turn 5 = .ok (.ifCond .eq 15, 3) := by decide +kernel
theorem dX8_turn_8 : decode cX8_turn 8 = .ok (.iload_n 2, 1) := by decide +kernel
theorem dX8_turn_9 : decode cX8_turn 9 = .ok (.i2l, 1) := by decide +kernel
theorem dX8_turn_10 : decode cX8_turn 10 = .ok (.lconst 0, 1) := by decide +kernel
theorem dX8_turn_11 : decode cX8_turn 11 = .ok (.ldc2_w 204, 3) := by decide +kernel
theorem dX8_turn_14 : decode cX8_turn 14 = .ok (.invokestatic 83, 3) := by decide +kernel
theorem dX8_turn_17 : decode cX8_turn 17 = .ok (.ifCond .ne 6, 3) := by decide +kernel
theorem dX8_turn_20 : decode cX8_turn 20 = .ok (.bipush (-2), 2) := by decide +kernel
theorem dX8_turn_22 : decode cX8_turn 22 = .ok (.ireturn, 1) := by decide +kernel
theorem dX8_turn_23 : decode cX8_turn 23 = .ok (.aload_n 0, 1) := by decide +kernel
theorem dX8_turn_24 : decode cX8_turn 24 = .ok (.getfield 21, 3) := by decide +kernel
theorem dX8_turn_27 : decode cX8_turn 27 = .ok (.bipush 19, 2) := by decide +kernel
theorem dX8_turn_29 : decode cX8_turn 29 = .ok (.iload_n 1, 1) := by decide +kernel
theorem dX8_turn_30 : decode cX8_turn 30 = .ok (.iadd, 1) := by decide +kernel
theorem dX8_turn_31 : decode cX8_turn 31 = .ok (.iaload, 1) := by decide +kernel
theorem dX8_turn_32 : decode cX8_turn 32 = .ok (.iconst 4, 1) := by decide +kernel
theorem dX8_turn_33 : decode cX8_turn 33 = .ok (.irem, 1) := by decide +kernel
theorem dX8_turn_34 : decode cX8_turn 34 = .ok (.istore_n 3, 1) := by decide +kernel
theorem dX8_turn_35 : decode cX8_turn 35 = .ok (.iload_n 3, 1) := by decide +kernel
theorem dX8_turn_36 : decode cX8_turn 36 = .ok (.iload_n 2, 1) := by decide +kernel
theorem dX8_turn_37 : decode cX8_turn 37 = .ok (.if_icmp .eq 10, 3) := by decide +kernel
theorem dX8_turn_40 : decode cX8_turn 40 = .ok (.aload_n 0, 1) := by decide +kernel
theorem dX8_turn_41 : decode cX8_turn 41 = .ok (.invokevirtual 425, 3) := by decide +kernel
theorem dX8_turn_44 : decode cX8_turn 44 = .ok (.ifCond .eq 6, 3) := by decide +kernel
theorem dX8_turn_47 : decode cX8_turn 47 = .ok (.bipush (-5), 2) := by decide +kernel
theorem dX8_turn_49 : decode cX8_turn 49 = .ok (.ireturn, 1) := by decide +kernel
theorem dX8_turn_50 : decode cX8_turn 50 = .ok (.aload_n 0, 1) := by decide +kernel
theorem dX8_turn_51 : decode cX8_turn 51 = .ok (.invokevirtual 428, 3) := by decide +kernel
theorem dX8_turn_54 : decode cX8_turn 54 = .ok (.aload_n 0, 1) := by decide +kernel
theorem dX8_turn_55 : decode cX8_turn 55 = .ok (.getfield 21, 3) := by decide +kernel
theorem dX8_turn_58 : decode cX8_turn 58 = .ok (.bipush 19, 2) := by decide +kernel
theorem dX8_turn_60 : decode cX8_turn 60 = .ok (.iload_n 1, 1) := by decide +kernel
theorem dX8_turn_61 : decode cX8_turn 61 = .ok (.iadd, 1) := by decide +kernel
theorem dX8_turn_62 : decode cX8_turn 62 = .ok (.dup2, 1) := by decide +kernel
theorem dX8_turn_63 : decode cX8_turn 63 = .ok (.iaload, 1) := by decide +kernel
theorem dX8_turn_64 : decode cX8_turn 64 = .ok (.iload_n 2, 1) := by decide +kernel
theorem dX8_turn_65 : decode cX8_turn 65 = .ok (.iload_n 3, 1) := by decide +kernel
theorem dX8_turn_66 : decode cX8_turn 66 = .ok (.isub, 1) := by decide +kernel
theorem dX8_turn_67 : decode cX8_turn 67 = .ok (.iadd, 1) := by decide +kernel
theorem dX8_turn_68 : decode cX8_turn 68 = .ok (.iastore, 1) := by decide +kernel
theorem dX8_turn_69 : decode cX8_turn 69 = .ok (.iload_n 3, 1) := by decide +kernel
theorem dX8_turn_70 : decode cX8_turn 70 = .ok (.ireturn, 1) := by decide +kernel
noncomputable def fX8_turn  (t_mem : Nat → Int32) (t_acted : Int32) (t_past : Nat → Int32) (v1 : Int32) (v2 : Int32) : Option (Int32 × (Nat → Int32) × Int32 × (Nat → Int32)) := (fX8_isPly t_mem v1).bind fun r1 => (if r1 = 0 then some ((-2), t_mem, t_acted, t_past) else (if (fX8_in v2.toInt64 0 3) = 0 then some ((-2), t_mem, t_acted, t_past) else chk 27 (19 + v1) ((if (irem (t_mem (19 + v1).toNatClampNeg) 4) = v2 then some ((-5), t_mem, t_acted, t_past) else (if (fX8_isFull t_acted) = 0 then ob2 (fX8_keeps t_mem t_acted t_past) fun w12 w13 => chk 27 (19 + v1) (chk 27 (19 + v1) (some ((irem (t_mem (19 + v1).toNatClampNeg) 4), upd t_mem ((19 + v1).toNatClampNeg) ((t_mem (19 + v1).toNatClampNeg) + (v2 - (irem (t_mem (19 + v1).toNatClampNeg) 4))), w12, w13))) else some ((-5), t_mem, t_acted, t_past))))))
set_option maxHeartbeats 4000000 in
set_option maxRecDepth 100000 in
theorem ctX8_turn (l : Launch) (g : GT) (sz : Nat) (a_t : Nat → Nat) (t_acted : Int32) (t_taped : Int32) (t_faultKind : Int32) (t_faultPlace : Int32) (t_at : Int32) (t_begin : Int32) (t_token : Int32) (t_value : Int32) (t_bad : Int32) (t_wide : Int32) (t_lost : Int32) (t_det : Int64) (t_mask : Int32) (t_mode : Int32) (t_wanted : Int32) (t_orders : Int32) (t_foundAt : Int32) (t_foundBy : Int64) (t_unlikes : Int32) (t_mem : Nat → Int32) (t_past : Nat → Int32) (v1 : Int32) (v2 : Int32) (o : Int32) (o_t_mem : Nat → Int32) (o_t_acted : Int32) (o_t_past : Nat → Int32) (h : fX8_turn t_mem t_acted t_past v1 v2 = some (o, o_t_mem, o_t_acted, o_t_past)) : Met l yX8_turn (Cond.code yX8_turn cX8_turn 4 (some .int) :: Tw) ⟨2, 0, 0, 46⟩ (va_Pc [.ref ((a_t 0)), .int v1, .int v2] (rwB g [((a_t 0), .inr (7, [.ref (a_t 1), .ref (a_t 2), .int t_acted, .ref (a_t 4), .ref (a_t 5), .ref (a_t 6), .ref (a_t 7), .ref (a_t 8), .ref (a_t 9), .int t_taped, .int t_faultKind, .int t_faultPlace, .int t_at, .int t_begin, .int t_token, .int t_value, .int t_bad, .ref (a_t 18), .ref (a_t 19), .ref (a_t 20), .int t_wide, .int t_lost, .ref (a_t 23), .long t_det, .ref (a_t 25), .int t_mask, .int t_mode, .int t_wanted, .int t_orders, .int t_foundAt, .long t_foundBy, .ref (a_t 32), .ref (a_t 33), .int t_unlikes, .ref (a_t 35), .ref (a_t 36)])), ((a_t 1), .inl (g.2.2.1 0, 27, .inl t_mem)), ((a_t 4), .inl (g.2.2.1 0, 810, .inl t_past))] sz)) (va_Qi (fun x (_ : Nat → Nat) => x = o) (fun u => rwE g (va_A [((a_t 0), .inr (7, [.ref (a_t 1), .ref (a_t 2), .int t_acted, .ref (a_t 4), .ref (a_t 5), .ref (a_t 6), .ref (a_t 7), .ref (a_t 8), .ref (a_t 9), .int t_taped, .int t_faultKind, .int t_faultPlace, .int t_at, .int t_begin, .int t_token, .int t_value, .int t_bad, .ref (a_t 18), .ref (a_t 19), .ref (a_t 20), .int t_wide, .int t_lost, .ref (a_t 23), .long t_det, .ref (a_t 25), .int t_mask, .int t_mode, .int t_wanted, .int t_orders, .int t_foundAt, .long t_foundBy, .ref (a_t 32), .ref (a_t 33), .int t_unlikes, .ref (a_t 35), .ref (a_t 36)])), ((a_t 1), .inl (g.2.2.1 0, 27, .inl t_mem)), ((a_t 4), .inl (g.2.2.1 0, 810, .inl t_past))] sz) [((a_t 0), .inr (7, [.ref (a_t 1), .ref (a_t 2), .int o_t_acted, .ref (a_t 4), .ref (a_t 5), .ref (a_t 6), .ref (a_t 7), .ref (a_t 8), .ref (a_t 9), .int t_taped, .int t_faultKind, .int t_faultPlace, .int t_at, .int t_begin, .int t_token, .int t_value, .int t_bad, .ref (a_t 18), .ref (a_t 19), .ref (a_t 20), .int t_wide, .int t_lost, .ref (a_t 23), .long t_det, .ref (a_t 25), .int t_mask, .int t_mode, .int t_wanted, .int t_orders, .int t_foundAt, .long t_foundBy, .ref (a_t 32), .ref (a_t 33), .int t_unlikes, .ref (a_t 35), .ref (a_t 36)])), ((a_t 1), .inl (g.2.2.1 0, 27, .inl o_t_mem)), ((a_t 4), .inl (g.2.2.1 0, 810, .inl o_t_past))]) (va_A [((a_t 0), .inr (7, [.ref (a_t 1), .ref (a_t 2), .int t_acted, .ref (a_t 4), .ref (a_t 5), .ref (a_t 6), .ref (a_t 7), .ref (a_t 8), .ref (a_t 9), .int t_taped, .int t_faultKind, .int t_faultPlace, .int t_at, .int t_begin, .int t_token, .int t_value, .int t_bad, .ref (a_t 18), .ref (a_t 19), .ref (a_t 20), .int t_wide, .int t_lost, .ref (a_t 23), .long t_det, .ref (a_t 25), .int t_mask, .int t_mode, .int t_wanted, .int t_orders, .int t_foundAt, .long t_foundBy, .ref (a_t 32), .ref (a_t 33), .int t_unlikes, .ref (a_t 35), .ref (a_t 36)])), ((a_t 1), .inl (g.2.2.1 0, 27, .inl t_mem)), ((a_t 4), .inl (g.2.2.1 0, 810, .inl t_past))] sz)) 0 0 (va_A [((a_t 0), .inr (7, [.ref (a_t 1), .ref (a_t 2), .int t_acted, .ref (a_t 4), .ref (a_t 5), .ref (a_t 6), .ref (a_t 7), .ref (a_t 8), .ref (a_t 9), .int t_taped, .int t_faultKind, .int t_faultPlace, .int t_at, .int t_begin, .int t_token, .int t_value, .int t_bad, .ref (a_t 18), .ref (a_t 19), .ref (a_t 20), .int t_wide, .int t_lost, .ref (a_t 23), .long t_det, .ref (a_t 25), .int t_mask, .int t_mode, .int t_wanted, .int t_orders, .int t_foundAt, .long t_foundBy, .ref (a_t 32), .ref (a_t 33), .int t_unlikes, .ref (a_t 35), .ref (a_t 36)])), ((a_t 1), .inl (g.2.2.1 0, 27, .inl t_mem)), ((a_t 4), .inl (g.2.2.1 0, 810, .inl t_past))] sz) := by
  refine rw_meti (by decide) (Nat.le_of_ble_eq_true rfl) (lv0 := [(0, .ref ((a_t 0))), (1, .int v1), (2, .int v2)]) rfl ?_
  intro p e s m args below meth c ls Q A cx hret hG hAb hb0 hA hP hD hl
  have hx := cx.1
  have hb := cx.2.1
  have hG0 := hG
  have hGk : ∀ {H : Heap} {locs : List Loc}, va_S A s.heap H locs → GE g s H := fun hS => hG0.keptS hAb hS
  have hSb : ∀ {H : Heap} {locs : List Loc}, va_S A s.heap H locs → va_S (fun a => g.1 ≤ a) s.heap H locs := fun hS => ⟨hS.1, fun q h1 h2 => hS.2.1 q h1 (fun z => h2 (hAb q z)), fun l hl => hAb _ (hS.2.2 l hl)⟩
  have hS : va_S A s.heap s.heap [] := va_S.rf
  have hrt : ∀ (u : Nat → Nat) (pc : Nat) (ls : Array Slot) (v : Int32) (x_t_mem : Nat → Int32) (x_t_acted : Int32) (x_t_past : Nat → Int32) (H : Heap) (locs : List Loc), decode cX8_turn pc = .ok (.ireturn, 1) → some (v, x_t_mem, x_t_acted, x_t_past) = some (o, o_t_mem, o_t_acted, o_t_past) → va_P g.2.1 vwCl [((a_t 0), .inr (7, [.ref (a_t 1), .ref (a_t 2), .int x_t_acted, .ref (a_t 4), .ref (a_t 5), .ref (a_t 6), .ref (a_t 7), .ref (a_t 8), .ref (a_t 9), .int t_taped, .int t_faultKind, .int t_faultPlace, .int t_at, .int t_begin, .int t_token, .int t_value, .int t_bad, .ref (a_t 18), .ref (a_t 19), .ref (a_t 20), .int t_wide, .int t_lost, .ref (a_t 23), .long t_det, .ref (a_t 25), .int t_mask, .int t_mode, .int t_wanted, .int t_orders, .int t_foundAt, .long t_foundBy, .ref (a_t 32), .ref (a_t 33), .int t_unlikes, .ref (a_t 35), .ref (a_t 36)])), ((a_t 1), .inl (g.2.2.1 0, 27, .inl x_t_mem)), ((a_t 4), .inl (g.2.2.1 0, 810, .inl x_t_past))] H → va_D A [((a_t 0), .inr (7, [.ref (a_t 1), .ref (a_t 2), .int x_t_acted, .ref (a_t 4), .ref (a_t 5), .ref (a_t 6), .ref (a_t 7), .ref (a_t 8), .ref (a_t 9), .int t_taped, .int t_faultKind, .int t_faultPlace, .int t_at, .int t_begin, .int t_token, .int t_value, .int t_bad, .ref (a_t 18), .ref (a_t 19), .ref (a_t 20), .int t_wide, .int t_lost, .ref (a_t 23), .long t_det, .ref (a_t 25), .int t_mask, .int t_mode, .int t_wanted, .int t_orders, .int t_foundAt, .long t_foundBy, .ref (a_t 32), .ref (a_t 33), .int t_unlikes, .ref (a_t 35), .ref (a_t 36)])), ((a_t 1), .inl (g.2.2.1 0, 27, .inl x_t_mem)), ((a_t 4), .inl (g.2.2.1 0, 810, .inl x_t_past))] → va_S A s.heap H locs → W p l e ⟨2, 0, 0, 46⟩ s m args below meth c H locs 0 0 Q (F0 m pc ls [.int v]) := by
    intro u pc ls v x_t_mem x_t_acted x_t_past H locs hd h hP hD hS
    cases h
    exact hret u _ _ _ _ _ hd rfl hP hD hS
  unfold fX8_turn at h
  refine lv_aload_n hx hb dX8_turn_0 rfl (lv_at hl 0 rfl) ?_
  refine lv_iload_n hx hb dX8_turn_1 rfl (lv_at hl 1 rfl) ?_
  obtain ⟨r1, hr2, h⟩ := bnd h
  refine ro_z (runV (As := [.int v1]) (rest := []) cx hl.1 (ctX8_isPly l g a_t t_acted t_taped t_faultKind t_faultPlace t_at t_begin t_token t_value t_bad t_wide t_lost t_det t_mask t_mode t_wanted t_orders t_foundAt t_foundBy t_unlikes t_mem v1 r1 hr2) kmX8_isPly kvX8_isPly lm_X8_199 ⟨rfl, rfl⟩ ⟨Nat.le_of_ble_eq_true rfl, Nat.le_of_ble_eq_true rfl⟩ (roV (q0 := 0) (ci := 7) hG (hP.sub [0, 1] rfl) hP rfl rfl) rfl rfl (Nat.le_of_ble_eq_true rfl) dX8_turn_2 ⟨Nat.le_of_ble_eq_true rfl, Nat.le_of_ble_eq_true rfl⟩) (fun hz3 => ?_)
  refine lv_if_eq (tgt := 20) hx hb dX8_turn_5 (by decide) (fun c4 => ?_) (fun c4 => ?_)
  · have h := itp c4 h
    refine lv_bipush (v := -2) hx hb dX8_turn_20 (by decide) ?_
    exact hrt (fun _ => 0) _ _ ((-2)) t_mem t_acted t_past _ _ dX8_turn_22 h (hP.sub [0, 1, 2] rfl) (hD.sub [0, 1, 2] (by decide) rfl) hS
  · have h := itn c4 h
    refine lv_iload_n hx hb dX8_turn_8 rfl (lv_at hl 2 rfl) ?_
    refine lv_i2l (v := v2.toInt64) hx hb dX8_turn_9 rfl ?_
    refine lv_lconst (v := 0) hx hb dX8_turn_10 (by decide) ?_
    refine lv_ldc2 (own := RX8) (v := 3) hx hb cx.2.2.2.1 (cx.2.2.2.2 _ cl_X8_204) dX8_turn_11 ?_
    refine ro_z (runS (As := [.long v2.toInt64, .long (0), .long (3)]) (rest := []) cx hl.1 (ctX8_in l g v2.toInt64 (0) (3) (fX8_in v2.toInt64 0 3) rfl) kmX8_in ksX8_in lm_X8_83 ⟨rfl, rfl⟩ ⟨Nat.le_of_ble_eq_true rfl, Nat.le_of_ble_eq_true rfl⟩ (roS hG (hP.sub [] rfl)) rfl rfl (Nat.le_of_ble_eq_true rfl) dX8_turn_14 ⟨Nat.le_of_ble_eq_true rfl, Nat.le_of_ble_eq_true rfl⟩) (fun hz5 => ?_)
    refine lv_if_ne (tgt := 23) hx hb dX8_turn_17 (by decide) (fun c6 => ?_) (fun c6 => ?_)
    · have h := itn c6 h
      refine lv_aload_n hx hb dX8_turn_23 rfl (lv_at hl 0 rfl) ?_
      refine xa_get (C := RX8) (T := TX8) (N := 36) cx hG hP 0 rfl rfl uX8 0 (by decide) lf_X8_21 rfl dX8_turn_24 ?_
      refine lv_bipush (v := 19) hx hb dX8_turn_27 (by decide) ?_
      refine lv_iload_n hx hb dX8_turn_29 rfl (lv_at hl 1 rfl) ?_
      refine lv_iadd hx hb dX8_turn_30 ?_
      obtain ⟨hi7, h⟩ := chk_out h
      refine xa_iald cx hG hP 1 rfl hi7 rfl dX8_turn_31 ?_
      refine lv_iconst (v := 4) hx hb dX8_turn_32 (by decide) ?_
      refine xv_irem hx hb dX8_turn_33 (by decide) ?_
      refine lv_istore_n (lv' := [(3, .int (irem (t_mem (19 + v1).toNatClampNeg) 4)), (0, .ref ((a_t 0))), (1, .int v1), (2, .int v2)]) hx hb dX8_turn_34 rfl hl (by decide) rfl (fun ls hl => ?_)
      refine lv_iload_n hx hb dX8_turn_35 rfl (lv_at hl 0 rfl) ?_
      refine lv_iload_n hx hb dX8_turn_36 rfl (lv_at hl 3 rfl) ?_
      refine lv_icmp_eq (tgt := 47) hx hb dX8_turn_37 (by decide) (fun c8 => ?_) (fun c8 => ?_)
      · have h := itp c8 h
        refine lv_bipush (v := -5) hx hb dX8_turn_47 (by decide) ?_
        exact hrt (fun _ => 0) _ _ ((-5)) t_mem t_acted t_past _ _ dX8_turn_49 h (hP.sub [0, 1, 2] rfl) (hD.sub [0, 1, 2] (by decide) rfl) hS
      · have h := itn c8 h
        refine lv_aload_n hx hb dX8_turn_40 rfl (lv_at hl 1 rfl) ?_
        refine ro_z (runV (As := []) (rest := []) cx hl.1 (ctX8_isFull l g a_t t_acted t_taped t_faultKind t_faultPlace t_at t_begin t_token t_value t_bad t_wide t_lost t_det t_mask t_mode t_wanted t_orders t_foundAt t_foundBy t_unlikes (fX8_isFull t_acted) rfl) kmX8_isFull kvX8_isFull lm_X8_425 ⟨rfl, rfl⟩ ⟨Nat.le_of_ble_eq_true rfl, Nat.le_of_ble_eq_true rfl⟩ (roV (q0 := 0) (ci := 7) hG (hP.sub [0] rfl) hP rfl rfl) rfl rfl (Nat.le_of_ble_eq_true rfl) dX8_turn_41 ⟨Nat.le_of_ble_eq_true rfl, Nat.le_of_ble_eq_true rfl⟩) (fun hz9 => ?_)
        refine lv_if_eq (tgt := 50) hx hb dX8_turn_44 (by decide) (fun c10 => ?_) (fun c10 => ?_)
        · have h := itp c10 h
          refine lv_aload_n hx hb dX8_turn_50 rfl (lv_at hl 1 rfl) ?_
          obtain ⟨w12, w13, hr11, h⟩ := ob2_out h
          refine rw_v (WN := fun u14 => [((a_t 0), .inr (7, [.ref (a_t 1), .ref (a_t 2), .int w12, .ref (a_t 4), .ref (a_t 5), .ref (a_t 6), .ref (a_t 7), .ref (a_t 8), .ref (a_t 9), .int t_taped, .int t_faultKind, .int t_faultPlace, .int t_at, .int t_begin, .int t_token, .int t_value, .int t_bad, .ref (a_t 18), .ref (a_t 19), .ref (a_t 20), .int t_wide, .int t_lost, .ref (a_t 23), .long t_det, .ref (a_t 25), .int t_mask, .int t_mode, .int t_wanted, .int t_orders, .int t_foundAt, .long t_foundBy, .ref (a_t 32), .ref (a_t 33), .int t_unlikes, .ref (a_t 35), .ref (a_t 36)])), ((a_t 1), .inl (g.2.2.1 0, 27, .inl t_mem)), ((a_t 4), .inl (g.2.2.1 0, 810, .inl w13))]) (wr := []) (runV (As := []) (rest := []) cx hl.1 (ctX8_keeps l g s.heap.size a_t t_acted t_taped t_faultKind t_faultPlace t_at t_begin t_token t_value t_bad t_wide t_lost t_det t_mask t_mode t_wanted t_orders t_foundAt t_foundBy t_unlikes t_mem t_past w12 w13 hr11) kmX8_keeps kvX8_keeps lm_X8_428 ⟨rfl, rfl⟩ ⟨Nat.le_of_ble_eq_true rfl, Nat.le_of_ble_eq_true rfl⟩ (rwV (q0 := 0) (ci := 7) hG (hP.sub [0, 1, 2] rfl) (hD.sub [0, 1, 2] (by decide) rfl) hAb hb0 hS hP rfl rfl) rfl rfl (Nat.le_of_ble_eq_true rfl) dX8_turn_51 ⟨Nat.le_of_ble_eq_true rfl, Nat.le_of_ble_eq_true rfl⟩) hP hD hS hA [0, 1, 2] [] rfl rfl (by decide) (by decide) (fun _ => rfl) (fun u14 H locs hP hD hS => ?_)
          have hG := hGk hS
          refine lv_aload_n hx hb dX8_turn_54 rfl (lv_at hl 1 rfl) ?_
          refine xa_get (C := RX8) (T := TX8) (N := 36) cx hG hP 0 rfl rfl uX8 0 (by decide) lf_X8_21 rfl dX8_turn_55 ?_
          refine lv_bipush (v := 19) hx hb dX8_turn_58 (by decide) ?_
          refine lv_iload_n hx hb dX8_turn_60 rfl (lv_at hl 2 rfl) ?_
          refine lv_iadd hx hb dX8_turn_61 ?_
          refine lv_dup2_11 hx hb dX8_turn_62 rfl rfl ?_
          obtain ⟨hi15, h⟩ := chk_out h
          refine xa_iald cx hG hP 1 rfl hi15 rfl dX8_turn_63 ?_
          refine lv_iload_n hx hb dX8_turn_64 rfl (lv_at hl 3 rfl) ?_
          refine lv_iload_n hx hb dX8_turn_65 rfl (lv_at hl 0 rfl) ?_
          refine lv_isub hx hb dX8_turn_66 ?_
          refine lv_iadd hx hb dX8_turn_67 ?_
          obtain ⟨hi16, h⟩ := chk_out h
          refine xw_iast (ws' := [((a_t 0), .inr (7, [.ref (a_t 1), .ref (a_t 2), .int w12, .ref (a_t 4), .ref (a_t 5), .ref (a_t 6), .ref (a_t 7), .ref (a_t 8), .ref (a_t 9), .int t_taped, .int t_faultKind, .int t_faultPlace, .int t_at, .int t_begin, .int t_token, .int t_value, .int t_bad, .ref (a_t 18), .ref (a_t 19), .ref (a_t 20), .int t_wide, .int t_lost, .ref (a_t 23), .long t_det, .ref (a_t 25), .int t_mask, .int t_mode, .int t_wanted, .int t_orders, .int t_foundAt, .long t_foundBy, .ref (a_t 32), .ref (a_t 33), .int t_unlikes, .ref (a_t 35), .ref (a_t 36)])), ((a_t 1), .inl (g.2.2.1 0, 27, .inl (upd t_mem ((19 + v1).toNatClampNeg) ((t_mem (19 + v1).toNatClampNeg) + (v2 - (irem (t_mem (19 + v1).toNatClampNeg) 4)))))), ((a_t 4), .inl (g.2.2.1 0, 810, .inl w13))]) (k := ((19 + v1).toNatClampNeg)) cx hG hP hD hS 1 rfl hi16 rfl rfl dX8_turn_68 (fun H locs hP hD hS => ?_)
          have hG := hGk hS
          refine lv_iload_n hx hb dX8_turn_69 rfl (lv_at hl 0 rfl) ?_
          exact hrt (fun _ => 0) _ _ ((irem (t_mem (19 + v1).toNatClampNeg) 4)) (upd t_mem ((19 + v1).toNatClampNeg) ((t_mem (19 + v1).toNatClampNeg) + (v2 - (irem (t_mem (19 + v1).toNatClampNeg) 4)))) w12 w13 _ _ dX8_turn_70 h (hP.sub [0, 1, 2] rfl) (hD.sub [0, 1, 2] (by decide) rfl) hS
        · have h := itn c10 h
          refine lv_bipush (v := -5) hx hb dX8_turn_47 (by decide) ?_
          exact hrt (fun _ => 0) _ _ ((-5)) t_mem t_acted t_past _ _ dX8_turn_49 h (hP.sub [0, 1, 2] rfl) (hD.sub [0, 1, 2] (by decide) rfl) hS
    · have h := itp c6 h
      refine lv_bipush (v := -2) hx hb dX8_turn_20 (by decide) ?_
      exact hrt (fun _ => 0) _ _ ((-2)) t_mem t_acted t_past _ _ dX8_turn_22 h (hP.sub [0, 1, 2] rfl) (hD.sub [0, 1, 2] (by decide) rfl) hS
-- X8_put
theorem dX8_put_0 : decode cX8_put 0 = .ok (.aload_n 0, 1) := by decide +kernel
theorem dX8_put_1 : decode cX8_put 1 = .ok (.invokevirtual 236, 3) := by decide +kernel
theorem dX8_put_4 : decode cX8_put 4 = .ok (.ifCond .eq 39, 3) := by decide +kernel
theorem dX8_put_7 : decode cX8_put 7 = .ok (.iload_n 1, 1) := by decide +kernel
theorem dX8_put_8 : decode cX8_put 8 = .ok (.i2l, 1) := by decide +kernel
theorem dX8_put_9 : decode cX8_put 9 = .ok (.lconst 0, 1) := by decide +kernel
theorem dX8_put_10 : decode cX8_put 10 = .ok (.aload_n 0, 1) := by decide +kernel
theorem dX8_put_11 : decode cX8_put 11 = .ok (.getfield 21, 3) := by decide +kernel
theorem dX8_put_14 : decode cX8_put 14 = .ok (.iconst 2, 1) := by decide +kernel
theorem dX8_put_15 : decode cX8_put 15 = .ok (.iaload, 1) := by decide +kernel
theorem dX8_put_16 : decode cX8_put 16 = .ok (.i2l, 1) := by decide +kernel
theorem dX8_put_17 : decode cX8_put 17 = .ok (.invokestatic 83, 3) := by decide +kernel
theorem dX8_put_20 : decode cX8_put 20 = .ok (.ifCond .eq 23, 3) := by decide +kernel
theorem dX8_put_23 : decode cX8_put 23 = .ok (.aload_n 0, 1) := by decide +kernel
theorem dX8_put_24 : decode cX8_put 24 = .ok (.iload_n 2, 1) := by decide +kernel
theorem dX8_put_25 : decode cX8_put 25 = .ok (.invokevirtual 193, 3) := by decide +kernel
theorem dX8_put_28 : decode cX8_put 28 = .ok (.ifCond .eq 15, 3) := by decide +kernel
theorem dX8_put_31 : decode cX8_put 31 = .ok (.iload_n 3, 1) := by decide +kernel
theorem dX8_put_32 : decode cX8_put 32 = .ok (.i2l, 1) := by decide +kernel
theorem dX8_put_33 : decode cX8_put 33 = .ok (.lconst 0, 1) := by decide +kernel
theorem dX8_put_34 : decode cX8_put 34 = .ok (.ldc2_w 204, 3) := by decide +kernel
theorem dX8_put_37 : decode cX8_put 37 = .ok (.invokestatic 83, 3) := by decide +kernel
theorem dX8_put_40 : decode cX8_put 40 = .ok (.ifCond .ne 6, 3) := by decide +kernel
theorem dX8_put_43 : decode cX8_put 43 = .ok (.bipush (-2), 2) := by decide +kernel
theorem dX8_put_45 : decode cX8_put 45 = .ok (.ireturn, 1) := by decide +kernel
theorem dX8_put_46 : decode cX8_put 46 = .ok (.aload_n 0, 1) := by decide +kernel
theorem dX8_put_47 : decode cX8_put 47 = .ok (.getfield 21, 3) := by decide +kernel
theorem dX8_put_50 : decode cX8_put 50 = .ok (.iconst 2, 1) := by decide +kernel
theorem dX8_put_51 : decode cX8_put 51 = .ok (.iaload, 1) := by decide +kernel
theorem dX8_put_52 : decode cX8_put 52 = .ok (.bipush 8, 2) := by decide +kernel
theorem dX8_put_54 : decode cX8_put 54 = .ok (.if_icmp .eq 10, 3) := by decide +kernel
theorem dX8_put_57 : decode cX8_put 57 = .ok (.aload_n 0, 1) := by decide +kernel
theorem dX8_put_58 : decode cX8_put 58 = .ok (.invokevirtual 425, 3) := by decide +kernel
theorem dX8_put_61 : decode cX8_put 61 = .ok (.ifCond .eq 6, 3) := by decide +kernel
theorem dX8_put_64 : decode cX8_put 64 = .ok (.bipush (-5), 2) := by decide +kernel
theorem dX8_put_66 : decode cX8_put 66 = .ok (.ireturn, 1) := by decide +kernel
theorem dX8_put_67 : decode cX8_put 67 = .ok (.aload_n 0, 1) := by decide +kernel
theorem dX8_put_68 : decode cX8_put 68 = .ok (.invokevirtual 428, 3) := by decide +kernel
theorem dX8_put_71 : decode cX8_put 71 = .ok (.aload_n 0, 1) := by decide +kernel
theorem dX8_put_72 : decode cX8_put 72 = .ok (.getfield 21, 3) := by decide +kernel
theorem dX8_put_75 : decode cX8_put 75 = .ok (.iconst 2, 1) := by decide +kernel
theorem dX8_put_76 : decode cX8_put 76 = .ok (.iaload, 1) := by decide +kernel
theorem dX8_put_77 : decode cX8_put 77 = .ok (.istore 4, 2) := by decide +kernel
theorem dX8_put_79 : decode cX8_put 79 = .ok (.iload 4, 2) := by decide +kernel
theorem dX8_put_81 : decode cX8_put 81 = .ok (.iload_n 1, 1) := by decide +kernel
theorem dX8_put_82 : decode cX8_put 82 = .ok (.if_icmp .le 31, 3) := by decide +kernel
theorem dX8_put_85 : decode cX8_put 85 = .ok (.aload_n 0, 1) := by decide +kernel
theorem dX8_put_86 : decode cX8_put 86 = .ok (.getfield 21, 3) := by decide +kernel
theorem dX8_put_89 : decode cX8_put 89 = .ok (.bipush 19, 2) := by decide +kernel
theorem dX8_put_91 : decode cX8_put 91 = .ok (.iload 4, 2) := by decide +kernel
theorem dX8_put_93 : decode cX8_put 93 = .ok (.iadd, 1) := by decide +kernel
theorem dX8_put_94 : decode cX8_put 94 = .ok (.aload_n 0, 1) := by decide +kernel
theorem dX8_put_95 : decode cX8_put 95 = .ok (.getfield 21, 3) := by decide +kernel
theorem dX8_put_98 : decode cX8_put 98 = .ok (.bipush 19, 2) := by decide +kernel
theorem dX8_put_100 : decode cX8_put 100 = .ok (.iload 4, 2) := by decide +kernel
theorem dX8_put_102 : decode cX8_put 102 = .ok (.iadd, 1) := by decide +kernel
theorem dX8_put_103 : decode cX8_put 103 = .ok (.iconst 1, 1) := by decide +kernel
theorem dX8_put_104 : decode cX8_put 104 = .ok (.isub, 1) := by decide +kernel
theorem dX8_put_105 : decode cX8_put 105 = .ok (.iaload, 1) := by decide +kernel
theorem dX8_put_106 : decode cX8_put 106 = .ok (.iastore, 1) := by decide +kernel
theorem dX8_put_107 : decode cX8_put 107 = .ok (.iinc 4 (-1), 3) := by decide +kernel
theorem dX8_put_110 : decode cX8_put 110 = .ok (.goto (-31), 3) := by decide +kernel
theorem dX8_put_113 : decode cX8_put 113 = .ok (.aload_n 0, 1) := by decide +kernel
theorem dX8_put_114 : decode cX8_put 114 = .ok (.getfield 21, 3) := by decide +kernel
theorem dX8_put_117 : decode cX8_put 117 = .ok (.bipush 19, 2) := by decide +kernel
theorem dX8_put_119 : decode cX8_put 119 = .ok (.iload_n 1, 1) := by decide +kernel
theorem dX8_put_120 : decode cX8_put 120 = .ok (.iadd, 1) := by decide +kernel
theorem dX8_put_121 : decode cX8_put 121 = .ok (.iconst 4, 1) := by decide +kernel
theorem dX8_put_122 : decode cX8_put 122 = .ok (.iload_n 2, 1) := by decide +kernel
theorem dX8_put_123 : decode cX8_put 123 = .ok (.imul, 1) := by decide +kernel
theorem dX8_put_124 : decode cX8_put 124 = .ok (.iload_n 3, 1) := by decide +kernel
theorem dX8_put_125 : decode cX8_put 125 = .ok (.iadd, 1) := by decide +kernel
theorem dX8_put_126 : decode cX8_put 126 = .ok (.iastore, 1) := by decide +kernel
theorem dX8_put_127 : decode cX8_put 127 = .ok (.aload_n 0, 1) := by decide +kernel
theorem dX8_put_128 : decode cX8_put 128 = .ok (.getfield 21, 3) := by decide +kernel
theorem dX8_put_131 : decode cX8_put 131 = .ok (.iconst 2, 1) := by decide +kernel
theorem dX8_put_132 : decode cX8_put 132 = .ok (.dup2, 1) := by decide +kernel
theorem dX8_put_133 : decode cX8_put 133 = .ok (.iaload, 1) := by decide +kernel
theorem dX8_put_134 : decode cX8_put 134 = .ok (.iconst 1, 1) := by decide +kernel
theorem dX8_put_135 : decode cX8_put 135 = .ok (.iadd, 1) := by decide +kernel
theorem dX8_put_136 : decode cX8_put 136 = .ok (.iastore, 1) := by decide +kernel
theorem dX8_put_137 : decode cX8_put 137 = .ok (.aload_n 0, 1) := by decide +kernel
theorem dX8_put_138 : decode cX8_put 138 = .ok (.getfield 21, 3) := by decide +kernel
theorem dX8_put_141 : decode cX8_put 141 = .ok (.iconst 2, 1) := by decide +kernel
theorem dX8_put_142 : decode cX8_put 142 = .ok (.iaload, 1) := by decide +kernel
theorem dX8_put_143 : decode cX8_put 143 = .ok (.ireturn, 1) := by decide +kernel
noncomputable def fX8_put_113  (t_mem : Nat → Int32) (t_acted : Int32) (t_past : Nat → Int32) (v1 : Int32) (v2 : Int32) (v3 : Int32) : Option (Int32 × (Nat → Int32) × Int32 × (Nat → Int32)) := chk 27 (19 + v1) (some (((upd (upd t_mem ((19 + v1).toNatClampNeg) ((4 * v2) + v3)) 2 (((upd t_mem ((19 + v1).toNatClampNeg) ((4 * v2) + v3)) 2) + 1)) 2), upd (upd t_mem ((19 + v1).toNatClampNeg) ((4 * v2) + v3)) 2 (((upd t_mem ((19 + v1).toNatClampNeg) ((4 * v2) + v3)) 2) + 1), t_acted, t_past))
noncomputable def fX8_put_79  : Nat → (Nat → Int32) → Int32 → (Nat → Int32) → Int32 → Int32 → Int32 → Int32 → Option (Int32 × (Nat → Int32) × Int32 × (Nat → Int32))
  | 0, _, _, _, _, _, _, _ => none
  | n + 1, t_mem, t_acted, t_past, v1, v2, v3, v4 => (if v4 ≤ v1 then fX8_put_113 t_mem t_acted t_past v1 v2 v3 else chk 27 ((19 + v4) - 1) (chk 27 (19 + v4) (fX8_put_79 n (upd t_mem ((19 + v4).toNatClampNeg) (t_mem ((19 + v4) - 1).toNatClampNeg)) t_acted t_past v1 v2 v3 (v4 + (-1)))))
theorem fX8_put_79_z  (t_mem : Nat → Int32) (t_acted : Int32) (t_past : Nat → Int32) (v1 : Int32) (v2 : Int32) (v3 : Int32) (v4 : Int32) : fX8_put_79  0 t_mem t_acted t_past v1 v2 v3 v4 = none := rfl
theorem fX8_put_79_s  (n : Nat) (t_mem : Nat → Int32) (t_acted : Int32) (t_past : Nat → Int32) (v1 : Int32) (v2 : Int32) (v3 : Int32) (v4 : Int32) : fX8_put_79  (n + 1) t_mem t_acted t_past v1 v2 v3 v4 = (if v4 ≤ v1 then fX8_put_113 t_mem t_acted t_past v1 v2 v3 else chk 27 ((19 + v4) - 1) (chk 27 (19 + v4) (fX8_put_79 n (upd t_mem ((19 + v4).toNatClampNeg) (t_mem ((19 + v4) - 1).toNatClampNeg)) t_acted t_past v1 v2 v3 (v4 + (-1))))) := rfl
noncomputable def fX8_put  (t_mem : Nat → Int32) (t_acted : Int32) (t_past : Nat → Int32) (v1 : Int32) (v2 : Int32) (v3 : Int32) : Option (Int32 × (Nat → Int32) × Int32 × (Nat → Int32)) := (fX8_is t_mem).bind fun r1 => (if r1 = 0 then some ((-2), t_mem, t_acted, t_past) else (if (fX8_in v1.toInt64 0 ((t_mem 2).toInt64)) = 0 then some ((-2), t_mem, t_acted, t_past) else (fX8_isKind t_mem v2).bind fun r7 => (if r7 = 0 then some ((-2), t_mem, t_acted, t_past) else (if (fX8_in v3.toInt64 0 3) = 0 then some ((-2), t_mem, t_acted, t_past) else (if (t_mem 2) = 8 then some ((-5), t_mem, t_acted, t_past) else (if (fX8_isFull t_acted) = 0 then ob2 (fX8_keeps t_mem t_acted t_past) fun w17 w18 => fX8_put_79 FU t_mem w17 w18 v1 v2 v3 (t_mem 2) else some ((-5), t_mem, t_acted, t_past)))))))
set_option maxHeartbeats 4000000 in
set_option maxRecDepth 100000 in
theorem ctX8_put (l : Launch) (g : GT) (sz : Nat) (a_t : Nat → Nat) (t_acted : Int32) (t_taped : Int32) (t_faultKind : Int32) (t_faultPlace : Int32) (t_at : Int32) (t_begin : Int32) (t_token : Int32) (t_value : Int32) (t_bad : Int32) (t_wide : Int32) (t_lost : Int32) (t_det : Int64) (t_mask : Int32) (t_mode : Int32) (t_wanted : Int32) (t_orders : Int32) (t_foundAt : Int32) (t_foundBy : Int64) (t_unlikes : Int32) (t_mem : Nat → Int32) (t_past : Nat → Int32) (v1 : Int32) (v2 : Int32) (v3 : Int32) (o : Int32) (o_t_mem : Nat → Int32) (o_t_acted : Int32) (o_t_past : Nat → Int32) (h : fX8_put t_mem t_acted t_past v1 v2 v3 = some (o, o_t_mem, o_t_acted, o_t_past)) : Met l yX8_put (Cond.code yX8_put cX8_put 5 (some .int) :: Tw) ⟨2, 0, 0, 46⟩ (va_Pc [.ref ((a_t 0)), .int v1, .int v2, .int v3] (rwB g [((a_t 0), .inr (7, [.ref (a_t 1), .ref (a_t 2), .int t_acted, .ref (a_t 4), .ref (a_t 5), .ref (a_t 6), .ref (a_t 7), .ref (a_t 8), .ref (a_t 9), .int t_taped, .int t_faultKind, .int t_faultPlace, .int t_at, .int t_begin, .int t_token, .int t_value, .int t_bad, .ref (a_t 18), .ref (a_t 19), .ref (a_t 20), .int t_wide, .int t_lost, .ref (a_t 23), .long t_det, .ref (a_t 25), .int t_mask, .int t_mode, .int t_wanted, .int t_orders, .int t_foundAt, .long t_foundBy, .ref (a_t 32), .ref (a_t 33), .int t_unlikes, .ref (a_t 35), .ref (a_t 36)])), ((a_t 1), .inl (g.2.2.1 0, 27, .inl t_mem)), ((a_t 4), .inl (g.2.2.1 0, 810, .inl t_past))] sz)) (va_Qi (fun x (_ : Nat → Nat) => x = o) (fun u => rwE g (va_A [((a_t 0), .inr (7, [.ref (a_t 1), .ref (a_t 2), .int t_acted, .ref (a_t 4), .ref (a_t 5), .ref (a_t 6), .ref (a_t 7), .ref (a_t 8), .ref (a_t 9), .int t_taped, .int t_faultKind, .int t_faultPlace, .int t_at, .int t_begin, .int t_token, .int t_value, .int t_bad, .ref (a_t 18), .ref (a_t 19), .ref (a_t 20), .int t_wide, .int t_lost, .ref (a_t 23), .long t_det, .ref (a_t 25), .int t_mask, .int t_mode, .int t_wanted, .int t_orders, .int t_foundAt, .long t_foundBy, .ref (a_t 32), .ref (a_t 33), .int t_unlikes, .ref (a_t 35), .ref (a_t 36)])), ((a_t 1), .inl (g.2.2.1 0, 27, .inl t_mem)), ((a_t 4), .inl (g.2.2.1 0, 810, .inl t_past))] sz) [((a_t 0), .inr (7, [.ref (a_t 1), .ref (a_t 2), .int o_t_acted, .ref (a_t 4), .ref (a_t 5), .ref (a_t 6), .ref (a_t 7), .ref (a_t 8), .ref (a_t 9), .int t_taped, .int t_faultKind, .int t_faultPlace, .int t_at, .int t_begin, .int t_token, .int t_value, .int t_bad, .ref (a_t 18), .ref (a_t 19), .ref (a_t 20), .int t_wide, .int t_lost, .ref (a_t 23), .long t_det, .ref (a_t 25), .int t_mask, .int t_mode, .int t_wanted, .int t_orders, .int t_foundAt, .long t_foundBy, .ref (a_t 32), .ref (a_t 33), .int t_unlikes, .ref (a_t 35), .ref (a_t 36)])), ((a_t 1), .inl (g.2.2.1 0, 27, .inl o_t_mem)), ((a_t 4), .inl (g.2.2.1 0, 810, .inl o_t_past))]) (va_A [((a_t 0), .inr (7, [.ref (a_t 1), .ref (a_t 2), .int t_acted, .ref (a_t 4), .ref (a_t 5), .ref (a_t 6), .ref (a_t 7), .ref (a_t 8), .ref (a_t 9), .int t_taped, .int t_faultKind, .int t_faultPlace, .int t_at, .int t_begin, .int t_token, .int t_value, .int t_bad, .ref (a_t 18), .ref (a_t 19), .ref (a_t 20), .int t_wide, .int t_lost, .ref (a_t 23), .long t_det, .ref (a_t 25), .int t_mask, .int t_mode, .int t_wanted, .int t_orders, .int t_foundAt, .long t_foundBy, .ref (a_t 32), .ref (a_t 33), .int t_unlikes, .ref (a_t 35), .ref (a_t 36)])), ((a_t 1), .inl (g.2.2.1 0, 27, .inl t_mem)), ((a_t 4), .inl (g.2.2.1 0, 810, .inl t_past))] sz)) 0 0 (va_A [((a_t 0), .inr (7, [.ref (a_t 1), .ref (a_t 2), .int t_acted, .ref (a_t 4), .ref (a_t 5), .ref (a_t 6), .ref (a_t 7), .ref (a_t 8), .ref (a_t 9), .int t_taped, .int t_faultKind, .int t_faultPlace, .int t_at, .int t_begin, .int t_token, .int t_value, .int t_bad, .ref (a_t 18), .ref (a_t 19), .ref (a_t 20), .int t_wide, .int t_lost, .ref (a_t 23), .long t_det, .ref (a_t 25), .int t_mask, .int t_mode, .int t_wanted, .int t_orders, .int t_foundAt, .long t_foundBy, .ref (a_t 32), .ref (a_t 33), .int t_unlikes, .ref (a_t 35), .ref (a_t 36)])), ((a_t 1), .inl (g.2.2.1 0, 27, .inl t_mem)), ((a_t 4), .inl (g.2.2.1 0, 810, .inl t_past))] sz) := by
  refine rw_meti (by decide) (Nat.le_of_ble_eq_true rfl) (lv0 := [(0, .ref ((a_t 0))), (1, .int v1), (2, .int v2), (3, .int v3)]) rfl ?_
  intro p e s m args below meth c ls Q A cx hret hG hAb hb0 hA hP hD hl
  have hx := cx.1
  have hb := cx.2.1
  have hG0 := hG
  have hGk : ∀ {H : Heap} {locs : List Loc}, va_S A s.heap H locs → GE g s H := fun hS => hG0.keptS hAb hS
  have hSb : ∀ {H : Heap} {locs : List Loc}, va_S A s.heap H locs → va_S (fun a => g.1 ≤ a) s.heap H locs := fun hS => ⟨hS.1, fun q h1 h2 => hS.2.1 q h1 (fun z => h2 (hAb q z)), fun l hl => hAb _ (hS.2.2 l hl)⟩
  have hS : va_S A s.heap s.heap [] := va_S.rf
  have hrt : ∀ (u : Nat → Nat) (pc : Nat) (ls : Array Slot) (v : Int32) (x_t_mem : Nat → Int32) (x_t_acted : Int32) (x_t_past : Nat → Int32) (H : Heap) (locs : List Loc), decode cX8_put pc = .ok (.ireturn, 1) → some (v, x_t_mem, x_t_acted, x_t_past) = some (o, o_t_mem, o_t_acted, o_t_past) → va_P g.2.1 vwCl [((a_t 0), .inr (7, [.ref (a_t 1), .ref (a_t 2), .int x_t_acted, .ref (a_t 4), .ref (a_t 5), .ref (a_t 6), .ref (a_t 7), .ref (a_t 8), .ref (a_t 9), .int t_taped, .int t_faultKind, .int t_faultPlace, .int t_at, .int t_begin, .int t_token, .int t_value, .int t_bad, .ref (a_t 18), .ref (a_t 19), .ref (a_t 20), .int t_wide, .int t_lost, .ref (a_t 23), .long t_det, .ref (a_t 25), .int t_mask, .int t_mode, .int t_wanted, .int t_orders, .int t_foundAt, .long t_foundBy, .ref (a_t 32), .ref (a_t 33), .int t_unlikes, .ref (a_t 35), .ref (a_t 36)])), ((a_t 1), .inl (g.2.2.1 0, 27, .inl x_t_mem)), ((a_t 4), .inl (g.2.2.1 0, 810, .inl x_t_past))] H → va_D A [((a_t 0), .inr (7, [.ref (a_t 1), .ref (a_t 2), .int x_t_acted, .ref (a_t 4), .ref (a_t 5), .ref (a_t 6), .ref (a_t 7), .ref (a_t 8), .ref (a_t 9), .int t_taped, .int t_faultKind, .int t_faultPlace, .int t_at, .int t_begin, .int t_token, .int t_value, .int t_bad, .ref (a_t 18), .ref (a_t 19), .ref (a_t 20), .int t_wide, .int t_lost, .ref (a_t 23), .long t_det, .ref (a_t 25), .int t_mask, .int t_mode, .int t_wanted, .int t_orders, .int t_foundAt, .long t_foundBy, .ref (a_t 32), .ref (a_t 33), .int t_unlikes, .ref (a_t 35), .ref (a_t 36)])), ((a_t 1), .inl (g.2.2.1 0, 27, .inl x_t_mem)), ((a_t 4), .inl (g.2.2.1 0, 810, .inl x_t_past))] → va_S A s.heap H locs → W p l e ⟨2, 0, 0, 46⟩ s m args below meth c H locs 0 0 Q (F0 m pc ls [.int v]) := by
    intro u pc ls v x_t_mem x_t_acted x_t_past H locs hd h hP hD hS
    cases h
    exact hret u _ _ _ _ _ hd rfl hP hD hS
  have w113 : ∀ (t_mem : Nat → Int32) (t_acted : Int32) (t_past : Nat → Int32) (v1 : Int32) (v2 : Int32) (v3 : Int32) (H : Heap) (locs : List Loc), va_P g.2.1 vwCl [((a_t 0), .inr (7, [.ref (a_t 1), .ref (a_t 2), .int t_acted, .ref (a_t 4), .ref (a_t 5), .ref (a_t 6), .ref (a_t 7), .ref (a_t 8), .ref (a_t 9), .int t_taped, .int t_faultKind, .int t_faultPlace, .int t_at, .int t_begin, .int t_token, .int t_value, .int t_bad, .ref (a_t 18), .ref (a_t 19), .ref (a_t 20), .int t_wide, .int t_lost, .ref (a_t 23), .long t_det, .ref (a_t 25), .int t_mask, .int t_mode, .int t_wanted, .int t_orders, .int t_foundAt, .long t_foundBy, .ref (a_t 32), .ref (a_t 33), .int t_unlikes, .ref (a_t 35), .ref (a_t 36)])), ((a_t 1), .inl (g.2.2.1 0, 27, .inl t_mem)), ((a_t 4), .inl (g.2.2.1 0, 810, .inl t_past))] H → va_D A [((a_t 0), .inr (7, [.ref (a_t 1), .ref (a_t 2), .int t_acted, .ref (a_t 4), .ref (a_t 5), .ref (a_t 6), .ref (a_t 7), .ref (a_t 8), .ref (a_t 9), .int t_taped, .int t_faultKind, .int t_faultPlace, .int t_at, .int t_begin, .int t_token, .int t_value, .int t_bad, .ref (a_t 18), .ref (a_t 19), .ref (a_t 20), .int t_wide, .int t_lost, .ref (a_t 23), .long t_det, .ref (a_t 25), .int t_mask, .int t_mode, .int t_wanted, .int t_orders, .int t_foundAt, .long t_foundBy, .ref (a_t 32), .ref (a_t 33), .int t_unlikes, .ref (a_t 35), .ref (a_t 36)])), ((a_t 1), .inl (g.2.2.1 0, 27, .inl t_mem)), ((a_t 4), .inl (g.2.2.1 0, 810, .inl t_past))] → va_S A s.heap H locs → ∀ (ls : Array Slot), lv_has ls 5 [(0, .ref ((a_t 0))), (1, .int v1), (2, .int v2), (3, .int v3)] → fX8_put_113  t_mem t_acted t_past v1 v2 v3 = some (o, o_t_mem, o_t_acted, o_t_past) → W p l e ⟨2, 0, 0, 46⟩ s m args below meth c H locs 0 0 Q (F0 m 113 ls []) := by
    intro t_mem t_acted t_past v1 v2 v3 H locs hP hD hS ls hl h
    unfold fX8_put_113 at h
    have hG := hGk hS
    refine lv_aload_n hx hb dX8_put_113 rfl (lv_at hl 0 rfl) ?_
    refine xa_get (C := RX8) (T := TX8) (N := 36) cx hG hP 0 rfl rfl uX8 0 (by decide) lf_X8_21 rfl dX8_put_114 ?_
    refine lv_bipush (v := 19) hx hb dX8_put_117 (by decide) ?_
    refine lv_iload_n hx hb dX8_put_119 rfl (lv_at hl 1 rfl) ?_
    refine lv_iadd hx hb dX8_put_120 ?_
    refine lv_iconst (v := 4) hx hb dX8_put_121 (by decide) ?_
    refine lv_iload_n hx hb dX8_put_122 rfl (lv_at hl 2 rfl) ?_
    refine lv_imul hx hb dX8_put_123 ?_
    refine lv_iload_n hx hb dX8_put_124 rfl (lv_at hl 3 rfl) ?_
    refine lv_iadd hx hb dX8_put_125 ?_
    obtain ⟨hi23, h⟩ := chk_out h
    refine xw_iast (ws' := [((a_t 0), .inr (7, [.ref (a_t 1), .ref (a_t 2), .int t_acted, .ref (a_t 4), .ref (a_t 5), .ref (a_t 6), .ref (a_t 7), .ref (a_t 8), .ref (a_t 9), .int t_taped, .int t_faultKind, .int t_faultPlace, .int t_at, .int t_begin, .int t_token, .int t_value, .int t_bad, .ref (a_t 18), .ref (a_t 19), .ref (a_t 20), .int t_wide, .int t_lost, .ref (a_t 23), .long t_det, .ref (a_t 25), .int t_mask, .int t_mode, .int t_wanted, .int t_orders, .int t_foundAt, .long t_foundBy, .ref (a_t 32), .ref (a_t 33), .int t_unlikes, .ref (a_t 35), .ref (a_t 36)])), ((a_t 1), .inl (g.2.2.1 0, 27, .inl (upd t_mem ((19 + v1).toNatClampNeg) ((4 * v2) + v3)))), ((a_t 4), .inl (g.2.2.1 0, 810, .inl t_past))]) (k := ((19 + v1).toNatClampNeg)) cx hG hP hD hS 1 rfl hi23 rfl rfl dX8_put_126 (fun H locs hP hD hS => ?_)
    have hG := hGk hS
    refine lv_aload_n hx hb dX8_put_127 rfl (lv_at hl 0 rfl) ?_
    refine xa_get (C := RX8) (T := TX8) (N := 36) cx hG hP 0 rfl rfl uX8 0 (by decide) lf_X8_21 rfl dX8_put_128 ?_
    refine lv_iconst (v := 2) hx hb dX8_put_131 (by decide) ?_
    refine lv_dup2_11 hx hb dX8_put_132 rfl rfl ?_
    refine xa_iald (k := 2) cx hG hP 1 rfl (show ¬ ((2 : Int32) < 0 ∨ 27 ≤ (2 : Int32).toNatClampNeg) by decide) (by decide) dX8_put_133 ?_
    refine lv_iconst (v := 1) hx hb dX8_put_134 (by decide) ?_
    refine lv_iadd hx hb dX8_put_135 ?_
    refine xw_iast (ws' := [((a_t 0), .inr (7, [.ref (a_t 1), .ref (a_t 2), .int t_acted, .ref (a_t 4), .ref (a_t 5), .ref (a_t 6), .ref (a_t 7), .ref (a_t 8), .ref (a_t 9), .int t_taped, .int t_faultKind, .int t_faultPlace, .int t_at, .int t_begin, .int t_token, .int t_value, .int t_bad, .ref (a_t 18), .ref (a_t 19), .ref (a_t 20), .int t_wide, .int t_lost, .ref (a_t 23), .long t_det, .ref (a_t 25), .int t_mask, .int t_mode, .int t_wanted, .int t_orders, .int t_foundAt, .long t_foundBy, .ref (a_t 32), .ref (a_t 33), .int t_unlikes, .ref (a_t 35), .ref (a_t 36)])), ((a_t 1), .inl (g.2.2.1 0, 27, .inl (upd (upd t_mem ((19 + v1).toNatClampNeg) ((4 * v2) + v3)) 2 (((upd t_mem ((19 + v1).toNatClampNeg) ((4 * v2) + v3)) 2) + 1)))), ((a_t 4), .inl (g.2.2.1 0, 810, .inl t_past))]) (k := 2) cx hG hP hD hS 1 rfl (show ¬ ((2 : Int32) < 0 ∨ 27 ≤ (2 : Int32).toNatClampNeg) by decide) (by decide) rfl dX8_put_136 (fun H locs hP hD hS => ?_)
    have hG := hGk hS
    refine lv_aload_n hx hb dX8_put_137 rfl (lv_at hl 0 rfl) ?_
    refine xa_get (C := RX8) (T := TX8) (N := 36) cx hG hP 0 rfl rfl uX8 0 (by decide) lf_X8_21 rfl dX8_put_138 ?_
    refine lv_iconst (v := 2) hx hb dX8_put_141 (by decide) ?_
    refine xa_iald (k := 2) cx hG hP 1 rfl (show ¬ ((2 : Int32) < 0 ∨ 27 ≤ (2 : Int32).toNatClampNeg) by decide) (by decide) dX8_put_142 ?_
    exact hrt (fun _ => 0) _ _ (((upd (upd t_mem ((19 + v1).toNatClampNeg) ((4 * v2) + v3)) 2 (((upd t_mem ((19 + v1).toNatClampNeg) ((4 * v2) + v3)) 2) + 1)) 2)) (upd (upd t_mem ((19 + v1).toNatClampNeg) ((4 * v2) + v3)) 2 (((upd t_mem ((19 + v1).toNatClampNeg) ((4 * v2) + v3)) 2) + 1)) t_acted t_past _ _ dX8_put_143 h (hP.sub [0, 1, 2] rfl) (hD.sub [0, 1, 2] (by decide) rfl) hS
  have w79 : ∀ (n : Nat) (t_mem : Nat → Int32) (t_acted : Int32) (t_past : Nat → Int32) (v1 : Int32) (v2 : Int32) (v3 : Int32) (v4 : Int32) (H : Heap) (locs : List Loc), va_P g.2.1 vwCl [((a_t 0), .inr (7, [.ref (a_t 1), .ref (a_t 2), .int t_acted, .ref (a_t 4), .ref (a_t 5), .ref (a_t 6), .ref (a_t 7), .ref (a_t 8), .ref (a_t 9), .int t_taped, .int t_faultKind, .int t_faultPlace, .int t_at, .int t_begin, .int t_token, .int t_value, .int t_bad, .ref (a_t 18), .ref (a_t 19), .ref (a_t 20), .int t_wide, .int t_lost, .ref (a_t 23), .long t_det, .ref (a_t 25), .int t_mask, .int t_mode, .int t_wanted, .int t_orders, .int t_foundAt, .long t_foundBy, .ref (a_t 32), .ref (a_t 33), .int t_unlikes, .ref (a_t 35), .ref (a_t 36)])), ((a_t 1), .inl (g.2.2.1 0, 27, .inl t_mem)), ((a_t 4), .inl (g.2.2.1 0, 810, .inl t_past))] H → va_D A [((a_t 0), .inr (7, [.ref (a_t 1), .ref (a_t 2), .int t_acted, .ref (a_t 4), .ref (a_t 5), .ref (a_t 6), .ref (a_t 7), .ref (a_t 8), .ref (a_t 9), .int t_taped, .int t_faultKind, .int t_faultPlace, .int t_at, .int t_begin, .int t_token, .int t_value, .int t_bad, .ref (a_t 18), .ref (a_t 19), .ref (a_t 20), .int t_wide, .int t_lost, .ref (a_t 23), .long t_det, .ref (a_t 25), .int t_mask, .int t_mode, .int t_wanted, .int t_orders, .int t_foundAt, .long t_foundBy, .ref (a_t 32), .ref (a_t 33), .int t_unlikes, .ref (a_t 35), .ref (a_t 36)])), ((a_t 1), .inl (g.2.2.1 0, 27, .inl t_mem)), ((a_t 4), .inl (g.2.2.1 0, 810, .inl t_past))] → va_S A s.heap H locs → ∀ (ls : Array Slot), lv_has ls 5 [(0, .ref ((a_t 0))), (1, .int v1), (2, .int v2), (3, .int v3), (4, .int v4)] → fX8_put_79  n t_mem t_acted t_past v1 v2 v3 v4 = some (o, o_t_mem, o_t_acted, o_t_past) → W p l e ⟨2, 0, 0, 46⟩ s m args below meth c H locs 0 0 Q (F0 m 79 ls []) := by
    intro n
    induction n with
    | zero => intro t_mem t_acted t_past v1 v2 v3 v4 H locs hP hD hS ls hl h; cases (fX8_put_79_z  t_mem t_acted t_past v1 v2 v3 v4).symm.trans h
    | succ n ih =>
    intro t_mem t_acted t_past v1 v2 v3 v4 H locs hP hD hS ls hl h
    have h := (fX8_put_79_s  n t_mem t_acted t_past v1 v2 v3 v4).symm.trans h
    have hG := hGk hS
    refine lv_iload hx hb dX8_put_79 (lv_at hl 4 rfl) ?_
    refine lv_iload_n hx hb dX8_put_81 rfl (lv_at hl 1 rfl) ?_
    refine lv_icmp_le (tgt := 113) hx hb dX8_put_82 (by decide) (fun c20 => ?_) (fun c20 => ?_)
    · have h := itp c20 h
      exact w113 t_mem t_acted t_past v1 v2 v3 _ _ hP hD hS _ (lv_sub hl [0, 1, 2, 3] rfl) h
    · have h := itn c20 h
      refine lv_aload_n hx hb dX8_put_85 rfl (lv_at hl 0 rfl) ?_
      refine xa_get (C := RX8) (T := TX8) (N := 36) cx hG hP 0 rfl rfl uX8 0 (by decide) lf_X8_21 rfl dX8_put_86 ?_
      refine lv_bipush (v := 19) hx hb dX8_put_89 (by decide) ?_
      refine lv_iload hx hb dX8_put_91 (lv_at hl 4 rfl) ?_
      refine lv_iadd hx hb dX8_put_93 ?_
      refine lv_aload_n hx hb dX8_put_94 rfl (lv_at hl 0 rfl) ?_
      refine xa_get (C := RX8) (T := TX8) (N := 36) cx hG hP 0 rfl rfl uX8 0 (by decide) lf_X8_21 rfl dX8_put_95 ?_
      refine lv_bipush (v := 19) hx hb dX8_put_98 (by decide) ?_
      refine lv_iload hx hb dX8_put_100 (lv_at hl 4 rfl) ?_
      refine lv_iadd hx hb dX8_put_102 ?_
      refine lv_iconst (v := 1) hx hb dX8_put_103 (by decide) ?_
      refine lv_isub hx hb dX8_put_104 ?_
      obtain ⟨hi21, h⟩ := chk_out h
      refine xa_iald cx hG hP 1 rfl hi21 rfl dX8_put_105 ?_
      obtain ⟨hi22, h⟩ := chk_out h
      refine xw_iast (ws' := [((a_t 0), .inr (7, [.ref (a_t 1), .ref (a_t 2), .int t_acted, .ref (a_t 4), .ref (a_t 5), .ref (a_t 6), .ref (a_t 7), .ref (a_t 8), .ref (a_t 9), .int t_taped, .int t_faultKind, .int t_faultPlace, .int t_at, .int t_begin, .int t_token, .int t_value, .int t_bad, .ref (a_t 18), .ref (a_t 19), .ref (a_t 20), .int t_wide, .int t_lost, .ref (a_t 23), .long t_det, .ref (a_t 25), .int t_mask, .int t_mode, .int t_wanted, .int t_orders, .int t_foundAt, .long t_foundBy, .ref (a_t 32), .ref (a_t 33), .int t_unlikes, .ref (a_t 35), .ref (a_t 36)])), ((a_t 1), .inl (g.2.2.1 0, 27, .inl (upd t_mem ((19 + v4).toNatClampNeg) (t_mem ((19 + v4) - 1).toNatClampNeg)))), ((a_t 4), .inl (g.2.2.1 0, 810, .inl t_past))]) (k := ((19 + v4).toNatClampNeg)) cx hG hP hD hS 1 rfl hi22 rfl rfl dX8_put_106 (fun H locs hP hD hS => ?_)
      have hG := hGk hS
      refine lv_iinc (v := v4 + (-1)) (lv' := [(4, .int (v4 + (-1))), (0, .ref ((a_t 0))), (1, .int v1), (2, .int v2), (3, .int v3)]) hx hb dX8_put_107 hl (k := 4) rfl rfl (by decide) rfl (fun ls hl => ?_)
      refine lv_goto (tgt := 79) hx hb dX8_put_110 (by decide) ?_
      exact ih (upd t_mem ((19 + v4).toNatClampNeg) (t_mem ((19 + v4) - 1).toNatClampNeg)) t_acted t_past v1 v2 v3 (v4 + (-1)) _ _ hP hD hS _ (lv_sub hl [1, 2, 3, 4, 0] rfl) h
  unfold fX8_put at h
  refine lv_aload_n hx hb dX8_put_0 rfl (lv_at hl 0 rfl) ?_
  obtain ⟨r1, hr2, h⟩ := bnd h
  refine ro_z (runV (As := []) (rest := []) cx hl.1 (ctX8_is l g a_t t_acted t_taped t_faultKind t_faultPlace t_at t_begin t_token t_value t_bad t_wide t_lost t_det t_mask t_mode t_wanted t_orders t_foundAt t_foundBy t_unlikes t_mem r1 hr2) kmX8_is kvX8_is lm_X8_236 ⟨rfl, rfl⟩ ⟨Nat.le_of_ble_eq_true rfl, Nat.le_of_ble_eq_true rfl⟩ (roV (q0 := 0) (ci := 7) hG (hP.sub [0, 1] rfl) hP rfl rfl) rfl rfl (Nat.le_of_ble_eq_true rfl) dX8_put_1 ⟨Nat.le_of_ble_eq_true rfl, Nat.le_of_ble_eq_true rfl⟩) (fun hz3 => ?_)
  refine lv_if_eq (tgt := 43) hx hb dX8_put_4 (by decide) (fun c4 => ?_) (fun c4 => ?_)
  · have h := itp c4 h
    refine lv_bipush (v := -2) hx hb dX8_put_43 (by decide) ?_
    exact hrt (fun _ => 0) _ _ ((-2)) t_mem t_acted t_past _ _ dX8_put_45 h (hP.sub [0, 1, 2] rfl) (hD.sub [0, 1, 2] (by decide) rfl) hS
  · have h := itn c4 h
    refine lv_iload_n hx hb dX8_put_7 rfl (lv_at hl 1 rfl) ?_
    refine lv_i2l (v := v1.toInt64) hx hb dX8_put_8 rfl ?_
    refine lv_lconst (v := 0) hx hb dX8_put_9 (by decide) ?_
    refine lv_aload_n hx hb dX8_put_10 rfl (lv_at hl 0 rfl) ?_
    refine xa_get (C := RX8) (T := TX8) (N := 36) cx hG hP 0 rfl rfl uX8 0 (by decide) lf_X8_21 rfl dX8_put_11 ?_
    refine lv_iconst (v := 2) hx hb dX8_put_14 (by decide) ?_
    refine xa_iald (k := 2) cx hG hP 1 rfl (show ¬ ((2 : Int32) < 0 ∨ 27 ≤ (2 : Int32).toNatClampNeg) by decide) (by decide) dX8_put_15 ?_
    refine lv_i2l (v := (t_mem 2).toInt64) hx hb dX8_put_16 rfl ?_
    refine ro_z (runS (As := [.long v1.toInt64, .long (0), .long ((t_mem 2).toInt64)]) (rest := []) cx hl.1 (ctX8_in l g v1.toInt64 (0) ((t_mem 2).toInt64) (fX8_in v1.toInt64 0 ((t_mem 2).toInt64)) rfl) kmX8_in ksX8_in lm_X8_83 ⟨rfl, rfl⟩ ⟨Nat.le_of_ble_eq_true rfl, Nat.le_of_ble_eq_true rfl⟩ (roS hG (hP.sub [] rfl)) rfl rfl (Nat.le_of_ble_eq_true rfl) dX8_put_17 ⟨Nat.le_of_ble_eq_true rfl, Nat.le_of_ble_eq_true rfl⟩) (fun hz5 => ?_)
    refine lv_if_eq (tgt := 43) hx hb dX8_put_20 (by decide) (fun c6 => ?_) (fun c6 => ?_)
    · have h := itp c6 h
      refine lv_bipush (v := -2) hx hb dX8_put_43 (by decide) ?_
      exact hrt (fun _ => 0) _ _ ((-2)) t_mem t_acted t_past _ _ dX8_put_45 h (hP.sub [0, 1, 2] rfl) (hD.sub [0, 1, 2] (by decide) rfl) hS
    · have h := itn c6 h
      refine lv_aload_n hx hb dX8_put_23 rfl (lv_at hl 0 rfl) ?_
      refine lv_iload_n hx hb dX8_put_24 rfl (lv_at hl 2 rfl) ?_
      obtain ⟨r7, hr8, h⟩ := bnd h
      refine ro_z (runV (As := [.int v2]) (rest := []) cx hl.1 (ctX8_isKind l g a_t t_acted t_taped t_faultKind t_faultPlace t_at t_begin t_token t_value t_bad t_wide t_lost t_det t_mask t_mode t_wanted t_orders t_foundAt t_foundBy t_unlikes t_mem v2 r7 hr8) kmX8_isKind kvX8_isKind lm_X8_193 ⟨rfl, rfl⟩ ⟨Nat.le_of_ble_eq_true rfl, Nat.le_of_ble_eq_true rfl⟩ (roV (q0 := 0) (ci := 7) hG (hP.sub [0, 1] rfl) hP rfl rfl) rfl rfl (Nat.le_of_ble_eq_true rfl) dX8_put_25 ⟨Nat.le_of_ble_eq_true rfl, Nat.le_of_ble_eq_true rfl⟩) (fun hz9 => ?_)
      refine lv_if_eq (tgt := 43) hx hb dX8_put_28 (by decide) (fun c10 => ?_) (fun c10 => ?_)
      · have h := itp c10 h
        refine lv_bipush (v := -2) hx hb dX8_put_43 (by decide) ?_
        exact hrt (fun _ => 0) _ _ ((-2)) t_mem t_acted t_past _ _ dX8_put_45 h (hP.sub [0, 1, 2] rfl) (hD.sub [0, 1, 2] (by decide) rfl) hS
      · have h := itn c10 h
        refine lv_iload_n hx hb dX8_put_31 rfl (lv_at hl 3 rfl) ?_
        refine lv_i2l (v := v3.toInt64) hx hb dX8_put_32 rfl ?_
        refine lv_lconst (v := 0) hx hb dX8_put_33 (by decide) ?_
        refine lv_ldc2 (own := RX8) (v := 3) hx hb cx.2.2.2.1 (cx.2.2.2.2 _ cl_X8_204) dX8_put_34 ?_
        refine ro_z (runS (As := [.long v3.toInt64, .long (0), .long (3)]) (rest := []) cx hl.1 (ctX8_in l g v3.toInt64 (0) (3) (fX8_in v3.toInt64 0 3) rfl) kmX8_in ksX8_in lm_X8_83 ⟨rfl, rfl⟩ ⟨Nat.le_of_ble_eq_true rfl, Nat.le_of_ble_eq_true rfl⟩ (roS hG (hP.sub [] rfl)) rfl rfl (Nat.le_of_ble_eq_true rfl) dX8_put_37 ⟨Nat.le_of_ble_eq_true rfl, Nat.le_of_ble_eq_true rfl⟩) (fun hz11 => ?_)
        refine lv_if_ne (tgt := 46) hx hb dX8_put_40 (by decide) (fun c12 => ?_) (fun c12 => ?_)
        · have h := itn c12 h
          refine lv_aload_n hx hb dX8_put_46 rfl (lv_at hl 0 rfl) ?_
          refine xa_get (C := RX8) (T := TX8) (N := 36) cx hG hP 0 rfl rfl uX8 0 (by decide) lf_X8_21 rfl dX8_put_47 ?_
          refine lv_iconst (v := 2) hx hb dX8_put_50 (by decide) ?_
          refine xa_iald (k := 2) cx hG hP 1 rfl (show ¬ ((2 : Int32) < 0 ∨ 27 ≤ (2 : Int32).toNatClampNeg) by decide) (by decide) dX8_put_51 ?_
          refine lv_bipush (v := 8) hx hb dX8_put_52 (by decide) ?_
          refine lv_icmp_eq (tgt := 64) hx hb dX8_put_54 (by decide) (fun c13 => ?_) (fun c13 => ?_)
          · have h := itp c13 h
            refine lv_bipush (v := -5) hx hb dX8_put_64 (by decide) ?_
            exact hrt (fun _ => 0) _ _ ((-5)) t_mem t_acted t_past _ _ dX8_put_66 h (hP.sub [0, 1, 2] rfl) (hD.sub [0, 1, 2] (by decide) rfl) hS
          · have h := itn c13 h
            refine lv_aload_n hx hb dX8_put_57 rfl (lv_at hl 0 rfl) ?_
            refine ro_z (runV (As := []) (rest := []) cx hl.1 (ctX8_isFull l g a_t t_acted t_taped t_faultKind t_faultPlace t_at t_begin t_token t_value t_bad t_wide t_lost t_det t_mask t_mode t_wanted t_orders t_foundAt t_foundBy t_unlikes (fX8_isFull t_acted) rfl) kmX8_isFull kvX8_isFull lm_X8_425 ⟨rfl, rfl⟩ ⟨Nat.le_of_ble_eq_true rfl, Nat.le_of_ble_eq_true rfl⟩ (roV (q0 := 0) (ci := 7) hG (hP.sub [0] rfl) hP rfl rfl) rfl rfl (Nat.le_of_ble_eq_true rfl) dX8_put_58 ⟨Nat.le_of_ble_eq_true rfl, Nat.le_of_ble_eq_true rfl⟩) (fun hz14 => ?_)
            refine lv_if_eq (tgt := 67) hx hb dX8_put_61 (by decide) (fun c15 => ?_) (fun c15 => ?_)
            · have h := itp c15 h
              refine lv_aload_n hx hb dX8_put_67 rfl (lv_at hl 0 rfl) ?_
              obtain ⟨w17, w18, hr16, h⟩ := ob2_out h
              refine rw_v (WN := fun u19 => [((a_t 0), .inr (7, [.ref (a_t 1), .ref (a_t 2), .int w17, .ref (a_t 4), .ref (a_t 5), .ref (a_t 6), .ref (a_t 7), .ref (a_t 8), .ref (a_t 9), .int t_taped, .int t_faultKind, .int t_faultPlace, .int t_at, .int t_begin, .int t_token, .int t_value, .int t_bad, .ref (a_t 18), .ref (a_t 19), .ref (a_t 20), .int t_wide, .int t_lost, .ref (a_t 23), .long t_det, .ref (a_t 25), .int t_mask, .int t_mode, .int t_wanted, .int t_orders, .int t_foundAt, .long t_foundBy, .ref (a_t 32), .ref (a_t 33), .int t_unlikes, .ref (a_t 35), .ref (a_t 36)])), ((a_t 1), .inl (g.2.2.1 0, 27, .inl t_mem)), ((a_t 4), .inl (g.2.2.1 0, 810, .inl w18))]) (wr := []) (runV (As := []) (rest := []) cx hl.1 (ctX8_keeps l g s.heap.size a_t t_acted t_taped t_faultKind t_faultPlace t_at t_begin t_token t_value t_bad t_wide t_lost t_det t_mask t_mode t_wanted t_orders t_foundAt t_foundBy t_unlikes t_mem t_past w17 w18 hr16) kmX8_keeps kvX8_keeps lm_X8_428 ⟨rfl, rfl⟩ ⟨Nat.le_of_ble_eq_true rfl, Nat.le_of_ble_eq_true rfl⟩ (rwV (q0 := 0) (ci := 7) hG (hP.sub [0, 1, 2] rfl) (hD.sub [0, 1, 2] (by decide) rfl) hAb hb0 hS hP rfl rfl) rfl rfl (Nat.le_of_ble_eq_true rfl) dX8_put_68 ⟨Nat.le_of_ble_eq_true rfl, Nat.le_of_ble_eq_true rfl⟩) hP hD hS hA [0, 1, 2] [] rfl rfl (by decide) (by decide) (fun _ => rfl) (fun u19 H locs hP hD hS => ?_)
              have hG := hGk hS
              refine lv_aload_n hx hb dX8_put_71 rfl (lv_at hl 0 rfl) ?_
              refine xa_get (C := RX8) (T := TX8) (N := 36) cx hG hP 0 rfl rfl uX8 0 (by decide) lf_X8_21 rfl dX8_put_72 ?_
              refine lv_iconst (v := 2) hx hb dX8_put_75 (by decide) ?_
              refine xa_iald (k := 2) cx hG hP 1 rfl (show ¬ ((2 : Int32) < 0 ∨ 27 ≤ (2 : Int32).toNatClampNeg) by decide) (by decide) dX8_put_76 ?_
              refine lv_istore (lv' := [(4, .int (t_mem 2)), (0, .ref ((a_t 0))), (1, .int v1), (2, .int v2), (3, .int v3)]) hx hb dX8_put_77 hl (by decide) rfl (fun ls hl => ?_)
              exact w79 FU t_mem w17 w18 v1 v2 v3 (t_mem 2) _ _ hP hD hS _ (lv_sub hl [1, 2, 3, 4, 0] rfl) h
            · have h := itn c15 h
              refine lv_bipush (v := -5) hx hb dX8_put_64 (by decide) ?_
              exact hrt (fun _ => 0) _ _ ((-5)) t_mem t_acted t_past _ _ dX8_put_66 h (hP.sub [0, 1, 2] rfl) (hD.sub [0, 1, 2] (by decide) rfl) hS
        · have h := itp c12 h
          refine lv_bipush (v := -2) hx hb dX8_put_43 (by decide) ?_
          exact hrt (fun _ => 0) _ _ ((-2)) t_mem t_acted t_past _ _ dX8_put_45 h (hP.sub [0, 1, 2] rfl) (hD.sub [0, 1, 2] (by decide) rfl) hS
-- X8_stays
theorem dX8_stays_0 : decode cX8_stays 0 = .ok (.aload_n 0, 1) := by decide +kernel
theorem dX8_stays_1 : decode cX8_stays 1 = .ok (.iload_n 1, 1) := by decide +kernel
theorem dX8_stays_2 : decode cX8_stays 2 = .ok (.invokevirtual 380, 3) := by decide +kernel
theorem dX8_stays_5 : decode cX8_stays 5 = .ok (.aload_n 0, 1) := by decide +kernel
theorem dX8_stays_6 : decode cX8_stays 6 = .ok (.invokevirtual 428, 3) := by decide +kernel
theorem dX8_stays_9 : decode cX8_stays 9 = .ok (.aload_n 0, 1) := by decide +kernel
theorem dX8_stays_10 : decode cX8_stays 10 = .ok (.getfield 21, 3) := by decide +kernel
theorem dX8_stays_13 : decode cX8_stays 13 = .ok (.iconst 2, 1) := by decide +kernel
theorem dX8_stays_14 : decode cX8_stays 14 = .ok (.aload_n 0, 1) := by decide +kernel
theorem dX8_stays_15 : decode cX8_stays 15 = .ok (.getfield 206, 3) := by decide +kernel
theorem dX8_stays_18 : decode cX8_stays 18 = .ok (.iastore, 1) := by decide +kernel
theorem dX8_stays_19 : decode cX8_stays 19 = .ok (.iconst 0, 1) := by decide +kernel
theorem dX8_stays_20 : decode cX8_stays 20 = .ok (.istore_n 2, 1) := by decide +kernel
theorem dX8_stays_21 : decode cX8_stays 21 = .ok (.iload_n 2, 1) := by decide +kernel
theorem dX8_stays_22 : decode cX8_stays 22 = .ok (.bipush 8, 2) := by decide +kernel
theorem dX8_stays_24 : decode cX8_stays 24 = .ok (.if_icmp .ge 36, 3) := by decide +kernel
theorem dX8_stays_27 : decode cX8_stays 27 = .ok (.aload_n 0, 1) := by decide +kernel
theorem dX8_stays_28 : decode cX8_stays 28 = .ok (.getfield 21, 3) := by decide +kernel
theorem dX8_stays_31 : decode cX8_stays 31 = .ok (.bipush 19, 2) := by decide +kernel
theorem dX8_stays_33 : decode cX8_stays 33 = .ok (.iload_n 2, 1) := by decide +kernel
theorem dX8_stays_34 : decode cX8_stays 34 = .ok (.iadd, 1) := by decide +kernel
theorem dX8_stays_35 : decode cX8_stays 35 = .ok (.iload_n 2, 1) := by decide +kernel
theorem dX8_stays_36 : decode cX8_stays 36 = .ok (.aload_n 0, 1) := by decide +kernel
theorem dX8_stays_37 : decode cX8_stays 37 = .ok (.getfield 206, 3) := by decide +kernel
theorem dX8_stays_40 : decode cX8_stays 40 = .ok (.if_icmp .ge 12, 3) := by decide +kernel
theorem dX8_stays_43 : decode cX8_stays 43 = .ok (.aload_n 0, 1) := by decide +kernel
theorem dX8_stays_44 : decode cX8_stays 44 = .ok (.getfield 57, 3) := by decide +kernel
theorem dX8_stays_47 : decode cX8_stays 47 = .ok (.iload_n 2, 1) := by decide +kernel
theorem dX8_stays_48 : decode cX8_stays 48 = .ok (.iaload, 1) := by decide +kernel
theorem dX8_stays_49 : decode cX8_stays 49 = .ok (.goto 4, 3) := by decide +kernel
theorem dX8_stays_52 : decode cX8_stays 52 = .ok (.iconst 0, 1) := by decide +kernel
theorem dX8_stays_53 : decode cX8_stays 53 = .ok (.iastore, 1) := by decide +kernel
theorem dX8_stays_54 : decode cX8_stays 54 = .ok (.iinc 2 1, 3) := by decide +kernel
theorem dX8_stays_57 : decode cX8_stays 57 = .ok (.goto (-36), 3) := by decide +kernel
theorem dX8_stays_60 : decode cX8_stays 60 = .ok (.return_, 1) := by decide +kernel
noncomputable def fX8_stays_53 (k21 : (Nat → Int32) → Int32 → (Nat → Int32) → (Nat → Int32) → Int32 → Int32 → Int32 → Option ((Nat → Int32) × Int32 × (Nat → Int32) × (Nat → Int32) × Int32 × Int32)) (t_mem : Nat → Int32) (t_acted : Int32) (t_past : Nat → Int32) (t_row : Nat → Int32) (t_wide : Int32) (t_lost : Int32) (v2 : Int32) (z1 : Int32) (z2 : Int32) : Option ((Nat → Int32) × Int32 × (Nat → Int32) × (Nat → Int32) × Int32 × Int32) := chk 27 z1 (k21 (upd t_mem z1.toNatClampNeg z2) t_acted t_past t_row t_wide t_lost (v2 + 1))
noncomputable def fX8_stays_21  : Nat → (Nat → Int32) → Int32 → (Nat → Int32) → (Nat → Int32) → Int32 → Int32 → Int32 → Option ((Nat → Int32) × Int32 × (Nat → Int32) × (Nat → Int32) × Int32 × Int32)
  | 0, _, _, _, _, _, _, _ => none
  | n + 1, t_mem, t_acted, t_past, t_row, t_wide, t_lost, v2 => (if 8 ≤ v2 then some (t_mem, t_acted, t_past, t_row, t_wide, t_lost) else (if t_wide ≤ v2 then fX8_stays_53 (fX8_stays_21 n) t_mem t_acted t_past t_row t_wide t_lost v2 (19 + v2) 0 else chk 8 v2 (fX8_stays_53 (fX8_stays_21 n) t_mem t_acted t_past t_row t_wide t_lost v2 (19 + v2) (t_row v2.toNatClampNeg))))
theorem fX8_stays_21_z  (t_mem : Nat → Int32) (t_acted : Int32) (t_past : Nat → Int32) (t_row : Nat → Int32) (t_wide : Int32) (t_lost : Int32) (v2 : Int32) : fX8_stays_21  0 t_mem t_acted t_past t_row t_wide t_lost v2 = none := rfl
theorem fX8_stays_21_s  (n : Nat) (t_mem : Nat → Int32) (t_acted : Int32) (t_past : Nat → Int32) (t_row : Nat → Int32) (t_wide : Int32) (t_lost : Int32) (v2 : Int32) : fX8_stays_21  (n + 1) t_mem t_acted t_past t_row t_wide t_lost v2 = (if 8 ≤ v2 then some (t_mem, t_acted, t_past, t_row, t_wide, t_lost) else (if t_wide ≤ v2 then fX8_stays_53 (fX8_stays_21 n) t_mem t_acted t_past t_row t_wide t_lost v2 (19 + v2) 0 else chk 8 v2 (fX8_stays_53 (fX8_stays_21 n) t_mem t_acted t_past t_row t_wide t_lost v2 (19 + v2) (t_row v2.toNatClampNeg)))) := rfl
noncomputable def fX8_stays  (t_mem : Nat → Int32) (t_acted : Int32) (t_past : Nat → Int32) (t_row : Nat → Int32) (t_wide : Int32) (t_lost : Int32) (v1 : Int32) : Option ((Nat → Int32) × Int32 × (Nat → Int32) × (Nat → Int32) × Int32 × Int32) := ob3 (fX8_laysSet t_mem t_row t_wide t_lost v1) fun w2 w3 w4 => ob2 (fX8_keeps t_mem t_acted t_past) fun w7 w8 => fX8_stays_21 FU (upd t_mem 2 w3) w7 w8 w2 w3 w4 0
set_option maxHeartbeats 4000000 in
set_option maxRecDepth 100000 in
theorem ctX8_stays (l : Launch) (g : GT) (sz : Nat) (a_t : Nat → Nat) (t_acted : Int32) (t_taped : Int32) (t_faultKind : Int32) (t_faultPlace : Int32) (t_at : Int32) (t_begin : Int32) (t_token : Int32) (t_value : Int32) (t_bad : Int32) (t_wide : Int32) (t_lost : Int32) (t_det : Int64) (t_mask : Int32) (t_mode : Int32) (t_wanted : Int32) (t_orders : Int32) (t_foundAt : Int32) (t_foundBy : Int64) (t_unlikes : Int32) (t_mem : Nat → Int32) (t_past : Nat → Int32) (t_row : Nat → Int32) (v1 : Int32) (o_t_mem : Nat → Int32) (o_t_acted : Int32) (o_t_past : Nat → Int32) (o_t_row : Nat → Int32) (o_t_wide : Int32) (o_t_lost : Int32) (h : fX8_stays t_mem t_acted t_past t_row t_wide t_lost v1 = some (o_t_mem, o_t_acted, o_t_past, o_t_row, o_t_wide, o_t_lost)) : Met l yX8_stays (Cond.code yX8_stays cX8_stays 3 none :: Tw) ⟨2, 0, 0, 43⟩ (va_Pc [.ref ((a_t 0)), .int v1] (rwB g [((a_t 0), .inr (7, [.ref (a_t 1), .ref (a_t 2), .int t_acted, .ref (a_t 4), .ref (a_t 5), .ref (a_t 6), .ref (a_t 7), .ref (a_t 8), .ref (a_t 9), .int t_taped, .int t_faultKind, .int t_faultPlace, .int t_at, .int t_begin, .int t_token, .int t_value, .int t_bad, .ref (a_t 18), .ref (a_t 19), .ref (a_t 20), .int t_wide, .int t_lost, .ref (a_t 23), .long t_det, .ref (a_t 25), .int t_mask, .int t_mode, .int t_wanted, .int t_orders, .int t_foundAt, .long t_foundBy, .ref (a_t 32), .ref (a_t 33), .int t_unlikes, .ref (a_t 35), .ref (a_t 36)])), ((a_t 1), .inl (g.2.2.1 0, 27, .inl t_mem)), ((a_t 4), .inl (g.2.2.1 0, 810, .inl t_past)), ((a_t 20), .inl (g.2.2.1 0, 8, .inl t_row))] sz)) (va_Qv (fun (_ : Nat → Nat) => True) (fun u => rwE g (va_A [((a_t 0), .inr (7, [.ref (a_t 1), .ref (a_t 2), .int t_acted, .ref (a_t 4), .ref (a_t 5), .ref (a_t 6), .ref (a_t 7), .ref (a_t 8), .ref (a_t 9), .int t_taped, .int t_faultKind, .int t_faultPlace, .int t_at, .int t_begin, .int t_token, .int t_value, .int t_bad, .ref (a_t 18), .ref (a_t 19), .ref (a_t 20), .int t_wide, .int t_lost, .ref (a_t 23), .long t_det, .ref (a_t 25), .int t_mask, .int t_mode, .int t_wanted, .int t_orders, .int t_foundAt, .long t_foundBy, .ref (a_t 32), .ref (a_t 33), .int t_unlikes, .ref (a_t 35), .ref (a_t 36)])), ((a_t 1), .inl (g.2.2.1 0, 27, .inl t_mem)), ((a_t 4), .inl (g.2.2.1 0, 810, .inl t_past)), ((a_t 20), .inl (g.2.2.1 0, 8, .inl t_row))] sz) [((a_t 0), .inr (7, [.ref (a_t 1), .ref (a_t 2), .int o_t_acted, .ref (a_t 4), .ref (a_t 5), .ref (a_t 6), .ref (a_t 7), .ref (a_t 8), .ref (a_t 9), .int t_taped, .int t_faultKind, .int t_faultPlace, .int t_at, .int t_begin, .int t_token, .int t_value, .int t_bad, .ref (a_t 18), .ref (a_t 19), .ref (a_t 20), .int o_t_wide, .int o_t_lost, .ref (a_t 23), .long t_det, .ref (a_t 25), .int t_mask, .int t_mode, .int t_wanted, .int t_orders, .int t_foundAt, .long t_foundBy, .ref (a_t 32), .ref (a_t 33), .int t_unlikes, .ref (a_t 35), .ref (a_t 36)])), ((a_t 1), .inl (g.2.2.1 0, 27, .inl o_t_mem)), ((a_t 4), .inl (g.2.2.1 0, 810, .inl o_t_past)), ((a_t 20), .inl (g.2.2.1 0, 8, .inl o_t_row))]) (va_A [((a_t 0), .inr (7, [.ref (a_t 1), .ref (a_t 2), .int t_acted, .ref (a_t 4), .ref (a_t 5), .ref (a_t 6), .ref (a_t 7), .ref (a_t 8), .ref (a_t 9), .int t_taped, .int t_faultKind, .int t_faultPlace, .int t_at, .int t_begin, .int t_token, .int t_value, .int t_bad, .ref (a_t 18), .ref (a_t 19), .ref (a_t 20), .int t_wide, .int t_lost, .ref (a_t 23), .long t_det, .ref (a_t 25), .int t_mask, .int t_mode, .int t_wanted, .int t_orders, .int t_foundAt, .long t_foundBy, .ref (a_t 32), .ref (a_t 33), .int t_unlikes, .ref (a_t 35), .ref (a_t 36)])), ((a_t 1), .inl (g.2.2.1 0, 27, .inl t_mem)), ((a_t 4), .inl (g.2.2.1 0, 810, .inl t_past)), ((a_t 20), .inl (g.2.2.1 0, 8, .inl t_row))] sz)) 0 0 (va_A [((a_t 0), .inr (7, [.ref (a_t 1), .ref (a_t 2), .int t_acted, .ref (a_t 4), .ref (a_t 5), .ref (a_t 6), .ref (a_t 7), .ref (a_t 8), .ref (a_t 9), .int t_taped, .int t_faultKind, .int t_faultPlace, .int t_at, .int t_begin, .int t_token, .int t_value, .int t_bad, .ref (a_t 18), .ref (a_t 19), .ref (a_t 20), .int t_wide, .int t_lost, .ref (a_t 23), .long t_det, .ref (a_t 25), .int t_mask, .int t_mode, .int t_wanted, .int t_orders, .int t_foundAt, .long t_foundBy, .ref (a_t 32), .ref (a_t 33), .int t_unlikes, .ref (a_t 35), .ref (a_t 36)])), ((a_t 1), .inl (g.2.2.1 0, 27, .inl t_mem)), ((a_t 4), .inl (g.2.2.1 0, 810, .inl t_past)), ((a_t 20), .inl (g.2.2.1 0, 8, .inl t_row))] sz) := by
  refine rw_metv (by decide) (Nat.le_of_ble_eq_true rfl) (lv0 := [(0, .ref ((a_t 0))), (1, .int v1)]) rfl ?_
  intro p e s m args below meth c ls Q A cx hret hG hAb hb0 hA hP hD hl
  have hx := cx.1
  have hb := cx.2.1
  have hG0 := hG
  have hGk : ∀ {H : Heap} {locs : List Loc}, va_S A s.heap H locs → GE g s H := fun hS => hG0.keptS hAb hS
  have hSb : ∀ {H : Heap} {locs : List Loc}, va_S A s.heap H locs → va_S (fun a => g.1 ≤ a) s.heap H locs := fun hS => ⟨hS.1, fun q h1 h2 => hS.2.1 q h1 (fun z => h2 (hAb q z)), fun l hl => hAb _ (hS.2.2 l hl)⟩
  have hS : va_S A s.heap s.heap [] := va_S.rf
  have hrt : ∀ (u : Nat → Nat) (pc : Nat) (ls : Array Slot) (x_t_mem : Nat → Int32) (x_t_acted : Int32) (x_t_past : Nat → Int32) (x_t_row : Nat → Int32) (x_t_wide : Int32) (x_t_lost : Int32) (H : Heap) (locs : List Loc), decode cX8_stays pc = .ok (.return_, 1) → some (x_t_mem, x_t_acted, x_t_past, x_t_row, x_t_wide, x_t_lost) = some (o_t_mem, o_t_acted, o_t_past, o_t_row, o_t_wide, o_t_lost) → va_P g.2.1 vwCl [((a_t 0), .inr (7, [.ref (a_t 1), .ref (a_t 2), .int x_t_acted, .ref (a_t 4), .ref (a_t 5), .ref (a_t 6), .ref (a_t 7), .ref (a_t 8), .ref (a_t 9), .int t_taped, .int t_faultKind, .int t_faultPlace, .int t_at, .int t_begin, .int t_token, .int t_value, .int t_bad, .ref (a_t 18), .ref (a_t 19), .ref (a_t 20), .int x_t_wide, .int x_t_lost, .ref (a_t 23), .long t_det, .ref (a_t 25), .int t_mask, .int t_mode, .int t_wanted, .int t_orders, .int t_foundAt, .long t_foundBy, .ref (a_t 32), .ref (a_t 33), .int t_unlikes, .ref (a_t 35), .ref (a_t 36)])), ((a_t 1), .inl (g.2.2.1 0, 27, .inl x_t_mem)), ((a_t 4), .inl (g.2.2.1 0, 810, .inl x_t_past)), ((a_t 20), .inl (g.2.2.1 0, 8, .inl x_t_row))] H → va_D A [((a_t 0), .inr (7, [.ref (a_t 1), .ref (a_t 2), .int x_t_acted, .ref (a_t 4), .ref (a_t 5), .ref (a_t 6), .ref (a_t 7), .ref (a_t 8), .ref (a_t 9), .int t_taped, .int t_faultKind, .int t_faultPlace, .int t_at, .int t_begin, .int t_token, .int t_value, .int t_bad, .ref (a_t 18), .ref (a_t 19), .ref (a_t 20), .int x_t_wide, .int x_t_lost, .ref (a_t 23), .long t_det, .ref (a_t 25), .int t_mask, .int t_mode, .int t_wanted, .int t_orders, .int t_foundAt, .long t_foundBy, .ref (a_t 32), .ref (a_t 33), .int t_unlikes, .ref (a_t 35), .ref (a_t 36)])), ((a_t 1), .inl (g.2.2.1 0, 27, .inl x_t_mem)), ((a_t 4), .inl (g.2.2.1 0, 810, .inl x_t_past)), ((a_t 20), .inl (g.2.2.1 0, 8, .inl x_t_row))] → va_S A s.heap H locs → W p l e ⟨2, 0, 0, 43⟩ s m args below meth c H locs 0 0 Q (F0 m pc ls []) := by
    intro u pc ls x_t_mem x_t_acted x_t_past x_t_row x_t_wide x_t_lost H locs hd h hP hD hS
    cases h
    exact hret u _ _ _ _ hd hP hD hS
  have w53 : ∀ (k21 : (Nat → Int32) → Int32 → (Nat → Int32) → (Nat → Int32) → Int32 → Int32 → Int32 → Option ((Nat → Int32) × Int32 × (Nat → Int32) × (Nat → Int32) × Int32 × Int32)) (hk21 : ∀ (t_mem : Nat → Int32) (t_acted : Int32) (t_past : Nat → Int32) (t_row : Nat → Int32) (t_wide : Int32) (t_lost : Int32) (v2 : Int32) (H : Heap) (locs : List Loc), va_P g.2.1 vwCl [((a_t 0), .inr (7, [.ref (a_t 1), .ref (a_t 2), .int t_acted, .ref (a_t 4), .ref (a_t 5), .ref (a_t 6), .ref (a_t 7), .ref (a_t 8), .ref (a_t 9), .int t_taped, .int t_faultKind, .int t_faultPlace, .int t_at, .int t_begin, .int t_token, .int t_value, .int t_bad, .ref (a_t 18), .ref (a_t 19), .ref (a_t 20), .int t_wide, .int t_lost, .ref (a_t 23), .long t_det, .ref (a_t 25), .int t_mask, .int t_mode, .int t_wanted, .int t_orders, .int t_foundAt, .long t_foundBy, .ref (a_t 32), .ref (a_t 33), .int t_unlikes, .ref (a_t 35), .ref (a_t 36)])), ((a_t 1), .inl (g.2.2.1 0, 27, .inl t_mem)), ((a_t 4), .inl (g.2.2.1 0, 810, .inl t_past)), ((a_t 20), .inl (g.2.2.1 0, 8, .inl t_row))] H → va_D A [((a_t 0), .inr (7, [.ref (a_t 1), .ref (a_t 2), .int t_acted, .ref (a_t 4), .ref (a_t 5), .ref (a_t 6), .ref (a_t 7), .ref (a_t 8), .ref (a_t 9), .int t_taped, .int t_faultKind, .int t_faultPlace, .int t_at, .int t_begin, .int t_token, .int t_value, .int t_bad, .ref (a_t 18), .ref (a_t 19), .ref (a_t 20), .int t_wide, .int t_lost, .ref (a_t 23), .long t_det, .ref (a_t 25), .int t_mask, .int t_mode, .int t_wanted, .int t_orders, .int t_foundAt, .long t_foundBy, .ref (a_t 32), .ref (a_t 33), .int t_unlikes, .ref (a_t 35), .ref (a_t 36)])), ((a_t 1), .inl (g.2.2.1 0, 27, .inl t_mem)), ((a_t 4), .inl (g.2.2.1 0, 810, .inl t_past)), ((a_t 20), .inl (g.2.2.1 0, 8, .inl t_row))] → va_S A s.heap H locs → ∀ (ls : Array Slot), lv_has ls 3 [(0, .ref ((a_t 0))), (2, .int v2)] → k21 t_mem t_acted t_past t_row t_wide t_lost v2 = some (o_t_mem, o_t_acted, o_t_past, o_t_row, o_t_wide, o_t_lost) → W p l e ⟨2, 0, 0, 43⟩ s m args below meth c H locs 0 0 Q (F0 m 21 ls [])) (t_mem : Nat → Int32) (t_acted : Int32) (t_past : Nat → Int32) (t_row : Nat → Int32) (t_wide : Int32) (t_lost : Int32) (v2 : Int32) (z1 : Int32) (z2 : Int32) (H : Heap) (locs : List Loc), va_P g.2.1 vwCl [((a_t 0), .inr (7, [.ref (a_t 1), .ref (a_t 2), .int t_acted, .ref (a_t 4), .ref (a_t 5), .ref (a_t 6), .ref (a_t 7), .ref (a_t 8), .ref (a_t 9), .int t_taped, .int t_faultKind, .int t_faultPlace, .int t_at, .int t_begin, .int t_token, .int t_value, .int t_bad, .ref (a_t 18), .ref (a_t 19), .ref (a_t 20), .int t_wide, .int t_lost, .ref (a_t 23), .long t_det, .ref (a_t 25), .int t_mask, .int t_mode, .int t_wanted, .int t_orders, .int t_foundAt, .long t_foundBy, .ref (a_t 32), .ref (a_t 33), .int t_unlikes, .ref (a_t 35), .ref (a_t 36)])), ((a_t 1), .inl (g.2.2.1 0, 27, .inl t_mem)), ((a_t 4), .inl (g.2.2.1 0, 810, .inl t_past)), ((a_t 20), .inl (g.2.2.1 0, 8, .inl t_row))] H → va_D A [((a_t 0), .inr (7, [.ref (a_t 1), .ref (a_t 2), .int t_acted, .ref (a_t 4), .ref (a_t 5), .ref (a_t 6), .ref (a_t 7), .ref (a_t 8), .ref (a_t 9), .int t_taped, .int t_faultKind, .int t_faultPlace, .int t_at, .int t_begin, .int t_token, .int t_value, .int t_bad, .ref (a_t 18), .ref (a_t 19), .ref (a_t 20), .int t_wide, .int t_lost, .ref (a_t 23), .long t_det, .ref (a_t 25), .int t_mask, .int t_mode, .int t_wanted, .int t_orders, .int t_foundAt, .long t_foundBy, .ref (a_t 32), .ref (a_t 33), .int t_unlikes, .ref (a_t 35), .ref (a_t 36)])), ((a_t 1), .inl (g.2.2.1 0, 27, .inl t_mem)), ((a_t 4), .inl (g.2.2.1 0, 810, .inl t_past)), ((a_t 20), .inl (g.2.2.1 0, 8, .inl t_row))] → va_S A s.heap H locs → ∀ (ls : Array Slot), lv_has ls 3 [(0, .ref ((a_t 0))), (2, .int v2)] → fX8_stays_53 k21 t_mem t_acted t_past t_row t_wide t_lost v2 z1 z2 = some (o_t_mem, o_t_acted, o_t_past, o_t_row, o_t_wide, o_t_lost) → W p l e ⟨2, 0, 0, 43⟩ s m args below meth c H locs 0 0 Q (F0 m 53 ls [.int z2, .int z1, .ref ((a_t 1))]) := by
    intro k21 hk21 t_mem t_acted t_past t_row t_wide t_lost v2 z1 z2 H locs hP hD hS ls hl h
    unfold fX8_stays_53 at h
    have hG := hGk hS
    obtain ⟨hi13, h⟩ := chk_out h
    refine xw_iast (ws' := [((a_t 0), .inr (7, [.ref (a_t 1), .ref (a_t 2), .int t_acted, .ref (a_t 4), .ref (a_t 5), .ref (a_t 6), .ref (a_t 7), .ref (a_t 8), .ref (a_t 9), .int t_taped, .int t_faultKind, .int t_faultPlace, .int t_at, .int t_begin, .int t_token, .int t_value, .int t_bad, .ref (a_t 18), .ref (a_t 19), .ref (a_t 20), .int t_wide, .int t_lost, .ref (a_t 23), .long t_det, .ref (a_t 25), .int t_mask, .int t_mode, .int t_wanted, .int t_orders, .int t_foundAt, .long t_foundBy, .ref (a_t 32), .ref (a_t 33), .int t_unlikes, .ref (a_t 35), .ref (a_t 36)])), ((a_t 1), .inl (g.2.2.1 0, 27, .inl (upd t_mem z1.toNatClampNeg z2))), ((a_t 4), .inl (g.2.2.1 0, 810, .inl t_past)), ((a_t 20), .inl (g.2.2.1 0, 8, .inl t_row))]) (k := z1.toNatClampNeg) cx hG hP hD hS 1 rfl hi13 rfl rfl dX8_stays_53 (fun H locs hP hD hS => ?_)
    have hG := hGk hS
    refine lv_iinc (v := v2 + 1) (lv' := [(2, .int (v2 + 1)), (0, .ref ((a_t 0)))]) hx hb dX8_stays_54 hl (k := 1) rfl rfl (by decide) rfl (fun ls hl => ?_)
    refine lv_goto (tgt := 21) hx hb dX8_stays_57 (by decide) ?_
    exact hk21 (upd t_mem z1.toNatClampNeg z2) t_acted t_past t_row t_wide t_lost (v2 + 1) _ _ hP hD hS _ (lv_sub hl [1, 0] rfl) h
  have w21 : ∀ (n : Nat) (t_mem : Nat → Int32) (t_acted : Int32) (t_past : Nat → Int32) (t_row : Nat → Int32) (t_wide : Int32) (t_lost : Int32) (v2 : Int32) (H : Heap) (locs : List Loc), va_P g.2.1 vwCl [((a_t 0), .inr (7, [.ref (a_t 1), .ref (a_t 2), .int t_acted, .ref (a_t 4), .ref (a_t 5), .ref (a_t 6), .ref (a_t 7), .ref (a_t 8), .ref (a_t 9), .int t_taped, .int t_faultKind, .int t_faultPlace, .int t_at, .int t_begin, .int t_token, .int t_value, .int t_bad, .ref (a_t 18), .ref (a_t 19), .ref (a_t 20), .int t_wide, .int t_lost, .ref (a_t 23), .long t_det, .ref (a_t 25), .int t_mask, .int t_mode, .int t_wanted, .int t_orders, .int t_foundAt, .long t_foundBy, .ref (a_t 32), .ref (a_t 33), .int t_unlikes, .ref (a_t 35), .ref (a_t 36)])), ((a_t 1), .inl (g.2.2.1 0, 27, .inl t_mem)), ((a_t 4), .inl (g.2.2.1 0, 810, .inl t_past)), ((a_t 20), .inl (g.2.2.1 0, 8, .inl t_row))] H → va_D A [((a_t 0), .inr (7, [.ref (a_t 1), .ref (a_t 2), .int t_acted, .ref (a_t 4), .ref (a_t 5), .ref (a_t 6), .ref (a_t 7), .ref (a_t 8), .ref (a_t 9), .int t_taped, .int t_faultKind, .int t_faultPlace, .int t_at, .int t_begin, .int t_token, .int t_value, .int t_bad, .ref (a_t 18), .ref (a_t 19), .ref (a_t 20), .int t_wide, .int t_lost, .ref (a_t 23), .long t_det, .ref (a_t 25), .int t_mask, .int t_mode, .int t_wanted, .int t_orders, .int t_foundAt, .long t_foundBy, .ref (a_t 32), .ref (a_t 33), .int t_unlikes, .ref (a_t 35), .ref (a_t 36)])), ((a_t 1), .inl (g.2.2.1 0, 27, .inl t_mem)), ((a_t 4), .inl (g.2.2.1 0, 810, .inl t_past)), ((a_t 20), .inl (g.2.2.1 0, 8, .inl t_row))] → va_S A s.heap H locs → ∀ (ls : Array Slot), lv_has ls 3 [(0, .ref ((a_t 0))), (2, .int v2)] → fX8_stays_21  n t_mem t_acted t_past t_row t_wide t_lost v2 = some (o_t_mem, o_t_acted, o_t_past, o_t_row, o_t_wide, o_t_lost) → W p l e ⟨2, 0, 0, 43⟩ s m args below meth c H locs 0 0 Q (F0 m 21 ls []) := by
    intro n
    induction n with
    | zero => intro t_mem t_acted t_past t_row t_wide t_lost v2 H locs hP hD hS ls hl h; cases (fX8_stays_21_z  t_mem t_acted t_past t_row t_wide t_lost v2).symm.trans h
    | succ n ih =>
    intro t_mem t_acted t_past t_row t_wide t_lost v2 H locs hP hD hS ls hl h
    have h := (fX8_stays_21_s  n t_mem t_acted t_past t_row t_wide t_lost v2).symm.trans h
    have hG := hGk hS
    refine lv_iload_n hx hb dX8_stays_21 rfl (lv_at hl 1 rfl) ?_
    refine lv_bipush (v := 8) hx hb dX8_stays_22 (by decide) ?_
    refine lv_icmp_ge (tgt := 60) hx hb dX8_stays_24 (by decide) (fun c10 => ?_) (fun c10 => ?_)
    · have h := itp c10 h
      exact hrt (fun _ => 0) _ _ t_mem t_acted t_past t_row t_wide t_lost _ _ dX8_stays_60 h (hP.sub [0, 1, 2, 3] rfl) (hD.sub [0, 1, 2, 3] (by decide) rfl) hS
    · have h := itn c10 h
      refine lv_aload_n hx hb dX8_stays_27 rfl (lv_at hl 0 rfl) ?_
      refine xa_get (C := RX8) (T := TX8) (N := 36) cx hG hP 0 rfl rfl uX8 0 (by decide) lf_X8_21 rfl dX8_stays_28 ?_
      refine lv_bipush (v := 19) hx hb dX8_stays_31 (by decide) ?_
      refine lv_iload_n hx hb dX8_stays_33 rfl (lv_at hl 1 rfl) ?_
      refine lv_iadd hx hb dX8_stays_34 ?_
      refine lv_iload_n hx hb dX8_stays_35 rfl (lv_at hl 1 rfl) ?_
      refine lv_aload_n hx hb dX8_stays_36 rfl (lv_at hl 0 rfl) ?_
      refine xa_get (C := RX8) (T := TX8) (N := 36) cx hG hP 0 rfl rfl uX8 20 (by decide) lf_X8_206 rfl dX8_stays_37 ?_
      refine lv_icmp_ge (tgt := 52) hx hb dX8_stays_40 (by decide) (fun c11 => ?_) (fun c11 => ?_)
      · have h := itp c11 h
        refine lv_iconst (v := 0) hx hb dX8_stays_52 (by decide) ?_
        exact w53 _ ih t_mem t_acted t_past t_row t_wide t_lost v2 (19 + v2) 0 _ _ hP hD hS _ (lv_sub hl [0, 1] rfl) h
      · have h := itn c11 h
        refine lv_aload_n hx hb dX8_stays_43 rfl (lv_at hl 0 rfl) ?_
        refine xa_get (C := RX8) (T := TX8) (N := 36) cx hG hP 0 rfl rfl uX8 19 (by decide) lf_X8_57 rfl dX8_stays_44 ?_
        refine lv_iload_n hx hb dX8_stays_47 rfl (lv_at hl 1 rfl) ?_
        obtain ⟨hi12, h⟩ := chk_out h
        refine xa_iald cx hG hP 3 rfl hi12 rfl dX8_stays_48 ?_
        refine lv_goto (tgt := 53) hx hb dX8_stays_49 (by decide) ?_
        exact w53 _ ih t_mem t_acted t_past t_row t_wide t_lost v2 (19 + v2) (t_row v2.toNatClampNeg) _ _ hP hD hS _ (lv_sub hl [0, 1] rfl) h
  unfold fX8_stays at h
  refine lv_aload_n hx hb dX8_stays_0 rfl (lv_at hl 0 rfl) ?_
  refine lv_iload_n hx hb dX8_stays_1 rfl (lv_at hl 1 rfl) ?_
  obtain ⟨w2, w3, w4, hr1, h⟩ := ob3_out h
  refine rw_v (WN := fun u5 => [((a_t 4), .inl (g.2.2.1 0, 810, .inl t_past)), ((a_t 0), .inr (7, [.ref (a_t 1), .ref (a_t 2), .int t_acted, .ref (a_t 4), .ref (a_t 5), .ref (a_t 6), .ref (a_t 7), .ref (a_t 8), .ref (a_t 9), .int t_taped, .int t_faultKind, .int t_faultPlace, .int t_at, .int t_begin, .int t_token, .int t_value, .int t_bad, .ref (a_t 18), .ref (a_t 19), .ref (a_t 20), .int w3, .int w4, .ref (a_t 23), .long t_det, .ref (a_t 25), .int t_mask, .int t_mode, .int t_wanted, .int t_orders, .int t_foundAt, .long t_foundBy, .ref (a_t 32), .ref (a_t 33), .int t_unlikes, .ref (a_t 35), .ref (a_t 36)])), ((a_t 1), .inl (g.2.2.1 0, 27, .inl t_mem)), ((a_t 20), .inl (g.2.2.1 0, 8, .inl w2))]) (wr := [((a_t 4), .inl (g.2.2.1 0, 810, .inl t_past))]) (runV (As := [.int v1]) (rest := []) cx hl.1 (ctX8_laysSet l g s.heap.size a_t t_acted t_taped t_faultKind t_faultPlace t_at t_begin t_token t_value t_bad t_wide t_lost t_det t_mask t_mode t_wanted t_orders t_foundAt t_foundBy t_unlikes t_mem t_row v1 w2 w3 w4 hr1) kmX8_laysSet kvX8_laysSet lm_X8_380 ⟨rfl, rfl⟩ ⟨Nat.le_of_ble_eq_true rfl, Nat.le_of_ble_eq_true rfl⟩ (rwV (q0 := 0) (ci := 7) hG (hP.sub [0, 1, 3] rfl) (hD.sub [0, 1, 3] (by decide) rfl) hAb hb0 hS hP rfl rfl) rfl rfl (Nat.le_of_ble_eq_true rfl) dX8_stays_2 ⟨Nat.le_of_ble_eq_true rfl, Nat.le_of_ble_eq_true rfl⟩) hP hD hS hA [0, 1, 3] [2] rfl rfl (by decide) (by decide) (fun _ => rfl) (fun u5 H locs hP hD hS => ?_)
  have hG := hGk hS
  refine lv_aload_n hx hb dX8_stays_5 rfl (lv_at hl 0 rfl) ?_
  obtain ⟨w7, w8, hr6, h⟩ := ob2_out h
  refine rw_v (WN := fun u9 => [((a_t 20), .inl (g.2.2.1 0, 8, .inl w2)), ((a_t 0), .inr (7, [.ref (a_t 1), .ref (a_t 2), .int w7, .ref (a_t 4), .ref (a_t 5), .ref (a_t 6), .ref (a_t 7), .ref (a_t 8), .ref (a_t 9), .int t_taped, .int t_faultKind, .int t_faultPlace, .int t_at, .int t_begin, .int t_token, .int t_value, .int t_bad, .ref (a_t 18), .ref (a_t 19), .ref (a_t 20), .int w3, .int w4, .ref (a_t 23), .long t_det, .ref (a_t 25), .int t_mask, .int t_mode, .int t_wanted, .int t_orders, .int t_foundAt, .long t_foundBy, .ref (a_t 32), .ref (a_t 33), .int t_unlikes, .ref (a_t 35), .ref (a_t 36)])), ((a_t 1), .inl (g.2.2.1 0, 27, .inl t_mem)), ((a_t 4), .inl (g.2.2.1 0, 810, .inl w8))]) (wr := [((a_t 20), .inl (g.2.2.1 0, 8, .inl w2))]) (runV (As := []) (rest := []) cx hl.1 (ctX8_keeps l g H.size a_t t_acted t_taped t_faultKind t_faultPlace t_at t_begin t_token t_value t_bad w3 w4 t_det t_mask t_mode t_wanted t_orders t_foundAt t_foundBy t_unlikes t_mem t_past w7 w8 hr6) kmX8_keeps kvX8_keeps lm_X8_428 ⟨rfl, rfl⟩ ⟨Nat.le_of_ble_eq_true rfl, Nat.le_of_ble_eq_true rfl⟩ (rwV (q0 := 1) (ci := 7) hG (hP.sub [1, 2, 0] rfl) (hD.sub [1, 2, 0] (by decide) rfl) hAb hb0 hS hP rfl rfl) rfl rfl (Nat.le_of_ble_eq_true rfl) dX8_stays_6 ⟨Nat.le_of_ble_eq_true rfl, Nat.le_of_ble_eq_true rfl⟩) hP hD hS hA [1, 2, 0] [3] rfl rfl (by decide) (by decide) (fun _ => rfl) (fun u9 H locs hP hD hS => ?_)
  have hG := hGk hS
  refine lv_aload_n hx hb dX8_stays_9 rfl (lv_at hl 0 rfl) ?_
  refine xa_get (C := RX8) (T := TX8) (N := 36) cx hG hP 1 rfl rfl uX8 0 (by decide) lf_X8_21 rfl dX8_stays_10 ?_
  refine lv_iconst (v := 2) hx hb dX8_stays_13 (by decide) ?_
  refine lv_aload_n hx hb dX8_stays_14 rfl (lv_at hl 0 rfl) ?_
  refine xa_get (C := RX8) (T := TX8) (N := 36) cx hG hP 1 rfl rfl uX8 20 (by decide) lf_X8_206 rfl dX8_stays_15 ?_
  refine xw_iast (ws' := [((a_t 20), .inl (g.2.2.1 0, 8, .inl w2)), ((a_t 0), .inr (7, [.ref (a_t 1), .ref (a_t 2), .int w7, .ref (a_t 4), .ref (a_t 5), .ref (a_t 6), .ref (a_t 7), .ref (a_t 8), .ref (a_t 9), .int t_taped, .int t_faultKind, .int t_faultPlace, .int t_at, .int t_begin, .int t_token, .int t_value, .int t_bad, .ref (a_t 18), .ref (a_t 19), .ref (a_t 20), .int w3, .int w4, .ref (a_t 23), .long t_det, .ref (a_t 25), .int t_mask, .int t_mode, .int t_wanted, .int t_orders, .int t_foundAt, .long t_foundBy, .ref (a_t 32), .ref (a_t 33), .int t_unlikes, .ref (a_t 35), .ref (a_t 36)])), ((a_t 1), .inl (g.2.2.1 0, 27, .inl (upd t_mem 2 w3))), ((a_t 4), .inl (g.2.2.1 0, 810, .inl w8))]) (k := 2) cx hG hP hD hS 2 rfl (show ¬ ((2 : Int32) < 0 ∨ 27 ≤ (2 : Int32).toNatClampNeg) by decide) (by decide) rfl dX8_stays_18 (fun H locs hP hD hS => ?_)
  have hG := hGk hS
  refine lv_iconst (v := 0) hx hb dX8_stays_19 (by decide) ?_
  refine lv_istore_n (lv' := [(2, .int (0)), (0, .ref ((a_t 0))), (1, .int v1)]) hx hb dX8_stays_20 rfl hl (by decide) rfl (fun ls hl => ?_)
  exact w21 FU (upd t_mem 2 w3) w7 w8 w2 w3 w4 0 _ _ (hP.sub [1, 2, 3, 0] rfl) (hD.sub [1, 2, 3, 0] (by decide) rfl) hS _ (lv_sub hl [1, 0] rfl) h
-- X8_drop
theorem dX8_drop_0 : decode cX8_drop 0 = .ok (.aload_n 0, 1) := by decide +kernel
theorem dX8_drop_1 : decode cX8_drop 1 = .ok (.iload_n 1, 1) := by decide +kernel
theorem dX8_drop_2 : decode cX8_drop 2 = .ok (.invokevirtual 199, 3) := by decide +kernel
theorem dX8_drop_5 : decode cX8_drop 5 = .ok (.ifCond .ne 6, 3) := by decide +kernel
theorem dX8_drop_8 : decode cX8_drop 8 = .ok (.bipush (-2), 2) := by decide +kernel
theorem dX8_drop_10 : decode cX8_drop 10 = .ok (.ireturn, 1) := by decide +kernel
theorem dX8_drop_11 : decode cX8_drop 11 = .ok (.aload_n 0, 1) := by decide +kernel
theorem dX8_drop_12 : decode cX8_drop 12 = .ok (.invokevirtual 425, 3) := by decide +kernel
theorem dX8_drop_15 : decode cX8_drop 15 = .ok (.ifCond .eq 6, 3) := by decide +kernel
theorem dX8_drop_18 : decode cX8_drop 18 = .ok (.bipush (-5), 2) := by decide +kernel
theorem dX8_drop_20 : decode cX8_drop 20 = .ok (.ireturn, 1) := by decide +kernel
theorem dX8_drop_21 : decode cX8_drop 21 = .ok (.aload_n 0, 1) := by decide +kernel
theorem dX8_drop_22 : decode cX8_drop 22 = .ok (.aload_n 0, 1) := by decide +kernel
theorem dX8_drop_23 : decode cX8_drop 23 = .ok (.invokevirtual 389, 3) := by decide +kernel
theorem dX8_drop_26 : decode cX8_drop 26 = .ok (.iconst 1, 1) := by decide +kernel
theorem dX8_drop_27 : decode cX8_drop 27 = .ok (.iload_n 1, 1) := by decide +kernel
theorem dX8_drop_28 : decode cX8_drop 28 = .ok (.ishl, 1) := by decide +kernel
theorem dX8_drop_29 : decode cX8_drop 29 = .ok (.iconst (-1), 1) := by decide +kernel
theorem dX8_drop_30 : decode cX8_drop 30 = .ok (.ixor, 1) := by decide +kernel
theorem dX8_drop_31 : decode cX8_drop 31 = .ok (.iand, 1) := by decide +kernel
theorem dX8_drop_32 : decode cX8_drop 32 = .ok (.invokevirtual 431, 3) := by decide +kernel
theorem dX8_drop_35 : decode cX8_drop 35 = .ok (.aload_n 0, 1) := by decide +kernel
theorem dX8_drop_36 : decode cX8_drop 36 = .ok (.getfield 21, 3) := by decide +kernel
theorem dX8_drop_39 : decode cX8_drop 39 = .ok (.iconst 2, 1) := by decide +kernel
theorem dX8_drop_40 : decode cX8_drop 40 = .ok (.iaload, 1) := by decide +kernel
theorem dX8_drop_41 : decode cX8_drop 41 = .ok (.ireturn, 1) := by decide +kernel
noncomputable def fX8_drop  (t_mem : Nat → Int32) (t_acted : Int32) (t_past : Nat → Int32) (t_row : Nat → Int32) (t_wide : Int32) (t_lost : Int32) (v1 : Int32) : Option (Int32 × (Nat → Int32) × Int32 × (Nat → Int32) × (Nat → Int32) × Int32 × Int32) := (fX8_isPly t_mem v1).bind fun r1 => (if r1 = 0 then some ((-2), t_mem, t_acted, t_past, t_row, t_wide, t_lost) else (if (fX8_isFull t_acted) = 0 then (fX8_allBits t_mem).bind fun r7 => ob6 (fX8_stays t_mem t_acted t_past t_row t_wide t_lost (r7 &&& ((1 <<< (v1 &&& 31)) ^^^ (-1)))) fun w10 w11 w12 w13 w14 w15 => some ((w10 2), w10, w11, w12, w13, w14, w15) else some ((-5), t_mem, t_acted, t_past, t_row, t_wide, t_lost)))
set_option maxHeartbeats 4000000 in
set_option maxRecDepth 100000 in
theorem ctX8_drop (l : Launch) (g : GT) (sz : Nat) (a_t : Nat → Nat) (t_acted : Int32) (t_taped : Int32) (t_faultKind : Int32) (t_faultPlace : Int32) (t_at : Int32) (t_begin : Int32) (t_token : Int32) (t_value : Int32) (t_bad : Int32) (t_wide : Int32) (t_lost : Int32) (t_det : Int64) (t_mask : Int32) (t_mode : Int32) (t_wanted : Int32) (t_orders : Int32) (t_foundAt : Int32) (t_foundBy : Int64) (t_unlikes : Int32) (t_mem : Nat → Int32) (t_past : Nat → Int32) (t_row : Nat → Int32) (v1 : Int32) (o : Int32) (o_t_mem : Nat → Int32) (o_t_acted : Int32) (o_t_past : Nat → Int32) (o_t_row : Nat → Int32) (o_t_wide : Int32) (o_t_lost : Int32) (h : fX8_drop t_mem t_acted t_past t_row t_wide t_lost v1 = some (o, o_t_mem, o_t_acted, o_t_past, o_t_row, o_t_wide, o_t_lost)) : Met l yX8_drop (Cond.code yX8_drop cX8_drop 2 (some .int) :: Tw) ⟨3, 0, 0, 65⟩ (va_Pc [.ref ((a_t 0)), .int v1] (rwB g [((a_t 0), .inr (7, [.ref (a_t 1), .ref (a_t 2), .int t_acted, .ref (a_t 4), .ref (a_t 5), .ref (a_t 6), .ref (a_t 7), .ref (a_t 8), .ref (a_t 9), .int t_taped, .int t_faultKind, .int t_faultPlace, .int t_at, .int t_begin, .int t_token, .int t_value, .int t_bad, .ref (a_t 18), .ref (a_t 19), .ref (a_t 20), .int t_wide, .int t_lost, .ref (a_t 23), .long t_det, .ref (a_t 25), .int t_mask, .int t_mode, .int t_wanted, .int t_orders, .int t_foundAt, .long t_foundBy, .ref (a_t 32), .ref (a_t 33), .int t_unlikes, .ref (a_t 35), .ref (a_t 36)])), ((a_t 1), .inl (g.2.2.1 0, 27, .inl t_mem)), ((a_t 4), .inl (g.2.2.1 0, 810, .inl t_past)), ((a_t 20), .inl (g.2.2.1 0, 8, .inl t_row))] sz)) (va_Qi (fun x (_ : Nat → Nat) => x = o) (fun u => rwE g (va_A [((a_t 0), .inr (7, [.ref (a_t 1), .ref (a_t 2), .int t_acted, .ref (a_t 4), .ref (a_t 5), .ref (a_t 6), .ref (a_t 7), .ref (a_t 8), .ref (a_t 9), .int t_taped, .int t_faultKind, .int t_faultPlace, .int t_at, .int t_begin, .int t_token, .int t_value, .int t_bad, .ref (a_t 18), .ref (a_t 19), .ref (a_t 20), .int t_wide, .int t_lost, .ref (a_t 23), .long t_det, .ref (a_t 25), .int t_mask, .int t_mode, .int t_wanted, .int t_orders, .int t_foundAt, .long t_foundBy, .ref (a_t 32), .ref (a_t 33), .int t_unlikes, .ref (a_t 35), .ref (a_t 36)])), ((a_t 1), .inl (g.2.2.1 0, 27, .inl t_mem)), ((a_t 4), .inl (g.2.2.1 0, 810, .inl t_past)), ((a_t 20), .inl (g.2.2.1 0, 8, .inl t_row))] sz) [((a_t 0), .inr (7, [.ref (a_t 1), .ref (a_t 2), .int o_t_acted, .ref (a_t 4), .ref (a_t 5), .ref (a_t 6), .ref (a_t 7), .ref (a_t 8), .ref (a_t 9), .int t_taped, .int t_faultKind, .int t_faultPlace, .int t_at, .int t_begin, .int t_token, .int t_value, .int t_bad, .ref (a_t 18), .ref (a_t 19), .ref (a_t 20), .int o_t_wide, .int o_t_lost, .ref (a_t 23), .long t_det, .ref (a_t 25), .int t_mask, .int t_mode, .int t_wanted, .int t_orders, .int t_foundAt, .long t_foundBy, .ref (a_t 32), .ref (a_t 33), .int t_unlikes, .ref (a_t 35), .ref (a_t 36)])), ((a_t 1), .inl (g.2.2.1 0, 27, .inl o_t_mem)), ((a_t 4), .inl (g.2.2.1 0, 810, .inl o_t_past)), ((a_t 20), .inl (g.2.2.1 0, 8, .inl o_t_row))]) (va_A [((a_t 0), .inr (7, [.ref (a_t 1), .ref (a_t 2), .int t_acted, .ref (a_t 4), .ref (a_t 5), .ref (a_t 6), .ref (a_t 7), .ref (a_t 8), .ref (a_t 9), .int t_taped, .int t_faultKind, .int t_faultPlace, .int t_at, .int t_begin, .int t_token, .int t_value, .int t_bad, .ref (a_t 18), .ref (a_t 19), .ref (a_t 20), .int t_wide, .int t_lost, .ref (a_t 23), .long t_det, .ref (a_t 25), .int t_mask, .int t_mode, .int t_wanted, .int t_orders, .int t_foundAt, .long t_foundBy, .ref (a_t 32), .ref (a_t 33), .int t_unlikes, .ref (a_t 35), .ref (a_t 36)])), ((a_t 1), .inl (g.2.2.1 0, 27, .inl t_mem)), ((a_t 4), .inl (g.2.2.1 0, 810, .inl t_past)), ((a_t 20), .inl (g.2.2.1 0, 8, .inl t_row))] sz)) 0 0 (va_A [((a_t 0), .inr (7, [.ref (a_t 1), .ref (a_t 2), .int t_acted, .ref (a_t 4), .ref (a_t 5), .ref (a_t 6), .ref (a_t 7), .ref (a_t 8), .ref (a_t 9), .int t_taped, .int t_faultKind, .int t_faultPlace, .int t_at, .int t_begin, .int t_token, .int t_value, .int t_bad, .ref (a_t 18), .ref (a_t 19), .ref (a_t 20), .int t_wide, .int t_lost, .ref (a_t 23), .long t_det, .ref (a_t 25), .int t_mask, .int t_mode, .int t_wanted, .int t_orders, .int t_foundAt, .long t_foundBy, .ref (a_t 32), .ref (a_t 33), .int t_unlikes, .ref (a_t 35), .ref (a_t 36)])), ((a_t 1), .inl (g.2.2.1 0, 27, .inl t_mem)), ((a_t 4), .inl (g.2.2.1 0, 810, .inl t_past)), ((a_t 20), .inl (g.2.2.1 0, 8, .inl t_row))] sz) := by
  refine rw_meti (by decide) (Nat.le_of_ble_eq_true rfl) (lv0 := [(0, .ref ((a_t 0))), (1, .int v1)]) rfl ?_
  intro p e s m args below meth c ls Q A cx hret hG hAb hb0 hA hP hD hl
  have hx := cx.1
  have hb := cx.2.1
  have hG0 := hG
  have hGk : ∀ {H : Heap} {locs : List Loc}, va_S A s.heap H locs → GE g s H := fun hS => hG0.keptS hAb hS
  have hSb : ∀ {H : Heap} {locs : List Loc}, va_S A s.heap H locs → va_S (fun a => g.1 ≤ a) s.heap H locs := fun hS => ⟨hS.1, fun q h1 h2 => hS.2.1 q h1 (fun z => h2 (hAb q z)), fun l hl => hAb _ (hS.2.2 l hl)⟩
  have hS : va_S A s.heap s.heap [] := va_S.rf
  have hrt : ∀ (u : Nat → Nat) (pc : Nat) (ls : Array Slot) (v : Int32) (x_t_mem : Nat → Int32) (x_t_acted : Int32) (x_t_past : Nat → Int32) (x_t_row : Nat → Int32) (x_t_wide : Int32) (x_t_lost : Int32) (H : Heap) (locs : List Loc), decode cX8_drop pc = .ok (.ireturn, 1) → some (v, x_t_mem, x_t_acted, x_t_past, x_t_row, x_t_wide, x_t_lost) = some (o, o_t_mem, o_t_acted, o_t_past, o_t_row, o_t_wide, o_t_lost) → va_P g.2.1 vwCl [((a_t 0), .inr (7, [.ref (a_t 1), .ref (a_t 2), .int x_t_acted, .ref (a_t 4), .ref (a_t 5), .ref (a_t 6), .ref (a_t 7), .ref (a_t 8), .ref (a_t 9), .int t_taped, .int t_faultKind, .int t_faultPlace, .int t_at, .int t_begin, .int t_token, .int t_value, .int t_bad, .ref (a_t 18), .ref (a_t 19), .ref (a_t 20), .int x_t_wide, .int x_t_lost, .ref (a_t 23), .long t_det, .ref (a_t 25), .int t_mask, .int t_mode, .int t_wanted, .int t_orders, .int t_foundAt, .long t_foundBy, .ref (a_t 32), .ref (a_t 33), .int t_unlikes, .ref (a_t 35), .ref (a_t 36)])), ((a_t 1), .inl (g.2.2.1 0, 27, .inl x_t_mem)), ((a_t 4), .inl (g.2.2.1 0, 810, .inl x_t_past)), ((a_t 20), .inl (g.2.2.1 0, 8, .inl x_t_row))] H → va_D A [((a_t 0), .inr (7, [.ref (a_t 1), .ref (a_t 2), .int x_t_acted, .ref (a_t 4), .ref (a_t 5), .ref (a_t 6), .ref (a_t 7), .ref (a_t 8), .ref (a_t 9), .int t_taped, .int t_faultKind, .int t_faultPlace, .int t_at, .int t_begin, .int t_token, .int t_value, .int t_bad, .ref (a_t 18), .ref (a_t 19), .ref (a_t 20), .int x_t_wide, .int x_t_lost, .ref (a_t 23), .long t_det, .ref (a_t 25), .int t_mask, .int t_mode, .int t_wanted, .int t_orders, .int t_foundAt, .long t_foundBy, .ref (a_t 32), .ref (a_t 33), .int t_unlikes, .ref (a_t 35), .ref (a_t 36)])), ((a_t 1), .inl (g.2.2.1 0, 27, .inl x_t_mem)), ((a_t 4), .inl (g.2.2.1 0, 810, .inl x_t_past)), ((a_t 20), .inl (g.2.2.1 0, 8, .inl x_t_row))] → va_S A s.heap H locs → W p l e ⟨3, 0, 0, 65⟩ s m args below meth c H locs 0 0 Q (F0 m pc ls [.int v]) := by
    intro u pc ls v x_t_mem x_t_acted x_t_past x_t_row x_t_wide x_t_lost H locs hd h hP hD hS
    cases h
    exact hret u _ _ _ _ _ hd rfl hP hD hS
  unfold fX8_drop at h
  refine lv_aload_n hx hb dX8_drop_0 rfl (lv_at hl 0 rfl) ?_
  refine lv_iload_n hx hb dX8_drop_1 rfl (lv_at hl 1 rfl) ?_
  obtain ⟨r1, hr2, h⟩ := bnd h
  refine ro_z (runV (As := [.int v1]) (rest := []) cx hl.1 (ctX8_isPly l g a_t t_acted t_taped t_faultKind t_faultPlace t_at t_begin t_token t_value t_bad t_wide t_lost t_det t_mask t_mode t_wanted t_orders t_foundAt t_foundBy t_unlikes t_mem v1 r1 hr2) kmX8_isPly kvX8_isPly lm_X8_199 ⟨rfl, rfl⟩ ⟨Nat.le_of_ble_eq_true rfl, Nat.le_of_ble_eq_true rfl⟩ (roV (q0 := 0) (ci := 7) hG (hP.sub [0, 1] rfl) hP rfl rfl) rfl rfl (Nat.le_of_ble_eq_true rfl) dX8_drop_2 ⟨Nat.le_of_ble_eq_true rfl, Nat.le_of_ble_eq_true rfl⟩) (fun hz3 => ?_)
  refine lv_if_ne (tgt := 11) hx hb dX8_drop_5 (by decide) (fun c4 => ?_) (fun c4 => ?_)
  · have h := itn c4 h
    refine lv_aload_n hx hb dX8_drop_11 rfl (lv_at hl 0 rfl) ?_
    refine ro_z (runV (As := []) (rest := []) cx hl.1 (ctX8_isFull l g a_t t_acted t_taped t_faultKind t_faultPlace t_at t_begin t_token t_value t_bad t_wide t_lost t_det t_mask t_mode t_wanted t_orders t_foundAt t_foundBy t_unlikes (fX8_isFull t_acted) rfl) kmX8_isFull kvX8_isFull lm_X8_425 ⟨rfl, rfl⟩ ⟨Nat.le_of_ble_eq_true rfl, Nat.le_of_ble_eq_true rfl⟩ (roV (q0 := 0) (ci := 7) hG (hP.sub [0] rfl) hP rfl rfl) rfl rfl (Nat.le_of_ble_eq_true rfl) dX8_drop_12 ⟨Nat.le_of_ble_eq_true rfl, Nat.le_of_ble_eq_true rfl⟩) (fun hz5 => ?_)
    refine lv_if_eq (tgt := 21) hx hb dX8_drop_15 (by decide) (fun c6 => ?_) (fun c6 => ?_)
    · have h := itp c6 h
      refine lv_aload_n hx hb dX8_drop_21 rfl (lv_at hl 0 rfl) ?_
      refine lv_aload_n hx hb dX8_drop_22 rfl (lv_at hl 0 rfl) ?_
      obtain ⟨r7, hr8, h⟩ := bnd h
      refine ro_i (runV (As := []) (rest := [.ref ((a_t 0))]) cx hl.1 (ctX8_allBits l g a_t t_acted t_taped t_faultKind t_faultPlace t_at t_begin t_token t_value t_bad t_wide t_lost t_det t_mask t_mode t_wanted t_orders t_foundAt t_foundBy t_unlikes t_mem r7 hr8) kmX8_allBits kvX8_allBits lm_X8_389 ⟨rfl, rfl⟩ ⟨Nat.le_of_ble_eq_true rfl, Nat.le_of_ble_eq_true rfl⟩ (roV (q0 := 0) (ci := 7) hG (hP.sub [0, 1] rfl) hP rfl rfl) rfl rfl (Nat.le_of_ble_eq_true rfl) dX8_drop_23 ⟨Nat.le_of_ble_eq_true rfl, Nat.le_of_ble_eq_true rfl⟩) ?_
      refine lv_iconst (v := 1) hx hb dX8_drop_26 (by decide) ?_
      refine lv_iload_n hx hb dX8_drop_27 rfl (lv_at hl 1 rfl) ?_
      refine lv_ishl hx hb dX8_drop_28 ?_
      refine lv_iconst (v := -1) hx hb dX8_drop_29 (by decide) ?_
      refine lv_ixor hx hb dX8_drop_30 ?_
      refine lv_iand hx hb dX8_drop_31 ?_
      obtain ⟨w10, w11, w12, w13, w14, w15, hr9, h⟩ := ob6_out h
      refine rw_v (WN := fun u16 => [((a_t 0), .inr (7, [.ref (a_t 1), .ref (a_t 2), .int w11, .ref (a_t 4), .ref (a_t 5), .ref (a_t 6), .ref (a_t 7), .ref (a_t 8), .ref (a_t 9), .int t_taped, .int t_faultKind, .int t_faultPlace, .int t_at, .int t_begin, .int t_token, .int t_value, .int t_bad, .ref (a_t 18), .ref (a_t 19), .ref (a_t 20), .int w14, .int w15, .ref (a_t 23), .long t_det, .ref (a_t 25), .int t_mask, .int t_mode, .int t_wanted, .int t_orders, .int t_foundAt, .long t_foundBy, .ref (a_t 32), .ref (a_t 33), .int t_unlikes, .ref (a_t 35), .ref (a_t 36)])), ((a_t 1), .inl (g.2.2.1 0, 27, .inl w10)), ((a_t 4), .inl (g.2.2.1 0, 810, .inl w12)), ((a_t 20), .inl (g.2.2.1 0, 8, .inl w13))]) (wr := []) (runV (As := [.int (r7 &&& ((1 <<< (v1 &&& 31)) ^^^ (-1)))]) (rest := []) cx hl.1 (ctX8_stays l g s.heap.size a_t t_acted t_taped t_faultKind t_faultPlace t_at t_begin t_token t_value t_bad t_wide t_lost t_det t_mask t_mode t_wanted t_orders t_foundAt t_foundBy t_unlikes t_mem t_past t_row (r7 &&& ((1 <<< (v1 &&& 31)) ^^^ (-1))) w10 w11 w12 w13 w14 w15 hr9) kmX8_stays kvX8_stays lm_X8_431 ⟨rfl, rfl⟩ ⟨Nat.le_of_ble_eq_true rfl, Nat.le_of_ble_eq_true rfl⟩ (rwV (q0 := 0) (ci := 7) hG (hP.sub [0, 1, 2, 3] rfl) (hD.sub [0, 1, 2, 3] (by decide) rfl) hAb hb0 hS hP rfl rfl) rfl rfl (Nat.le_of_ble_eq_true rfl) dX8_drop_32 ⟨Nat.le_of_ble_eq_true rfl, Nat.le_of_ble_eq_true rfl⟩) hP hD hS hA [0, 1, 2, 3] [] rfl rfl (by decide) (by decide) (fun _ => rfl) (fun u16 H locs hP hD hS => ?_)
      have hG := hGk hS
      refine lv_aload_n hx hb dX8_drop_35 rfl (lv_at hl 0 rfl) ?_
      refine xa_get (C := RX8) (T := TX8) (N := 36) cx hG hP 0 rfl rfl uX8 0 (by decide) lf_X8_21 rfl dX8_drop_36 ?_
      refine lv_iconst (v := 2) hx hb dX8_drop_39 (by decide) ?_
      refine xa_iald (k := 2) cx hG hP 1 rfl (show ¬ ((2 : Int32) < 0 ∨ 27 ≤ (2 : Int32).toNatClampNeg) by decide) (by decide) dX8_drop_40 ?_
      exact hrt (fun _ => 0) _ _ ((w10 2)) w10 w11 w12 w13 w14 w15 _ _ dX8_drop_41 h (hP.sub [0, 1, 2, 3] rfl) (hD.sub [0, 1, 2, 3] (by decide) rfl) hS
    · have h := itn c6 h
      refine lv_bipush (v := -5) hx hb dX8_drop_18 (by decide) ?_
      exact hrt (fun _ => 0) _ _ ((-5)) t_mem t_acted t_past t_row t_wide t_lost _ _ dX8_drop_20 h (hP.sub [0, 1, 2, 3] rfl) (hD.sub [0, 1, 2, 3] (by decide) rfl) hS
  · have h := itp c4 h
    refine lv_bipush (v := -2) hx hb dX8_drop_8 (by decide) ?_
    exact hrt (fun _ => 0) _ _ ((-2)) t_mem t_acted t_past t_row t_wide t_lost _ _ dX8_drop_10 h (hP.sub [0, 1, 2, 3] rfl) (hD.sub [0, 1, 2, 3] (by decide) rfl) hS
-- X8_keep
theorem dX8_keep_0 : decode cX8_keep 0 = .ok (.aload_n 0, 1) := by decide +kernel
theorem dX8_keep_1 : decode cX8_keep 1 = .ok (.invokevirtual 236, 3) := by decide +kernel
theorem dX8_keep_4 : decode cX8_keep 4 = .ok (.ifCond .eq 17, 3) := by decide +kernel
theorem dX8_keep_7 : decode cX8_keep 7 = .ok (.iload_n 1, 1) := by decide +kernel
theorem dX8_keep_8 : decode cX8_keep 8 = .ok (.i2l, 1) := by decide +kernel
theorem dX8_keep_9 : decode cX8_keep 9 = .ok (.lconst 1, 1) := by decide +kernel
theorem dX8_keep_10 : decode cX8_keep 10 = .ok (.aload_n 0, 1) := by decide +kernel
theorem dX8_keep_11 : decode cX8_keep 11 = .ok (.invokevirtual 389, 3) := by decide +kernel
theorem dX8_keep_14 : decode cX8_keep 14 = .ok (.i2l, 1) := by decide +kernel
theorem dX8_keep_15 : decode cX8_keep 15 = .ok (.invokestatic 83, 3) := by decide +kernel
theorem dX8_keep_18 : decode cX8_keep 18 = .ok (.ifCond .ne 6, 3) := by decide +kernel
theorem dX8_keep_21 : decode cX8_keep 21 = .ok (.bipush (-2), 2) := by decide +kernel
theorem dX8_keep_23 : decode cX8_keep 23 = .ok (.ireturn, 1) := by decide +kernel
theorem dX8_keep_24 : decode cX8_keep 24 = .ok (.iload_n 1, 1) := by decide +kernel
theorem dX8_keep_25 : decode cX8_keep 25 = .ok (.aload_n 0, 1) := by decide +kernel
theorem dX8_keep_26 : decode cX8_keep 26 = .ok (.invokevirtual 389, 3) := by decide +kernel
theorem dX8_keep_29 : decode cX8_keep 29 = .ok (.if_icmp .eq 10, 3) := by decide +kernel
theorem dX8_keep_32 : decode cX8_keep 32 = .ok (.aload_n 0, 1) := by decide +kernel
theorem dX8_keep_33 : decode cX8_keep 33 = .ok (.invokevirtual 425, 3) := by decide +kernel
theorem dX8_keep_36 : decode cX8_keep 36 = .ok (.ifCond .eq 6, 3) := by decide +kernel
theorem dX8_keep_39 : decode cX8_keep 39 = .ok (.bipush (-5), 2) := by decide +kernel
theorem dX8_keep_41 : decode cX8_keep 41 = .ok (.ireturn, 1) := by decide +kernel
theorem dX8_keep_42 : decode cX8_keep 42 = .ok (.aload_n 0, 1) := by decide +kernel
theorem dX8_keep_43 : decode cX8_keep 43 = .ok (.getfield 21, 3) := by decide +kernel
theorem dX8_keep_46 : decode cX8_keep 46 = .ok (.iconst 2, 1) := by decide +kernel
theorem dX8_keep_47 : decode cX8_keep 47 = .ok (.iaload, 1) := by decide +kernel
theorem dX8_keep_48 : decode cX8_keep 48 = .ok (.istore_n 2, 1) := by decide +kernel
theorem dX8_keep_49 : decode cX8_keep 49 = .ok (.aload_n 0, 1) := by decide +kernel
theorem dX8_keep_50 : decode cX8_keep 50 = .ok (.iload_n 1, 1) := by decide +kernel
theorem dX8_keep_51 : decode cX8_keep 51 = .ok (.invokevirtual 431, 3) := by decide +kernel
theorem dX8_keep_54 : decode cX8_keep 54 = .ok (.iload_n 2, 1) := by decide +kernel
theorem dX8_keep_55 : decode cX8_keep 55 = .ok (.aload_n 0, 1) := by decide +kernel
theorem dX8_keep_56 : decode cX8_keep 56 = .ok (.getfield 21, 3) := by decide +kernel
theorem dX8_keep_59 : decode cX8_keep 59 = .ok (.iconst 2, 1) := by decide +kernel
theorem dX8_keep_60 : decode cX8_keep 60 = .ok (.iaload, 1) := by decide +kernel
theorem dX8_keep_61 : decode cX8_keep 61 = .ok (.isub, 1) := by decide +kernel
theorem dX8_keep_62 : decode cX8_keep 62 = .ok (.ireturn, 1) := by decide +kernel
noncomputable def fX8_keep  (t_mem : Nat → Int32) (t_acted : Int32) (t_past : Nat → Int32) (t_row : Nat → Int32) (t_wide : Int32) (t_lost : Int32) (v1 : Int32) : Option (Int32 × (Nat → Int32) × Int32 × (Nat → Int32) × (Nat → Int32) × Int32 × Int32) := (fX8_is t_mem).bind fun r1 => (if r1 = 0 then some ((-2), t_mem, t_acted, t_past, t_row, t_wide, t_lost) else (fX8_allBits t_mem).bind fun r5 => (if (fX8_in v1.toInt64 1 r5.toInt64) = 0 then some ((-2), t_mem, t_acted, t_past, t_row, t_wide, t_lost) else (fX8_allBits t_mem).bind fun r9 => (if v1 = r9 then some ((-5), t_mem, t_acted, t_past, t_row, t_wide, t_lost) else (if (fX8_isFull t_acted) = 0 then ob6 (fX8_stays t_mem t_acted t_past t_row t_wide t_lost v1) fun w15 w16 w17 w18 w19 w20 => some (((t_mem 2) - (w15 2)), w15, w16, w17, w18, w19, w20) else some ((-5), t_mem, t_acted, t_past, t_row, t_wide, t_lost)))))
set_option maxHeartbeats 4000000 in
set_option maxRecDepth 100000 in
theorem ctX8_keep (l : Launch) (g : GT) (sz : Nat) (a_t : Nat → Nat) (t_acted : Int32) (t_taped : Int32) (t_faultKind : Int32) (t_faultPlace : Int32) (t_at : Int32) (t_begin : Int32) (t_token : Int32) (t_value : Int32) (t_bad : Int32) (t_wide : Int32) (t_lost : Int32) (t_det : Int64) (t_mask : Int32) (t_mode : Int32) (t_wanted : Int32) (t_orders : Int32) (t_foundAt : Int32) (t_foundBy : Int64) (t_unlikes : Int32) (t_mem : Nat → Int32) (t_past : Nat → Int32) (t_row : Nat → Int32) (v1 : Int32) (o : Int32) (o_t_mem : Nat → Int32) (o_t_acted : Int32) (o_t_past : Nat → Int32) (o_t_row : Nat → Int32) (o_t_wide : Int32) (o_t_lost : Int32) (h : fX8_keep t_mem t_acted t_past t_row t_wide t_lost v1 = some (o, o_t_mem, o_t_acted, o_t_past, o_t_row, o_t_wide, o_t_lost)) : Met l yX8_keep (Cond.code yX8_keep cX8_keep 3 (some .int) :: Tw) ⟨3, 0, 0, 65⟩ (va_Pc [.ref ((a_t 0)), .int v1] (rwB g [((a_t 0), .inr (7, [.ref (a_t 1), .ref (a_t 2), .int t_acted, .ref (a_t 4), .ref (a_t 5), .ref (a_t 6), .ref (a_t 7), .ref (a_t 8), .ref (a_t 9), .int t_taped, .int t_faultKind, .int t_faultPlace, .int t_at, .int t_begin, .int t_token, .int t_value, .int t_bad, .ref (a_t 18), .ref (a_t 19), .ref (a_t 20), .int t_wide, .int t_lost, .ref (a_t 23), .long t_det, .ref (a_t 25), .int t_mask, .int t_mode, .int t_wanted, .int t_orders, .int t_foundAt, .long t_foundBy, .ref (a_t 32), .ref (a_t 33), .int t_unlikes, .ref (a_t 35), .ref (a_t 36)])), ((a_t 1), .inl (g.2.2.1 0, 27, .inl t_mem)), ((a_t 4), .inl (g.2.2.1 0, 810, .inl t_past)), ((a_t 20), .inl (g.2.2.1 0, 8, .inl t_row))] sz)) (va_Qi (fun x (_ : Nat → Nat) => x = o) (fun u => rwE g (va_A [((a_t 0), .inr (7, [.ref (a_t 1), .ref (a_t 2), .int t_acted, .ref (a_t 4), .ref (a_t 5), .ref (a_t 6), .ref (a_t 7), .ref (a_t 8), .ref (a_t 9), .int t_taped, .int t_faultKind, .int t_faultPlace, .int t_at, .int t_begin, .int t_token, .int t_value, .int t_bad, .ref (a_t 18), .ref (a_t 19), .ref (a_t 20), .int t_wide, .int t_lost, .ref (a_t 23), .long t_det, .ref (a_t 25), .int t_mask, .int t_mode, .int t_wanted, .int t_orders, .int t_foundAt, .long t_foundBy, .ref (a_t 32), .ref (a_t 33), .int t_unlikes, .ref (a_t 35), .ref (a_t 36)])), ((a_t 1), .inl (g.2.2.1 0, 27, .inl t_mem)), ((a_t 4), .inl (g.2.2.1 0, 810, .inl t_past)), ((a_t 20), .inl (g.2.2.1 0, 8, .inl t_row))] sz) [((a_t 0), .inr (7, [.ref (a_t 1), .ref (a_t 2), .int o_t_acted, .ref (a_t 4), .ref (a_t 5), .ref (a_t 6), .ref (a_t 7), .ref (a_t 8), .ref (a_t 9), .int t_taped, .int t_faultKind, .int t_faultPlace, .int t_at, .int t_begin, .int t_token, .int t_value, .int t_bad, .ref (a_t 18), .ref (a_t 19), .ref (a_t 20), .int o_t_wide, .int o_t_lost, .ref (a_t 23), .long t_det, .ref (a_t 25), .int t_mask, .int t_mode, .int t_wanted, .int t_orders, .int t_foundAt, .long t_foundBy, .ref (a_t 32), .ref (a_t 33), .int t_unlikes, .ref (a_t 35), .ref (a_t 36)])), ((a_t 1), .inl (g.2.2.1 0, 27, .inl o_t_mem)), ((a_t 4), .inl (g.2.2.1 0, 810, .inl o_t_past)), ((a_t 20), .inl (g.2.2.1 0, 8, .inl o_t_row))]) (va_A [((a_t 0), .inr (7, [.ref (a_t 1), .ref (a_t 2), .int t_acted, .ref (a_t 4), .ref (a_t 5), .ref (a_t 6), .ref (a_t 7), .ref (a_t 8), .ref (a_t 9), .int t_taped, .int t_faultKind, .int t_faultPlace, .int t_at, .int t_begin, .int t_token, .int t_value, .int t_bad, .ref (a_t 18), .ref (a_t 19), .ref (a_t 20), .int t_wide, .int t_lost, .ref (a_t 23), .long t_det, .ref (a_t 25), .int t_mask, .int t_mode, .int t_wanted, .int t_orders, .int t_foundAt, .long t_foundBy, .ref (a_t 32), .ref (a_t 33), .int t_unlikes, .ref (a_t 35), .ref (a_t 36)])), ((a_t 1), .inl (g.2.2.1 0, 27, .inl t_mem)), ((a_t 4), .inl (g.2.2.1 0, 810, .inl t_past)), ((a_t 20), .inl (g.2.2.1 0, 8, .inl t_row))] sz)) 0 0 (va_A [((a_t 0), .inr (7, [.ref (a_t 1), .ref (a_t 2), .int t_acted, .ref (a_t 4), .ref (a_t 5), .ref (a_t 6), .ref (a_t 7), .ref (a_t 8), .ref (a_t 9), .int t_taped, .int t_faultKind, .int t_faultPlace, .int t_at, .int t_begin, .int t_token, .int t_value, .int t_bad, .ref (a_t 18), .ref (a_t 19), .ref (a_t 20), .int t_wide, .int t_lost, .ref (a_t 23), .long t_det, .ref (a_t 25), .int t_mask, .int t_mode, .int t_wanted, .int t_orders, .int t_foundAt, .long t_foundBy, .ref (a_t 32), .ref (a_t 33), .int t_unlikes, .ref (a_t 35), .ref (a_t 36)])), ((a_t 1), .inl (g.2.2.1 0, 27, .inl t_mem)), ((a_t 4), .inl (g.2.2.1 0, 810, .inl t_past)), ((a_t 20), .inl (g.2.2.1 0, 8, .inl t_row))] sz) := by
  refine rw_meti (by decide) (Nat.le_of_ble_eq_true rfl) (lv0 := [(0, .ref ((a_t 0))), (1, .int v1)]) rfl ?_
  intro p e s m args below meth c ls Q A cx hret hG hAb hb0 hA hP hD hl
  have hx := cx.1
  have hb := cx.2.1
  have hG0 := hG
  have hGk : ∀ {H : Heap} {locs : List Loc}, va_S A s.heap H locs → GE g s H := fun hS => hG0.keptS hAb hS
  have hSb : ∀ {H : Heap} {locs : List Loc}, va_S A s.heap H locs → va_S (fun a => g.1 ≤ a) s.heap H locs := fun hS => ⟨hS.1, fun q h1 h2 => hS.2.1 q h1 (fun z => h2 (hAb q z)), fun l hl => hAb _ (hS.2.2 l hl)⟩
  have hS : va_S A s.heap s.heap [] := va_S.rf
  have hrt : ∀ (u : Nat → Nat) (pc : Nat) (ls : Array Slot) (v : Int32) (x_t_mem : Nat → Int32) (x_t_acted : Int32) (x_t_past : Nat → Int32) (x_t_row : Nat → Int32) (x_t_wide : Int32) (x_t_lost : Int32) (H : Heap) (locs : List Loc), decode cX8_keep pc = .ok (.ireturn, 1) → some (v, x_t_mem, x_t_acted, x_t_past, x_t_row, x_t_wide, x_t_lost) = some (o, o_t_mem, o_t_acted, o_t_past, o_t_row, o_t_wide, o_t_lost) → va_P g.2.1 vwCl [((a_t 0), .inr (7, [.ref (a_t 1), .ref (a_t 2), .int x_t_acted, .ref (a_t 4), .ref (a_t 5), .ref (a_t 6), .ref (a_t 7), .ref (a_t 8), .ref (a_t 9), .int t_taped, .int t_faultKind, .int t_faultPlace, .int t_at, .int t_begin, .int t_token, .int t_value, .int t_bad, .ref (a_t 18), .ref (a_t 19), .ref (a_t 20), .int x_t_wide, .int x_t_lost, .ref (a_t 23), .long t_det, .ref (a_t 25), .int t_mask, .int t_mode, .int t_wanted, .int t_orders, .int t_foundAt, .long t_foundBy, .ref (a_t 32), .ref (a_t 33), .int t_unlikes, .ref (a_t 35), .ref (a_t 36)])), ((a_t 1), .inl (g.2.2.1 0, 27, .inl x_t_mem)), ((a_t 4), .inl (g.2.2.1 0, 810, .inl x_t_past)), ((a_t 20), .inl (g.2.2.1 0, 8, .inl x_t_row))] H → va_D A [((a_t 0), .inr (7, [.ref (a_t 1), .ref (a_t 2), .int x_t_acted, .ref (a_t 4), .ref (a_t 5), .ref (a_t 6), .ref (a_t 7), .ref (a_t 8), .ref (a_t 9), .int t_taped, .int t_faultKind, .int t_faultPlace, .int t_at, .int t_begin, .int t_token, .int t_value, .int t_bad, .ref (a_t 18), .ref (a_t 19), .ref (a_t 20), .int x_t_wide, .int x_t_lost, .ref (a_t 23), .long t_det, .ref (a_t 25), .int t_mask, .int t_mode, .int t_wanted, .int t_orders, .int t_foundAt, .long t_foundBy, .ref (a_t 32), .ref (a_t 33), .int t_unlikes, .ref (a_t 35), .ref (a_t 36)])), ((a_t 1), .inl (g.2.2.1 0, 27, .inl x_t_mem)), ((a_t 4), .inl (g.2.2.1 0, 810, .inl x_t_past)), ((a_t 20), .inl (g.2.2.1 0, 8, .inl x_t_row))] → va_S A s.heap H locs → W p l e ⟨3, 0, 0, 65⟩ s m args below meth c H locs 0 0 Q (F0 m pc ls [.int v]) := by
    intro u pc ls v x_t_mem x_t_acted x_t_past x_t_row x_t_wide x_t_lost H locs hd h hP hD hS
    cases h
    exact hret u _ _ _ _ _ hd rfl hP hD hS
  unfold fX8_keep at h
  refine lv_aload_n hx hb dX8_keep_0 rfl (lv_at hl 0 rfl) ?_
  obtain ⟨r1, hr2, h⟩ := bnd h
  refine ro_z (runV (As := []) (rest := []) cx hl.1 (ctX8_is l g a_t t_acted t_taped t_faultKind t_faultPlace t_at t_begin t_token t_value t_bad t_wide t_lost t_det t_mask t_mode t_wanted t_orders t_foundAt t_foundBy t_unlikes t_mem r1 hr2) kmX8_is kvX8_is lm_X8_236 ⟨rfl, rfl⟩ ⟨Nat.le_of_ble_eq_true rfl, Nat.le_of_ble_eq_true rfl⟩ (roV (q0 := 0) (ci := 7) hG (hP.sub [0, 1] rfl) hP rfl rfl) rfl rfl (Nat.le_of_ble_eq_true rfl) dX8_keep_1 ⟨Nat.le_of_ble_eq_true rfl, Nat.le_of_ble_eq_true rfl⟩) (fun hz3 => ?_)
  refine lv_if_eq (tgt := 21) hx hb dX8_keep_4 (by decide) (fun c4 => ?_) (fun c4 => ?_)
  · have h := itp c4 h
    refine lv_bipush (v := -2) hx hb dX8_keep_21 (by decide) ?_
    exact hrt (fun _ => 0) _ _ ((-2)) t_mem t_acted t_past t_row t_wide t_lost _ _ dX8_keep_23 h (hP.sub [0, 1, 2, 3] rfl) (hD.sub [0, 1, 2, 3] (by decide) rfl) hS
  · have h := itn c4 h
    refine lv_iload_n hx hb dX8_keep_7 rfl (lv_at hl 1 rfl) ?_
    refine lv_i2l (v := v1.toInt64) hx hb dX8_keep_8 rfl ?_
    refine lv_lconst (v := 1) hx hb dX8_keep_9 (by decide) ?_
    refine lv_aload_n hx hb dX8_keep_10 rfl (lv_at hl 0 rfl) ?_
    obtain ⟨r5, hr6, h⟩ := bnd h
    refine ro_i (runV (As := []) (rest := [.long (1), .long v1.toInt64]) cx hl.1 (ctX8_allBits l g a_t t_acted t_taped t_faultKind t_faultPlace t_at t_begin t_token t_value t_bad t_wide t_lost t_det t_mask t_mode t_wanted t_orders t_foundAt t_foundBy t_unlikes t_mem r5 hr6) kmX8_allBits kvX8_allBits lm_X8_389 ⟨rfl, rfl⟩ ⟨Nat.le_of_ble_eq_true rfl, Nat.le_of_ble_eq_true rfl⟩ (roV (q0 := 0) (ci := 7) hG (hP.sub [0, 1] rfl) hP rfl rfl) rfl rfl (Nat.le_of_ble_eq_true rfl) dX8_keep_11 ⟨Nat.le_of_ble_eq_true rfl, Nat.le_of_ble_eq_true rfl⟩) ?_
    refine lv_i2l (v := r5.toInt64) hx hb dX8_keep_14 rfl ?_
    refine ro_z (runS (As := [.long v1.toInt64, .long (1), .long r5.toInt64]) (rest := []) cx hl.1 (ctX8_in l g v1.toInt64 (1) r5.toInt64 (fX8_in v1.toInt64 1 r5.toInt64) rfl) kmX8_in ksX8_in lm_X8_83 ⟨rfl, rfl⟩ ⟨Nat.le_of_ble_eq_true rfl, Nat.le_of_ble_eq_true rfl⟩ (roS hG (hP.sub [] rfl)) rfl rfl (Nat.le_of_ble_eq_true rfl) dX8_keep_15 ⟨Nat.le_of_ble_eq_true rfl, Nat.le_of_ble_eq_true rfl⟩) (fun hz7 => ?_)
    refine lv_if_ne (tgt := 24) hx hb dX8_keep_18 (by decide) (fun c8 => ?_) (fun c8 => ?_)
    · have h := itn c8 h
      refine lv_iload_n hx hb dX8_keep_24 rfl (lv_at hl 1 rfl) ?_
      refine lv_aload_n hx hb dX8_keep_25 rfl (lv_at hl 0 rfl) ?_
      obtain ⟨r9, hr10, h⟩ := bnd h
      refine ro_i (runV (As := []) (rest := [.int v1]) cx hl.1 (ctX8_allBits l g a_t t_acted t_taped t_faultKind t_faultPlace t_at t_begin t_token t_value t_bad t_wide t_lost t_det t_mask t_mode t_wanted t_orders t_foundAt t_foundBy t_unlikes t_mem r9 hr10) kmX8_allBits kvX8_allBits lm_X8_389 ⟨rfl, rfl⟩ ⟨Nat.le_of_ble_eq_true rfl, Nat.le_of_ble_eq_true rfl⟩ (roV (q0 := 0) (ci := 7) hG (hP.sub [0, 1] rfl) hP rfl rfl) rfl rfl (Nat.le_of_ble_eq_true rfl) dX8_keep_26 ⟨Nat.le_of_ble_eq_true rfl, Nat.le_of_ble_eq_true rfl⟩) ?_
      refine lv_icmp_eq (tgt := 39) hx hb dX8_keep_29 (by decide) (fun c11 => ?_) (fun c11 => ?_)
      · have h := itp c11 h
        refine lv_bipush (v := -5) hx hb dX8_keep_39 (by decide) ?_
        exact hrt (fun _ => 0) _ _ ((-5)) t_mem t_acted t_past t_row t_wide t_lost _ _ dX8_keep_41 h (hP.sub [0, 1, 2, 3] rfl) (hD.sub [0, 1, 2, 3] (by decide) rfl) hS
      · have h := itn c11 h
        refine lv_aload_n hx hb dX8_keep_32 rfl (lv_at hl 0 rfl) ?_
        refine ro_z (runV (As := []) (rest := []) cx hl.1 (ctX8_isFull l g a_t t_acted t_taped t_faultKind t_faultPlace t_at t_begin t_token t_value t_bad t_wide t_lost t_det t_mask t_mode t_wanted t_orders t_foundAt t_foundBy t_unlikes (fX8_isFull t_acted) rfl) kmX8_isFull kvX8_isFull lm_X8_425 ⟨rfl, rfl⟩ ⟨Nat.le_of_ble_eq_true rfl, Nat.le_of_ble_eq_true rfl⟩ (roV (q0 := 0) (ci := 7) hG (hP.sub [0] rfl) hP rfl rfl) rfl rfl (Nat.le_of_ble_eq_true rfl) dX8_keep_33 ⟨Nat.le_of_ble_eq_true rfl, Nat.le_of_ble_eq_true rfl⟩) (fun hz12 => ?_)
        refine lv_if_eq (tgt := 42) hx hb dX8_keep_36 (by decide) (fun c13 => ?_) (fun c13 => ?_)
        · have h := itp c13 h
          refine lv_aload_n hx hb dX8_keep_42 rfl (lv_at hl 0 rfl) ?_
          refine xa_get (C := RX8) (T := TX8) (N := 36) cx hG hP 0 rfl rfl uX8 0 (by decide) lf_X8_21 rfl dX8_keep_43 ?_
          refine lv_iconst (v := 2) hx hb dX8_keep_46 (by decide) ?_
          refine xa_iald (k := 2) cx hG hP 1 rfl (show ¬ ((2 : Int32) < 0 ∨ 27 ≤ (2 : Int32).toNatClampNeg) by decide) (by decide) dX8_keep_47 ?_
          refine lv_istore_n (lv' := [(2, .int (t_mem 2)), (0, .ref ((a_t 0))), (1, .int v1)]) hx hb dX8_keep_48 rfl hl (by decide) rfl (fun ls hl => ?_)
          refine lv_aload_n hx hb dX8_keep_49 rfl (lv_at hl 1 rfl) ?_
          refine lv_iload_n hx hb dX8_keep_50 rfl (lv_at hl 2 rfl) ?_
          obtain ⟨w15, w16, w17, w18, w19, w20, hr14, h⟩ := ob6_out h
          refine rw_v (WN := fun u21 => [((a_t 0), .inr (7, [.ref (a_t 1), .ref (a_t 2), .int w16, .ref (a_t 4), .ref (a_t 5), .ref (a_t 6), .ref (a_t 7), .ref (a_t 8), .ref (a_t 9), .int t_taped, .int t_faultKind, .int t_faultPlace, .int t_at, .int t_begin, .int t_token, .int t_value, .int t_bad, .ref (a_t 18), .ref (a_t 19), .ref (a_t 20), .int w19, .int w20, .ref (a_t 23), .long t_det, .ref (a_t 25), .int t_mask, .int t_mode, .int t_wanted, .int t_orders, .int t_foundAt, .long t_foundBy, .ref (a_t 32), .ref (a_t 33), .int t_unlikes, .ref (a_t 35), .ref (a_t 36)])), ((a_t 1), .inl (g.2.2.1 0, 27, .inl w15)), ((a_t 4), .inl (g.2.2.1 0, 810, .inl w17)), ((a_t 20), .inl (g.2.2.1 0, 8, .inl w18))]) (wr := []) (runV (As := [.int v1]) (rest := []) cx hl.1 (ctX8_stays l g s.heap.size a_t t_acted t_taped t_faultKind t_faultPlace t_at t_begin t_token t_value t_bad t_wide t_lost t_det t_mask t_mode t_wanted t_orders t_foundAt t_foundBy t_unlikes t_mem t_past t_row v1 w15 w16 w17 w18 w19 w20 hr14) kmX8_stays kvX8_stays lm_X8_431 ⟨rfl, rfl⟩ ⟨Nat.le_of_ble_eq_true rfl, Nat.le_of_ble_eq_true rfl⟩ (rwV (q0 := 0) (ci := 7) hG (hP.sub [0, 1, 2, 3] rfl) (hD.sub [0, 1, 2, 3] (by decide) rfl) hAb hb0 hS hP rfl rfl) rfl rfl (Nat.le_of_ble_eq_true rfl) dX8_keep_51 ⟨Nat.le_of_ble_eq_true rfl, Nat.le_of_ble_eq_true rfl⟩) hP hD hS hA [0, 1, 2, 3] [] rfl rfl (by decide) (by decide) (fun _ => rfl) (fun u21 H locs hP hD hS => ?_)
          have hG := hGk hS
          refine lv_iload_n hx hb dX8_keep_54 rfl (lv_at hl 0 rfl) ?_
          refine lv_aload_n hx hb dX8_keep_55 rfl (lv_at hl 1 rfl) ?_
          refine xa_get (C := RX8) (T := TX8) (N := 36) cx hG hP 0 rfl rfl uX8 0 (by decide) lf_X8_21 rfl dX8_keep_56 ?_
          refine lv_iconst (v := 2) hx hb dX8_keep_59 (by decide) ?_
          refine xa_iald (k := 2) cx hG hP 1 rfl (show ¬ ((2 : Int32) < 0 ∨ 27 ≤ (2 : Int32).toNatClampNeg) by decide) (by decide) dX8_keep_60 ?_
          refine lv_isub hx hb dX8_keep_61 ?_
          exact hrt (fun _ => 0) _ _ (((t_mem 2) - (w15 2))) w15 w16 w17 w18 w19 w20 _ _ dX8_keep_62 h (hP.sub [0, 1, 2, 3] rfl) (hD.sub [0, 1, 2, 3] (by decide) rfl) hS
        · have h := itn c13 h
          refine lv_bipush (v := -5) hx hb dX8_keep_39 (by decide) ?_
          exact hrt (fun _ => 0) _ _ ((-5)) t_mem t_acted t_past t_row t_wide t_lost _ _ dX8_keep_41 h (hP.sub [0, 1, 2, 3] rfl) (hD.sub [0, 1, 2, 3] (by decide) rfl) hS
    · have h := itp c8 h
      refine lv_bipush (v := -2) hx hb dX8_keep_21 (by decide) ?_
      exact hrt (fun _ => 0) _ _ ((-2)) t_mem t_acted t_past t_row t_wide t_lost _ _ dX8_keep_23 h (hP.sub [0, 1, 2, 3] rfl) (hD.sub [0, 1, 2, 3] (by decide) rfl) hS
-- X8_becomesRow
theorem dX8_becomesRow_0 : decode cX8_becomesRow 0 = .ok (.aload_n 0, 1) := by decide +kernel
theorem dX8_becomesRow_1 : decode cX8_becomesRow 1 = .ok (.invokevirtual 332, 3) := by decide +kernel
theorem dX8_becomesRow_4 : decode cX8_becomesRow 4 = .ok (.istore_n 1, 1) := by decide +kernel
theorem dX8_becomesRow_5 : decode cX8_becomesRow 5 = .ok (.aload_n 0, 1) := by decide +kernel
theorem dX8_becomesRow_6 : decode cX8_becomesRow 6 = .ok (.invokevirtual 428, 3) := by decide +kernel
theorem dX8_becomesRow_9 : decode cX8_becomesRow 9 = .ok (.iconst 0, 1) := by decide +kernel
theorem dX8_becomesRow_10 : decode cX8_becomesRow 10 = .ok (.istore_n 2, 1) := by decide +kernel
theorem dX8_becomesRow_11 : decode cX8_becomesRow 11 = .ok (.iload_n 2, 1) := by decide +kernel
theorem dX8_becomesRow_12 : decode cX8_becomesRow 12 = .ok (.aload_n 0, 1) := by decide +kernel
theorem dX8_becomesRow_13 : decode cX8_becomesRow 13 = .ok (.getfield 206, 3) := by decide +kernel
theorem dX8_becomesRow_16 : decode cX8_becomesRow 16 = .ok (.if_icmp .ge 24, 3) := by decide +kernel
theorem dX8_becomesRow_19 : decode cX8_becomesRow 19 = .ok (.aload_n 0, 1) := by decide +kernel
theorem dX8_becomesRow_20 : decode cX8_becomesRow 20 = .ok (.getfield 21, 3) := by decide +kernel
theorem dX8_becomesRow_23 : decode cX8_becomesRow 23 = .ok (.bipush 19, 2) := by decide +kernel
theorem dX8_becomesRow_25 : decode cX8_becomesRow 25 = .ok (.iload_n 2, 1) := by decide +kernel
theorem dX8_becomesRow_26 : decode cX8_becomesRow 26 = .ok (.iadd, 1) := by decide +kernel
theorem dX8_becomesRow_27 : decode cX8_becomesRow 27 = .ok (.aload_n 0, 1) := by decide +kernel
theorem dX8_becomesRow_28 : decode cX8_becomesRow 28 = .ok (.getfield 57, 3) := by decide +kernel
theorem dX8_becomesRow_31 : decode cX8_becomesRow 31 = .ok (.iload_n 2, 1) := by decide +kernel
theorem dX8_becomesRow_32 : decode cX8_becomesRow 32 = .ok (.iaload, 1) := by decide +kernel
theorem dX8_becomesRow_33 : decode cX8_becomesRow 33 = .ok (.iastore, 1) := by decide +kernel
theorem dX8_becomesRow_34 : decode cX8_becomesRow 34 = .ok (.iinc 2 1, 3) := by decide +kernel
theorem dX8_becomesRow_37 : decode cX8_becomesRow 37 = .ok (.goto (-26), 3) := by decide +kernel
theorem dX8_becomesRow_40 : decode cX8_becomesRow 40 = .ok (.iload_n 1, 1) := by decide +kernel
theorem dX8_becomesRow_41 : decode cX8_becomesRow 41 = .ok (.ireturn, 1) := by decide +kernel
noncomputable def fX8_becomesRow_11  : Nat → (Nat → Int32) → Int32 → (Nat → Int32) → (Nat → Int32) → Int32 → Int32 → Int32 → Option (Int32 × (Nat → Int32) × Int32 × (Nat → Int32))
  | 0, _, _, _, _, _, _, _ => none
  | n + 1, t_mem, t_acted, t_past, t_row, t_wide, v1, v2 => (if t_wide ≤ v2 then some (v1, t_mem, t_acted, t_past) else chk 8 v2 (chk 27 (19 + v2) (fX8_becomesRow_11 n (upd t_mem ((19 + v2).toNatClampNeg) (t_row v2.toNatClampNeg)) t_acted t_past t_row t_wide v1 (v2 + 1))))
theorem fX8_becomesRow_11_z  (t_mem : Nat → Int32) (t_acted : Int32) (t_past : Nat → Int32) (t_row : Nat → Int32) (t_wide : Int32) (v1 : Int32) (v2 : Int32) : fX8_becomesRow_11  0 t_mem t_acted t_past t_row t_wide v1 v2 = none := rfl
theorem fX8_becomesRow_11_s  (n : Nat) (t_mem : Nat → Int32) (t_acted : Int32) (t_past : Nat → Int32) (t_row : Nat → Int32) (t_wide : Int32) (v1 : Int32) (v2 : Int32) : fX8_becomesRow_11  (n + 1) t_mem t_acted t_past t_row t_wide v1 v2 = (if t_wide ≤ v2 then some (v1, t_mem, t_acted, t_past) else chk 8 v2 (chk 27 (19 + v2) (fX8_becomesRow_11 n (upd t_mem ((19 + v2).toNatClampNeg) (t_row v2.toNatClampNeg)) t_acted t_past t_row t_wide v1 (v2 + 1)))) := rfl
noncomputable def fX8_becomesRow  (t_mem : Nat → Int32) (t_acted : Int32) (t_past : Nat → Int32) (t_row : Nat → Int32) (t_wide : Int32) : Option (Int32 × (Nat → Int32) × Int32 × (Nat → Int32)) := (fX8_farFromPlate t_mem t_row t_wide).bind fun r1 => ob2 (fX8_keeps t_mem t_acted t_past) fun w4 w5 => fX8_becomesRow_11 FU t_mem w4 w5 t_row t_wide r1 0
set_option maxHeartbeats 4000000 in
set_option maxRecDepth 100000 in
theorem ctX8_becomesRow (l : Launch) (g : GT) (sz : Nat) (a_t : Nat → Nat) (t_acted : Int32) (t_taped : Int32) (t_faultKind : Int32) (t_faultPlace : Int32) (t_at : Int32) (t_begin : Int32) (t_token : Int32) (t_value : Int32) (t_bad : Int32) (t_wide : Int32) (t_lost : Int32) (t_det : Int64) (t_mask : Int32) (t_mode : Int32) (t_wanted : Int32) (t_orders : Int32) (t_foundAt : Int32) (t_foundBy : Int64) (t_unlikes : Int32) (t_mem : Nat → Int32) (t_past : Nat → Int32) (t_row : Nat → Int32) (o : Int32) (o_t_mem : Nat → Int32) (o_t_acted : Int32) (o_t_past : Nat → Int32) (h : fX8_becomesRow t_mem t_acted t_past t_row t_wide = some (o, o_t_mem, o_t_acted, o_t_past)) : Met l yX8_becomesRow (Cond.code yX8_becomesRow cX8_becomesRow 3 (some .int) :: Tw) ⟨1, 0, 0, 22⟩ (va_Pc [.ref ((a_t 0))] (rwB g [((a_t 0), .inr (7, [.ref (a_t 1), .ref (a_t 2), .int t_acted, .ref (a_t 4), .ref (a_t 5), .ref (a_t 6), .ref (a_t 7), .ref (a_t 8), .ref (a_t 9), .int t_taped, .int t_faultKind, .int t_faultPlace, .int t_at, .int t_begin, .int t_token, .int t_value, .int t_bad, .ref (a_t 18), .ref (a_t 19), .ref (a_t 20), .int t_wide, .int t_lost, .ref (a_t 23), .long t_det, .ref (a_t 25), .int t_mask, .int t_mode, .int t_wanted, .int t_orders, .int t_foundAt, .long t_foundBy, .ref (a_t 32), .ref (a_t 33), .int t_unlikes, .ref (a_t 35), .ref (a_t 36)])), ((a_t 1), .inl (g.2.2.1 0, 27, .inl t_mem)), ((a_t 4), .inl (g.2.2.1 0, 810, .inl t_past)), ((a_t 20), .inl (g.2.2.1 0, 8, .inl t_row))] sz)) (va_Qi (fun x (_ : Nat → Nat) => x = o) (fun u => rwE g (va_A [((a_t 0), .inr (7, [.ref (a_t 1), .ref (a_t 2), .int t_acted, .ref (a_t 4), .ref (a_t 5), .ref (a_t 6), .ref (a_t 7), .ref (a_t 8), .ref (a_t 9), .int t_taped, .int t_faultKind, .int t_faultPlace, .int t_at, .int t_begin, .int t_token, .int t_value, .int t_bad, .ref (a_t 18), .ref (a_t 19), .ref (a_t 20), .int t_wide, .int t_lost, .ref (a_t 23), .long t_det, .ref (a_t 25), .int t_mask, .int t_mode, .int t_wanted, .int t_orders, .int t_foundAt, .long t_foundBy, .ref (a_t 32), .ref (a_t 33), .int t_unlikes, .ref (a_t 35), .ref (a_t 36)])), ((a_t 1), .inl (g.2.2.1 0, 27, .inl t_mem)), ((a_t 4), .inl (g.2.2.1 0, 810, .inl t_past)), ((a_t 20), .inl (g.2.2.1 0, 8, .inl t_row))] sz) [((a_t 0), .inr (7, [.ref (a_t 1), .ref (a_t 2), .int o_t_acted, .ref (a_t 4), .ref (a_t 5), .ref (a_t 6), .ref (a_t 7), .ref (a_t 8), .ref (a_t 9), .int t_taped, .int t_faultKind, .int t_faultPlace, .int t_at, .int t_begin, .int t_token, .int t_value, .int t_bad, .ref (a_t 18), .ref (a_t 19), .ref (a_t 20), .int t_wide, .int t_lost, .ref (a_t 23), .long t_det, .ref (a_t 25), .int t_mask, .int t_mode, .int t_wanted, .int t_orders, .int t_foundAt, .long t_foundBy, .ref (a_t 32), .ref (a_t 33), .int t_unlikes, .ref (a_t 35), .ref (a_t 36)])), ((a_t 1), .inl (g.2.2.1 0, 27, .inl o_t_mem)), ((a_t 4), .inl (g.2.2.1 0, 810, .inl o_t_past)), ((a_t 20), .inl (g.2.2.1 0, 8, .inl t_row))]) (va_A [((a_t 0), .inr (7, [.ref (a_t 1), .ref (a_t 2), .int t_acted, .ref (a_t 4), .ref (a_t 5), .ref (a_t 6), .ref (a_t 7), .ref (a_t 8), .ref (a_t 9), .int t_taped, .int t_faultKind, .int t_faultPlace, .int t_at, .int t_begin, .int t_token, .int t_value, .int t_bad, .ref (a_t 18), .ref (a_t 19), .ref (a_t 20), .int t_wide, .int t_lost, .ref (a_t 23), .long t_det, .ref (a_t 25), .int t_mask, .int t_mode, .int t_wanted, .int t_orders, .int t_foundAt, .long t_foundBy, .ref (a_t 32), .ref (a_t 33), .int t_unlikes, .ref (a_t 35), .ref (a_t 36)])), ((a_t 1), .inl (g.2.2.1 0, 27, .inl t_mem)), ((a_t 4), .inl (g.2.2.1 0, 810, .inl t_past)), ((a_t 20), .inl (g.2.2.1 0, 8, .inl t_row))] sz)) 0 0 (va_A [((a_t 0), .inr (7, [.ref (a_t 1), .ref (a_t 2), .int t_acted, .ref (a_t 4), .ref (a_t 5), .ref (a_t 6), .ref (a_t 7), .ref (a_t 8), .ref (a_t 9), .int t_taped, .int t_faultKind, .int t_faultPlace, .int t_at, .int t_begin, .int t_token, .int t_value, .int t_bad, .ref (a_t 18), .ref (a_t 19), .ref (a_t 20), .int t_wide, .int t_lost, .ref (a_t 23), .long t_det, .ref (a_t 25), .int t_mask, .int t_mode, .int t_wanted, .int t_orders, .int t_foundAt, .long t_foundBy, .ref (a_t 32), .ref (a_t 33), .int t_unlikes, .ref (a_t 35), .ref (a_t 36)])), ((a_t 1), .inl (g.2.2.1 0, 27, .inl t_mem)), ((a_t 4), .inl (g.2.2.1 0, 810, .inl t_past)), ((a_t 20), .inl (g.2.2.1 0, 8, .inl t_row))] sz) := by
  refine rw_meti (by decide) (Nat.le_of_ble_eq_true rfl) (lv0 := [(0, .ref ((a_t 0)))]) rfl ?_
  intro p e s m args below meth c ls Q A cx hret hG hAb hb0 hA hP hD hl
  have hx := cx.1
  have hb := cx.2.1
  have hG0 := hG
  have hGk : ∀ {H : Heap} {locs : List Loc}, va_S A s.heap H locs → GE g s H := fun hS => hG0.keptS hAb hS
  have hSb : ∀ {H : Heap} {locs : List Loc}, va_S A s.heap H locs → va_S (fun a => g.1 ≤ a) s.heap H locs := fun hS => ⟨hS.1, fun q h1 h2 => hS.2.1 q h1 (fun z => h2 (hAb q z)), fun l hl => hAb _ (hS.2.2 l hl)⟩
  have hS : va_S A s.heap s.heap [] := va_S.rf
  have hrt : ∀ (u : Nat → Nat) (pc : Nat) (ls : Array Slot) (v : Int32) (x_t_mem : Nat → Int32) (x_t_acted : Int32) (x_t_past : Nat → Int32) (H : Heap) (locs : List Loc), decode cX8_becomesRow pc = .ok (.ireturn, 1) → some (v, x_t_mem, x_t_acted, x_t_past) = some (o, o_t_mem, o_t_acted, o_t_past) → va_P g.2.1 vwCl [((a_t 0), .inr (7, [.ref (a_t 1), .ref (a_t 2), .int x_t_acted, .ref (a_t 4), .ref (a_t 5), .ref (a_t 6), .ref (a_t 7), .ref (a_t 8), .ref (a_t 9), .int t_taped, .int t_faultKind, .int t_faultPlace, .int t_at, .int t_begin, .int t_token, .int t_value, .int t_bad, .ref (a_t 18), .ref (a_t 19), .ref (a_t 20), .int t_wide, .int t_lost, .ref (a_t 23), .long t_det, .ref (a_t 25), .int t_mask, .int t_mode, .int t_wanted, .int t_orders, .int t_foundAt, .long t_foundBy, .ref (a_t 32), .ref (a_t 33), .int t_unlikes, .ref (a_t 35), .ref (a_t 36)])), ((a_t 1), .inl (g.2.2.1 0, 27, .inl x_t_mem)), ((a_t 4), .inl (g.2.2.1 0, 810, .inl x_t_past)), ((a_t 20), .inl (g.2.2.1 0, 8, .inl t_row))] H → va_D A [((a_t 0), .inr (7, [.ref (a_t 1), .ref (a_t 2), .int x_t_acted, .ref (a_t 4), .ref (a_t 5), .ref (a_t 6), .ref (a_t 7), .ref (a_t 8), .ref (a_t 9), .int t_taped, .int t_faultKind, .int t_faultPlace, .int t_at, .int t_begin, .int t_token, .int t_value, .int t_bad, .ref (a_t 18), .ref (a_t 19), .ref (a_t 20), .int t_wide, .int t_lost, .ref (a_t 23), .long t_det, .ref (a_t 25), .int t_mask, .int t_mode, .int t_wanted, .int t_orders, .int t_foundAt, .long t_foundBy, .ref (a_t 32), .ref (a_t 33), .int t_unlikes, .ref (a_t 35), .ref (a_t 36)])), ((a_t 1), .inl (g.2.2.1 0, 27, .inl x_t_mem)), ((a_t 4), .inl (g.2.2.1 0, 810, .inl x_t_past)), ((a_t 20), .inl (g.2.2.1 0, 8, .inl t_row))] → va_S A s.heap H locs → W p l e ⟨1, 0, 0, 22⟩ s m args below meth c H locs 0 0 Q (F0 m pc ls [.int v]) := by
    intro u pc ls v x_t_mem x_t_acted x_t_past H locs hd h hP hD hS
    cases h
    exact hret u _ _ _ _ _ hd rfl hP hD hS
  have w11 : ∀ (n : Nat) (t_mem : Nat → Int32) (t_acted : Int32) (t_past : Nat → Int32) (v1 : Int32) (v2 : Int32) (H : Heap) (locs : List Loc), va_P g.2.1 vwCl [((a_t 0), .inr (7, [.ref (a_t 1), .ref (a_t 2), .int t_acted, .ref (a_t 4), .ref (a_t 5), .ref (a_t 6), .ref (a_t 7), .ref (a_t 8), .ref (a_t 9), .int t_taped, .int t_faultKind, .int t_faultPlace, .int t_at, .int t_begin, .int t_token, .int t_value, .int t_bad, .ref (a_t 18), .ref (a_t 19), .ref (a_t 20), .int t_wide, .int t_lost, .ref (a_t 23), .long t_det, .ref (a_t 25), .int t_mask, .int t_mode, .int t_wanted, .int t_orders, .int t_foundAt, .long t_foundBy, .ref (a_t 32), .ref (a_t 33), .int t_unlikes, .ref (a_t 35), .ref (a_t 36)])), ((a_t 1), .inl (g.2.2.1 0, 27, .inl t_mem)), ((a_t 4), .inl (g.2.2.1 0, 810, .inl t_past)), ((a_t 20), .inl (g.2.2.1 0, 8, .inl t_row))] H → va_D A [((a_t 0), .inr (7, [.ref (a_t 1), .ref (a_t 2), .int t_acted, .ref (a_t 4), .ref (a_t 5), .ref (a_t 6), .ref (a_t 7), .ref (a_t 8), .ref (a_t 9), .int t_taped, .int t_faultKind, .int t_faultPlace, .int t_at, .int t_begin, .int t_token, .int t_value, .int t_bad, .ref (a_t 18), .ref (a_t 19), .ref (a_t 20), .int t_wide, .int t_lost, .ref (a_t 23), .long t_det, .ref (a_t 25), .int t_mask, .int t_mode, .int t_wanted, .int t_orders, .int t_foundAt, .long t_foundBy, .ref (a_t 32), .ref (a_t 33), .int t_unlikes, .ref (a_t 35), .ref (a_t 36)])), ((a_t 1), .inl (g.2.2.1 0, 27, .inl t_mem)), ((a_t 4), .inl (g.2.2.1 0, 810, .inl t_past)), ((a_t 20), .inl (g.2.2.1 0, 8, .inl t_row))] → va_S A s.heap H locs → ∀ (ls : Array Slot), lv_has ls 3 [(0, .ref ((a_t 0))), (1, .int v1), (2, .int v2)] → fX8_becomesRow_11  n t_mem t_acted t_past t_row t_wide v1 v2 = some (o, o_t_mem, o_t_acted, o_t_past) → W p l e ⟨1, 0, 0, 22⟩ s m args below meth c H locs 0 0 Q (F0 m 11 ls []) := by
    intro n
    induction n with
    | zero => intro t_mem t_acted t_past v1 v2 H locs hP hD hS ls hl h; cases (fX8_becomesRow_11_z  t_mem t_acted t_past t_row t_wide v1 v2).symm.trans h
    | succ n ih =>
    intro t_mem t_acted t_past v1 v2 H locs hP hD hS ls hl h
    have h := (fX8_becomesRow_11_s  n t_mem t_acted t_past t_row t_wide v1 v2).symm.trans h
    have hG := hGk hS
    refine lv_iload_n hx hb dX8_becomesRow_11 rfl (lv_at hl 2 rfl) ?_
    refine lv_aload_n hx hb dX8_becomesRow_12 rfl (lv_at hl 0 rfl) ?_
    refine xa_get (C := RX8) (T := TX8) (N := 36) cx hG hP 0 rfl rfl uX8 20 (by decide) lf_X8_206 rfl dX8_becomesRow_13 ?_
    refine lv_icmp_ge (tgt := 40) hx hb dX8_becomesRow_16 (by decide) (fun c7 => ?_) (fun c7 => ?_)
    · have h := itp c7 h
      refine lv_iload_n hx hb dX8_becomesRow_40 rfl (lv_at hl 1 rfl) ?_
      exact hrt (fun _ => 0) _ _ v1 t_mem t_acted t_past _ _ dX8_becomesRow_41 h (hP.sub [0, 1, 2, 3] rfl) (hD.sub [0, 1, 2, 3] (by decide) rfl) hS
    · have h := itn c7 h
      refine lv_aload_n hx hb dX8_becomesRow_19 rfl (lv_at hl 0 rfl) ?_
      refine xa_get (C := RX8) (T := TX8) (N := 36) cx hG hP 0 rfl rfl uX8 0 (by decide) lf_X8_21 rfl dX8_becomesRow_20 ?_
      refine lv_bipush (v := 19) hx hb dX8_becomesRow_23 (by decide) ?_
      refine lv_iload_n hx hb dX8_becomesRow_25 rfl (lv_at hl 2 rfl) ?_
      refine lv_iadd hx hb dX8_becomesRow_26 ?_
      refine lv_aload_n hx hb dX8_becomesRow_27 rfl (lv_at hl 0 rfl) ?_
      refine xa_get (C := RX8) (T := TX8) (N := 36) cx hG hP 0 rfl rfl uX8 19 (by decide) lf_X8_57 rfl dX8_becomesRow_28 ?_
      refine lv_iload_n hx hb dX8_becomesRow_31 rfl (lv_at hl 2 rfl) ?_
      obtain ⟨hi8, h⟩ := chk_out h
      refine xa_iald cx hG hP 3 rfl hi8 rfl dX8_becomesRow_32 ?_
      obtain ⟨hi9, h⟩ := chk_out h
      refine xw_iast (ws' := [((a_t 0), .inr (7, [.ref (a_t 1), .ref (a_t 2), .int t_acted, .ref (a_t 4), .ref (a_t 5), .ref (a_t 6), .ref (a_t 7), .ref (a_t 8), .ref (a_t 9), .int t_taped, .int t_faultKind, .int t_faultPlace, .int t_at, .int t_begin, .int t_token, .int t_value, .int t_bad, .ref (a_t 18), .ref (a_t 19), .ref (a_t 20), .int t_wide, .int t_lost, .ref (a_t 23), .long t_det, .ref (a_t 25), .int t_mask, .int t_mode, .int t_wanted, .int t_orders, .int t_foundAt, .long t_foundBy, .ref (a_t 32), .ref (a_t 33), .int t_unlikes, .ref (a_t 35), .ref (a_t 36)])), ((a_t 1), .inl (g.2.2.1 0, 27, .inl (upd t_mem ((19 + v2).toNatClampNeg) (t_row v2.toNatClampNeg)))), ((a_t 4), .inl (g.2.2.1 0, 810, .inl t_past)), ((a_t 20), .inl (g.2.2.1 0, 8, .inl t_row))]) (k := ((19 + v2).toNatClampNeg)) cx hG hP hD hS 1 rfl hi9 rfl rfl dX8_becomesRow_33 (fun H locs hP hD hS => ?_)
      have hG := hGk hS
      refine lv_iinc (v := v2 + 1) (lv' := [(2, .int (v2 + 1)), (0, .ref ((a_t 0))), (1, .int v1)]) hx hb dX8_becomesRow_34 hl (k := 2) rfl rfl (by decide) rfl (fun ls hl => ?_)
      refine lv_goto (tgt := 11) hx hb dX8_becomesRow_37 (by decide) ?_
      exact ih (upd t_mem ((19 + v2).toNatClampNeg) (t_row v2.toNatClampNeg)) t_acted t_past v1 (v2 + 1) _ _ hP hD hS _ (lv_sub hl [1, 2, 0] rfl) h
  unfold fX8_becomesRow at h
  refine lv_aload_n hx hb dX8_becomesRow_0 rfl (lv_at hl 0 rfl) ?_
  obtain ⟨r1, hr2, h⟩ := bnd h
  refine ro_i (runV (As := []) (rest := []) cx hl.1 (ctX8_farFromPlate l g a_t t_acted t_taped t_faultKind t_faultPlace t_at t_begin t_token t_value t_bad t_wide t_lost t_det t_mask t_mode t_wanted t_orders t_foundAt t_foundBy t_unlikes t_mem t_row r1 hr2) kmX8_farFromPlate kvX8_farFromPlate lm_X8_332 ⟨rfl, rfl⟩ ⟨Nat.le_of_ble_eq_true rfl, Nat.le_of_ble_eq_true rfl⟩ (roV (q0 := 0) (ci := 7) hG (hP.sub [0, 1, 3] rfl) hP rfl rfl) rfl rfl (Nat.le_of_ble_eq_true rfl) dX8_becomesRow_1 ⟨Nat.le_of_ble_eq_true rfl, Nat.le_of_ble_eq_true rfl⟩) ?_
  refine lv_istore_n (lv' := [(1, .int r1), (0, .ref ((a_t 0)))]) hx hb dX8_becomesRow_4 rfl hl (by decide) rfl (fun ls hl => ?_)
  refine lv_aload_n hx hb dX8_becomesRow_5 rfl (lv_at hl 1 rfl) ?_
  obtain ⟨w4, w5, hr3, h⟩ := ob2_out h
  refine rw_v (WN := fun u6 => [((a_t 20), .inl (g.2.2.1 0, 8, .inl t_row)), ((a_t 0), .inr (7, [.ref (a_t 1), .ref (a_t 2), .int w4, .ref (a_t 4), .ref (a_t 5), .ref (a_t 6), .ref (a_t 7), .ref (a_t 8), .ref (a_t 9), .int t_taped, .int t_faultKind, .int t_faultPlace, .int t_at, .int t_begin, .int t_token, .int t_value, .int t_bad, .ref (a_t 18), .ref (a_t 19), .ref (a_t 20), .int t_wide, .int t_lost, .ref (a_t 23), .long t_det, .ref (a_t 25), .int t_mask, .int t_mode, .int t_wanted, .int t_orders, .int t_foundAt, .long t_foundBy, .ref (a_t 32), .ref (a_t 33), .int t_unlikes, .ref (a_t 35), .ref (a_t 36)])), ((a_t 1), .inl (g.2.2.1 0, 27, .inl t_mem)), ((a_t 4), .inl (g.2.2.1 0, 810, .inl w5))]) (wr := [((a_t 20), .inl (g.2.2.1 0, 8, .inl t_row))]) (runV (As := []) (rest := []) cx hl.1 (ctX8_keeps l g s.heap.size a_t t_acted t_taped t_faultKind t_faultPlace t_at t_begin t_token t_value t_bad t_wide t_lost t_det t_mask t_mode t_wanted t_orders t_foundAt t_foundBy t_unlikes t_mem t_past w4 w5 hr3) kmX8_keeps kvX8_keeps lm_X8_428 ⟨rfl, rfl⟩ ⟨Nat.le_of_ble_eq_true rfl, Nat.le_of_ble_eq_true rfl⟩ (rwV (q0 := 0) (ci := 7) hG (hP.sub [0, 1, 2] rfl) (hD.sub [0, 1, 2] (by decide) rfl) hAb hb0 hS hP rfl rfl) rfl rfl (Nat.le_of_ble_eq_true rfl) dX8_becomesRow_6 ⟨Nat.le_of_ble_eq_true rfl, Nat.le_of_ble_eq_true rfl⟩) hP hD hS hA [0, 1, 2] [3] rfl rfl (by decide) (by decide) (fun _ => rfl) (fun u6 H locs hP hD hS => ?_)
  have hG := hGk hS
  refine lv_iconst (v := 0) hx hb dX8_becomesRow_9 (by decide) ?_
  refine lv_istore_n (lv' := [(2, .int (0)), (1, .int r1), (0, .ref ((a_t 0)))]) hx hb dX8_becomesRow_10 rfl hl (by decide) rfl (fun ls hl => ?_)
  exact w11 FU t_mem w4 w5 r1 0 _ _ (hP.sub [1, 2, 3, 0] rfl) (hD.sub [1, 2, 3, 0] (by decide) rfl) hS _ (lv_sub hl [2, 1, 0] rfl) h
-- X8_become
theorem dX8_become_0 : decode cX8_become 0 = .ok (.aload_n 0, 1) := by decide +kernel
theorem dX8_become_1 : decode cX8_become 1 = .ok (.iload_n 1, 1) := by decide +kernel
theorem dX8_become_2 : decode cX8_become 2 = .ok (.invokevirtual 361, 3) := by decide +kernel
theorem dX8_become_5 : decode cX8_become 5 = .ok (.ifCond .eq 7, 3) := by decide +kernel
theorem dX8_become_8 : decode cX8_become 8 = .ok (.iload_n 2, 1) := by decide +kernel
theorem dX8_become_9 : decode cX8_become 9 = .ok (.ifCond .ge 6, 3) := by decide +kernel
theorem dX8_become_12 : decode cX8_become 12 = .ok (.bipush (-2), 2) := by decide +kernel
theorem dX8_become_14 : decode cX8_become 14 = .ok (.ireturn, 1) := by decide +kernel
theorem dX8_become_15 : decode cX8_become 15 = .ok (.aload_n 0, 1) := by decide +kernel
theorem dX8_become_16 : decode cX8_become 16 = .ok (.iload_n 1, 1) := by decide +kernel
theorem dX8_become_17 : decode cX8_become 17 = .ok (.iconst 1, 1) := by decide +kernel
theorem dX8_become_18 : decode cX8_become 18 = .ok (.iload_n 2, 1) := by decide +kernel
theorem dX8_become_19 : decode cX8_become 19 = .ok (.invokevirtual 364, 3) := by decide +kernel
theorem dX8_become_22 : decode cX8_become 22 = .ok (.iload_n 2, 1) := by decide +kernel
theorem dX8_become_23 : decode cX8_become 23 = .ok (.if_icmp .gt 5, 3) := by decide +kernel
theorem dX8_become_26 : decode cX8_become 26 = .ok (.iconst (-1), 1) := by decide +kernel
theorem dX8_become_27 : decode cX8_become 27 = .ok (.ireturn, 1) := by decide +kernel
theorem dX8_become_28 : decode cX8_become 28 = .ok (.iconst 0, 1) := by decide +kernel
theorem dX8_become_29 : decode cX8_become 29 = .ok (.istore_n 3, 1) := by decide +kernel
theorem dX8_become_30 : decode cX8_become 30 = .ok (.iload_n 3, 1) := by decide +kernel
theorem dX8_become_31 : decode cX8_become 31 = .ok (.aload_n 0, 1) := by decide +kernel
theorem dX8_become_32 : decode cX8_become 32 = .ok (.getfield 206, 3) := by decide +kernel
theorem dX8_become_35 : decode cX8_become 35 = .ok (.if_icmp .ge 21, 3) := by decide +kernel
theorem dX8_become_38 : decode cX8_become 38 = .ok (.aload_n 0, 1) := by decide +kernel
theorem dX8_become_39 : decode cX8_become 39 = .ok (.getfield 57, 3) := by decide +kernel
theorem dX8_become_42 : decode cX8_become 42 = .ok (.iload_n 3, 1) := by decide +kernel
theorem dX8_become_43 : decode cX8_become 43 = .ok (.aload_n 0, 1) := by decide +kernel
theorem dX8_become_44 : decode cX8_become 44 = .ok (.getfield 67, 3) := by decide +kernel
theorem dX8_become_47 : decode cX8_become 47 = .ok (.iload_n 3, 1) := by decide +kernel
theorem dX8_become_48 : decode cX8_become 48 = .ok (.iaload, 1) := by decide +kernel
theorem dX8_become_49 : decode cX8_become 49 = .ok (.iastore, 1) := by decide +kernel
theorem dX8_become_50 : decode cX8_become 50 = .ok (.iinc 3 1, 3) := by decide +kernel
theorem dX8_become_53 : decode cX8_become 53 = .ok (.goto (-23), 3) := by decide +kernel
theorem dX8_become_56 : decode cX8_become 56 = .ok (.aload_n 0, 1) := by decide +kernel
theorem dX8_become_57 : decode cX8_become 57 = .ok (.invokevirtual 332, 3) := by decide +kernel
theorem dX8_become_60 : decode cX8_become 60 = .ok (.ifCond .eq 10, 3) := by decide +kernel
theorem dX8_become_63 : decode cX8_become 63 = .ok (.aload_n 0, 1) := by decide +kernel
theorem dX8_become_64 : decode cX8_become 64 = .ok (.invokevirtual 425, 3) := by decide +kernel
theorem dX8_become_67 : decode cX8_become 67 = .ok (.ifCond .eq 8, 3) := by decide +kernel
theorem dX8_become_70 : decode cX8_become 70 = .ok (.bipush (-5), 2) := by decide +kernel
theorem dX8_become_72 : decode cX8_become 72 = .ok (.goto 7, 3) := by decide +kernel
theorem dX8_become_75 : decode cX8_become 75 = .ok (.aload_n 0, 1) := by decide +kernel
theorem dX8_become_76 : decode cX8_become 76 = .ok (.invokevirtual 434, 3) := by decide +kernel
theorem dX8_become_79 : decode cX8_become 79 = .ok (.ireturn, 1) := by decide +kernel
noncomputable def fX8_become_56  (t_mem : Nat → Int32) (t_acted : Int32) (t_past : Nat → Int32) (t_row : Nat → Int32) (t_wide : Int32) (t_lost : Int32) (t_left : Nat → Int32) (t_mask : Int32) (t_mode : Int32) (t_wanted : Int32) (t_orders : Int32) (t_foundAt : Int32) (t_foundBy : Int64) (t_found : Nat → Int32) (t_seen : Nat → Int64) (t_unlikes : Int32) : Option (Int32 × (Nat → Int32) × Int32 × (Nat → Int32) × (Nat → Int32) × Int32 × Int32 × (Nat → Int32) × Int32 × Int32 × Int32 × Int32 × Int32 × Int64 × (Nat → Int32) × (Nat → Int64) × Int32) := (fX8_farFromPlate t_mem t_row t_wide).bind fun r26 => (if r26 = 0 then some ((-5), t_mem, t_acted, t_past, t_row, t_wide, t_lost, t_left, t_mask, t_mode, t_wanted, t_orders, t_foundAt, t_foundBy, t_found, t_seen, t_unlikes) else (if (fX8_isFull t_acted) = 0 then ob4 (fX8_becomesRow t_mem t_acted t_past t_row t_wide) fun r32 w33 w34 w35 => some (r32, w33, w34, w35, t_row, t_wide, t_lost, t_left, t_mask, t_mode, t_wanted, t_orders, t_foundAt, t_foundBy, t_found, t_seen, t_unlikes) else some ((-5), t_mem, t_acted, t_past, t_row, t_wide, t_lost, t_left, t_mask, t_mode, t_wanted, t_orders, t_foundAt, t_foundBy, t_found, t_seen, t_unlikes)))
noncomputable def fX8_become_30  : Nat → (Nat → Int32) → Int32 → (Nat → Int32) → (Nat → Int32) → Int32 → Int32 → (Nat → Int32) → Int32 → Int32 → Int32 → Int32 → Int32 → Int64 → (Nat → Int32) → (Nat → Int64) → Int32 → Int32 → Option (Int32 × (Nat → Int32) × Int32 × (Nat → Int32) × (Nat → Int32) × Int32 × Int32 × (Nat → Int32) × Int32 × Int32 × Int32 × Int32 × Int32 × Int64 × (Nat → Int32) × (Nat → Int64) × Int32)
  | 0, _, _, _, _, _, _, _, _, _, _, _, _, _, _, _, _, _ => none
  | n + 1, t_mem, t_acted, t_past, t_row, t_wide, t_lost, t_left, t_mask, t_mode, t_wanted, t_orders, t_foundAt, t_foundBy, t_found, t_seen, t_unlikes, v3 => (if t_wide ≤ v3 then fX8_become_56 t_mem t_acted t_past t_row t_wide t_lost t_left t_mask t_mode t_wanted t_orders t_foundAt t_foundBy t_found t_seen t_unlikes else chk 8 v3 (chk 8 v3 (fX8_become_30 n t_mem t_acted t_past (upd t_row v3.toNatClampNeg (t_found v3.toNatClampNeg)) t_wide t_lost t_left t_mask t_mode t_wanted t_orders t_foundAt t_foundBy t_found t_seen t_unlikes (v3 + 1))))
theorem fX8_become_30_z  (t_mem : Nat → Int32) (t_acted : Int32) (t_past : Nat → Int32) (t_row : Nat → Int32) (t_wide : Int32) (t_lost : Int32) (t_left : Nat → Int32) (t_mask : Int32) (t_mode : Int32) (t_wanted : Int32) (t_orders : Int32) (t_foundAt : Int32) (t_foundBy : Int64) (t_found : Nat → Int32) (t_seen : Nat → Int64) (t_unlikes : Int32) (v3 : Int32) : fX8_become_30  0 t_mem t_acted t_past t_row t_wide t_lost t_left t_mask t_mode t_wanted t_orders t_foundAt t_foundBy t_found t_seen t_unlikes v3 = none := rfl
theorem fX8_become_30_s  (n : Nat) (t_mem : Nat → Int32) (t_acted : Int32) (t_past : Nat → Int32) (t_row : Nat → Int32) (t_wide : Int32) (t_lost : Int32) (t_left : Nat → Int32) (t_mask : Int32) (t_mode : Int32) (t_wanted : Int32) (t_orders : Int32) (t_foundAt : Int32) (t_foundBy : Int64) (t_found : Nat → Int32) (t_seen : Nat → Int64) (t_unlikes : Int32) (v3 : Int32) : fX8_become_30  (n + 1) t_mem t_acted t_past t_row t_wide t_lost t_left t_mask t_mode t_wanted t_orders t_foundAt t_foundBy t_found t_seen t_unlikes v3 = (if t_wide ≤ v3 then fX8_become_56 t_mem t_acted t_past t_row t_wide t_lost t_left t_mask t_mode t_wanted t_orders t_foundAt t_foundBy t_found t_seen t_unlikes else chk 8 v3 (chk 8 v3 (fX8_become_30 n t_mem t_acted t_past (upd t_row v3.toNatClampNeg (t_found v3.toNatClampNeg)) t_wide t_lost t_left t_mask t_mode t_wanted t_orders t_foundAt t_foundBy t_found t_seen t_unlikes (v3 + 1)))) := rfl
noncomputable def fX8_become  (t_mem : Nat → Int32) (t_acted : Int32) (t_past : Nat → Int32) (t_row : Nat → Int32) (t_wide : Int32) (t_lost : Int32) (t_left : Nat → Int32) (t_mask : Int32) (t_mode : Int32) (t_wanted : Int32) (t_orders : Int32) (t_foundAt : Int32) (t_foundBy : Int64) (t_found : Nat → Int32) (t_seen : Nat → Int64) (t_unlikes : Int32) (v1 : Int32) (v2 : Int32) : Option (Int32 × (Nat → Int32) × Int32 × (Nat → Int32) × (Nat → Int32) × Int32 × Int32 × (Nat → Int32) × Int32 × Int32 × Int32 × Int32 × Int32 × Int64 × (Nat → Int32) × (Nat → Int64) × Int32) := (fX8_isAsked t_mem v1).bind fun r1 => (if r1 = 0 then some ((-2), t_mem, t_acted, t_past, t_row, t_wide, t_lost, t_left, t_mask, t_mode, t_wanted, t_orders, t_foundAt, t_foundBy, t_found, t_seen, t_unlikes) else (if 0 ≤ v2 then ob14 (fX8_goes t_mem t_row t_wide t_lost t_left t_mask t_mode t_wanted t_orders t_foundAt t_foundBy t_found t_seen t_unlikes v1 1 v2) fun r7 w8 w9 w10 w11 w12 w13 w14 w15 w16 w17 w18 w19 w20 => (if v2 < r7 then fX8_become_30 FU t_mem t_acted t_past w8 w9 w10 w11 w12 w13 w14 w15 w16 w17 w18 w19 w20 0 else some ((-1), t_mem, t_acted, t_past, w8, w9, w10, w11, w12, w13, w14, w15, w16, w17, w18, w19, w20)) else some ((-2), t_mem, t_acted, t_past, t_row, t_wide, t_lost, t_left, t_mask, t_mode, t_wanted, t_orders, t_foundAt, t_foundBy, t_found, t_seen, t_unlikes)))
set_option maxHeartbeats 4000000 in
set_option maxRecDepth 100000 in
theorem ctX8_become (l : Launch) (g : GT) (sz : Nat) (a_t : Nat → Nat) (t_acted : Int32) (t_taped : Int32) (t_faultKind : Int32) (t_faultPlace : Int32) (t_at : Int32) (t_begin : Int32) (t_token : Int32) (t_value : Int32) (t_bad : Int32) (t_wide : Int32) (t_lost : Int32) (t_det : Int64) (t_mask : Int32) (t_mode : Int32) (t_wanted : Int32) (t_orders : Int32) (t_foundAt : Int32) (t_foundBy : Int64) (t_unlikes : Int32) (t_mem : Nat → Int32) (t_past : Nat → Int32) (t_row : Nat → Int32) (t_left : Nat → Int32) (t_found : Nat → Int32) (t_seen : Nat → Int64) (v1 : Int32) (v2 : Int32) (o : Int32) (o_t_mem : Nat → Int32) (o_t_acted : Int32) (o_t_past : Nat → Int32) (o_t_row : Nat → Int32) (o_t_wide : Int32) (o_t_lost : Int32) (o_t_left : Nat → Int32) (o_t_mask : Int32) (o_t_mode : Int32) (o_t_wanted : Int32) (o_t_orders : Int32) (o_t_foundAt : Int32) (o_t_foundBy : Int64) (o_t_found : Nat → Int32) (o_t_seen : Nat → Int64) (o_t_unlikes : Int32) (h : fX8_become t_mem t_acted t_past t_row t_wide t_lost t_left t_mask t_mode t_wanted t_orders t_foundAt t_foundBy t_found t_seen t_unlikes v1 v2 = some (o, o_t_mem, o_t_acted, o_t_past, o_t_row, o_t_wide, o_t_lost, o_t_left, o_t_mask, o_t_mode, o_t_wanted, o_t_orders, o_t_foundAt, o_t_foundBy, o_t_found, o_t_seen, o_t_unlikes)) : Met l yX8_become (Cond.code yX8_become cX8_become 4 (some .int) :: Tw) ⟨16, 0, 0, 389⟩ (va_Pc [.ref ((a_t 0)), .int v1, .int v2] (rwB g [((a_t 0), .inr (7, [.ref (a_t 1), .ref (a_t 2), .int t_acted, .ref (a_t 4), .ref (a_t 5), .ref (a_t 6), .ref (a_t 7), .ref (a_t 8), .ref (a_t 9), .int t_taped, .int t_faultKind, .int t_faultPlace, .int t_at, .int t_begin, .int t_token, .int t_value, .int t_bad, .ref (a_t 18), .ref (a_t 19), .ref (a_t 20), .int t_wide, .int t_lost, .ref (a_t 23), .long t_det, .ref (a_t 25), .int t_mask, .int t_mode, .int t_wanted, .int t_orders, .int t_foundAt, .long t_foundBy, .ref (a_t 32), .ref (a_t 33), .int t_unlikes, .ref (a_t 35), .ref (a_t 36)])), ((a_t 1), .inl (g.2.2.1 0, 27, .inl t_mem)), ((a_t 4), .inl (g.2.2.1 0, 810, .inl t_past)), ((a_t 20), .inl (g.2.2.1 0, 8, .inl t_row)), ((a_t 25), .inl (g.2.2.1 0, 12, .inl t_left)), ((a_t 32), .inl (g.2.2.1 0, 8, .inl t_found)), ((a_t 33), .inl (g.2.2.1 1, 65536, .inr (.inl t_seen)))] sz)) (va_Qi (fun x (_ : Nat → Nat) => x = o) (fun u => rwE g (va_A [((a_t 0), .inr (7, [.ref (a_t 1), .ref (a_t 2), .int t_acted, .ref (a_t 4), .ref (a_t 5), .ref (a_t 6), .ref (a_t 7), .ref (a_t 8), .ref (a_t 9), .int t_taped, .int t_faultKind, .int t_faultPlace, .int t_at, .int t_begin, .int t_token, .int t_value, .int t_bad, .ref (a_t 18), .ref (a_t 19), .ref (a_t 20), .int t_wide, .int t_lost, .ref (a_t 23), .long t_det, .ref (a_t 25), .int t_mask, .int t_mode, .int t_wanted, .int t_orders, .int t_foundAt, .long t_foundBy, .ref (a_t 32), .ref (a_t 33), .int t_unlikes, .ref (a_t 35), .ref (a_t 36)])), ((a_t 1), .inl (g.2.2.1 0, 27, .inl t_mem)), ((a_t 4), .inl (g.2.2.1 0, 810, .inl t_past)), ((a_t 20), .inl (g.2.2.1 0, 8, .inl t_row)), ((a_t 25), .inl (g.2.2.1 0, 12, .inl t_left)), ((a_t 32), .inl (g.2.2.1 0, 8, .inl t_found)), ((a_t 33), .inl (g.2.2.1 1, 65536, .inr (.inl t_seen)))] sz) [((a_t 0), .inr (7, [.ref (a_t 1), .ref (a_t 2), .int o_t_acted, .ref (a_t 4), .ref (a_t 5), .ref (a_t 6), .ref (a_t 7), .ref (a_t 8), .ref (a_t 9), .int t_taped, .int t_faultKind, .int t_faultPlace, .int t_at, .int t_begin, .int t_token, .int t_value, .int t_bad, .ref (a_t 18), .ref (a_t 19), .ref (a_t 20), .int o_t_wide, .int o_t_lost, .ref (a_t 23), .long t_det, .ref (a_t 25), .int o_t_mask, .int o_t_mode, .int o_t_wanted, .int o_t_orders, .int o_t_foundAt, .long o_t_foundBy, .ref (a_t 32), .ref (a_t 33), .int o_t_unlikes, .ref (a_t 35), .ref (a_t 36)])), ((a_t 1), .inl (g.2.2.1 0, 27, .inl o_t_mem)), ((a_t 4), .inl (g.2.2.1 0, 810, .inl o_t_past)), ((a_t 20), .inl (g.2.2.1 0, 8, .inl o_t_row)), ((a_t 25), .inl (g.2.2.1 0, 12, .inl o_t_left)), ((a_t 32), .inl (g.2.2.1 0, 8, .inl o_t_found)), ((a_t 33), .inl (g.2.2.1 1, 65536, .inr (.inl o_t_seen)))]) (va_A [((a_t 0), .inr (7, [.ref (a_t 1), .ref (a_t 2), .int t_acted, .ref (a_t 4), .ref (a_t 5), .ref (a_t 6), .ref (a_t 7), .ref (a_t 8), .ref (a_t 9), .int t_taped, .int t_faultKind, .int t_faultPlace, .int t_at, .int t_begin, .int t_token, .int t_value, .int t_bad, .ref (a_t 18), .ref (a_t 19), .ref (a_t 20), .int t_wide, .int t_lost, .ref (a_t 23), .long t_det, .ref (a_t 25), .int t_mask, .int t_mode, .int t_wanted, .int t_orders, .int t_foundAt, .long t_foundBy, .ref (a_t 32), .ref (a_t 33), .int t_unlikes, .ref (a_t 35), .ref (a_t 36)])), ((a_t 1), .inl (g.2.2.1 0, 27, .inl t_mem)), ((a_t 4), .inl (g.2.2.1 0, 810, .inl t_past)), ((a_t 20), .inl (g.2.2.1 0, 8, .inl t_row)), ((a_t 25), .inl (g.2.2.1 0, 12, .inl t_left)), ((a_t 32), .inl (g.2.2.1 0, 8, .inl t_found)), ((a_t 33), .inl (g.2.2.1 1, 65536, .inr (.inl t_seen)))] sz)) 0 0 (va_A [((a_t 0), .inr (7, [.ref (a_t 1), .ref (a_t 2), .int t_acted, .ref (a_t 4), .ref (a_t 5), .ref (a_t 6), .ref (a_t 7), .ref (a_t 8), .ref (a_t 9), .int t_taped, .int t_faultKind, .int t_faultPlace, .int t_at, .int t_begin, .int t_token, .int t_value, .int t_bad, .ref (a_t 18), .ref (a_t 19), .ref (a_t 20), .int t_wide, .int t_lost, .ref (a_t 23), .long t_det, .ref (a_t 25), .int t_mask, .int t_mode, .int t_wanted, .int t_orders, .int t_foundAt, .long t_foundBy, .ref (a_t 32), .ref (a_t 33), .int t_unlikes, .ref (a_t 35), .ref (a_t 36)])), ((a_t 1), .inl (g.2.2.1 0, 27, .inl t_mem)), ((a_t 4), .inl (g.2.2.1 0, 810, .inl t_past)), ((a_t 20), .inl (g.2.2.1 0, 8, .inl t_row)), ((a_t 25), .inl (g.2.2.1 0, 12, .inl t_left)), ((a_t 32), .inl (g.2.2.1 0, 8, .inl t_found)), ((a_t 33), .inl (g.2.2.1 1, 65536, .inr (.inl t_seen)))] sz) := by
  refine rw_meti (by decide) (Nat.le_of_ble_eq_true rfl) (lv0 := [(0, .ref ((a_t 0))), (1, .int v1), (2, .int v2)]) rfl ?_
  intro p e s m args below meth c ls Q A cx hret hG hAb hb0 hA hP hD hl
  have hx := cx.1
  have hb := cx.2.1
  have hG0 := hG
  have hGk : ∀ {H : Heap} {locs : List Loc}, va_S A s.heap H locs → GE g s H := fun hS => hG0.keptS hAb hS
  have hSb : ∀ {H : Heap} {locs : List Loc}, va_S A s.heap H locs → va_S (fun a => g.1 ≤ a) s.heap H locs := fun hS => ⟨hS.1, fun q h1 h2 => hS.2.1 q h1 (fun z => h2 (hAb q z)), fun l hl => hAb _ (hS.2.2 l hl)⟩
  have hS : va_S A s.heap s.heap [] := va_S.rf
  have hrt : ∀ (u : Nat → Nat) (pc : Nat) (ls : Array Slot) (v : Int32) (x_t_mem : Nat → Int32) (x_t_acted : Int32) (x_t_past : Nat → Int32) (x_t_row : Nat → Int32) (x_t_wide : Int32) (x_t_lost : Int32) (x_t_left : Nat → Int32) (x_t_mask : Int32) (x_t_mode : Int32) (x_t_wanted : Int32) (x_t_orders : Int32) (x_t_foundAt : Int32) (x_t_foundBy : Int64) (x_t_found : Nat → Int32) (x_t_seen : Nat → Int64) (x_t_unlikes : Int32) (H : Heap) (locs : List Loc), decode cX8_become pc = .ok (.ireturn, 1) → some (v, x_t_mem, x_t_acted, x_t_past, x_t_row, x_t_wide, x_t_lost, x_t_left, x_t_mask, x_t_mode, x_t_wanted, x_t_orders, x_t_foundAt, x_t_foundBy, x_t_found, x_t_seen, x_t_unlikes) = some (o, o_t_mem, o_t_acted, o_t_past, o_t_row, o_t_wide, o_t_lost, o_t_left, o_t_mask, o_t_mode, o_t_wanted, o_t_orders, o_t_foundAt, o_t_foundBy, o_t_found, o_t_seen, o_t_unlikes) → va_P g.2.1 vwCl [((a_t 0), .inr (7, [.ref (a_t 1), .ref (a_t 2), .int x_t_acted, .ref (a_t 4), .ref (a_t 5), .ref (a_t 6), .ref (a_t 7), .ref (a_t 8), .ref (a_t 9), .int t_taped, .int t_faultKind, .int t_faultPlace, .int t_at, .int t_begin, .int t_token, .int t_value, .int t_bad, .ref (a_t 18), .ref (a_t 19), .ref (a_t 20), .int x_t_wide, .int x_t_lost, .ref (a_t 23), .long t_det, .ref (a_t 25), .int x_t_mask, .int x_t_mode, .int x_t_wanted, .int x_t_orders, .int x_t_foundAt, .long x_t_foundBy, .ref (a_t 32), .ref (a_t 33), .int x_t_unlikes, .ref (a_t 35), .ref (a_t 36)])), ((a_t 1), .inl (g.2.2.1 0, 27, .inl x_t_mem)), ((a_t 4), .inl (g.2.2.1 0, 810, .inl x_t_past)), ((a_t 20), .inl (g.2.2.1 0, 8, .inl x_t_row)), ((a_t 25), .inl (g.2.2.1 0, 12, .inl x_t_left)), ((a_t 32), .inl (g.2.2.1 0, 8, .inl x_t_found)), ((a_t 33), .inl (g.2.2.1 1, 65536, .inr (.inl x_t_seen)))] H → va_D A [((a_t 0), .inr (7, [.ref (a_t 1), .ref (a_t 2), .int x_t_acted, .ref (a_t 4), .ref (a_t 5), .ref (a_t 6), .ref (a_t 7), .ref (a_t 8), .ref (a_t 9), .int t_taped, .int t_faultKind, .int t_faultPlace, .int t_at, .int t_begin, .int t_token, .int t_value, .int t_bad, .ref (a_t 18), .ref (a_t 19), .ref (a_t 20), .int x_t_wide, .int x_t_lost, .ref (a_t 23), .long t_det, .ref (a_t 25), .int x_t_mask, .int x_t_mode, .int x_t_wanted, .int x_t_orders, .int x_t_foundAt, .long x_t_foundBy, .ref (a_t 32), .ref (a_t 33), .int x_t_unlikes, .ref (a_t 35), .ref (a_t 36)])), ((a_t 1), .inl (g.2.2.1 0, 27, .inl x_t_mem)), ((a_t 4), .inl (g.2.2.1 0, 810, .inl x_t_past)), ((a_t 20), .inl (g.2.2.1 0, 8, .inl x_t_row)), ((a_t 25), .inl (g.2.2.1 0, 12, .inl x_t_left)), ((a_t 32), .inl (g.2.2.1 0, 8, .inl x_t_found)), ((a_t 33), .inl (g.2.2.1 1, 65536, .inr (.inl x_t_seen)))] → va_S A s.heap H locs → W p l e ⟨16, 0, 0, 389⟩ s m args below meth c H locs 0 0 Q (F0 m pc ls [.int v]) := by
    intro u pc ls v x_t_mem x_t_acted x_t_past x_t_row x_t_wide x_t_lost x_t_left x_t_mask x_t_mode x_t_wanted x_t_orders x_t_foundAt x_t_foundBy x_t_found x_t_seen x_t_unlikes H locs hd h hP hD hS
    cases h
    exact hret u _ _ _ _ _ hd rfl hP hD hS
  have w56 : ∀ (t_mem : Nat → Int32) (t_acted : Int32) (t_past : Nat → Int32) (t_row : Nat → Int32) (t_wide : Int32) (t_lost : Int32) (t_left : Nat → Int32) (t_mask : Int32) (t_mode : Int32) (t_wanted : Int32) (t_orders : Int32) (t_foundAt : Int32) (t_foundBy : Int64) (t_found : Nat → Int32) (t_seen : Nat → Int64) (t_unlikes : Int32) (H : Heap) (locs : List Loc), va_P g.2.1 vwCl [((a_t 0), .inr (7, [.ref (a_t 1), .ref (a_t 2), .int t_acted, .ref (a_t 4), .ref (a_t 5), .ref (a_t 6), .ref (a_t 7), .ref (a_t 8), .ref (a_t 9), .int t_taped, .int t_faultKind, .int t_faultPlace, .int t_at, .int t_begin, .int t_token, .int t_value, .int t_bad, .ref (a_t 18), .ref (a_t 19), .ref (a_t 20), .int t_wide, .int t_lost, .ref (a_t 23), .long t_det, .ref (a_t 25), .int t_mask, .int t_mode, .int t_wanted, .int t_orders, .int t_foundAt, .long t_foundBy, .ref (a_t 32), .ref (a_t 33), .int t_unlikes, .ref (a_t 35), .ref (a_t 36)])), ((a_t 1), .inl (g.2.2.1 0, 27, .inl t_mem)), ((a_t 4), .inl (g.2.2.1 0, 810, .inl t_past)), ((a_t 20), .inl (g.2.2.1 0, 8, .inl t_row)), ((a_t 25), .inl (g.2.2.1 0, 12, .inl t_left)), ((a_t 32), .inl (g.2.2.1 0, 8, .inl t_found)), ((a_t 33), .inl (g.2.2.1 1, 65536, .inr (.inl t_seen)))] H → va_D A [((a_t 0), .inr (7, [.ref (a_t 1), .ref (a_t 2), .int t_acted, .ref (a_t 4), .ref (a_t 5), .ref (a_t 6), .ref (a_t 7), .ref (a_t 8), .ref (a_t 9), .int t_taped, .int t_faultKind, .int t_faultPlace, .int t_at, .int t_begin, .int t_token, .int t_value, .int t_bad, .ref (a_t 18), .ref (a_t 19), .ref (a_t 20), .int t_wide, .int t_lost, .ref (a_t 23), .long t_det, .ref (a_t 25), .int t_mask, .int t_mode, .int t_wanted, .int t_orders, .int t_foundAt, .long t_foundBy, .ref (a_t 32), .ref (a_t 33), .int t_unlikes, .ref (a_t 35), .ref (a_t 36)])), ((a_t 1), .inl (g.2.2.1 0, 27, .inl t_mem)), ((a_t 4), .inl (g.2.2.1 0, 810, .inl t_past)), ((a_t 20), .inl (g.2.2.1 0, 8, .inl t_row)), ((a_t 25), .inl (g.2.2.1 0, 12, .inl t_left)), ((a_t 32), .inl (g.2.2.1 0, 8, .inl t_found)), ((a_t 33), .inl (g.2.2.1 1, 65536, .inr (.inl t_seen)))] → va_S A s.heap H locs → ∀ (ls : Array Slot), lv_has ls 4 [(0, .ref ((a_t 0)))] → fX8_become_56  t_mem t_acted t_past t_row t_wide t_lost t_left t_mask t_mode t_wanted t_orders t_foundAt t_foundBy t_found t_seen t_unlikes = some (o, o_t_mem, o_t_acted, o_t_past, o_t_row, o_t_wide, o_t_lost, o_t_left, o_t_mask, o_t_mode, o_t_wanted, o_t_orders, o_t_foundAt, o_t_foundBy, o_t_found, o_t_seen, o_t_unlikes) → W p l e ⟨16, 0, 0, 389⟩ s m args below meth c H locs 0 0 Q (F0 m 56 ls []) := by
    intro t_mem t_acted t_past t_row t_wide t_lost t_left t_mask t_mode t_wanted t_orders t_foundAt t_foundBy t_found t_seen t_unlikes H locs hP hD hS ls hl h
    unfold fX8_become_56 at h
    have hG := hGk hS
    refine lv_aload_n hx hb dX8_become_56 rfl (lv_at hl 0 rfl) ?_
    obtain ⟨r26, hr27, h⟩ := bnd h
    refine ro_i (runV (As := []) (rest := []) cx hl.1 (ctX8_farFromPlate l g a_t t_acted t_taped t_faultKind t_faultPlace t_at t_begin t_token t_value t_bad t_wide t_lost t_det t_mask t_mode t_wanted t_orders t_foundAt t_foundBy t_unlikes t_mem t_row r26 hr27) kmX8_farFromPlate kvX8_farFromPlate lm_X8_332 ⟨rfl, rfl⟩ ⟨Nat.le_of_ble_eq_true rfl, Nat.le_of_ble_eq_true rfl⟩ (roV (q0 := 0) (ci := 7) hG (hP.sub [0, 1, 3] rfl) hP rfl rfl) rfl rfl (Nat.le_of_ble_eq_true rfl) dX8_become_57 ⟨Nat.le_of_ble_eq_true rfl, Nat.le_of_ble_eq_true rfl⟩) ?_
    refine lv_if_eq (tgt := 70) hx hb dX8_become_60 (by decide) (fun c28 => ?_) (fun c28 => ?_)
    · have h := itp c28 h
      refine lv_bipush (v := -5) hx hb dX8_become_70 (by decide) ?_
      refine lv_goto (tgt := 79) hx hb dX8_become_72 (by decide) ?_
      exact hrt (fun _ => 0) _ _ ((-5)) t_mem t_acted t_past t_row t_wide t_lost t_left t_mask t_mode t_wanted t_orders t_foundAt t_foundBy t_found t_seen t_unlikes _ _ dX8_become_79 h (hP.sub [0, 1, 2, 3, 4, 5, 6] rfl) (hD.sub [0, 1, 2, 3, 4, 5, 6] (by decide) rfl) hS
    · have h := itn c28 h
      refine lv_aload_n hx hb dX8_become_63 rfl (lv_at hl 0 rfl) ?_
      refine ro_z (runV (As := []) (rest := []) cx hl.1 (ctX8_isFull l g a_t t_acted t_taped t_faultKind t_faultPlace t_at t_begin t_token t_value t_bad t_wide t_lost t_det t_mask t_mode t_wanted t_orders t_foundAt t_foundBy t_unlikes (fX8_isFull t_acted) rfl) kmX8_isFull kvX8_isFull lm_X8_425 ⟨rfl, rfl⟩ ⟨Nat.le_of_ble_eq_true rfl, Nat.le_of_ble_eq_true rfl⟩ (roV (q0 := 0) (ci := 7) hG (hP.sub [0] rfl) hP rfl rfl) rfl rfl (Nat.le_of_ble_eq_true rfl) dX8_become_64 ⟨Nat.le_of_ble_eq_true rfl, Nat.le_of_ble_eq_true rfl⟩) (fun hz29 => ?_)
      refine lv_if_eq (tgt := 75) hx hb dX8_become_67 (by decide) (fun c30 => ?_) (fun c30 => ?_)
      · have h := itp c30 h
        refine lv_aload_n hx hb dX8_become_75 rfl (lv_at hl 0 rfl) ?_
        obtain ⟨r32, w33, w34, w35, hr31, h⟩ := ob4_out h
        refine rw_i (WN := fun u36 => [((a_t 25), .inl (g.2.2.1 0, 12, .inl t_left)), ((a_t 32), .inl (g.2.2.1 0, 8, .inl t_found)), ((a_t 33), .inl (g.2.2.1 1, 65536, .inr (.inl t_seen))), ((a_t 0), .inr (7, [.ref (a_t 1), .ref (a_t 2), .int w34, .ref (a_t 4), .ref (a_t 5), .ref (a_t 6), .ref (a_t 7), .ref (a_t 8), .ref (a_t 9), .int t_taped, .int t_faultKind, .int t_faultPlace, .int t_at, .int t_begin, .int t_token, .int t_value, .int t_bad, .ref (a_t 18), .ref (a_t 19), .ref (a_t 20), .int t_wide, .int t_lost, .ref (a_t 23), .long t_det, .ref (a_t 25), .int t_mask, .int t_mode, .int t_wanted, .int t_orders, .int t_foundAt, .long t_foundBy, .ref (a_t 32), .ref (a_t 33), .int t_unlikes, .ref (a_t 35), .ref (a_t 36)])), ((a_t 1), .inl (g.2.2.1 0, 27, .inl w33)), ((a_t 4), .inl (g.2.2.1 0, 810, .inl w35)), ((a_t 20), .inl (g.2.2.1 0, 8, .inl t_row))]) (wr := [((a_t 25), .inl (g.2.2.1 0, 12, .inl t_left)), ((a_t 32), .inl (g.2.2.1 0, 8, .inl t_found)), ((a_t 33), .inl (g.2.2.1 1, 65536, .inr (.inl t_seen)))]) (runV (As := []) (rest := []) cx hl.1 (ctX8_becomesRow l g H.size a_t t_acted t_taped t_faultKind t_faultPlace t_at t_begin t_token t_value t_bad t_wide t_lost t_det t_mask t_mode t_wanted t_orders t_foundAt t_foundBy t_unlikes t_mem t_past t_row r32 w33 w34 w35 hr31) kmX8_becomesRow kvX8_becomesRow lm_X8_434 ⟨rfl, rfl⟩ ⟨Nat.le_of_ble_eq_true rfl, Nat.le_of_ble_eq_true rfl⟩ (rwV (q0 := 0) (ci := 7) hG (hP.sub [0, 1, 2, 3] rfl) (hD.sub [0, 1, 2, 3] (by decide) rfl) hAb hb0 hS hP rfl rfl) rfl rfl (Nat.le_of_ble_eq_true rfl) dX8_become_76 ⟨Nat.le_of_ble_eq_true rfl, Nat.le_of_ble_eq_true rfl⟩) hP hD hS hA [0, 1, 2, 3] [4, 5, 6] rfl rfl (by decide) (by decide) (fun _ => rfl) (fun u36 H locs hP hD hS => ?_)
        have hG := hGk hS
        exact hrt (fun _ => 0) _ _ r32 w33 w34 w35 t_row t_wide t_lost t_left t_mask t_mode t_wanted t_orders t_foundAt t_foundBy t_found t_seen t_unlikes _ _ dX8_become_79 h (hP.sub [3, 4, 5, 6, 0, 1, 2] rfl) (hD.sub [3, 4, 5, 6, 0, 1, 2] (by decide) rfl) hS
      · have h := itn c30 h
        refine lv_bipush (v := -5) hx hb dX8_become_70 (by decide) ?_
        refine lv_goto (tgt := 79) hx hb dX8_become_72 (by decide) ?_
        exact hrt (fun _ => 0) _ _ ((-5)) t_mem t_acted t_past t_row t_wide t_lost t_left t_mask t_mode t_wanted t_orders t_foundAt t_foundBy t_found t_seen t_unlikes _ _ dX8_become_79 h (hP.sub [0, 1, 2, 3, 4, 5, 6] rfl) (hD.sub [0, 1, 2, 3, 4, 5, 6] (by decide) rfl) hS
  have w30 : ∀ (n : Nat) (t_mem : Nat → Int32) (t_acted : Int32) (t_past : Nat → Int32) (t_row : Nat → Int32) (t_wide : Int32) (t_lost : Int32) (t_left : Nat → Int32) (t_mask : Int32) (t_mode : Int32) (t_wanted : Int32) (t_orders : Int32) (t_foundAt : Int32) (t_foundBy : Int64) (t_found : Nat → Int32) (t_seen : Nat → Int64) (t_unlikes : Int32) (v3 : Int32) (H : Heap) (locs : List Loc), va_P g.2.1 vwCl [((a_t 0), .inr (7, [.ref (a_t 1), .ref (a_t 2), .int t_acted, .ref (a_t 4), .ref (a_t 5), .ref (a_t 6), .ref (a_t 7), .ref (a_t 8), .ref (a_t 9), .int t_taped, .int t_faultKind, .int t_faultPlace, .int t_at, .int t_begin, .int t_token, .int t_value, .int t_bad, .ref (a_t 18), .ref (a_t 19), .ref (a_t 20), .int t_wide, .int t_lost, .ref (a_t 23), .long t_det, .ref (a_t 25), .int t_mask, .int t_mode, .int t_wanted, .int t_orders, .int t_foundAt, .long t_foundBy, .ref (a_t 32), .ref (a_t 33), .int t_unlikes, .ref (a_t 35), .ref (a_t 36)])), ((a_t 1), .inl (g.2.2.1 0, 27, .inl t_mem)), ((a_t 4), .inl (g.2.2.1 0, 810, .inl t_past)), ((a_t 20), .inl (g.2.2.1 0, 8, .inl t_row)), ((a_t 25), .inl (g.2.2.1 0, 12, .inl t_left)), ((a_t 32), .inl (g.2.2.1 0, 8, .inl t_found)), ((a_t 33), .inl (g.2.2.1 1, 65536, .inr (.inl t_seen)))] H → va_D A [((a_t 0), .inr (7, [.ref (a_t 1), .ref (a_t 2), .int t_acted, .ref (a_t 4), .ref (a_t 5), .ref (a_t 6), .ref (a_t 7), .ref (a_t 8), .ref (a_t 9), .int t_taped, .int t_faultKind, .int t_faultPlace, .int t_at, .int t_begin, .int t_token, .int t_value, .int t_bad, .ref (a_t 18), .ref (a_t 19), .ref (a_t 20), .int t_wide, .int t_lost, .ref (a_t 23), .long t_det, .ref (a_t 25), .int t_mask, .int t_mode, .int t_wanted, .int t_orders, .int t_foundAt, .long t_foundBy, .ref (a_t 32), .ref (a_t 33), .int t_unlikes, .ref (a_t 35), .ref (a_t 36)])), ((a_t 1), .inl (g.2.2.1 0, 27, .inl t_mem)), ((a_t 4), .inl (g.2.2.1 0, 810, .inl t_past)), ((a_t 20), .inl (g.2.2.1 0, 8, .inl t_row)), ((a_t 25), .inl (g.2.2.1 0, 12, .inl t_left)), ((a_t 32), .inl (g.2.2.1 0, 8, .inl t_found)), ((a_t 33), .inl (g.2.2.1 1, 65536, .inr (.inl t_seen)))] → va_S A s.heap H locs → ∀ (ls : Array Slot), lv_has ls 4 [(0, .ref ((a_t 0))), (3, .int v3)] → fX8_become_30  n t_mem t_acted t_past t_row t_wide t_lost t_left t_mask t_mode t_wanted t_orders t_foundAt t_foundBy t_found t_seen t_unlikes v3 = some (o, o_t_mem, o_t_acted, o_t_past, o_t_row, o_t_wide, o_t_lost, o_t_left, o_t_mask, o_t_mode, o_t_wanted, o_t_orders, o_t_foundAt, o_t_foundBy, o_t_found, o_t_seen, o_t_unlikes) → W p l e ⟨16, 0, 0, 389⟩ s m args below meth c H locs 0 0 Q (F0 m 30 ls []) := by
    intro n
    induction n with
    | zero => intro t_mem t_acted t_past t_row t_wide t_lost t_left t_mask t_mode t_wanted t_orders t_foundAt t_foundBy t_found t_seen t_unlikes v3 H locs hP hD hS ls hl h; cases (fX8_become_30_z  t_mem t_acted t_past t_row t_wide t_lost t_left t_mask t_mode t_wanted t_orders t_foundAt t_foundBy t_found t_seen t_unlikes v3).symm.trans h
    | succ n ih =>
    intro t_mem t_acted t_past t_row t_wide t_lost t_left t_mask t_mode t_wanted t_orders t_foundAt t_foundBy t_found t_seen t_unlikes v3 H locs hP hD hS ls hl h
    have h := (fX8_become_30_s  n t_mem t_acted t_past t_row t_wide t_lost t_left t_mask t_mode t_wanted t_orders t_foundAt t_foundBy t_found t_seen t_unlikes v3).symm.trans h
    have hG := hGk hS
    refine lv_iload_n hx hb dX8_become_30 rfl (lv_at hl 1 rfl) ?_
    refine lv_aload_n hx hb dX8_become_31 rfl (lv_at hl 0 rfl) ?_
    refine xa_get (C := RX8) (T := TX8) (N := 36) cx hG hP 0 rfl rfl uX8 20 (by decide) lf_X8_206 rfl dX8_become_32 ?_
    refine lv_icmp_ge (tgt := 56) hx hb dX8_become_35 (by decide) (fun c23 => ?_) (fun c23 => ?_)
    · have h := itp c23 h
      exact w56 t_mem t_acted t_past t_row t_wide t_lost t_left t_mask t_mode t_wanted t_orders t_foundAt t_foundBy t_found t_seen t_unlikes _ _ hP hD hS _ (lv_sub hl [0] rfl) h
    · have h := itn c23 h
      refine lv_aload_n hx hb dX8_become_38 rfl (lv_at hl 0 rfl) ?_
      refine xa_get (C := RX8) (T := TX8) (N := 36) cx hG hP 0 rfl rfl uX8 19 (by decide) lf_X8_57 rfl dX8_become_39 ?_
      refine lv_iload_n hx hb dX8_become_42 rfl (lv_at hl 1 rfl) ?_
      refine lv_aload_n hx hb dX8_become_43 rfl (lv_at hl 0 rfl) ?_
      refine xa_get (C := RX8) (T := TX8) (N := 36) cx hG hP 0 rfl rfl uX8 31 (by decide) lf_X8_67 rfl dX8_become_44 ?_
      refine lv_iload_n hx hb dX8_become_47 rfl (lv_at hl 1 rfl) ?_
      obtain ⟨hi24, h⟩ := chk_out h
      refine xa_iald cx hG hP 5 rfl hi24 rfl dX8_become_48 ?_
      obtain ⟨hi25, h⟩ := chk_out h
      refine xw_iast (ws' := [((a_t 0), .inr (7, [.ref (a_t 1), .ref (a_t 2), .int t_acted, .ref (a_t 4), .ref (a_t 5), .ref (a_t 6), .ref (a_t 7), .ref (a_t 8), .ref (a_t 9), .int t_taped, .int t_faultKind, .int t_faultPlace, .int t_at, .int t_begin, .int t_token, .int t_value, .int t_bad, .ref (a_t 18), .ref (a_t 19), .ref (a_t 20), .int t_wide, .int t_lost, .ref (a_t 23), .long t_det, .ref (a_t 25), .int t_mask, .int t_mode, .int t_wanted, .int t_orders, .int t_foundAt, .long t_foundBy, .ref (a_t 32), .ref (a_t 33), .int t_unlikes, .ref (a_t 35), .ref (a_t 36)])), ((a_t 1), .inl (g.2.2.1 0, 27, .inl t_mem)), ((a_t 4), .inl (g.2.2.1 0, 810, .inl t_past)), ((a_t 20), .inl (g.2.2.1 0, 8, .inl (upd t_row v3.toNatClampNeg (t_found v3.toNatClampNeg)))), ((a_t 25), .inl (g.2.2.1 0, 12, .inl t_left)), ((a_t 32), .inl (g.2.2.1 0, 8, .inl t_found)), ((a_t 33), .inl (g.2.2.1 1, 65536, .inr (.inl t_seen)))]) (k := v3.toNatClampNeg) cx hG hP hD hS 3 rfl hi25 rfl rfl dX8_become_49 (fun H locs hP hD hS => ?_)
      have hG := hGk hS
      refine lv_iinc (v := v3 + 1) (lv' := [(3, .int (v3 + 1)), (0, .ref ((a_t 0)))]) hx hb dX8_become_50 hl (k := 1) rfl rfl (by decide) rfl (fun ls hl => ?_)
      refine lv_goto (tgt := 30) hx hb dX8_become_53 (by decide) ?_
      exact ih t_mem t_acted t_past (upd t_row v3.toNatClampNeg (t_found v3.toNatClampNeg)) t_wide t_lost t_left t_mask t_mode t_wanted t_orders t_foundAt t_foundBy t_found t_seen t_unlikes (v3 + 1) _ _ hP hD hS _ (lv_sub hl [1, 0] rfl) h
  unfold fX8_become at h
  refine lv_aload_n hx hb dX8_become_0 rfl (lv_at hl 0 rfl) ?_
  refine lv_iload_n hx hb dX8_become_1 rfl (lv_at hl 1 rfl) ?_
  obtain ⟨r1, hr2, h⟩ := bnd h
  refine ro_z (runV (As := [.int v1]) (rest := []) cx hl.1 (ctX8_isAsked l g a_t t_acted t_taped t_faultKind t_faultPlace t_at t_begin t_token t_value t_bad t_wide t_lost t_det t_mask t_mode t_wanted t_orders t_foundAt t_foundBy t_unlikes t_mem v1 r1 hr2) kmX8_isAsked kvX8_isAsked lm_X8_361 ⟨rfl, rfl⟩ ⟨Nat.le_of_ble_eq_true rfl, Nat.le_of_ble_eq_true rfl⟩ (roV (q0 := 0) (ci := 7) hG (hP.sub [0, 1] rfl) hP rfl rfl) rfl rfl (Nat.le_of_ble_eq_true rfl) dX8_become_2 ⟨Nat.le_of_ble_eq_true rfl, Nat.le_of_ble_eq_true rfl⟩) (fun hz3 => ?_)
  refine lv_if_eq (tgt := 12) hx hb dX8_become_5 (by decide) (fun c4 => ?_) (fun c4 => ?_)
  · have h := itp c4 h
    refine lv_bipush (v := -2) hx hb dX8_become_12 (by decide) ?_
    exact hrt (fun _ => 0) _ _ ((-2)) t_mem t_acted t_past t_row t_wide t_lost t_left t_mask t_mode t_wanted t_orders t_foundAt t_foundBy t_found t_seen t_unlikes _ _ dX8_become_14 h (hP.sub [0, 1, 2, 3, 4, 5, 6] rfl) (hD.sub [0, 1, 2, 3, 4, 5, 6] (by decide) rfl) hS
  · have h := itn c4 h
    refine lv_iload_n hx hb dX8_become_8 rfl (lv_at hl 2 rfl) ?_
    refine lv_if_ge (tgt := 15) hx hb dX8_become_9 (by decide) (fun c5 => ?_) (fun c5 => ?_)
    · have h := itp c5 h
      refine lv_aload_n hx hb dX8_become_15 rfl (lv_at hl 0 rfl) ?_
      refine lv_iload_n hx hb dX8_become_16 rfl (lv_at hl 1 rfl) ?_
      refine lv_iconst (v := 1) hx hb dX8_become_17 (by decide) ?_
      refine lv_iload_n hx hb dX8_become_18 rfl (lv_at hl 2 rfl) ?_
      obtain ⟨r7, w8, w9, w10, w11, w12, w13, w14, w15, w16, w17, w18, w19, w20, hr6, h⟩ := ob14_out h
      refine rw_i (WN := fun u21 => [((a_t 4), .inl (g.2.2.1 0, 810, .inl t_past)), ((a_t 0), .inr (7, [.ref (a_t 1), .ref (a_t 2), .int t_acted, .ref (a_t 4), .ref (a_t 5), .ref (a_t 6), .ref (a_t 7), .ref (a_t 8), .ref (a_t 9), .int t_taped, .int t_faultKind, .int t_faultPlace, .int t_at, .int t_begin, .int t_token, .int t_value, .int t_bad, .ref (a_t 18), .ref (a_t 19), .ref (a_t 20), .int w9, .int w10, .ref (a_t 23), .long t_det, .ref (a_t 25), .int w12, .int w13, .int w14, .int w15, .int w16, .long w17, .ref (a_t 32), .ref (a_t 33), .int w20, .ref (a_t 35), .ref (a_t 36)])), ((a_t 1), .inl (g.2.2.1 0, 27, .inl t_mem)), ((a_t 20), .inl (g.2.2.1 0, 8, .inl w8)), ((a_t 25), .inl (g.2.2.1 0, 12, .inl w11)), ((a_t 32), .inl (g.2.2.1 0, 8, .inl w18)), ((a_t 33), .inl (g.2.2.1 1, 65536, .inr (.inl w19)))]) (wr := [((a_t 4), .inl (g.2.2.1 0, 810, .inl t_past))]) (runV (As := [.int v1, .int (1), .int v2]) (rest := []) cx hl.1 (ctX8_goes l g s.heap.size a_t t_acted t_taped t_faultKind t_faultPlace t_at t_begin t_token t_value t_bad t_wide t_lost t_det t_mask t_mode t_wanted t_orders t_foundAt t_foundBy t_unlikes t_mem t_row t_left t_found t_seen v1 (1) v2 r7 w8 w9 w10 w11 w12 w13 w14 w15 w16 w17 w18 w19 w20 hr6) kmX8_goes kvX8_goes lm_X8_364 ⟨rfl, rfl⟩ ⟨Nat.le_of_ble_eq_true rfl, Nat.le_of_ble_eq_true rfl⟩ (rwV (q0 := 0) (ci := 7) hG (hP.sub [0, 1, 3, 4, 5, 6] rfl) (hD.sub [0, 1, 3, 4, 5, 6] (by decide) rfl) hAb hb0 hS hP rfl rfl) rfl rfl (Nat.le_of_ble_eq_true rfl) dX8_become_19 ⟨Nat.le_of_ble_eq_true rfl, Nat.le_of_ble_eq_true rfl⟩) hP hD hS hA [0, 1, 3, 4, 5, 6] [2] rfl rfl (by decide) (by decide) (fun _ => rfl) (fun u21 H locs hP hD hS => ?_)
      have hG := hGk hS
      refine lv_iload_n hx hb dX8_become_22 rfl (lv_at hl 2 rfl) ?_
      refine lv_icmp_gt (tgt := 28) hx hb dX8_become_23 (by decide) (fun c22 => ?_) (fun c22 => ?_)
      · have h := itp c22 h
        refine lv_iconst (v := 0) hx hb dX8_become_28 (by decide) ?_
        refine lv_istore_n (lv' := [(3, .int (0)), (0, .ref ((a_t 0))), (1, .int v1), (2, .int v2)]) hx hb dX8_become_29 rfl hl (by decide) rfl (fun ls hl => ?_)
        exact w30 FU t_mem t_acted t_past w8 w9 w10 w11 w12 w13 w14 w15 w16 w17 w18 w19 w20 0 _ _ (hP.sub [1, 2, 0, 3, 4, 5, 6] rfl) (hD.sub [1, 2, 0, 3, 4, 5, 6] (by decide) rfl) hS _ (lv_sub hl [1, 0] rfl) h
      · have h := itn c22 h
        refine lv_iconst (v := -1) hx hb dX8_become_26 (by decide) ?_
        exact hrt (fun _ => 0) _ _ ((-1)) t_mem t_acted t_past w8 w9 w10 w11 w12 w13 w14 w15 w16 w17 w18 w19 w20 _ _ dX8_become_27 h (hP.sub [1, 2, 0, 3, 4, 5, 6] rfl) (hD.sub [1, 2, 0, 3, 4, 5, 6] (by decide) rfl) hS
    · have h := itn c5 h
      refine lv_bipush (v := -2) hx hb dX8_become_12 (by decide) ?_
      exact hrt (fun _ => 0) _ _ ((-2)) t_mem t_acted t_past t_row t_wide t_lost t_left t_mask t_mode t_wanted t_orders t_foundAt t_foundBy t_found t_seen t_unlikes _ _ dX8_become_14 h (hP.sub [0, 1, 2, 3, 4, 5, 6] rfl) (hD.sub [0, 1, 2, 3, 4, 5, 6] (by decide) rfl) hS
-- X8_room
theorem dX8_room_0 : decode cX8_room 0 = .ok (.aload_n 0, 1) := by decide +kernel
theorem dX8_room_1 : decode cX8_room 1 = .ok (.invokevirtual 236, 3) := by decide +kernel
theorem dX8_room_4 : decode cX8_room 4 = .ok (.ifCond .eq 15, 3) := by decide +kernel
theorem dX8_room_7 : decode cX8_room 7 = .ok (.iload_n 1, 1) := by decide +kernel
theorem dX8_room_8 : decode cX8_room 8 = .ok (.i2l, 1) := by decide +kernel
theorem dX8_room_9 : decode cX8_room 9 = .ok (.lconst 1, 1) := by decide +kernel
theorem dX8_room_10 : decode cX8_room 10 = .ok (.ldc2_w 437, 3) := by decide +kernel
theorem dX8_room_13 : decode cX8_room 13 = .ok (.invokestatic 83, 3) := by decide +kernel
theorem dX8_room_16 : decode cX8_room 16 = .ok (.ifCond .ne 6, 3) := by decide +kernel
theorem dX8_room_19 : decode cX8_room 19 = .ok (.bipush (-2), 2) := by decide +kernel
theorem dX8_room_21 : decode cX8_room 21 = .ok (.ireturn, 1) := by decide +kernel
theorem dX8_room_22 : decode cX8_room 22 = .ok (.aload_n 0, 1) := by decide +kernel
theorem dX8_room_23 : decode cX8_room 23 = .ok (.getfield 21, 3) := by decide +kernel
theorem dX8_room_26 : decode cX8_room 26 = .ok (.iconst 0, 1) := by decide +kernel
theorem dX8_room_27 : decode cX8_room 27 = .ok (.iaload, 1) := by decide +kernel
theorem dX8_room_28 : decode cX8_room 28 = .ok (.iload_n 1, 1) := by decide +kernel
theorem dX8_room_29 : decode cX8_room 29 = .ok (.if_icmp .eq 10, 3) := by decide +kernel
theorem dX8_room_32 : decode cX8_room 32 = .ok (.aload_n 0, 1) := by decide +kernel
theorem dX8_room_33 : decode cX8_room 33 = .ok (.invokevirtual 425, 3) := by decide +kernel
theorem dX8_room_36 : decode cX8_room 36 = .ok (.ifCond .eq 6, 3) := by decide +kernel
theorem dX8_room_39 : decode cX8_room 39 = .ok (.bipush (-5), 2) := by decide +kernel
theorem dX8_room_41 : decode cX8_room 41 = .ok (.ireturn, 1) := by decide +kernel
theorem dX8_room_42 : decode cX8_room 42 = .ok (.aload_n 0, 1) := by decide +kernel
theorem dX8_room_43 : decode cX8_room 43 = .ok (.invokevirtual 428, 3) := by decide +kernel
theorem dX8_room_46 : decode cX8_room 46 = .ok (.aload_n 0, 1) := by decide +kernel
theorem dX8_room_47 : decode cX8_room 47 = .ok (.getfield 21, 3) := by decide +kernel
theorem dX8_room_50 : decode cX8_room 50 = .ok (.iconst 0, 1) := by decide +kernel
theorem dX8_room_51 : decode cX8_room 51 = .ok (.iload_n 1, 1) := by decide +kernel
theorem dX8_room_52 : decode cX8_room 52 = .ok (.iastore, 1) := by decide +kernel
theorem dX8_room_53 : decode cX8_room 53 = .ok (.iconst 0, 1) := by decide +kernel
theorem dX8_room_54 : decode cX8_room 54 = .ok (.ireturn, 1) := by decide +kernel
noncomputable def fX8_room  (t_mem : Nat → Int32) (t_acted : Int32) (t_past : Nat → Int32) (v1 : Int32) : Option (Int32 × (Nat → Int32) × Int32 × (Nat → Int32)) := (fX8_is t_mem).bind fun r1 => (if r1 = 0 then some ((-2), t_mem, t_acted, t_past) else (if (fX8_in v1.toInt64 1 8) = 0 then some ((-2), t_mem, t_acted, t_past) else (if (t_mem 0) = v1 then some ((-5), t_mem, t_acted, t_past) else (if (fX8_isFull t_acted) = 0 then ob2 (fX8_keeps t_mem t_acted t_past) fun w11 w12 => some ((0), upd t_mem 0 v1, w11, w12) else some ((-5), t_mem, t_acted, t_past)))))
set_option maxHeartbeats 4000000 in
set_option maxRecDepth 100000 in
theorem ctX8_room (l : Launch) (g : GT) (sz : Nat) (a_t : Nat → Nat) (t_acted : Int32) (t_taped : Int32) (t_faultKind : Int32) (t_faultPlace : Int32) (t_at : Int32) (t_begin : Int32) (t_token : Int32) (t_value : Int32) (t_bad : Int32) (t_wide : Int32) (t_lost : Int32) (t_det : Int64) (t_mask : Int32) (t_mode : Int32) (t_wanted : Int32) (t_orders : Int32) (t_foundAt : Int32) (t_foundBy : Int64) (t_unlikes : Int32) (t_mem : Nat → Int32) (t_past : Nat → Int32) (v1 : Int32) (o : Int32) (o_t_mem : Nat → Int32) (o_t_acted : Int32) (o_t_past : Nat → Int32) (h : fX8_room t_mem t_acted t_past v1 = some (o, o_t_mem, o_t_acted, o_t_past)) : Met l yX8_room (Cond.code yX8_room cX8_room 2 (some .int) :: Tw) ⟨1, 0, 0, 25⟩ (va_Pc [.ref ((a_t 0)), .int v1] (rwB g [((a_t 0), .inr (7, [.ref (a_t 1), .ref (a_t 2), .int t_acted, .ref (a_t 4), .ref (a_t 5), .ref (a_t 6), .ref (a_t 7), .ref (a_t 8), .ref (a_t 9), .int t_taped, .int t_faultKind, .int t_faultPlace, .int t_at, .int t_begin, .int t_token, .int t_value, .int t_bad, .ref (a_t 18), .ref (a_t 19), .ref (a_t 20), .int t_wide, .int t_lost, .ref (a_t 23), .long t_det, .ref (a_t 25), .int t_mask, .int t_mode, .int t_wanted, .int t_orders, .int t_foundAt, .long t_foundBy, .ref (a_t 32), .ref (a_t 33), .int t_unlikes, .ref (a_t 35), .ref (a_t 36)])), ((a_t 1), .inl (g.2.2.1 0, 27, .inl t_mem)), ((a_t 4), .inl (g.2.2.1 0, 810, .inl t_past))] sz)) (va_Qi (fun x (_ : Nat → Nat) => x = o) (fun u => rwE g (va_A [((a_t 0), .inr (7, [.ref (a_t 1), .ref (a_t 2), .int t_acted, .ref (a_t 4), .ref (a_t 5), .ref (a_t 6), .ref (a_t 7), .ref (a_t 8), .ref (a_t 9), .int t_taped, .int t_faultKind, .int t_faultPlace, .int t_at, .int t_begin, .int t_token, .int t_value, .int t_bad, .ref (a_t 18), .ref (a_t 19), .ref (a_t 20), .int t_wide, .int t_lost, .ref (a_t 23), .long t_det, .ref (a_t 25), .int t_mask, .int t_mode, .int t_wanted, .int t_orders, .int t_foundAt, .long t_foundBy, .ref (a_t 32), .ref (a_t 33), .int t_unlikes, .ref (a_t 35), .ref (a_t 36)])), ((a_t 1), .inl (g.2.2.1 0, 27, .inl t_mem)), ((a_t 4), .inl (g.2.2.1 0, 810, .inl t_past))] sz) [((a_t 0), .inr (7, [.ref (a_t 1), .ref (a_t 2), .int o_t_acted, .ref (a_t 4), .ref (a_t 5), .ref (a_t 6), .ref (a_t 7), .ref (a_t 8), .ref (a_t 9), .int t_taped, .int t_faultKind, .int t_faultPlace, .int t_at, .int t_begin, .int t_token, .int t_value, .int t_bad, .ref (a_t 18), .ref (a_t 19), .ref (a_t 20), .int t_wide, .int t_lost, .ref (a_t 23), .long t_det, .ref (a_t 25), .int t_mask, .int t_mode, .int t_wanted, .int t_orders, .int t_foundAt, .long t_foundBy, .ref (a_t 32), .ref (a_t 33), .int t_unlikes, .ref (a_t 35), .ref (a_t 36)])), ((a_t 1), .inl (g.2.2.1 0, 27, .inl o_t_mem)), ((a_t 4), .inl (g.2.2.1 0, 810, .inl o_t_past))]) (va_A [((a_t 0), .inr (7, [.ref (a_t 1), .ref (a_t 2), .int t_acted, .ref (a_t 4), .ref (a_t 5), .ref (a_t 6), .ref (a_t 7), .ref (a_t 8), .ref (a_t 9), .int t_taped, .int t_faultKind, .int t_faultPlace, .int t_at, .int t_begin, .int t_token, .int t_value, .int t_bad, .ref (a_t 18), .ref (a_t 19), .ref (a_t 20), .int t_wide, .int t_lost, .ref (a_t 23), .long t_det, .ref (a_t 25), .int t_mask, .int t_mode, .int t_wanted, .int t_orders, .int t_foundAt, .long t_foundBy, .ref (a_t 32), .ref (a_t 33), .int t_unlikes, .ref (a_t 35), .ref (a_t 36)])), ((a_t 1), .inl (g.2.2.1 0, 27, .inl t_mem)), ((a_t 4), .inl (g.2.2.1 0, 810, .inl t_past))] sz)) 0 0 (va_A [((a_t 0), .inr (7, [.ref (a_t 1), .ref (a_t 2), .int t_acted, .ref (a_t 4), .ref (a_t 5), .ref (a_t 6), .ref (a_t 7), .ref (a_t 8), .ref (a_t 9), .int t_taped, .int t_faultKind, .int t_faultPlace, .int t_at, .int t_begin, .int t_token, .int t_value, .int t_bad, .ref (a_t 18), .ref (a_t 19), .ref (a_t 20), .int t_wide, .int t_lost, .ref (a_t 23), .long t_det, .ref (a_t 25), .int t_mask, .int t_mode, .int t_wanted, .int t_orders, .int t_foundAt, .long t_foundBy, .ref (a_t 32), .ref (a_t 33), .int t_unlikes, .ref (a_t 35), .ref (a_t 36)])), ((a_t 1), .inl (g.2.2.1 0, 27, .inl t_mem)), ((a_t 4), .inl (g.2.2.1 0, 810, .inl t_past))] sz) := by
  refine rw_meti (by decide) (Nat.le_of_ble_eq_true rfl) (lv0 := [(0, .ref ((a_t 0))), (1, .int v1)]) rfl ?_
  intro p e s m args below meth c ls Q A cx hret hG hAb hb0 hA hP hD hl
  have hx := cx.1
  have hb := cx.2.1
  have hG0 := hG
  have hGk : ∀ {H : Heap} {locs : List Loc}, va_S A s.heap H locs → GE g s H := fun hS => hG0.keptS hAb hS
  have hSb : ∀ {H : Heap} {locs : List Loc}, va_S A s.heap H locs → va_S (fun a => g.1 ≤ a) s.heap H locs := fun hS => ⟨hS.1, fun q h1 h2 => hS.2.1 q h1 (fun z => h2 (hAb q z)), fun l hl => hAb _ (hS.2.2 l hl)⟩
  have hS : va_S A s.heap s.heap [] := va_S.rf
  have hrt : ∀ (u : Nat → Nat) (pc : Nat) (ls : Array Slot) (v : Int32) (x_t_mem : Nat → Int32) (x_t_acted : Int32) (x_t_past : Nat → Int32) (H : Heap) (locs : List Loc), decode cX8_room pc = .ok (.ireturn, 1) → some (v, x_t_mem, x_t_acted, x_t_past) = some (o, o_t_mem, o_t_acted, o_t_past) → va_P g.2.1 vwCl [((a_t 0), .inr (7, [.ref (a_t 1), .ref (a_t 2), .int x_t_acted, .ref (a_t 4), .ref (a_t 5), .ref (a_t 6), .ref (a_t 7), .ref (a_t 8), .ref (a_t 9), .int t_taped, .int t_faultKind, .int t_faultPlace, .int t_at, .int t_begin, .int t_token, .int t_value, .int t_bad, .ref (a_t 18), .ref (a_t 19), .ref (a_t 20), .int t_wide, .int t_lost, .ref (a_t 23), .long t_det, .ref (a_t 25), .int t_mask, .int t_mode, .int t_wanted, .int t_orders, .int t_foundAt, .long t_foundBy, .ref (a_t 32), .ref (a_t 33), .int t_unlikes, .ref (a_t 35), .ref (a_t 36)])), ((a_t 1), .inl (g.2.2.1 0, 27, .inl x_t_mem)), ((a_t 4), .inl (g.2.2.1 0, 810, .inl x_t_past))] H → va_D A [((a_t 0), .inr (7, [.ref (a_t 1), .ref (a_t 2), .int x_t_acted, .ref (a_t 4), .ref (a_t 5), .ref (a_t 6), .ref (a_t 7), .ref (a_t 8), .ref (a_t 9), .int t_taped, .int t_faultKind, .int t_faultPlace, .int t_at, .int t_begin, .int t_token, .int t_value, .int t_bad, .ref (a_t 18), .ref (a_t 19), .ref (a_t 20), .int t_wide, .int t_lost, .ref (a_t 23), .long t_det, .ref (a_t 25), .int t_mask, .int t_mode, .int t_wanted, .int t_orders, .int t_foundAt, .long t_foundBy, .ref (a_t 32), .ref (a_t 33), .int t_unlikes, .ref (a_t 35), .ref (a_t 36)])), ((a_t 1), .inl (g.2.2.1 0, 27, .inl x_t_mem)), ((a_t 4), .inl (g.2.2.1 0, 810, .inl x_t_past))] → va_S A s.heap H locs → W p l e ⟨1, 0, 0, 25⟩ s m args below meth c H locs 0 0 Q (F0 m pc ls [.int v]) := by
    intro u pc ls v x_t_mem x_t_acted x_t_past H locs hd h hP hD hS
    cases h
    exact hret u _ _ _ _ _ hd rfl hP hD hS
  unfold fX8_room at h
  refine lv_aload_n hx hb dX8_room_0 rfl (lv_at hl 0 rfl) ?_
  obtain ⟨r1, hr2, h⟩ := bnd h
  refine ro_z (runV (As := []) (rest := []) cx hl.1 (ctX8_is l g a_t t_acted t_taped t_faultKind t_faultPlace t_at t_begin t_token t_value t_bad t_wide t_lost t_det t_mask t_mode t_wanted t_orders t_foundAt t_foundBy t_unlikes t_mem r1 hr2) kmX8_is kvX8_is lm_X8_236 ⟨rfl, rfl⟩ ⟨Nat.le_of_ble_eq_true rfl, Nat.le_of_ble_eq_true rfl⟩ (roV (q0 := 0) (ci := 7) hG (hP.sub [0, 1] rfl) hP rfl rfl) rfl rfl (Nat.le_of_ble_eq_true rfl) dX8_room_1 ⟨Nat.le_of_ble_eq_true rfl, Nat.le_of_ble_eq_true rfl⟩) (fun hz3 => ?_)
  refine lv_if_eq (tgt := 19) hx hb dX8_room_4 (by decide) (fun c4 => ?_) (fun c4 => ?_)
  · have h := itp c4 h
    refine lv_bipush (v := -2) hx hb dX8_room_19 (by decide) ?_
    exact hrt (fun _ => 0) _ _ ((-2)) t_mem t_acted t_past _ _ dX8_room_21 h (hP.sub [0, 1, 2] rfl) (hD.sub [0, 1, 2] (by decide) rfl) hS
  · have h := itn c4 h
    refine lv_iload_n hx hb dX8_room_7 rfl (lv_at hl 1 rfl) ?_
    refine lv_i2l (v := v1.toInt64) hx hb dX8_room_8 rfl ?_
    refine lv_lconst (v := 1) hx hb dX8_room_9 (by decide) ?_
    refine lv_ldc2 (own := RX8) (v := 8) hx hb cx.2.2.2.1 (cx.2.2.2.2 _ cl_X8_437) dX8_room_10 ?_
    refine ro_z (runS (As := [.long v1.toInt64, .long (1), .long (8)]) (rest := []) cx hl.1 (ctX8_in l g v1.toInt64 (1) (8) (fX8_in v1.toInt64 1 8) rfl) kmX8_in ksX8_in lm_X8_83 ⟨rfl, rfl⟩ ⟨Nat.le_of_ble_eq_true rfl, Nat.le_of_ble_eq_true rfl⟩ (roS hG (hP.sub [] rfl)) rfl rfl (Nat.le_of_ble_eq_true rfl) dX8_room_13 ⟨Nat.le_of_ble_eq_true rfl, Nat.le_of_ble_eq_true rfl⟩) (fun hz5 => ?_)
    refine lv_if_ne (tgt := 22) hx hb dX8_room_16 (by decide) (fun c6 => ?_) (fun c6 => ?_)
    · have h := itn c6 h
      refine lv_aload_n hx hb dX8_room_22 rfl (lv_at hl 0 rfl) ?_
      refine xa_get (C := RX8) (T := TX8) (N := 36) cx hG hP 0 rfl rfl uX8 0 (by decide) lf_X8_21 rfl dX8_room_23 ?_
      refine lv_iconst (v := 0) hx hb dX8_room_26 (by decide) ?_
      refine xa_iald (k := 0) cx hG hP 1 rfl (show ¬ ((0 : Int32) < 0 ∨ 27 ≤ (0 : Int32).toNatClampNeg) by decide) (by decide) dX8_room_27 ?_
      refine lv_iload_n hx hb dX8_room_28 rfl (lv_at hl 1 rfl) ?_
      refine lv_icmp_eq (tgt := 39) hx hb dX8_room_29 (by decide) (fun c7 => ?_) (fun c7 => ?_)
      · have h := itp c7 h
        refine lv_bipush (v := -5) hx hb dX8_room_39 (by decide) ?_
        exact hrt (fun _ => 0) _ _ ((-5)) t_mem t_acted t_past _ _ dX8_room_41 h (hP.sub [0, 1, 2] rfl) (hD.sub [0, 1, 2] (by decide) rfl) hS
      · have h := itn c7 h
        refine lv_aload_n hx hb dX8_room_32 rfl (lv_at hl 0 rfl) ?_
        refine ro_z (runV (As := []) (rest := []) cx hl.1 (ctX8_isFull l g a_t t_acted t_taped t_faultKind t_faultPlace t_at t_begin t_token t_value t_bad t_wide t_lost t_det t_mask t_mode t_wanted t_orders t_foundAt t_foundBy t_unlikes (fX8_isFull t_acted) rfl) kmX8_isFull kvX8_isFull lm_X8_425 ⟨rfl, rfl⟩ ⟨Nat.le_of_ble_eq_true rfl, Nat.le_of_ble_eq_true rfl⟩ (roV (q0 := 0) (ci := 7) hG (hP.sub [0] rfl) hP rfl rfl) rfl rfl (Nat.le_of_ble_eq_true rfl) dX8_room_33 ⟨Nat.le_of_ble_eq_true rfl, Nat.le_of_ble_eq_true rfl⟩) (fun hz8 => ?_)
        refine lv_if_eq (tgt := 42) hx hb dX8_room_36 (by decide) (fun c9 => ?_) (fun c9 => ?_)
        · have h := itp c9 h
          refine lv_aload_n hx hb dX8_room_42 rfl (lv_at hl 0 rfl) ?_
          obtain ⟨w11, w12, hr10, h⟩ := ob2_out h
          refine rw_v (WN := fun u13 => [((a_t 0), .inr (7, [.ref (a_t 1), .ref (a_t 2), .int w11, .ref (a_t 4), .ref (a_t 5), .ref (a_t 6), .ref (a_t 7), .ref (a_t 8), .ref (a_t 9), .int t_taped, .int t_faultKind, .int t_faultPlace, .int t_at, .int t_begin, .int t_token, .int t_value, .int t_bad, .ref (a_t 18), .ref (a_t 19), .ref (a_t 20), .int t_wide, .int t_lost, .ref (a_t 23), .long t_det, .ref (a_t 25), .int t_mask, .int t_mode, .int t_wanted, .int t_orders, .int t_foundAt, .long t_foundBy, .ref (a_t 32), .ref (a_t 33), .int t_unlikes, .ref (a_t 35), .ref (a_t 36)])), ((a_t 1), .inl (g.2.2.1 0, 27, .inl t_mem)), ((a_t 4), .inl (g.2.2.1 0, 810, .inl w12))]) (wr := []) (runV (As := []) (rest := []) cx hl.1 (ctX8_keeps l g s.heap.size a_t t_acted t_taped t_faultKind t_faultPlace t_at t_begin t_token t_value t_bad t_wide t_lost t_det t_mask t_mode t_wanted t_orders t_foundAt t_foundBy t_unlikes t_mem t_past w11 w12 hr10) kmX8_keeps kvX8_keeps lm_X8_428 ⟨rfl, rfl⟩ ⟨Nat.le_of_ble_eq_true rfl, Nat.le_of_ble_eq_true rfl⟩ (rwV (q0 := 0) (ci := 7) hG (hP.sub [0, 1, 2] rfl) (hD.sub [0, 1, 2] (by decide) rfl) hAb hb0 hS hP rfl rfl) rfl rfl (Nat.le_of_ble_eq_true rfl) dX8_room_43 ⟨Nat.le_of_ble_eq_true rfl, Nat.le_of_ble_eq_true rfl⟩) hP hD hS hA [0, 1, 2] [] rfl rfl (by decide) (by decide) (fun _ => rfl) (fun u13 H locs hP hD hS => ?_)
          have hG := hGk hS
          refine lv_aload_n hx hb dX8_room_46 rfl (lv_at hl 0 rfl) ?_
          refine xa_get (C := RX8) (T := TX8) (N := 36) cx hG hP 0 rfl rfl uX8 0 (by decide) lf_X8_21 rfl dX8_room_47 ?_
          refine lv_iconst (v := 0) hx hb dX8_room_50 (by decide) ?_
          refine lv_iload_n hx hb dX8_room_51 rfl (lv_at hl 1 rfl) ?_
          refine xw_iast (ws' := [((a_t 0), .inr (7, [.ref (a_t 1), .ref (a_t 2), .int w11, .ref (a_t 4), .ref (a_t 5), .ref (a_t 6), .ref (a_t 7), .ref (a_t 8), .ref (a_t 9), .int t_taped, .int t_faultKind, .int t_faultPlace, .int t_at, .int t_begin, .int t_token, .int t_value, .int t_bad, .ref (a_t 18), .ref (a_t 19), .ref (a_t 20), .int t_wide, .int t_lost, .ref (a_t 23), .long t_det, .ref (a_t 25), .int t_mask, .int t_mode, .int t_wanted, .int t_orders, .int t_foundAt, .long t_foundBy, .ref (a_t 32), .ref (a_t 33), .int t_unlikes, .ref (a_t 35), .ref (a_t 36)])), ((a_t 1), .inl (g.2.2.1 0, 27, .inl (upd t_mem 0 v1))), ((a_t 4), .inl (g.2.2.1 0, 810, .inl w12))]) (k := 0) cx hG hP hD hS 1 rfl (show ¬ ((0 : Int32) < 0 ∨ 27 ≤ (0 : Int32).toNatClampNeg) by decide) (by decide) rfl dX8_room_52 (fun H locs hP hD hS => ?_)
          have hG := hGk hS
          refine lv_iconst (v := 0) hx hb dX8_room_53 (by decide) ?_
          exact hrt (fun _ => 0) _ _ ((0)) (upd t_mem 0 v1) w11 w12 _ _ dX8_room_54 h (hP.sub [0, 1, 2] rfl) (hD.sub [0, 1, 2] (by decide) rfl) hS
        · have h := itn c9 h
          refine lv_bipush (v := -5) hx hb dX8_room_39 (by decide) ?_
          exact hrt (fun _ => 0) _ _ ((-5)) t_mem t_acted t_past _ _ dX8_room_41 h (hP.sub [0, 1, 2] rfl) (hD.sub [0, 1, 2] (by decide) rfl) hS
    · have h := itp c6 h
      refine lv_bipush (v := -2) hx hb dX8_room_19 (by decide) ?_
      exact hrt (fun _ => 0) _ _ ((-2)) t_mem t_acted t_past _ _ dX8_room_21 h (hP.sub [0, 1, 2] rfl) (hD.sub [0, 1, 2] (by decide) rfl) hS
-- X8_whirl
theorem dX8_whirl_0 : decode cX8_whirl 0 = .ok (.aload_n 0, 1) := by decide +kernel
theorem dX8_whirl_1 : decode cX8_whirl 1 = .ok (.invokevirtual 236, 3) := by decide +kernel
theorem dX8_whirl_4 : decode cX8_whirl 4 = .ok (.ifCond .eq 15, 3) := by decide +kernel
theorem dX8_whirl_7 : decode cX8_whirl 7 = .ok (.iload_n 1, 1) := by decide +kernel
theorem dX8_whirl_8 : decode cX8_whirl 8 = .ok (.i2l, 1) := by decide +kernel
theorem dX8_whirl_9 : decode cX8_whirl 9 = .ok (.lconst 1, 1) := by decide +kernel
theorem dX8_whirl_10 : decode cX8_whirl 10 = .ok (.ldc2_w 204, 3) := by decide +kernel
theorem dX8_whirl_13 : decode cX8_whirl 13 = .ok (.invokestatic 83, 3) := by decide +kernel
theorem dX8_whirl_16 : decode cX8_whirl 16 = .ok (.ifCond .ne 6, 3) := by decide +kernel
theorem dX8_whirl_19 : decode cX8_whirl 19 = .ok (.bipush (-2), 2) := by decide +kernel
theorem dX8_whirl_21 : decode cX8_whirl 21 = .ok (.ireturn, 1) := by decide +kernel
theorem dX8_whirl_22 : decode cX8_whirl 22 = .ok (.aload_n 0, 1) := by decide +kernel
theorem dX8_whirl_23 : decode cX8_whirl 23 = .ok (.getfield 21, 3) := by decide +kernel
theorem dX8_whirl_26 : decode cX8_whirl 26 = .ok (.iconst 2, 1) := by decide +kernel
theorem dX8_whirl_27 : decode cX8_whirl 27 = .ok (.iaload, 1) := by decide +kernel
theorem dX8_whirl_28 : decode cX8_whirl 28 = .ok (.ifCond .eq 10, 3) := by decide +kernel
theorem dX8_whirl_31 : decode cX8_whirl 31 = .ok (.aload_n 0, 1) := by decide +kernel
theorem dX8_whirl_32 : decode cX8_whirl 32 = .ok (.invokevirtual 425, 3) := by decide +kernel
theorem dX8_whirl_35 : decode cX8_whirl 35 = .ok (.ifCond .eq 6, 3) := by decide +kernel
theorem dX8_whirl_38 : decode cX8_whirl 38 = .ok (.bipush (-5), 2) := by decide +kernel
theorem dX8_whirl_40 : decode cX8_whirl 40 = .ok (.ireturn, 1) := by decide +kernel
theorem dX8_whirl_41 : decode cX8_whirl 41 = .ok (.aload_n 0, 1) := by decide +kernel
theorem dX8_whirl_42 : decode cX8_whirl 42 = .ok (.invokevirtual 428, 3) := by decide +kernel
theorem dX8_whirl_45 : decode cX8_whirl 45 = .ok (.iconst 0, 1) := by decide +kernel
theorem dX8_whirl_46 : decode cX8_whirl 46 = .ok (.istore_n 2, 1) := by decide +kernel
theorem dX8_whirl_47 : decode cX8_whirl 47 = .ok (.iload_n 2, 1) := by decide +kernel
theorem dX8_whirl_48 : decode cX8_whirl 48 = .ok (.aload_n 0, 1) := by decide +kernel
theorem dX8_whirl_49 : decode cX8_whirl 49 = .ok (.getfield 21, 3) := by decide +kernel
theorem dX8_whirl_52 : decode cX8_whirl 52 = .ok (.iconst 2, 1) := by decide +kernel
theorem dX8_whirl_53 : decode cX8_whirl 53 = .ok (.iaload, 1) := by decide +kernel
theorem dX8_whirl_54 : decode cX8_whirl 54 = .ok (.if_icmp .ge 31, 3) := by decide +kernel
theorem dX8_whirl_57 : decode cX8_whirl 57 = .ok (.aload_n 0, 1) := by decide +kernel
theorem dX8_whirl_58 : decode cX8_whirl 58 = .ok (.getfield 21, 3) := by decide +kernel
theorem dX8_whirl_61 : decode cX8_whirl 61 = .ok (.bipush 19, 2) := by decide +kernel
theorem dX8_whirl_63 : decode cX8_whirl 63 = .ok (.iload_n 2, 1) := by decide +kernel
theorem dX8_whirl_64 : decode cX8_whirl 64 = .ok (.iadd, 1) := by decide +kernel
theorem dX8_whirl_65 : decode cX8_whirl 65 = .ok (.aload_n 0, 1) := by decide +kernel
theorem dX8_whirl_66 : decode cX8_whirl 66 = .ok (.getfield 21, 3) := by decide +kernel
theorem dX8_whirl_69 : decode cX8_whirl 69 = .ok (.bipush 19, 2) := by decide +kernel
theorem dX8_whirl_71 : decode cX8_whirl 71 = .ok (.iload_n 2, 1) := by decide +kernel
theorem dX8_whirl_72 : decode cX8_whirl 72 = .ok (.iadd, 1) := by decide +kernel
theorem dX8_whirl_73 : decode cX8_whirl 73 = .ok (.iaload, 1) := by decide +kernel
theorem dX8_whirl_74 : decode cX8_whirl 74 = .ok (.iload_n 1, 1) := by decide +kernel
theorem dX8_whirl_75 : decode cX8_whirl 75 = .ok (.invokestatic 422, 3) := by decide +kernel
theorem dX8_whirl_78 : decode cX8_whirl 78 = .ok (.iastore, 1) := by decide +kernel
theorem dX8_whirl_79 : decode cX8_whirl 79 = .ok (.iinc 2 1, 3) := by decide +kernel
theorem dX8_whirl_82 : decode cX8_whirl 82 = .ok (.goto (-35), 3) := by decide +kernel
theorem dX8_whirl_85 : decode cX8_whirl 85 = .ok (.aload_n 0, 1) := by decide +kernel
theorem dX8_whirl_86 : decode cX8_whirl 86 = .ok (.getfield 21, 3) := by decide +kernel
theorem dX8_whirl_89 : decode cX8_whirl 89 = .ok (.iconst 2, 1) := by decide +kernel
theorem dX8_whirl_90 : decode cX8_whirl 90 = .ok (.iaload, 1) := by decide +kernel
theorem dX8_whirl_91 : decode cX8_whirl 91 = .ok (.ireturn, 1) := by decide +kernel
noncomputable def fX8_whirl_85  (t_mem : Nat → Int32) (t_acted : Int32) (t_past : Nat → Int32) : Option (Int32 × (Nat → Int32) × Int32 × (Nat → Int32)) := some ((t_mem 2), t_mem, t_acted, t_past)
noncomputable def fX8_whirl_47  : Nat → (Nat → Int32) → Int32 → (Nat → Int32) → Int32 → Int32 → Option (Int32 × (Nat → Int32) × Int32 × (Nat → Int32))
  | 0, _, _, _, _, _ => none
  | n + 1, t_mem, t_acted, t_past, v1, v2 => (if (t_mem 2) ≤ v2 then fX8_whirl_85 t_mem t_acted t_past else chk 27 (19 + v2) ((fX8_whirled (t_mem (19 + v2).toNatClampNeg) v1).bind fun r16 => chk 27 (19 + v2) (fX8_whirl_47 n (upd t_mem ((19 + v2).toNatClampNeg) r16) t_acted t_past v1 (v2 + 1))))
theorem fX8_whirl_47_z  (t_mem : Nat → Int32) (t_acted : Int32) (t_past : Nat → Int32) (v1 : Int32) (v2 : Int32) : fX8_whirl_47  0 t_mem t_acted t_past v1 v2 = none := rfl
theorem fX8_whirl_47_s  (n : Nat) (t_mem : Nat → Int32) (t_acted : Int32) (t_past : Nat → Int32) (v1 : Int32) (v2 : Int32) : fX8_whirl_47  (n + 1) t_mem t_acted t_past v1 v2 = (if (t_mem 2) ≤ v2 then fX8_whirl_85 t_mem t_acted t_past else chk 27 (19 + v2) ((fX8_whirled (t_mem (19 + v2).toNatClampNeg) v1).bind fun r16 => chk 27 (19 + v2) (fX8_whirl_47 n (upd t_mem ((19 + v2).toNatClampNeg) r16) t_acted t_past v1 (v2 + 1)))) := rfl
noncomputable def fX8_whirl  (t_mem : Nat → Int32) (t_acted : Int32) (t_past : Nat → Int32) (v1 : Int32) : Option (Int32 × (Nat → Int32) × Int32 × (Nat → Int32)) := (fX8_is t_mem).bind fun r1 => (if r1 = 0 then some ((-2), t_mem, t_acted, t_past) else (if (fX8_in v1.toInt64 1 3) = 0 then some ((-2), t_mem, t_acted, t_past) else (if (t_mem 2) = 0 then some ((-5), t_mem, t_acted, t_past) else (if (fX8_isFull t_acted) = 0 then ob2 (fX8_keeps t_mem t_acted t_past) fun w11 w12 => fX8_whirl_47 FU t_mem w11 w12 v1 0 else some ((-5), t_mem, t_acted, t_past)))))
set_option maxHeartbeats 4000000 in
set_option maxRecDepth 100000 in
theorem ctX8_whirl (l : Launch) (g : GT) (sz : Nat) (a_t : Nat → Nat) (t_acted : Int32) (t_taped : Int32) (t_faultKind : Int32) (t_faultPlace : Int32) (t_at : Int32) (t_begin : Int32) (t_token : Int32) (t_value : Int32) (t_bad : Int32) (t_wide : Int32) (t_lost : Int32) (t_det : Int64) (t_mask : Int32) (t_mode : Int32) (t_wanted : Int32) (t_orders : Int32) (t_foundAt : Int32) (t_foundBy : Int64) (t_unlikes : Int32) (t_mem : Nat → Int32) (t_past : Nat → Int32) (v1 : Int32) (o : Int32) (o_t_mem : Nat → Int32) (o_t_acted : Int32) (o_t_past : Nat → Int32) (h : fX8_whirl t_mem t_acted t_past v1 = some (o, o_t_mem, o_t_acted, o_t_past)) : Met l yX8_whirl (Cond.code yX8_whirl cX8_whirl 3 (some .int) :: Tw) ⟨1, 0, 0, 25⟩ (va_Pc [.ref ((a_t 0)), .int v1] (rwB g [((a_t 0), .inr (7, [.ref (a_t 1), .ref (a_t 2), .int t_acted, .ref (a_t 4), .ref (a_t 5), .ref (a_t 6), .ref (a_t 7), .ref (a_t 8), .ref (a_t 9), .int t_taped, .int t_faultKind, .int t_faultPlace, .int t_at, .int t_begin, .int t_token, .int t_value, .int t_bad, .ref (a_t 18), .ref (a_t 19), .ref (a_t 20), .int t_wide, .int t_lost, .ref (a_t 23), .long t_det, .ref (a_t 25), .int t_mask, .int t_mode, .int t_wanted, .int t_orders, .int t_foundAt, .long t_foundBy, .ref (a_t 32), .ref (a_t 33), .int t_unlikes, .ref (a_t 35), .ref (a_t 36)])), ((a_t 1), .inl (g.2.2.1 0, 27, .inl t_mem)), ((a_t 4), .inl (g.2.2.1 0, 810, .inl t_past))] sz)) (va_Qi (fun x (_ : Nat → Nat) => x = o) (fun u => rwE g (va_A [((a_t 0), .inr (7, [.ref (a_t 1), .ref (a_t 2), .int t_acted, .ref (a_t 4), .ref (a_t 5), .ref (a_t 6), .ref (a_t 7), .ref (a_t 8), .ref (a_t 9), .int t_taped, .int t_faultKind, .int t_faultPlace, .int t_at, .int t_begin, .int t_token, .int t_value, .int t_bad, .ref (a_t 18), .ref (a_t 19), .ref (a_t 20), .int t_wide, .int t_lost, .ref (a_t 23), .long t_det, .ref (a_t 25), .int t_mask, .int t_mode, .int t_wanted, .int t_orders, .int t_foundAt, .long t_foundBy, .ref (a_t 32), .ref (a_t 33), .int t_unlikes, .ref (a_t 35), .ref (a_t 36)])), ((a_t 1), .inl (g.2.2.1 0, 27, .inl t_mem)), ((a_t 4), .inl (g.2.2.1 0, 810, .inl t_past))] sz) [((a_t 0), .inr (7, [.ref (a_t 1), .ref (a_t 2), .int o_t_acted, .ref (a_t 4), .ref (a_t 5), .ref (a_t 6), .ref (a_t 7), .ref (a_t 8), .ref (a_t 9), .int t_taped, .int t_faultKind, .int t_faultPlace, .int t_at, .int t_begin, .int t_token, .int t_value, .int t_bad, .ref (a_t 18), .ref (a_t 19), .ref (a_t 20), .int t_wide, .int t_lost, .ref (a_t 23), .long t_det, .ref (a_t 25), .int t_mask, .int t_mode, .int t_wanted, .int t_orders, .int t_foundAt, .long t_foundBy, .ref (a_t 32), .ref (a_t 33), .int t_unlikes, .ref (a_t 35), .ref (a_t 36)])), ((a_t 1), .inl (g.2.2.1 0, 27, .inl o_t_mem)), ((a_t 4), .inl (g.2.2.1 0, 810, .inl o_t_past))]) (va_A [((a_t 0), .inr (7, [.ref (a_t 1), .ref (a_t 2), .int t_acted, .ref (a_t 4), .ref (a_t 5), .ref (a_t 6), .ref (a_t 7), .ref (a_t 8), .ref (a_t 9), .int t_taped, .int t_faultKind, .int t_faultPlace, .int t_at, .int t_begin, .int t_token, .int t_value, .int t_bad, .ref (a_t 18), .ref (a_t 19), .ref (a_t 20), .int t_wide, .int t_lost, .ref (a_t 23), .long t_det, .ref (a_t 25), .int t_mask, .int t_mode, .int t_wanted, .int t_orders, .int t_foundAt, .long t_foundBy, .ref (a_t 32), .ref (a_t 33), .int t_unlikes, .ref (a_t 35), .ref (a_t 36)])), ((a_t 1), .inl (g.2.2.1 0, 27, .inl t_mem)), ((a_t 4), .inl (g.2.2.1 0, 810, .inl t_past))] sz)) 0 0 (va_A [((a_t 0), .inr (7, [.ref (a_t 1), .ref (a_t 2), .int t_acted, .ref (a_t 4), .ref (a_t 5), .ref (a_t 6), .ref (a_t 7), .ref (a_t 8), .ref (a_t 9), .int t_taped, .int t_faultKind, .int t_faultPlace, .int t_at, .int t_begin, .int t_token, .int t_value, .int t_bad, .ref (a_t 18), .ref (a_t 19), .ref (a_t 20), .int t_wide, .int t_lost, .ref (a_t 23), .long t_det, .ref (a_t 25), .int t_mask, .int t_mode, .int t_wanted, .int t_orders, .int t_foundAt, .long t_foundBy, .ref (a_t 32), .ref (a_t 33), .int t_unlikes, .ref (a_t 35), .ref (a_t 36)])), ((a_t 1), .inl (g.2.2.1 0, 27, .inl t_mem)), ((a_t 4), .inl (g.2.2.1 0, 810, .inl t_past))] sz) := by
  refine rw_meti (by decide) (Nat.le_of_ble_eq_true rfl) (lv0 := [(0, .ref ((a_t 0))), (1, .int v1)]) rfl ?_
  intro p e s m args below meth c ls Q A cx hret hG hAb hb0 hA hP hD hl
  have hx := cx.1
  have hb := cx.2.1
  have hG0 := hG
  have hGk : ∀ {H : Heap} {locs : List Loc}, va_S A s.heap H locs → GE g s H := fun hS => hG0.keptS hAb hS
  have hSb : ∀ {H : Heap} {locs : List Loc}, va_S A s.heap H locs → va_S (fun a => g.1 ≤ a) s.heap H locs := fun hS => ⟨hS.1, fun q h1 h2 => hS.2.1 q h1 (fun z => h2 (hAb q z)), fun l hl => hAb _ (hS.2.2 l hl)⟩
  have hS : va_S A s.heap s.heap [] := va_S.rf
  have hrt : ∀ (u : Nat → Nat) (pc : Nat) (ls : Array Slot) (v : Int32) (x_t_mem : Nat → Int32) (x_t_acted : Int32) (x_t_past : Nat → Int32) (H : Heap) (locs : List Loc), decode cX8_whirl pc = .ok (.ireturn, 1) → some (v, x_t_mem, x_t_acted, x_t_past) = some (o, o_t_mem, o_t_acted, o_t_past) → va_P g.2.1 vwCl [((a_t 0), .inr (7, [.ref (a_t 1), .ref (a_t 2), .int x_t_acted, .ref (a_t 4), .ref (a_t 5), .ref (a_t 6), .ref (a_t 7), .ref (a_t 8), .ref (a_t 9), .int t_taped, .int t_faultKind, .int t_faultPlace, .int t_at, .int t_begin, .int t_token, .int t_value, .int t_bad, .ref (a_t 18), .ref (a_t 19), .ref (a_t 20), .int t_wide, .int t_lost, .ref (a_t 23), .long t_det, .ref (a_t 25), .int t_mask, .int t_mode, .int t_wanted, .int t_orders, .int t_foundAt, .long t_foundBy, .ref (a_t 32), .ref (a_t 33), .int t_unlikes, .ref (a_t 35), .ref (a_t 36)])), ((a_t 1), .inl (g.2.2.1 0, 27, .inl x_t_mem)), ((a_t 4), .inl (g.2.2.1 0, 810, .inl x_t_past))] H → va_D A [((a_t 0), .inr (7, [.ref (a_t 1), .ref (a_t 2), .int x_t_acted, .ref (a_t 4), .ref (a_t 5), .ref (a_t 6), .ref (a_t 7), .ref (a_t 8), .ref (a_t 9), .int t_taped, .int t_faultKind, .int t_faultPlace, .int t_at, .int t_begin, .int t_token, .int t_value, .int t_bad, .ref (a_t 18), .ref (a_t 19), .ref (a_t 20), .int t_wide, .int t_lost, .ref (a_t 23), .long t_det, .ref (a_t 25), .int t_mask, .int t_mode, .int t_wanted, .int t_orders, .int t_foundAt, .long t_foundBy, .ref (a_t 32), .ref (a_t 33), .int t_unlikes, .ref (a_t 35), .ref (a_t 36)])), ((a_t 1), .inl (g.2.2.1 0, 27, .inl x_t_mem)), ((a_t 4), .inl (g.2.2.1 0, 810, .inl x_t_past))] → va_S A s.heap H locs → W p l e ⟨1, 0, 0, 25⟩ s m args below meth c H locs 0 0 Q (F0 m pc ls [.int v]) := by
    intro u pc ls v x_t_mem x_t_acted x_t_past H locs hd h hP hD hS
    cases h
    exact hret u _ _ _ _ _ hd rfl hP hD hS
  have w85 : ∀ (t_mem : Nat → Int32) (t_acted : Int32) (t_past : Nat → Int32) (H : Heap) (locs : List Loc), va_P g.2.1 vwCl [((a_t 0), .inr (7, [.ref (a_t 1), .ref (a_t 2), .int t_acted, .ref (a_t 4), .ref (a_t 5), .ref (a_t 6), .ref (a_t 7), .ref (a_t 8), .ref (a_t 9), .int t_taped, .int t_faultKind, .int t_faultPlace, .int t_at, .int t_begin, .int t_token, .int t_value, .int t_bad, .ref (a_t 18), .ref (a_t 19), .ref (a_t 20), .int t_wide, .int t_lost, .ref (a_t 23), .long t_det, .ref (a_t 25), .int t_mask, .int t_mode, .int t_wanted, .int t_orders, .int t_foundAt, .long t_foundBy, .ref (a_t 32), .ref (a_t 33), .int t_unlikes, .ref (a_t 35), .ref (a_t 36)])), ((a_t 1), .inl (g.2.2.1 0, 27, .inl t_mem)), ((a_t 4), .inl (g.2.2.1 0, 810, .inl t_past))] H → va_D A [((a_t 0), .inr (7, [.ref (a_t 1), .ref (a_t 2), .int t_acted, .ref (a_t 4), .ref (a_t 5), .ref (a_t 6), .ref (a_t 7), .ref (a_t 8), .ref (a_t 9), .int t_taped, .int t_faultKind, .int t_faultPlace, .int t_at, .int t_begin, .int t_token, .int t_value, .int t_bad, .ref (a_t 18), .ref (a_t 19), .ref (a_t 20), .int t_wide, .int t_lost, .ref (a_t 23), .long t_det, .ref (a_t 25), .int t_mask, .int t_mode, .int t_wanted, .int t_orders, .int t_foundAt, .long t_foundBy, .ref (a_t 32), .ref (a_t 33), .int t_unlikes, .ref (a_t 35), .ref (a_t 36)])), ((a_t 1), .inl (g.2.2.1 0, 27, .inl t_mem)), ((a_t 4), .inl (g.2.2.1 0, 810, .inl t_past))] → va_S A s.heap H locs → ∀ (ls : Array Slot), lv_has ls 3 [(0, .ref ((a_t 0)))] → fX8_whirl_85  t_mem t_acted t_past = some (o, o_t_mem, o_t_acted, o_t_past) → W p l e ⟨1, 0, 0, 25⟩ s m args below meth c H locs 0 0 Q (F0 m 85 ls []) := by
    intro t_mem t_acted t_past H locs hP hD hS ls hl h
    unfold fX8_whirl_85 at h
    have hG := hGk hS
    refine lv_aload_n hx hb dX8_whirl_85 rfl (lv_at hl 0 rfl) ?_
    refine xa_get (C := RX8) (T := TX8) (N := 36) cx hG hP 0 rfl rfl uX8 0 (by decide) lf_X8_21 rfl dX8_whirl_86 ?_
    refine lv_iconst (v := 2) hx hb dX8_whirl_89 (by decide) ?_
    refine xa_iald (k := 2) cx hG hP 1 rfl (show ¬ ((2 : Int32) < 0 ∨ 27 ≤ (2 : Int32).toNatClampNeg) by decide) (by decide) dX8_whirl_90 ?_
    exact hrt (fun _ => 0) _ _ ((t_mem 2)) t_mem t_acted t_past _ _ dX8_whirl_91 h (hP.sub [0, 1, 2] rfl) (hD.sub [0, 1, 2] (by decide) rfl) hS
  have w47 : ∀ (n : Nat) (t_mem : Nat → Int32) (t_acted : Int32) (t_past : Nat → Int32) (v1 : Int32) (v2 : Int32) (H : Heap) (locs : List Loc), va_P g.2.1 vwCl [((a_t 0), .inr (7, [.ref (a_t 1), .ref (a_t 2), .int t_acted, .ref (a_t 4), .ref (a_t 5), .ref (a_t 6), .ref (a_t 7), .ref (a_t 8), .ref (a_t 9), .int t_taped, .int t_faultKind, .int t_faultPlace, .int t_at, .int t_begin, .int t_token, .int t_value, .int t_bad, .ref (a_t 18), .ref (a_t 19), .ref (a_t 20), .int t_wide, .int t_lost, .ref (a_t 23), .long t_det, .ref (a_t 25), .int t_mask, .int t_mode, .int t_wanted, .int t_orders, .int t_foundAt, .long t_foundBy, .ref (a_t 32), .ref (a_t 33), .int t_unlikes, .ref (a_t 35), .ref (a_t 36)])), ((a_t 1), .inl (g.2.2.1 0, 27, .inl t_mem)), ((a_t 4), .inl (g.2.2.1 0, 810, .inl t_past))] H → va_D A [((a_t 0), .inr (7, [.ref (a_t 1), .ref (a_t 2), .int t_acted, .ref (a_t 4), .ref (a_t 5), .ref (a_t 6), .ref (a_t 7), .ref (a_t 8), .ref (a_t 9), .int t_taped, .int t_faultKind, .int t_faultPlace, .int t_at, .int t_begin, .int t_token, .int t_value, .int t_bad, .ref (a_t 18), .ref (a_t 19), .ref (a_t 20), .int t_wide, .int t_lost, .ref (a_t 23), .long t_det, .ref (a_t 25), .int t_mask, .int t_mode, .int t_wanted, .int t_orders, .int t_foundAt, .long t_foundBy, .ref (a_t 32), .ref (a_t 33), .int t_unlikes, .ref (a_t 35), .ref (a_t 36)])), ((a_t 1), .inl (g.2.2.1 0, 27, .inl t_mem)), ((a_t 4), .inl (g.2.2.1 0, 810, .inl t_past))] → va_S A s.heap H locs → ∀ (ls : Array Slot), lv_has ls 3 [(0, .ref ((a_t 0))), (1, .int v1), (2, .int v2)] → fX8_whirl_47  n t_mem t_acted t_past v1 v2 = some (o, o_t_mem, o_t_acted, o_t_past) → W p l e ⟨1, 0, 0, 25⟩ s m args below meth c H locs 0 0 Q (F0 m 47 ls []) := by
    intro n
    induction n with
    | zero => intro t_mem t_acted t_past v1 v2 H locs hP hD hS ls hl h; cases (fX8_whirl_47_z  t_mem t_acted t_past v1 v2).symm.trans h
    | succ n ih =>
    intro t_mem t_acted t_past v1 v2 H locs hP hD hS ls hl h
    have h := (fX8_whirl_47_s  n t_mem t_acted t_past v1 v2).symm.trans h
    have hG := hGk hS
    refine lv_iload_n hx hb dX8_whirl_47 rfl (lv_at hl 2 rfl) ?_
    refine lv_aload_n hx hb dX8_whirl_48 rfl (lv_at hl 0 rfl) ?_
    refine xa_get (C := RX8) (T := TX8) (N := 36) cx hG hP 0 rfl rfl uX8 0 (by decide) lf_X8_21 rfl dX8_whirl_49 ?_
    refine lv_iconst (v := 2) hx hb dX8_whirl_52 (by decide) ?_
    refine xa_iald (k := 2) cx hG hP 1 rfl (show ¬ ((2 : Int32) < 0 ∨ 27 ≤ (2 : Int32).toNatClampNeg) by decide) (by decide) dX8_whirl_53 ?_
    refine lv_icmp_ge (tgt := 85) hx hb dX8_whirl_54 (by decide) (fun c14 => ?_) (fun c14 => ?_)
    · have h := itp c14 h
      exact w85 t_mem t_acted t_past _ _ hP hD hS _ (lv_sub hl [0] rfl) h
    · have h := itn c14 h
      refine lv_aload_n hx hb dX8_whirl_57 rfl (lv_at hl 0 rfl) ?_
      refine xa_get (C := RX8) (T := TX8) (N := 36) cx hG hP 0 rfl rfl uX8 0 (by decide) lf_X8_21 rfl dX8_whirl_58 ?_
      refine lv_bipush (v := 19) hx hb dX8_whirl_61 (by decide) ?_
      refine lv_iload_n hx hb dX8_whirl_63 rfl (lv_at hl 2 rfl) ?_
      refine lv_iadd hx hb dX8_whirl_64 ?_
      refine lv_aload_n hx hb dX8_whirl_65 rfl (lv_at hl 0 rfl) ?_
      refine xa_get (C := RX8) (T := TX8) (N := 36) cx hG hP 0 rfl rfl uX8 0 (by decide) lf_X8_21 rfl dX8_whirl_66 ?_
      refine lv_bipush (v := 19) hx hb dX8_whirl_69 (by decide) ?_
      refine lv_iload_n hx hb dX8_whirl_71 rfl (lv_at hl 2 rfl) ?_
      refine lv_iadd hx hb dX8_whirl_72 ?_
      obtain ⟨hi15, h⟩ := chk_out h
      refine xa_iald cx hG hP 1 rfl hi15 rfl dX8_whirl_73 ?_
      refine lv_iload_n hx hb dX8_whirl_74 rfl (lv_at hl 1 rfl) ?_
      obtain ⟨r16, hr17, h⟩ := bnd h
      refine ro_i (runS (As := [.int (t_mem (19 + v2).toNatClampNeg), .int v1]) (rest := [.int (19 + v2), .ref ((a_t 1))]) cx hl.1 (ctX8_whirled l g (t_mem (19 + v2).toNatClampNeg) v1 r16 hr17) kmX8_whirled ksX8_whirled lm_X8_422 ⟨rfl, rfl⟩ ⟨Nat.le_of_ble_eq_true rfl, Nat.le_of_ble_eq_true rfl⟩ (roS hG (hP.sub [] rfl)) rfl rfl (Nat.le_of_ble_eq_true rfl) dX8_whirl_75 ⟨Nat.le_of_ble_eq_true rfl, Nat.le_of_ble_eq_true rfl⟩) ?_
      obtain ⟨hi18, h⟩ := chk_out h
      refine xw_iast (ws' := [((a_t 0), .inr (7, [.ref (a_t 1), .ref (a_t 2), .int t_acted, .ref (a_t 4), .ref (a_t 5), .ref (a_t 6), .ref (a_t 7), .ref (a_t 8), .ref (a_t 9), .int t_taped, .int t_faultKind, .int t_faultPlace, .int t_at, .int t_begin, .int t_token, .int t_value, .int t_bad, .ref (a_t 18), .ref (a_t 19), .ref (a_t 20), .int t_wide, .int t_lost, .ref (a_t 23), .long t_det, .ref (a_t 25), .int t_mask, .int t_mode, .int t_wanted, .int t_orders, .int t_foundAt, .long t_foundBy, .ref (a_t 32), .ref (a_t 33), .int t_unlikes, .ref (a_t 35), .ref (a_t 36)])), ((a_t 1), .inl (g.2.2.1 0, 27, .inl (upd t_mem ((19 + v2).toNatClampNeg) r16))), ((a_t 4), .inl (g.2.2.1 0, 810, .inl t_past))]) (k := ((19 + v2).toNatClampNeg)) cx hG hP hD hS 1 rfl hi18 rfl rfl dX8_whirl_78 (fun H locs hP hD hS => ?_)
      have hG := hGk hS
      refine lv_iinc (v := v2 + 1) (lv' := [(2, .int (v2 + 1)), (0, .ref ((a_t 0))), (1, .int v1)]) hx hb dX8_whirl_79 hl (k := 2) rfl rfl (by decide) rfl (fun ls hl => ?_)
      refine lv_goto (tgt := 47) hx hb dX8_whirl_82 (by decide) ?_
      exact ih (upd t_mem ((19 + v2).toNatClampNeg) r16) t_acted t_past v1 (v2 + 1) _ _ hP hD hS _ (lv_sub hl [1, 2, 0] rfl) h
  unfold fX8_whirl at h
  refine lv_aload_n hx hb dX8_whirl_0 rfl (lv_at hl 0 rfl) ?_
  obtain ⟨r1, hr2, h⟩ := bnd h
  refine ro_z (runV (As := []) (rest := []) cx hl.1 (ctX8_is l g a_t t_acted t_taped t_faultKind t_faultPlace t_at t_begin t_token t_value t_bad t_wide t_lost t_det t_mask t_mode t_wanted t_orders t_foundAt t_foundBy t_unlikes t_mem r1 hr2) kmX8_is kvX8_is lm_X8_236 ⟨rfl, rfl⟩ ⟨Nat.le_of_ble_eq_true rfl, Nat.le_of_ble_eq_true rfl⟩ (roV (q0 := 0) (ci := 7) hG (hP.sub [0, 1] rfl) hP rfl rfl) rfl rfl (Nat.le_of_ble_eq_true rfl) dX8_whirl_1 ⟨Nat.le_of_ble_eq_true rfl, Nat.le_of_ble_eq_true rfl⟩) (fun hz3 => ?_)
  refine lv_if_eq (tgt := 19) hx hb dX8_whirl_4 (by decide) (fun c4 => ?_) (fun c4 => ?_)
  · have h := itp c4 h
    refine lv_bipush (v := -2) hx hb dX8_whirl_19 (by decide) ?_
    exact hrt (fun _ => 0) _ _ ((-2)) t_mem t_acted t_past _ _ dX8_whirl_21 h (hP.sub [0, 1, 2] rfl) (hD.sub [0, 1, 2] (by decide) rfl) hS
  · have h := itn c4 h
    refine lv_iload_n hx hb dX8_whirl_7 rfl (lv_at hl 1 rfl) ?_
    refine lv_i2l (v := v1.toInt64) hx hb dX8_whirl_8 rfl ?_
    refine lv_lconst (v := 1) hx hb dX8_whirl_9 (by decide) ?_
    refine lv_ldc2 (own := RX8) (v := 3) hx hb cx.2.2.2.1 (cx.2.2.2.2 _ cl_X8_204) dX8_whirl_10 ?_
    refine ro_z (runS (As := [.long v1.toInt64, .long (1), .long (3)]) (rest := []) cx hl.1 (ctX8_in l g v1.toInt64 (1) (3) (fX8_in v1.toInt64 1 3) rfl) kmX8_in ksX8_in lm_X8_83 ⟨rfl, rfl⟩ ⟨Nat.le_of_ble_eq_true rfl, Nat.le_of_ble_eq_true rfl⟩ (roS hG (hP.sub [] rfl)) rfl rfl (Nat.le_of_ble_eq_true rfl) dX8_whirl_13 ⟨Nat.le_of_ble_eq_true rfl, Nat.le_of_ble_eq_true rfl⟩) (fun hz5 => ?_)
    refine lv_if_ne (tgt := 22) hx hb dX8_whirl_16 (by decide) (fun c6 => ?_) (fun c6 => ?_)
    · have h := itn c6 h
      refine lv_aload_n hx hb dX8_whirl_22 rfl (lv_at hl 0 rfl) ?_
      refine xa_get (C := RX8) (T := TX8) (N := 36) cx hG hP 0 rfl rfl uX8 0 (by decide) lf_X8_21 rfl dX8_whirl_23 ?_
      refine lv_iconst (v := 2) hx hb dX8_whirl_26 (by decide) ?_
      refine xa_iald (k := 2) cx hG hP 1 rfl (show ¬ ((2 : Int32) < 0 ∨ 27 ≤ (2 : Int32).toNatClampNeg) by decide) (by decide) dX8_whirl_27 ?_
      refine lv_if_eq (tgt := 38) hx hb dX8_whirl_28 (by decide) (fun c7 => ?_) (fun c7 => ?_)
      · have h := itp c7 h
        refine lv_bipush (v := -5) hx hb dX8_whirl_38 (by decide) ?_
        exact hrt (fun _ => 0) _ _ ((-5)) t_mem t_acted t_past _ _ dX8_whirl_40 h (hP.sub [0, 1, 2] rfl) (hD.sub [0, 1, 2] (by decide) rfl) hS
      · have h := itn c7 h
        refine lv_aload_n hx hb dX8_whirl_31 rfl (lv_at hl 0 rfl) ?_
        refine ro_z (runV (As := []) (rest := []) cx hl.1 (ctX8_isFull l g a_t t_acted t_taped t_faultKind t_faultPlace t_at t_begin t_token t_value t_bad t_wide t_lost t_det t_mask t_mode t_wanted t_orders t_foundAt t_foundBy t_unlikes (fX8_isFull t_acted) rfl) kmX8_isFull kvX8_isFull lm_X8_425 ⟨rfl, rfl⟩ ⟨Nat.le_of_ble_eq_true rfl, Nat.le_of_ble_eq_true rfl⟩ (roV (q0 := 0) (ci := 7) hG (hP.sub [0] rfl) hP rfl rfl) rfl rfl (Nat.le_of_ble_eq_true rfl) dX8_whirl_32 ⟨Nat.le_of_ble_eq_true rfl, Nat.le_of_ble_eq_true rfl⟩) (fun hz8 => ?_)
        refine lv_if_eq (tgt := 41) hx hb dX8_whirl_35 (by decide) (fun c9 => ?_) (fun c9 => ?_)
        · have h := itp c9 h
          refine lv_aload_n hx hb dX8_whirl_41 rfl (lv_at hl 0 rfl) ?_
          obtain ⟨w11, w12, hr10, h⟩ := ob2_out h
          refine rw_v (WN := fun u13 => [((a_t 0), .inr (7, [.ref (a_t 1), .ref (a_t 2), .int w11, .ref (a_t 4), .ref (a_t 5), .ref (a_t 6), .ref (a_t 7), .ref (a_t 8), .ref (a_t 9), .int t_taped, .int t_faultKind, .int t_faultPlace, .int t_at, .int t_begin, .int t_token, .int t_value, .int t_bad, .ref (a_t 18), .ref (a_t 19), .ref (a_t 20), .int t_wide, .int t_lost, .ref (a_t 23), .long t_det, .ref (a_t 25), .int t_mask, .int t_mode, .int t_wanted, .int t_orders, .int t_foundAt, .long t_foundBy, .ref (a_t 32), .ref (a_t 33), .int t_unlikes, .ref (a_t 35), .ref (a_t 36)])), ((a_t 1), .inl (g.2.2.1 0, 27, .inl t_mem)), ((a_t 4), .inl (g.2.2.1 0, 810, .inl w12))]) (wr := []) (runV (As := []) (rest := []) cx hl.1 (ctX8_keeps l g s.heap.size a_t t_acted t_taped t_faultKind t_faultPlace t_at t_begin t_token t_value t_bad t_wide t_lost t_det t_mask t_mode t_wanted t_orders t_foundAt t_foundBy t_unlikes t_mem t_past w11 w12 hr10) kmX8_keeps kvX8_keeps lm_X8_428 ⟨rfl, rfl⟩ ⟨Nat.le_of_ble_eq_true rfl, Nat.le_of_ble_eq_true rfl⟩ (rwV (q0 := 0) (ci := 7) hG (hP.sub [0, 1, 2] rfl) (hD.sub [0, 1, 2] (by decide) rfl) hAb hb0 hS hP rfl rfl) rfl rfl (Nat.le_of_ble_eq_true rfl) dX8_whirl_42 ⟨Nat.le_of_ble_eq_true rfl, Nat.le_of_ble_eq_true rfl⟩) hP hD hS hA [0, 1, 2] [] rfl rfl (by decide) (by decide) (fun _ => rfl) (fun u13 H locs hP hD hS => ?_)
          have hG := hGk hS
          refine lv_iconst (v := 0) hx hb dX8_whirl_45 (by decide) ?_
          refine lv_istore_n (lv' := [(2, .int (0)), (0, .ref ((a_t 0))), (1, .int v1)]) hx hb dX8_whirl_46 rfl hl (by decide) rfl (fun ls hl => ?_)
          exact w47 FU t_mem w11 w12 v1 0 _ _ hP hD hS _ (lv_sub hl [1, 2, 0] rfl) h
        · have h := itn c9 h
          refine lv_bipush (v := -5) hx hb dX8_whirl_38 (by decide) ?_
          exact hrt (fun _ => 0) _ _ ((-5)) t_mem t_acted t_past _ _ dX8_whirl_40 h (hP.sub [0, 1, 2] rfl) (hD.sub [0, 1, 2] (by decide) rfl) hS
    · have h := itp c6 h
      refine lv_bipush (v := -2) hx hb dX8_whirl_19 (by decide) ?_
      exact hrt (fun _ => 0) _ _ ((-2)) t_mem t_acted t_past _ _ dX8_whirl_21 h (hP.sub [0, 1, 2] rfl) (hD.sub [0, 1, 2] (by decide) rfl) hS
-- X8_upset
theorem dX8_upset_0 : decode cX8_upset 0 = .ok (.aload_n 0, 1) := by decide +kernel
theorem dX8_upset_1 : decode cX8_upset 1 = .ok (.invokevirtual 236, 3) := by decide +kernel
theorem dX8_upset_4 : decode cX8_upset 4 = .ok (.ifCond .ne 6, 3) := by decide +kernel
theorem dX8_upset_7 : decode cX8_upset 7 = .ok (.bipush (-2), 2) := by decide +kernel
theorem dX8_upset_9 : decode cX8_upset 9 = .ok (.ireturn, 1) := by decide +kernel
theorem dX8_upset_10 : decode cX8_upset 10 = .ok (.aload_n 0, 1) := by decide +kernel
theorem dX8_upset_11 : decode cX8_upset 11 = .ok (.invokevirtual 243, 3) := by decide +kernel
theorem dX8_upset_14 : decode cX8_upset 14 = .ok (.iconst 0, 1) := by decide +kernel
theorem dX8_upset_15 : decode cX8_upset 15 = .ok (.istore_n 1, 1) := by decide +kernel
theorem dX8_upset_16 : decode cX8_upset 16 = .ok (.iload_n 1, 1) := by decide +kernel
theorem dX8_upset_17 : decode cX8_upset 17 = .ok (.aload_n 0, 1) := by decide +kernel
theorem dX8_upset_18 : decode cX8_upset 18 = .ok (.getfield 206, 3) := by decide +kernel
theorem dX8_upset_21 : decode cX8_upset 21 = .ok (.if_icmp .ge 20, 3) := by decide +kernel
theorem dX8_upset_24 : decode cX8_upset 24 = .ok (.aload_n 0, 1) := by decide +kernel
theorem dX8_upset_25 : decode cX8_upset 25 = .ok (.getfield 57, 3) := by decide +kernel
theorem dX8_upset_28 : decode cX8_upset 28 = .ok (.iload_n 1, 1) := by decide +kernel
theorem dX8_upset_29 : decode cX8_upset 29 = .ok (.aload_n 0, 1) := by decide +kernel
theorem dX8_upset_30 : decode cX8_upset 30 = .ok (.iload_n 1, 1) := by decide +kernel
theorem dX8_upset_31 : decode cX8_upset 31 = .ok (.invokevirtual 419, 3) := by decide +kernel
theorem dX8_upset_34 : decode cX8_upset 34 = .ok (.iastore, 1) := by decide +kernel
theorem dX8_upset_35 : decode cX8_upset 35 = .ok (.iinc 1 1, 3) := by decide +kernel
theorem dX8_upset_38 : decode cX8_upset 38 = .ok (.goto (-22), 3) := by decide +kernel
theorem dX8_upset_41 : decode cX8_upset 41 = .ok (.aload_n 0, 1) := by decide +kernel
theorem dX8_upset_42 : decode cX8_upset 42 = .ok (.invokevirtual 332, 3) := by decide +kernel
theorem dX8_upset_45 : decode cX8_upset 45 = .ok (.ifCond .eq 10, 3) := by decide +kernel
theorem dX8_upset_48 : decode cX8_upset 48 = .ok (.aload_n 0, 1) := by decide +kernel
theorem dX8_upset_49 : decode cX8_upset 49 = .ok (.invokevirtual 425, 3) := by decide +kernel
theorem dX8_upset_52 : decode cX8_upset 52 = .ok (.ifCond .eq 8, 3) := by decide +kernel
theorem dX8_upset_55 : decode cX8_upset 55 = .ok (.bipush (-5), 2) := by decide +kernel
theorem dX8_upset_57 : decode cX8_upset 57 = .ok (.goto 7, 3) := by decide +kernel
theorem dX8_upset_60 : decode cX8_upset 60 = .ok (.aload_n 0, 1) := by decide +kernel
theorem dX8_upset_61 : decode cX8_upset 61 = .ok (.invokevirtual 434, 3) := by decide +kernel
theorem dX8_upset_64 : decode cX8_upset 64 = .ok (.ireturn, 1) := by decide +kernel
noncomputable def fX8_upset_41  (t_mem : Nat → Int32) (t_acted : Int32) (t_past : Nat → Int32) (t_row : Nat → Int32) (t_wide : Int32) (t_lost : Int32) : Option (Int32 × (Nat → Int32) × Int32 × (Nat → Int32) × (Nat → Int32) × Int32 × Int32) := (fX8_farFromPlate t_mem t_row t_wide).bind fun r14 => (if r14 = 0 then some ((-5), t_mem, t_acted, t_past, t_row, t_wide, t_lost) else (if (fX8_isFull t_acted) = 0 then ob4 (fX8_becomesRow t_mem t_acted t_past t_row t_wide) fun r20 w21 w22 w23 => some (r20, w21, w22, w23, t_row, t_wide, t_lost) else some ((-5), t_mem, t_acted, t_past, t_row, t_wide, t_lost)))
noncomputable def fX8_upset_16  : Nat → (Nat → Int32) → Int32 → (Nat → Int32) → (Nat → Int32) → Int32 → Int32 → Int32 → Option (Int32 × (Nat → Int32) × Int32 × (Nat → Int32) × (Nat → Int32) × Int32 × Int32)
  | 0, _, _, _, _, _, _, _ => none
  | n + 1, t_mem, t_acted, t_past, t_row, t_wide, t_lost, v1 => (if t_wide ≤ v1 then fX8_upset_41 t_mem t_acted t_past t_row t_wide t_lost else (fX8_upsetAt t_mem v1).bind fun r11 => chk 8 v1 (fX8_upset_16 n t_mem t_acted t_past (upd t_row v1.toNatClampNeg r11) t_wide t_lost (v1 + 1)))
theorem fX8_upset_16_z  (t_mem : Nat → Int32) (t_acted : Int32) (t_past : Nat → Int32) (t_row : Nat → Int32) (t_wide : Int32) (t_lost : Int32) (v1 : Int32) : fX8_upset_16  0 t_mem t_acted t_past t_row t_wide t_lost v1 = none := rfl
theorem fX8_upset_16_s  (n : Nat) (t_mem : Nat → Int32) (t_acted : Int32) (t_past : Nat → Int32) (t_row : Nat → Int32) (t_wide : Int32) (t_lost : Int32) (v1 : Int32) : fX8_upset_16  (n + 1) t_mem t_acted t_past t_row t_wide t_lost v1 = (if t_wide ≤ v1 then fX8_upset_41 t_mem t_acted t_past t_row t_wide t_lost else (fX8_upsetAt t_mem v1).bind fun r11 => chk 8 v1 (fX8_upset_16 n t_mem t_acted t_past (upd t_row v1.toNatClampNeg r11) t_wide t_lost (v1 + 1))) := rfl
noncomputable def fX8_upset  (t_mem : Nat → Int32) (t_acted : Int32) (t_past : Nat → Int32) (t_row : Nat → Int32) (t_wide : Int32) (t_lost : Int32) : Option (Int32 × (Nat → Int32) × Int32 × (Nat → Int32) × (Nat → Int32) × Int32 × Int32) := (fX8_is t_mem).bind fun r1 => (if r1 = 0 then some ((-2), t_mem, t_acted, t_past, t_row, t_wide, t_lost) else ob3 (fX8_laysPlate t_mem t_row t_wide t_lost) fun w6 w7 w8 => fX8_upset_16 FU t_mem t_acted t_past w6 w7 w8 0)
set_option maxHeartbeats 4000000 in
set_option maxRecDepth 100000 in
theorem ctX8_upset (l : Launch) (g : GT) (sz : Nat) (a_t : Nat → Nat) (t_acted : Int32) (t_taped : Int32) (t_faultKind : Int32) (t_faultPlace : Int32) (t_at : Int32) (t_begin : Int32) (t_token : Int32) (t_value : Int32) (t_bad : Int32) (t_wide : Int32) (t_lost : Int32) (t_det : Int64) (t_mask : Int32) (t_mode : Int32) (t_wanted : Int32) (t_orders : Int32) (t_foundAt : Int32) (t_foundBy : Int64) (t_unlikes : Int32) (t_mem : Nat → Int32) (t_past : Nat → Int32) (t_row : Nat → Int32) (o : Int32) (o_t_mem : Nat → Int32) (o_t_acted : Int32) (o_t_past : Nat → Int32) (o_t_row : Nat → Int32) (o_t_wide : Int32) (o_t_lost : Int32) (h : fX8_upset t_mem t_acted t_past t_row t_wide t_lost = some (o, o_t_mem, o_t_acted, o_t_past, o_t_row, o_t_wide, o_t_lost)) : Met l yX8_upset (Cond.code yX8_upset cX8_upset 2 (some .int) :: Tw) ⟨2, 0, 0, 44⟩ (va_Pc [.ref ((a_t 0))] (rwB g [((a_t 0), .inr (7, [.ref (a_t 1), .ref (a_t 2), .int t_acted, .ref (a_t 4), .ref (a_t 5), .ref (a_t 6), .ref (a_t 7), .ref (a_t 8), .ref (a_t 9), .int t_taped, .int t_faultKind, .int t_faultPlace, .int t_at, .int t_begin, .int t_token, .int t_value, .int t_bad, .ref (a_t 18), .ref (a_t 19), .ref (a_t 20), .int t_wide, .int t_lost, .ref (a_t 23), .long t_det, .ref (a_t 25), .int t_mask, .int t_mode, .int t_wanted, .int t_orders, .int t_foundAt, .long t_foundBy, .ref (a_t 32), .ref (a_t 33), .int t_unlikes, .ref (a_t 35), .ref (a_t 36)])), ((a_t 1), .inl (g.2.2.1 0, 27, .inl t_mem)), ((a_t 4), .inl (g.2.2.1 0, 810, .inl t_past)), ((a_t 20), .inl (g.2.2.1 0, 8, .inl t_row))] sz)) (va_Qi (fun x (_ : Nat → Nat) => x = o) (fun u => rwE g (va_A [((a_t 0), .inr (7, [.ref (a_t 1), .ref (a_t 2), .int t_acted, .ref (a_t 4), .ref (a_t 5), .ref (a_t 6), .ref (a_t 7), .ref (a_t 8), .ref (a_t 9), .int t_taped, .int t_faultKind, .int t_faultPlace, .int t_at, .int t_begin, .int t_token, .int t_value, .int t_bad, .ref (a_t 18), .ref (a_t 19), .ref (a_t 20), .int t_wide, .int t_lost, .ref (a_t 23), .long t_det, .ref (a_t 25), .int t_mask, .int t_mode, .int t_wanted, .int t_orders, .int t_foundAt, .long t_foundBy, .ref (a_t 32), .ref (a_t 33), .int t_unlikes, .ref (a_t 35), .ref (a_t 36)])), ((a_t 1), .inl (g.2.2.1 0, 27, .inl t_mem)), ((a_t 4), .inl (g.2.2.1 0, 810, .inl t_past)), ((a_t 20), .inl (g.2.2.1 0, 8, .inl t_row))] sz) [((a_t 0), .inr (7, [.ref (a_t 1), .ref (a_t 2), .int o_t_acted, .ref (a_t 4), .ref (a_t 5), .ref (a_t 6), .ref (a_t 7), .ref (a_t 8), .ref (a_t 9), .int t_taped, .int t_faultKind, .int t_faultPlace, .int t_at, .int t_begin, .int t_token, .int t_value, .int t_bad, .ref (a_t 18), .ref (a_t 19), .ref (a_t 20), .int o_t_wide, .int o_t_lost, .ref (a_t 23), .long t_det, .ref (a_t 25), .int t_mask, .int t_mode, .int t_wanted, .int t_orders, .int t_foundAt, .long t_foundBy, .ref (a_t 32), .ref (a_t 33), .int t_unlikes, .ref (a_t 35), .ref (a_t 36)])), ((a_t 1), .inl (g.2.2.1 0, 27, .inl o_t_mem)), ((a_t 4), .inl (g.2.2.1 0, 810, .inl o_t_past)), ((a_t 20), .inl (g.2.2.1 0, 8, .inl o_t_row))]) (va_A [((a_t 0), .inr (7, [.ref (a_t 1), .ref (a_t 2), .int t_acted, .ref (a_t 4), .ref (a_t 5), .ref (a_t 6), .ref (a_t 7), .ref (a_t 8), .ref (a_t 9), .int t_taped, .int t_faultKind, .int t_faultPlace, .int t_at, .int t_begin, .int t_token, .int t_value, .int t_bad, .ref (a_t 18), .ref (a_t 19), .ref (a_t 20), .int t_wide, .int t_lost, .ref (a_t 23), .long t_det, .ref (a_t 25), .int t_mask, .int t_mode, .int t_wanted, .int t_orders, .int t_foundAt, .long t_foundBy, .ref (a_t 32), .ref (a_t 33), .int t_unlikes, .ref (a_t 35), .ref (a_t 36)])), ((a_t 1), .inl (g.2.2.1 0, 27, .inl t_mem)), ((a_t 4), .inl (g.2.2.1 0, 810, .inl t_past)), ((a_t 20), .inl (g.2.2.1 0, 8, .inl t_row))] sz)) 0 0 (va_A [((a_t 0), .inr (7, [.ref (a_t 1), .ref (a_t 2), .int t_acted, .ref (a_t 4), .ref (a_t 5), .ref (a_t 6), .ref (a_t 7), .ref (a_t 8), .ref (a_t 9), .int t_taped, .int t_faultKind, .int t_faultPlace, .int t_at, .int t_begin, .int t_token, .int t_value, .int t_bad, .ref (a_t 18), .ref (a_t 19), .ref (a_t 20), .int t_wide, .int t_lost, .ref (a_t 23), .long t_det, .ref (a_t 25), .int t_mask, .int t_mode, .int t_wanted, .int t_orders, .int t_foundAt, .long t_foundBy, .ref (a_t 32), .ref (a_t 33), .int t_unlikes, .ref (a_t 35), .ref (a_t 36)])), ((a_t 1), .inl (g.2.2.1 0, 27, .inl t_mem)), ((a_t 4), .inl (g.2.2.1 0, 810, .inl t_past)), ((a_t 20), .inl (g.2.2.1 0, 8, .inl t_row))] sz) := by
  refine rw_meti (by decide) (Nat.le_of_ble_eq_true rfl) (lv0 := [(0, .ref ((a_t 0)))]) rfl ?_
  intro p e s m args below meth c ls Q A cx hret hG hAb hb0 hA hP hD hl
  have hx := cx.1
  have hb := cx.2.1
  have hG0 := hG
  have hGk : ∀ {H : Heap} {locs : List Loc}, va_S A s.heap H locs → GE g s H := fun hS => hG0.keptS hAb hS
  have hSb : ∀ {H : Heap} {locs : List Loc}, va_S A s.heap H locs → va_S (fun a => g.1 ≤ a) s.heap H locs := fun hS => ⟨hS.1, fun q h1 h2 => hS.2.1 q h1 (fun z => h2 (hAb q z)), fun l hl => hAb _ (hS.2.2 l hl)⟩
  have hS : va_S A s.heap s.heap [] := va_S.rf
  have hrt : ∀ (u : Nat → Nat) (pc : Nat) (ls : Array Slot) (v : Int32) (x_t_mem : Nat → Int32) (x_t_acted : Int32) (x_t_past : Nat → Int32) (x_t_row : Nat → Int32) (x_t_wide : Int32) (x_t_lost : Int32) (H : Heap) (locs : List Loc), decode cX8_upset pc = .ok (.ireturn, 1) → some (v, x_t_mem, x_t_acted, x_t_past, x_t_row, x_t_wide, x_t_lost) = some (o, o_t_mem, o_t_acted, o_t_past, o_t_row, o_t_wide, o_t_lost) → va_P g.2.1 vwCl [((a_t 0), .inr (7, [.ref (a_t 1), .ref (a_t 2), .int x_t_acted, .ref (a_t 4), .ref (a_t 5), .ref (a_t 6), .ref (a_t 7), .ref (a_t 8), .ref (a_t 9), .int t_taped, .int t_faultKind, .int t_faultPlace, .int t_at, .int t_begin, .int t_token, .int t_value, .int t_bad, .ref (a_t 18), .ref (a_t 19), .ref (a_t 20), .int x_t_wide, .int x_t_lost, .ref (a_t 23), .long t_det, .ref (a_t 25), .int t_mask, .int t_mode, .int t_wanted, .int t_orders, .int t_foundAt, .long t_foundBy, .ref (a_t 32), .ref (a_t 33), .int t_unlikes, .ref (a_t 35), .ref (a_t 36)])), ((a_t 1), .inl (g.2.2.1 0, 27, .inl x_t_mem)), ((a_t 4), .inl (g.2.2.1 0, 810, .inl x_t_past)), ((a_t 20), .inl (g.2.2.1 0, 8, .inl x_t_row))] H → va_D A [((a_t 0), .inr (7, [.ref (a_t 1), .ref (a_t 2), .int x_t_acted, .ref (a_t 4), .ref (a_t 5), .ref (a_t 6), .ref (a_t 7), .ref (a_t 8), .ref (a_t 9), .int t_taped, .int t_faultKind, .int t_faultPlace, .int t_at, .int t_begin, .int t_token, .int t_value, .int t_bad, .ref (a_t 18), .ref (a_t 19), .ref (a_t 20), .int x_t_wide, .int x_t_lost, .ref (a_t 23), .long t_det, .ref (a_t 25), .int t_mask, .int t_mode, .int t_wanted, .int t_orders, .int t_foundAt, .long t_foundBy, .ref (a_t 32), .ref (a_t 33), .int t_unlikes, .ref (a_t 35), .ref (a_t 36)])), ((a_t 1), .inl (g.2.2.1 0, 27, .inl x_t_mem)), ((a_t 4), .inl (g.2.2.1 0, 810, .inl x_t_past)), ((a_t 20), .inl (g.2.2.1 0, 8, .inl x_t_row))] → va_S A s.heap H locs → W p l e ⟨2, 0, 0, 44⟩ s m args below meth c H locs 0 0 Q (F0 m pc ls [.int v]) := by
    intro u pc ls v x_t_mem x_t_acted x_t_past x_t_row x_t_wide x_t_lost H locs hd h hP hD hS
    cases h
    exact hret u _ _ _ _ _ hd rfl hP hD hS
  have w41 : ∀ (t_mem : Nat → Int32) (t_acted : Int32) (t_past : Nat → Int32) (t_row : Nat → Int32) (t_wide : Int32) (t_lost : Int32) (H : Heap) (locs : List Loc), va_P g.2.1 vwCl [((a_t 0), .inr (7, [.ref (a_t 1), .ref (a_t 2), .int t_acted, .ref (a_t 4), .ref (a_t 5), .ref (a_t 6), .ref (a_t 7), .ref (a_t 8), .ref (a_t 9), .int t_taped, .int t_faultKind, .int t_faultPlace, .int t_at, .int t_begin, .int t_token, .int t_value, .int t_bad, .ref (a_t 18), .ref (a_t 19), .ref (a_t 20), .int t_wide, .int t_lost, .ref (a_t 23), .long t_det, .ref (a_t 25), .int t_mask, .int t_mode, .int t_wanted, .int t_orders, .int t_foundAt, .long t_foundBy, .ref (a_t 32), .ref (a_t 33), .int t_unlikes, .ref (a_t 35), .ref (a_t 36)])), ((a_t 1), .inl (g.2.2.1 0, 27, .inl t_mem)), ((a_t 4), .inl (g.2.2.1 0, 810, .inl t_past)), ((a_t 20), .inl (g.2.2.1 0, 8, .inl t_row))] H → va_D A [((a_t 0), .inr (7, [.ref (a_t 1), .ref (a_t 2), .int t_acted, .ref (a_t 4), .ref (a_t 5), .ref (a_t 6), .ref (a_t 7), .ref (a_t 8), .ref (a_t 9), .int t_taped, .int t_faultKind, .int t_faultPlace, .int t_at, .int t_begin, .int t_token, .int t_value, .int t_bad, .ref (a_t 18), .ref (a_t 19), .ref (a_t 20), .int t_wide, .int t_lost, .ref (a_t 23), .long t_det, .ref (a_t 25), .int t_mask, .int t_mode, .int t_wanted, .int t_orders, .int t_foundAt, .long t_foundBy, .ref (a_t 32), .ref (a_t 33), .int t_unlikes, .ref (a_t 35), .ref (a_t 36)])), ((a_t 1), .inl (g.2.2.1 0, 27, .inl t_mem)), ((a_t 4), .inl (g.2.2.1 0, 810, .inl t_past)), ((a_t 20), .inl (g.2.2.1 0, 8, .inl t_row))] → va_S A s.heap H locs → ∀ (ls : Array Slot), lv_has ls 2 [(0, .ref ((a_t 0)))] → fX8_upset_41  t_mem t_acted t_past t_row t_wide t_lost = some (o, o_t_mem, o_t_acted, o_t_past, o_t_row, o_t_wide, o_t_lost) → W p l e ⟨2, 0, 0, 44⟩ s m args below meth c H locs 0 0 Q (F0 m 41 ls []) := by
    intro t_mem t_acted t_past t_row t_wide t_lost H locs hP hD hS ls hl h
    unfold fX8_upset_41 at h
    have hG := hGk hS
    refine lv_aload_n hx hb dX8_upset_41 rfl (lv_at hl 0 rfl) ?_
    obtain ⟨r14, hr15, h⟩ := bnd h
    refine ro_i (runV (As := []) (rest := []) cx hl.1 (ctX8_farFromPlate l g a_t t_acted t_taped t_faultKind t_faultPlace t_at t_begin t_token t_value t_bad t_wide t_lost t_det t_mask t_mode t_wanted t_orders t_foundAt t_foundBy t_unlikes t_mem t_row r14 hr15) kmX8_farFromPlate kvX8_farFromPlate lm_X8_332 ⟨rfl, rfl⟩ ⟨Nat.le_of_ble_eq_true rfl, Nat.le_of_ble_eq_true rfl⟩ (roV (q0 := 0) (ci := 7) hG (hP.sub [0, 1, 3] rfl) hP rfl rfl) rfl rfl (Nat.le_of_ble_eq_true rfl) dX8_upset_42 ⟨Nat.le_of_ble_eq_true rfl, Nat.le_of_ble_eq_true rfl⟩) ?_
    refine lv_if_eq (tgt := 55) hx hb dX8_upset_45 (by decide) (fun c16 => ?_) (fun c16 => ?_)
    · have h := itp c16 h
      refine lv_bipush (v := -5) hx hb dX8_upset_55 (by decide) ?_
      refine lv_goto (tgt := 64) hx hb dX8_upset_57 (by decide) ?_
      exact hrt (fun _ => 0) _ _ ((-5)) t_mem t_acted t_past t_row t_wide t_lost _ _ dX8_upset_64 h (hP.sub [0, 1, 2, 3] rfl) (hD.sub [0, 1, 2, 3] (by decide) rfl) hS
    · have h := itn c16 h
      refine lv_aload_n hx hb dX8_upset_48 rfl (lv_at hl 0 rfl) ?_
      refine ro_z (runV (As := []) (rest := []) cx hl.1 (ctX8_isFull l g a_t t_acted t_taped t_faultKind t_faultPlace t_at t_begin t_token t_value t_bad t_wide t_lost t_det t_mask t_mode t_wanted t_orders t_foundAt t_foundBy t_unlikes (fX8_isFull t_acted) rfl) kmX8_isFull kvX8_isFull lm_X8_425 ⟨rfl, rfl⟩ ⟨Nat.le_of_ble_eq_true rfl, Nat.le_of_ble_eq_true rfl⟩ (roV (q0 := 0) (ci := 7) hG (hP.sub [0] rfl) hP rfl rfl) rfl rfl (Nat.le_of_ble_eq_true rfl) dX8_upset_49 ⟨Nat.le_of_ble_eq_true rfl, Nat.le_of_ble_eq_true rfl⟩) (fun hz17 => ?_)
      refine lv_if_eq (tgt := 60) hx hb dX8_upset_52 (by decide) (fun c18 => ?_) (fun c18 => ?_)
      · have h := itp c18 h
        refine lv_aload_n hx hb dX8_upset_60 rfl (lv_at hl 0 rfl) ?_
        obtain ⟨r20, w21, w22, w23, hr19, h⟩ := ob4_out h
        refine rw_i (WN := fun u24 => [((a_t 0), .inr (7, [.ref (a_t 1), .ref (a_t 2), .int w22, .ref (a_t 4), .ref (a_t 5), .ref (a_t 6), .ref (a_t 7), .ref (a_t 8), .ref (a_t 9), .int t_taped, .int t_faultKind, .int t_faultPlace, .int t_at, .int t_begin, .int t_token, .int t_value, .int t_bad, .ref (a_t 18), .ref (a_t 19), .ref (a_t 20), .int t_wide, .int t_lost, .ref (a_t 23), .long t_det, .ref (a_t 25), .int t_mask, .int t_mode, .int t_wanted, .int t_orders, .int t_foundAt, .long t_foundBy, .ref (a_t 32), .ref (a_t 33), .int t_unlikes, .ref (a_t 35), .ref (a_t 36)])), ((a_t 1), .inl (g.2.2.1 0, 27, .inl w21)), ((a_t 4), .inl (g.2.2.1 0, 810, .inl w23)), ((a_t 20), .inl (g.2.2.1 0, 8, .inl t_row))]) (wr := []) (runV (As := []) (rest := []) cx hl.1 (ctX8_becomesRow l g H.size a_t t_acted t_taped t_faultKind t_faultPlace t_at t_begin t_token t_value t_bad t_wide t_lost t_det t_mask t_mode t_wanted t_orders t_foundAt t_foundBy t_unlikes t_mem t_past t_row r20 w21 w22 w23 hr19) kmX8_becomesRow kvX8_becomesRow lm_X8_434 ⟨rfl, rfl⟩ ⟨Nat.le_of_ble_eq_true rfl, Nat.le_of_ble_eq_true rfl⟩ (rwV (q0 := 0) (ci := 7) hG (hP.sub [0, 1, 2, 3] rfl) (hD.sub [0, 1, 2, 3] (by decide) rfl) hAb hb0 hS hP rfl rfl) rfl rfl (Nat.le_of_ble_eq_true rfl) dX8_upset_61 ⟨Nat.le_of_ble_eq_true rfl, Nat.le_of_ble_eq_true rfl⟩) hP hD hS hA [0, 1, 2, 3] [] rfl rfl (by decide) (by decide) (fun _ => rfl) (fun u24 H locs hP hD hS => ?_)
        have hG := hGk hS
        exact hrt (fun _ => 0) _ _ r20 w21 w22 w23 t_row t_wide t_lost _ _ dX8_upset_64 h (hP.sub [0, 1, 2, 3] rfl) (hD.sub [0, 1, 2, 3] (by decide) rfl) hS
      · have h := itn c18 h
        refine lv_bipush (v := -5) hx hb dX8_upset_55 (by decide) ?_
        refine lv_goto (tgt := 64) hx hb dX8_upset_57 (by decide) ?_
        exact hrt (fun _ => 0) _ _ ((-5)) t_mem t_acted t_past t_row t_wide t_lost _ _ dX8_upset_64 h (hP.sub [0, 1, 2, 3] rfl) (hD.sub [0, 1, 2, 3] (by decide) rfl) hS
  have w16 : ∀ (n : Nat) (t_mem : Nat → Int32) (t_acted : Int32) (t_past : Nat → Int32) (t_row : Nat → Int32) (t_wide : Int32) (t_lost : Int32) (v1 : Int32) (H : Heap) (locs : List Loc), va_P g.2.1 vwCl [((a_t 0), .inr (7, [.ref (a_t 1), .ref (a_t 2), .int t_acted, .ref (a_t 4), .ref (a_t 5), .ref (a_t 6), .ref (a_t 7), .ref (a_t 8), .ref (a_t 9), .int t_taped, .int t_faultKind, .int t_faultPlace, .int t_at, .int t_begin, .int t_token, .int t_value, .int t_bad, .ref (a_t 18), .ref (a_t 19), .ref (a_t 20), .int t_wide, .int t_lost, .ref (a_t 23), .long t_det, .ref (a_t 25), .int t_mask, .int t_mode, .int t_wanted, .int t_orders, .int t_foundAt, .long t_foundBy, .ref (a_t 32), .ref (a_t 33), .int t_unlikes, .ref (a_t 35), .ref (a_t 36)])), ((a_t 1), .inl (g.2.2.1 0, 27, .inl t_mem)), ((a_t 4), .inl (g.2.2.1 0, 810, .inl t_past)), ((a_t 20), .inl (g.2.2.1 0, 8, .inl t_row))] H → va_D A [((a_t 0), .inr (7, [.ref (a_t 1), .ref (a_t 2), .int t_acted, .ref (a_t 4), .ref (a_t 5), .ref (a_t 6), .ref (a_t 7), .ref (a_t 8), .ref (a_t 9), .int t_taped, .int t_faultKind, .int t_faultPlace, .int t_at, .int t_begin, .int t_token, .int t_value, .int t_bad, .ref (a_t 18), .ref (a_t 19), .ref (a_t 20), .int t_wide, .int t_lost, .ref (a_t 23), .long t_det, .ref (a_t 25), .int t_mask, .int t_mode, .int t_wanted, .int t_orders, .int t_foundAt, .long t_foundBy, .ref (a_t 32), .ref (a_t 33), .int t_unlikes, .ref (a_t 35), .ref (a_t 36)])), ((a_t 1), .inl (g.2.2.1 0, 27, .inl t_mem)), ((a_t 4), .inl (g.2.2.1 0, 810, .inl t_past)), ((a_t 20), .inl (g.2.2.1 0, 8, .inl t_row))] → va_S A s.heap H locs → ∀ (ls : Array Slot), lv_has ls 2 [(0, .ref ((a_t 0))), (1, .int v1)] → fX8_upset_16  n t_mem t_acted t_past t_row t_wide t_lost v1 = some (o, o_t_mem, o_t_acted, o_t_past, o_t_row, o_t_wide, o_t_lost) → W p l e ⟨2, 0, 0, 44⟩ s m args below meth c H locs 0 0 Q (F0 m 16 ls []) := by
    intro n
    induction n with
    | zero => intro t_mem t_acted t_past t_row t_wide t_lost v1 H locs hP hD hS ls hl h; cases (fX8_upset_16_z  t_mem t_acted t_past t_row t_wide t_lost v1).symm.trans h
    | succ n ih =>
    intro t_mem t_acted t_past t_row t_wide t_lost v1 H locs hP hD hS ls hl h
    have h := (fX8_upset_16_s  n t_mem t_acted t_past t_row t_wide t_lost v1).symm.trans h
    have hG := hGk hS
    refine lv_iload_n hx hb dX8_upset_16 rfl (lv_at hl 1 rfl) ?_
    refine lv_aload_n hx hb dX8_upset_17 rfl (lv_at hl 0 rfl) ?_
    refine xa_get (C := RX8) (T := TX8) (N := 36) cx hG hP 0 rfl rfl uX8 20 (by decide) lf_X8_206 rfl dX8_upset_18 ?_
    refine lv_icmp_ge (tgt := 41) hx hb dX8_upset_21 (by decide) (fun c10 => ?_) (fun c10 => ?_)
    · have h := itp c10 h
      exact w41 t_mem t_acted t_past t_row t_wide t_lost _ _ hP hD hS _ (lv_sub hl [0] rfl) h
    · have h := itn c10 h
      refine lv_aload_n hx hb dX8_upset_24 rfl (lv_at hl 0 rfl) ?_
      refine xa_get (C := RX8) (T := TX8) (N := 36) cx hG hP 0 rfl rfl uX8 19 (by decide) lf_X8_57 rfl dX8_upset_25 ?_
      refine lv_iload_n hx hb dX8_upset_28 rfl (lv_at hl 1 rfl) ?_
      refine lv_aload_n hx hb dX8_upset_29 rfl (lv_at hl 0 rfl) ?_
      refine lv_iload_n hx hb dX8_upset_30 rfl (lv_at hl 1 rfl) ?_
      obtain ⟨r11, hr12, h⟩ := bnd h
      refine ro_i (runV (As := [.int v1]) (rest := [.int v1, .ref ((a_t 20))]) cx hl.1 (ctX8_upsetAt l g a_t t_acted t_taped t_faultKind t_faultPlace t_at t_begin t_token t_value t_bad t_wide t_lost t_det t_mask t_mode t_wanted t_orders t_foundAt t_foundBy t_unlikes t_mem v1 r11 hr12) kmX8_upsetAt kvX8_upsetAt lm_X8_419 ⟨rfl, rfl⟩ ⟨Nat.le_of_ble_eq_true rfl, Nat.le_of_ble_eq_true rfl⟩ (roV (q0 := 0) (ci := 7) hG (hP.sub [0, 1] rfl) hP rfl rfl) rfl rfl (Nat.le_of_ble_eq_true rfl) dX8_upset_31 ⟨Nat.le_of_ble_eq_true rfl, Nat.le_of_ble_eq_true rfl⟩) ?_
      obtain ⟨hi13, h⟩ := chk_out h
      refine xw_iast (ws' := [((a_t 0), .inr (7, [.ref (a_t 1), .ref (a_t 2), .int t_acted, .ref (a_t 4), .ref (a_t 5), .ref (a_t 6), .ref (a_t 7), .ref (a_t 8), .ref (a_t 9), .int t_taped, .int t_faultKind, .int t_faultPlace, .int t_at, .int t_begin, .int t_token, .int t_value, .int t_bad, .ref (a_t 18), .ref (a_t 19), .ref (a_t 20), .int t_wide, .int t_lost, .ref (a_t 23), .long t_det, .ref (a_t 25), .int t_mask, .int t_mode, .int t_wanted, .int t_orders, .int t_foundAt, .long t_foundBy, .ref (a_t 32), .ref (a_t 33), .int t_unlikes, .ref (a_t 35), .ref (a_t 36)])), ((a_t 1), .inl (g.2.2.1 0, 27, .inl t_mem)), ((a_t 4), .inl (g.2.2.1 0, 810, .inl t_past)), ((a_t 20), .inl (g.2.2.1 0, 8, .inl (upd t_row v1.toNatClampNeg r11)))]) (k := v1.toNatClampNeg) cx hG hP hD hS 3 rfl hi13 rfl rfl dX8_upset_34 (fun H locs hP hD hS => ?_)
      have hG := hGk hS
      refine lv_iinc (v := v1 + 1) (lv' := [(1, .int (v1 + 1)), (0, .ref ((a_t 0)))]) hx hb dX8_upset_35 hl (k := 1) rfl rfl (by decide) rfl (fun ls hl => ?_)
      refine lv_goto (tgt := 16) hx hb dX8_upset_38 (by decide) ?_
      exact ih t_mem t_acted t_past (upd t_row v1.toNatClampNeg r11) t_wide t_lost (v1 + 1) _ _ hP hD hS _ (lv_sub hl [1, 0] rfl) h
  unfold fX8_upset at h
  refine lv_aload_n hx hb dX8_upset_0 rfl (lv_at hl 0 rfl) ?_
  obtain ⟨r1, hr2, h⟩ := bnd h
  refine ro_z (runV (As := []) (rest := []) cx hl.1 (ctX8_is l g a_t t_acted t_taped t_faultKind t_faultPlace t_at t_begin t_token t_value t_bad t_wide t_lost t_det t_mask t_mode t_wanted t_orders t_foundAt t_foundBy t_unlikes t_mem r1 hr2) kmX8_is kvX8_is lm_X8_236 ⟨rfl, rfl⟩ ⟨Nat.le_of_ble_eq_true rfl, Nat.le_of_ble_eq_true rfl⟩ (roV (q0 := 0) (ci := 7) hG (hP.sub [0, 1] rfl) hP rfl rfl) rfl rfl (Nat.le_of_ble_eq_true rfl) dX8_upset_1 ⟨Nat.le_of_ble_eq_true rfl, Nat.le_of_ble_eq_true rfl⟩) (fun hz3 => ?_)
  refine lv_if_ne (tgt := 10) hx hb dX8_upset_4 (by decide) (fun c4 => ?_) (fun c4 => ?_)
  · have h := itn c4 h
    refine lv_aload_n hx hb dX8_upset_10 rfl (lv_at hl 0 rfl) ?_
    obtain ⟨w6, w7, w8, hr5, h⟩ := ob3_out h
    refine rw_v (WN := fun u9 => [((a_t 4), .inl (g.2.2.1 0, 810, .inl t_past)), ((a_t 0), .inr (7, [.ref (a_t 1), .ref (a_t 2), .int t_acted, .ref (a_t 4), .ref (a_t 5), .ref (a_t 6), .ref (a_t 7), .ref (a_t 8), .ref (a_t 9), .int t_taped, .int t_faultKind, .int t_faultPlace, .int t_at, .int t_begin, .int t_token, .int t_value, .int t_bad, .ref (a_t 18), .ref (a_t 19), .ref (a_t 20), .int w7, .int w8, .ref (a_t 23), .long t_det, .ref (a_t 25), .int t_mask, .int t_mode, .int t_wanted, .int t_orders, .int t_foundAt, .long t_foundBy, .ref (a_t 32), .ref (a_t 33), .int t_unlikes, .ref (a_t 35), .ref (a_t 36)])), ((a_t 1), .inl (g.2.2.1 0, 27, .inl t_mem)), ((a_t 20), .inl (g.2.2.1 0, 8, .inl w6))]) (wr := [((a_t 4), .inl (g.2.2.1 0, 810, .inl t_past))]) (runV (As := []) (rest := []) cx hl.1 (ctX8_laysPlate l g s.heap.size a_t t_acted t_taped t_faultKind t_faultPlace t_at t_begin t_token t_value t_bad t_wide t_lost t_det t_mask t_mode t_wanted t_orders t_foundAt t_foundBy t_unlikes t_mem t_row w6 w7 w8 hr5) kmX8_laysPlate kvX8_laysPlate lm_X8_243 ⟨rfl, rfl⟩ ⟨Nat.le_of_ble_eq_true rfl, Nat.le_of_ble_eq_true rfl⟩ (rwV (q0 := 0) (ci := 7) hG (hP.sub [0, 1, 3] rfl) (hD.sub [0, 1, 3] (by decide) rfl) hAb hb0 hS hP rfl rfl) rfl rfl (Nat.le_of_ble_eq_true rfl) dX8_upset_11 ⟨Nat.le_of_ble_eq_true rfl, Nat.le_of_ble_eq_true rfl⟩) hP hD hS hA [0, 1, 3] [2] rfl rfl (by decide) (by decide) (fun _ => rfl) (fun u9 H locs hP hD hS => ?_)
    have hG := hGk hS
    refine lv_iconst (v := 0) hx hb dX8_upset_14 (by decide) ?_
    refine lv_istore_n (lv' := [(1, .int (0)), (0, .ref ((a_t 0)))]) hx hb dX8_upset_15 rfl hl (by decide) rfl (fun ls hl => ?_)
    exact w16 FU t_mem t_acted t_past w6 w7 w8 0 _ _ (hP.sub [1, 2, 0, 3] rfl) (hD.sub [1, 2, 0, 3] (by decide) rfl) hS _ (lv_sub hl [1, 0] rfl) h
  · have h := itp c4 h
    refine lv_bipush (v := -2) hx hb dX8_upset_7 (by decide) ?_
    exact hrt (fun _ => 0) _ _ ((-2)) t_mem t_acted t_past t_row t_wide t_lost _ _ dX8_upset_9 h (hP.sub [0, 1, 2, 3] rfl) (hD.sub [0, 1, 2, 3] (by decide) rfl) hS
-- X8_image
theorem dX8_image_0 : decode cX8_image 0 = .ok (.aload_n 0, 1) := by decide +kernel
theorem dX8_image_1 : decode cX8_image 1 = .ok (.invokevirtual 236, 3) := by decide +kernel
theorem dX8_image_4 : decode cX8_image 4 = .ok (.ifCond .eq 10, 3) := by decide +kernel
theorem dX8_image_7 : decode cX8_image 7 = .ok (.iload_n 1, 1) := by decide +kernel
theorem dX8_image_8 : decode cX8_image 8 = .ok (.invokestatic 404, 3) := by decide +kernel
theorem dX8_image_11 : decode cX8_image 11 = .ok (.ifCond .ne 6, 3) := by decide +kernel
theorem dX8_image_14 : decode cX8_image 14 = .ok (.bipush (-2), 2) := by decide +kernel
theorem dX8_image_16 : decode cX8_image 16 = .ok (.ireturn, 1) := by decide +kernel
theorem dX8_image_17 : decode cX8_image 17 = .ok (.iconst 0, 1) := by decide +kernel
theorem dX8_image_18 : decode cX8_image 18 = .ok (.istore_n 2, 1) := by decide +kernel
theorem dX8_image_19 : decode cX8_image 19 = .ok (.iload_n 2, 1) := by decide +kernel
theorem dX8_image_20 : decode cX8_image 20 = .ok (.bipush 27, 2) := by decide +kernel
theorem dX8_image_22 : decode cX8_image 22 = .ok (.if_icmp .ge 26, 3) := by decide +kernel
theorem dX8_image_25 : decode cX8_image 25 = .ok (.aload_n 0, 1) := by decide +kernel
theorem dX8_image_26 : decode cX8_image 26 = .ok (.getfield 31, 3) := by decide +kernel
theorem dX8_image_29 : decode cX8_image 29 = .ok (.bipush 27, 2) := by decide +kernel
theorem dX8_image_31 : decode cX8_image 31 = .ok (.iload_n 1, 1) := by decide +kernel
theorem dX8_image_32 : decode cX8_image 32 = .ok (.imul, 1) := by decide +kernel
theorem dX8_image_33 : decode cX8_image 33 = .ok (.iload_n 2, 1) := by decide +kernel
theorem dX8_image_34 : decode cX8_image 34 = .ok (.iadd, 1) := by decide +kernel
theorem dX8_image_35 : decode cX8_image 35 = .ok (.aload_n 0, 1) := by decide +kernel
theorem dX8_image_36 : decode cX8_image 36 = .ok (.getfield 21, 3) := by decide +kernel
theorem dX8_image_39 : decode cX8_image 39 = .ok (.iload_n 2, 1) := by decide +kernel
theorem dX8_image_40 : decode cX8_image 40 = .ok (.iaload, 1) := by decide +kernel
theorem dX8_image_41 : decode cX8_image 41 = .ok (.iastore, 1) := by decide +kernel
theorem dX8_image_42 : decode cX8_image 42 = .ok (.iinc 2 1, 3) := by decide +kernel
theorem dX8_image_45 : decode cX8_image 45 = .ok (.goto (-26), 3) := by decide +kernel
theorem dX8_image_48 : decode cX8_image 48 = .ok (.iconst 0, 1) := by decide +kernel
theorem dX8_image_49 : decode cX8_image 49 = .ok (.istore_n 2, 1) := by decide +kernel
theorem dX8_image_50 : decode cX8_image 50 = .ok (.iload_n 2, 1) := by decide +kernel
theorem dX8_image_51 : decode cX8_image 51 = .ok (.bipush 27, 2) := by decide +kernel
theorem dX8_image_53 : decode cX8_image 53 = .ok (.aload_n 0, 1) := by decide +kernel
theorem dX8_image_54 : decode cX8_image 54 = .ok (.getfield 188, 3) := by decide +kernel
theorem dX8_image_57 : decode cX8_image 57 = .ok (.imul, 1) := by decide +kernel
theorem dX8_image_58 : decode cX8_image 58 = .ok (.if_icmp .ge 27, 3) := by decide +kernel
theorem dX8_image_61 : decode cX8_image 61 = .ok (.aload_n 0, 1) := by decide +kernel
theorem dX8_image_62 : decode cX8_image 62 = .ok (.getfield 37, 3) := by decide +kernel
theorem dX8_image_65 : decode cX8_image 65 = .ok (.sipush 810, 3) := by decide +kernel
theorem dX8_image_68 : decode cX8_image 68 = .ok (.iload_n 1, 1) := by decide +kernel
theorem dX8_image_69 : decode cX8_image 69 = .ok (.imul, 1) := by decide +kernel
theorem dX8_image_70 : decode cX8_image 70 = .ok (.iload_n 2, 1) := by decide +kernel
theorem dX8_image_71 : decode cX8_image 71 = .ok (.iadd, 1) := by decide +kernel
theorem dX8_image_72 : decode cX8_image 72 = .ok (.aload_n 0, 1) := by decide +kernel
theorem dX8_image_73 : decode cX8_image 73 = .ok (.getfield 28, 3) := by decide +kernel
theorem dX8_image_76 : decode cX8_image 76 = .ok (.iload_n 2, 1) := by decide +kernel
theorem dX8_image_77 : decode cX8_image 77 = .ok (.iaload, 1) := by decide +kernel
theorem dX8_image_78 : decode cX8_image 78 = .ok (.iastore, 1) := by decide +kernel
theorem dX8_image_79 : decode cX8_image 79 = .ok (.iinc 2 1, 3) := by decide +kernel
theorem dX8_image_82 : decode cX8_image 82 = .ok (.goto (-32), 3) := by decide +kernel
theorem dX8_image_85 : decode cX8_image 85 = .ok (.aload_n 0, 1) := by decide +kernel
theorem dX8_image_86 : decode cX8_image 86 = .ok (.getfield 34, 3) := by decide +kernel
theorem dX8_image_89 : decode cX8_image 89 = .ok (.iload_n 1, 1) := by decide +kernel
theorem dX8_image_90 : decode cX8_image 90 = .ok (.aload_n 0, 1) := by decide +kernel
theorem dX8_image_91 : decode cX8_image 91 = .ok (.getfield 188, 3) := by decide +kernel
theorem dX8_image_94 : decode cX8_image 94 = .ok (.iastore, 1) := by decide +kernel
theorem dX8_image_95 : decode cX8_image 95 = .ok (.aload_n 0, 1) := by decide +kernel
theorem dX8_image_96 : decode cX8_image 96 = .ok (.getfield 40, 3) := by decide +kernel
theorem dX8_image_99 : decode cX8_image 99 = .ok (.iload_n 1, 1) := by decide +kernel
theorem dX8_image_100 : decode cX8_image 100 = .ok (.iconst 1, 1) := by decide +kernel
theorem dX8_image_101 : decode cX8_image 101 = .ok (.bastore, 1) := by decide +kernel
theorem dX8_image_102 : decode cX8_image 102 = .ok (.iconst 0, 1) := by decide +kernel
theorem dX8_image_103 : decode cX8_image 103 = .ok (.ireturn, 1) := by decide +kernel
noncomputable def fX8_image_85  (t_acted : Int32) (t_images : Nat → Int32) (t_imageActed : Nat → Int32) (t_imagePast : Nat → Int32) (t_hasImage : Nat → Int32) (v1 : Int32) : Option (Int32 × (Nat → Int32) × (Nat → Int32) × (Nat → Int32) × (Nat → Int32)) := chk 3 v1 (chk 3 v1 (some ((0), t_images, upd t_imageActed v1.toNatClampNeg t_acted, t_imagePast, upd t_hasImage v1.toNatClampNeg (vp_nar .boolean 1))))
noncomputable def fX8_image_50  : Nat → Int32 → (Nat → Int32) → (Nat → Int32) → (Nat → Int32) → (Nat → Int32) → (Nat → Int32) → Int32 → Int32 → Option (Int32 × (Nat → Int32) × (Nat → Int32) × (Nat → Int32) × (Nat → Int32))
  | 0, _, _, _, _, _, _, _, _ => none
  | n + 1, t_acted, t_past, t_images, t_imageActed, t_imagePast, t_hasImage, v1, v2 => (if (27 * t_acted) ≤ v2 then fX8_image_85 t_acted t_images t_imageActed t_imagePast t_hasImage v1 else chk 810 v2 (chk 2430 ((810 * v1) + v2) (fX8_image_50 n t_acted t_past t_images t_imageActed (upd t_imagePast (((810 * v1) + v2).toNatClampNeg) (t_past v2.toNatClampNeg)) t_hasImage v1 (v2 + 1))))
theorem fX8_image_50_z  (t_acted : Int32) (t_past : Nat → Int32) (t_images : Nat → Int32) (t_imageActed : Nat → Int32) (t_imagePast : Nat → Int32) (t_hasImage : Nat → Int32) (v1 : Int32) (v2 : Int32) : fX8_image_50  0 t_acted t_past t_images t_imageActed t_imagePast t_hasImage v1 v2 = none := rfl
theorem fX8_image_50_s  (n : Nat) (t_acted : Int32) (t_past : Nat → Int32) (t_images : Nat → Int32) (t_imageActed : Nat → Int32) (t_imagePast : Nat → Int32) (t_hasImage : Nat → Int32) (v1 : Int32) (v2 : Int32) : fX8_image_50  (n + 1) t_acted t_past t_images t_imageActed t_imagePast t_hasImage v1 v2 = (if (27 * t_acted) ≤ v2 then fX8_image_85 t_acted t_images t_imageActed t_imagePast t_hasImage v1 else chk 810 v2 (chk 2430 ((810 * v1) + v2) (fX8_image_50 n t_acted t_past t_images t_imageActed (upd t_imagePast (((810 * v1) + v2).toNatClampNeg) (t_past v2.toNatClampNeg)) t_hasImage v1 (v2 + 1)))) := rfl
noncomputable def fX8_image_48  (t_acted : Int32) (t_past : Nat → Int32) (t_images : Nat → Int32) (t_imageActed : Nat → Int32) (t_imagePast : Nat → Int32) (t_hasImage : Nat → Int32) (v1 : Int32) : Option (Int32 × (Nat → Int32) × (Nat → Int32) × (Nat → Int32) × (Nat → Int32)) := fX8_image_50 FU t_acted t_past t_images t_imageActed t_imagePast t_hasImage v1 0
noncomputable def fX8_image_19  : Nat → (Nat → Int32) → Int32 → (Nat → Int32) → (Nat → Int32) → (Nat → Int32) → (Nat → Int32) → (Nat → Int32) → Int32 → Int32 → Option (Int32 × (Nat → Int32) × (Nat → Int32) × (Nat → Int32) × (Nat → Int32))
  | 0, _, _, _, _, _, _, _, _, _ => none
  | n + 1, t_mem, t_acted, t_past, t_images, t_imageActed, t_imagePast, t_hasImage, v1, v2 => (if 27 ≤ v2 then fX8_image_48 t_acted t_past t_images t_imageActed t_imagePast t_hasImage v1 else chk 27 v2 (chk 81 ((27 * v1) + v2) (fX8_image_19 n t_mem t_acted t_past (upd t_images (((27 * v1) + v2).toNatClampNeg) (t_mem v2.toNatClampNeg)) t_imageActed t_imagePast t_hasImage v1 (v2 + 1))))
theorem fX8_image_19_z  (t_mem : Nat → Int32) (t_acted : Int32) (t_past : Nat → Int32) (t_images : Nat → Int32) (t_imageActed : Nat → Int32) (t_imagePast : Nat → Int32) (t_hasImage : Nat → Int32) (v1 : Int32) (v2 : Int32) : fX8_image_19  0 t_mem t_acted t_past t_images t_imageActed t_imagePast t_hasImage v1 v2 = none := rfl
theorem fX8_image_19_s  (n : Nat) (t_mem : Nat → Int32) (t_acted : Int32) (t_past : Nat → Int32) (t_images : Nat → Int32) (t_imageActed : Nat → Int32) (t_imagePast : Nat → Int32) (t_hasImage : Nat → Int32) (v1 : Int32) (v2 : Int32) : fX8_image_19  (n + 1) t_mem t_acted t_past t_images t_imageActed t_imagePast t_hasImage v1 v2 = (if 27 ≤ v2 then fX8_image_48 t_acted t_past t_images t_imageActed t_imagePast t_hasImage v1 else chk 27 v2 (chk 81 ((27 * v1) + v2) (fX8_image_19 n t_mem t_acted t_past (upd t_images (((27 * v1) + v2).toNatClampNeg) (t_mem v2.toNatClampNeg)) t_imageActed t_imagePast t_hasImage v1 (v2 + 1)))) := rfl
noncomputable def fX8_image  (t_mem : Nat → Int32) (t_acted : Int32) (t_past : Nat → Int32) (t_images : Nat → Int32) (t_imageActed : Nat → Int32) (t_imagePast : Nat → Int32) (t_hasImage : Nat → Int32) (v1 : Int32) : Option (Int32 × (Nat → Int32) × (Nat → Int32) × (Nat → Int32) × (Nat → Int32)) := (fX8_is t_mem).bind fun r1 => (if r1 = 0 then some ((-2), t_images, t_imageActed, t_imagePast, t_hasImage) else (if (fX8_isImage v1) = 0 then some ((-2), t_images, t_imageActed, t_imagePast, t_hasImage) else fX8_image_19 FU t_mem t_acted t_past t_images t_imageActed t_imagePast t_hasImage v1 0))
set_option maxHeartbeats 4000000 in
set_option maxRecDepth 100000 in
theorem ctX8_image (l : Launch) (g : GT) (sz : Nat) (a_t : Nat → Nat) (t_acted : Int32) (t_taped : Int32) (t_faultKind : Int32) (t_faultPlace : Int32) (t_at : Int32) (t_begin : Int32) (t_token : Int32) (t_value : Int32) (t_bad : Int32) (t_wide : Int32) (t_lost : Int32) (t_det : Int64) (t_mask : Int32) (t_mode : Int32) (t_wanted : Int32) (t_orders : Int32) (t_foundAt : Int32) (t_foundBy : Int64) (t_unlikes : Int32) (t_mem : Nat → Int32) (t_past : Nat → Int32) (t_images : Nat → Int32) (t_imageActed : Nat → Int32) (t_imagePast : Nat → Int32) (t_hasImage : Nat → Int32) (v1 : Int32) (o : Int32) (o_t_images : Nat → Int32) (o_t_imageActed : Nat → Int32) (o_t_imagePast : Nat → Int32) (o_t_hasImage : Nat → Int32) (h : fX8_image t_mem t_acted t_past t_images t_imageActed t_imagePast t_hasImage v1 = some (o, o_t_images, o_t_imageActed, o_t_imagePast, o_t_hasImage)) : Met l yX8_image (Cond.code yX8_image cX8_image 3 (some .int) :: Tw) ⟨2, 0, 0, 45⟩ (va_Pc [.ref ((a_t 0)), .int v1] (rwB g [((a_t 0), .inr (7, [.ref (a_t 1), .ref (a_t 2), .int t_acted, .ref (a_t 4), .ref (a_t 5), .ref (a_t 6), .ref (a_t 7), .ref (a_t 8), .ref (a_t 9), .int t_taped, .int t_faultKind, .int t_faultPlace, .int t_at, .int t_begin, .int t_token, .int t_value, .int t_bad, .ref (a_t 18), .ref (a_t 19), .ref (a_t 20), .int t_wide, .int t_lost, .ref (a_t 23), .long t_det, .ref (a_t 25), .int t_mask, .int t_mode, .int t_wanted, .int t_orders, .int t_foundAt, .long t_foundBy, .ref (a_t 32), .ref (a_t 33), .int t_unlikes, .ref (a_t 35), .ref (a_t 36)])), ((a_t 1), .inl (g.2.2.1 0, 27, .inl t_mem)), ((a_t 4), .inl (g.2.2.1 0, 810, .inl t_past)), ((a_t 5), .inl (g.2.2.1 0, 81, .inl t_images)), ((a_t 6), .inl (g.2.2.1 0, 3, .inl t_imageActed)), ((a_t 7), .inl (g.2.2.1 0, 2430, .inl t_imagePast)), ((a_t 8), .inl (g.2.2.1 3, 3, .inl t_hasImage))] sz)) (va_Qi (fun x (_ : Nat → Nat) => x = o) (fun u => rwE g (va_A [((a_t 0), .inr (7, [.ref (a_t 1), .ref (a_t 2), .int t_acted, .ref (a_t 4), .ref (a_t 5), .ref (a_t 6), .ref (a_t 7), .ref (a_t 8), .ref (a_t 9), .int t_taped, .int t_faultKind, .int t_faultPlace, .int t_at, .int t_begin, .int t_token, .int t_value, .int t_bad, .ref (a_t 18), .ref (a_t 19), .ref (a_t 20), .int t_wide, .int t_lost, .ref (a_t 23), .long t_det, .ref (a_t 25), .int t_mask, .int t_mode, .int t_wanted, .int t_orders, .int t_foundAt, .long t_foundBy, .ref (a_t 32), .ref (a_t 33), .int t_unlikes, .ref (a_t 35), .ref (a_t 36)])), ((a_t 1), .inl (g.2.2.1 0, 27, .inl t_mem)), ((a_t 4), .inl (g.2.2.1 0, 810, .inl t_past)), ((a_t 5), .inl (g.2.2.1 0, 81, .inl t_images)), ((a_t 6), .inl (g.2.2.1 0, 3, .inl t_imageActed)), ((a_t 7), .inl (g.2.2.1 0, 2430, .inl t_imagePast)), ((a_t 8), .inl (g.2.2.1 3, 3, .inl t_hasImage))] sz) [((a_t 0), .inr (7, [.ref (a_t 1), .ref (a_t 2), .int t_acted, .ref (a_t 4), .ref (a_t 5), .ref (a_t 6), .ref (a_t 7), .ref (a_t 8), .ref (a_t 9), .int t_taped, .int t_faultKind, .int t_faultPlace, .int t_at, .int t_begin, .int t_token, .int t_value, .int t_bad, .ref (a_t 18), .ref (a_t 19), .ref (a_t 20), .int t_wide, .int t_lost, .ref (a_t 23), .long t_det, .ref (a_t 25), .int t_mask, .int t_mode, .int t_wanted, .int t_orders, .int t_foundAt, .long t_foundBy, .ref (a_t 32), .ref (a_t 33), .int t_unlikes, .ref (a_t 35), .ref (a_t 36)])), ((a_t 1), .inl (g.2.2.1 0, 27, .inl t_mem)), ((a_t 4), .inl (g.2.2.1 0, 810, .inl t_past)), ((a_t 5), .inl (g.2.2.1 0, 81, .inl o_t_images)), ((a_t 6), .inl (g.2.2.1 0, 3, .inl o_t_imageActed)), ((a_t 7), .inl (g.2.2.1 0, 2430, .inl o_t_imagePast)), ((a_t 8), .inl (g.2.2.1 3, 3, .inl o_t_hasImage))]) (va_A [((a_t 0), .inr (7, [.ref (a_t 1), .ref (a_t 2), .int t_acted, .ref (a_t 4), .ref (a_t 5), .ref (a_t 6), .ref (a_t 7), .ref (a_t 8), .ref (a_t 9), .int t_taped, .int t_faultKind, .int t_faultPlace, .int t_at, .int t_begin, .int t_token, .int t_value, .int t_bad, .ref (a_t 18), .ref (a_t 19), .ref (a_t 20), .int t_wide, .int t_lost, .ref (a_t 23), .long t_det, .ref (a_t 25), .int t_mask, .int t_mode, .int t_wanted, .int t_orders, .int t_foundAt, .long t_foundBy, .ref (a_t 32), .ref (a_t 33), .int t_unlikes, .ref (a_t 35), .ref (a_t 36)])), ((a_t 1), .inl (g.2.2.1 0, 27, .inl t_mem)), ((a_t 4), .inl (g.2.2.1 0, 810, .inl t_past)), ((a_t 5), .inl (g.2.2.1 0, 81, .inl t_images)), ((a_t 6), .inl (g.2.2.1 0, 3, .inl t_imageActed)), ((a_t 7), .inl (g.2.2.1 0, 2430, .inl t_imagePast)), ((a_t 8), .inl (g.2.2.1 3, 3, .inl t_hasImage))] sz)) 0 0 (va_A [((a_t 0), .inr (7, [.ref (a_t 1), .ref (a_t 2), .int t_acted, .ref (a_t 4), .ref (a_t 5), .ref (a_t 6), .ref (a_t 7), .ref (a_t 8), .ref (a_t 9), .int t_taped, .int t_faultKind, .int t_faultPlace, .int t_at, .int t_begin, .int t_token, .int t_value, .int t_bad, .ref (a_t 18), .ref (a_t 19), .ref (a_t 20), .int t_wide, .int t_lost, .ref (a_t 23), .long t_det, .ref (a_t 25), .int t_mask, .int t_mode, .int t_wanted, .int t_orders, .int t_foundAt, .long t_foundBy, .ref (a_t 32), .ref (a_t 33), .int t_unlikes, .ref (a_t 35), .ref (a_t 36)])), ((a_t 1), .inl (g.2.2.1 0, 27, .inl t_mem)), ((a_t 4), .inl (g.2.2.1 0, 810, .inl t_past)), ((a_t 5), .inl (g.2.2.1 0, 81, .inl t_images)), ((a_t 6), .inl (g.2.2.1 0, 3, .inl t_imageActed)), ((a_t 7), .inl (g.2.2.1 0, 2430, .inl t_imagePast)), ((a_t 8), .inl (g.2.2.1 3, 3, .inl t_hasImage))] sz) := by
  refine rw_meti (by decide) (Nat.le_of_ble_eq_true rfl) (lv0 := [(0, .ref ((a_t 0))), (1, .int v1)]) rfl ?_
  intro p e s m args below meth c ls Q A cx hret hG hAb hb0 hA hP hD hl
  have hx := cx.1
  have hb := cx.2.1
  have hG0 := hG
  have hGk : ∀ {H : Heap} {locs : List Loc}, va_S A s.heap H locs → GE g s H := fun hS => hG0.keptS hAb hS
  have hSb : ∀ {H : Heap} {locs : List Loc}, va_S A s.heap H locs → va_S (fun a => g.1 ≤ a) s.heap H locs := fun hS => ⟨hS.1, fun q h1 h2 => hS.2.1 q h1 (fun z => h2 (hAb q z)), fun l hl => hAb _ (hS.2.2 l hl)⟩
  have hS : va_S A s.heap s.heap [] := va_S.rf
  have hrt : ∀ (u : Nat → Nat) (pc : Nat) (ls : Array Slot) (v : Int32) (x_t_images : Nat → Int32) (x_t_imageActed : Nat → Int32) (x_t_imagePast : Nat → Int32) (x_t_hasImage : Nat → Int32) (H : Heap) (locs : List Loc), decode cX8_image pc = .ok (.ireturn, 1) → some (v, x_t_images, x_t_imageActed, x_t_imagePast, x_t_hasImage) = some (o, o_t_images, o_t_imageActed, o_t_imagePast, o_t_hasImage) → va_P g.2.1 vwCl [((a_t 0), .inr (7, [.ref (a_t 1), .ref (a_t 2), .int t_acted, .ref (a_t 4), .ref (a_t 5), .ref (a_t 6), .ref (a_t 7), .ref (a_t 8), .ref (a_t 9), .int t_taped, .int t_faultKind, .int t_faultPlace, .int t_at, .int t_begin, .int t_token, .int t_value, .int t_bad, .ref (a_t 18), .ref (a_t 19), .ref (a_t 20), .int t_wide, .int t_lost, .ref (a_t 23), .long t_det, .ref (a_t 25), .int t_mask, .int t_mode, .int t_wanted, .int t_orders, .int t_foundAt, .long t_foundBy, .ref (a_t 32), .ref (a_t 33), .int t_unlikes, .ref (a_t 35), .ref (a_t 36)])), ((a_t 1), .inl (g.2.2.1 0, 27, .inl t_mem)), ((a_t 4), .inl (g.2.2.1 0, 810, .inl t_past)), ((a_t 5), .inl (g.2.2.1 0, 81, .inl x_t_images)), ((a_t 6), .inl (g.2.2.1 0, 3, .inl x_t_imageActed)), ((a_t 7), .inl (g.2.2.1 0, 2430, .inl x_t_imagePast)), ((a_t 8), .inl (g.2.2.1 3, 3, .inl x_t_hasImage))] H → va_D A [((a_t 0), .inr (7, [.ref (a_t 1), .ref (a_t 2), .int t_acted, .ref (a_t 4), .ref (a_t 5), .ref (a_t 6), .ref (a_t 7), .ref (a_t 8), .ref (a_t 9), .int t_taped, .int t_faultKind, .int t_faultPlace, .int t_at, .int t_begin, .int t_token, .int t_value, .int t_bad, .ref (a_t 18), .ref (a_t 19), .ref (a_t 20), .int t_wide, .int t_lost, .ref (a_t 23), .long t_det, .ref (a_t 25), .int t_mask, .int t_mode, .int t_wanted, .int t_orders, .int t_foundAt, .long t_foundBy, .ref (a_t 32), .ref (a_t 33), .int t_unlikes, .ref (a_t 35), .ref (a_t 36)])), ((a_t 1), .inl (g.2.2.1 0, 27, .inl t_mem)), ((a_t 4), .inl (g.2.2.1 0, 810, .inl t_past)), ((a_t 5), .inl (g.2.2.1 0, 81, .inl x_t_images)), ((a_t 6), .inl (g.2.2.1 0, 3, .inl x_t_imageActed)), ((a_t 7), .inl (g.2.2.1 0, 2430, .inl x_t_imagePast)), ((a_t 8), .inl (g.2.2.1 3, 3, .inl x_t_hasImage))] → va_S A s.heap H locs → W p l e ⟨2, 0, 0, 45⟩ s m args below meth c H locs 0 0 Q (F0 m pc ls [.int v]) := by
    intro u pc ls v x_t_images x_t_imageActed x_t_imagePast x_t_hasImage H locs hd h hP hD hS
    cases h
    exact hret u _ _ _ _ _ hd rfl hP hD hS
  have w85 : ∀ (t_images : Nat → Int32) (t_imageActed : Nat → Int32) (t_imagePast : Nat → Int32) (t_hasImage : Nat → Int32) (v1 : Int32) (H : Heap) (locs : List Loc), va_P g.2.1 vwCl [((a_t 0), .inr (7, [.ref (a_t 1), .ref (a_t 2), .int t_acted, .ref (a_t 4), .ref (a_t 5), .ref (a_t 6), .ref (a_t 7), .ref (a_t 8), .ref (a_t 9), .int t_taped, .int t_faultKind, .int t_faultPlace, .int t_at, .int t_begin, .int t_token, .int t_value, .int t_bad, .ref (a_t 18), .ref (a_t 19), .ref (a_t 20), .int t_wide, .int t_lost, .ref (a_t 23), .long t_det, .ref (a_t 25), .int t_mask, .int t_mode, .int t_wanted, .int t_orders, .int t_foundAt, .long t_foundBy, .ref (a_t 32), .ref (a_t 33), .int t_unlikes, .ref (a_t 35), .ref (a_t 36)])), ((a_t 1), .inl (g.2.2.1 0, 27, .inl t_mem)), ((a_t 4), .inl (g.2.2.1 0, 810, .inl t_past)), ((a_t 5), .inl (g.2.2.1 0, 81, .inl t_images)), ((a_t 6), .inl (g.2.2.1 0, 3, .inl t_imageActed)), ((a_t 7), .inl (g.2.2.1 0, 2430, .inl t_imagePast)), ((a_t 8), .inl (g.2.2.1 3, 3, .inl t_hasImage))] H → va_D A [((a_t 0), .inr (7, [.ref (a_t 1), .ref (a_t 2), .int t_acted, .ref (a_t 4), .ref (a_t 5), .ref (a_t 6), .ref (a_t 7), .ref (a_t 8), .ref (a_t 9), .int t_taped, .int t_faultKind, .int t_faultPlace, .int t_at, .int t_begin, .int t_token, .int t_value, .int t_bad, .ref (a_t 18), .ref (a_t 19), .ref (a_t 20), .int t_wide, .int t_lost, .ref (a_t 23), .long t_det, .ref (a_t 25), .int t_mask, .int t_mode, .int t_wanted, .int t_orders, .int t_foundAt, .long t_foundBy, .ref (a_t 32), .ref (a_t 33), .int t_unlikes, .ref (a_t 35), .ref (a_t 36)])), ((a_t 1), .inl (g.2.2.1 0, 27, .inl t_mem)), ((a_t 4), .inl (g.2.2.1 0, 810, .inl t_past)), ((a_t 5), .inl (g.2.2.1 0, 81, .inl t_images)), ((a_t 6), .inl (g.2.2.1 0, 3, .inl t_imageActed)), ((a_t 7), .inl (g.2.2.1 0, 2430, .inl t_imagePast)), ((a_t 8), .inl (g.2.2.1 3, 3, .inl t_hasImage))] → va_S A s.heap H locs → ∀ (ls : Array Slot), lv_has ls 3 [(0, .ref ((a_t 0))), (1, .int v1)] → fX8_image_85  t_acted t_images t_imageActed t_imagePast t_hasImage v1 = some (o, o_t_images, o_t_imageActed, o_t_imagePast, o_t_hasImage) → W p l e ⟨2, 0, 0, 45⟩ s m args below meth c H locs 0 0 Q (F0 m 85 ls []) := by
    intro t_images t_imageActed t_imagePast t_hasImage v1 H locs hP hD hS ls hl h
    unfold fX8_image_85 at h
    have hG := hGk hS
    refine lv_aload_n hx hb dX8_image_85 rfl (lv_at hl 0 rfl) ?_
    refine xa_get (C := RX8) (T := TX8) (N := 36) cx hG hP 0 rfl rfl uX8 5 (by decide) lf_X8_34 rfl dX8_image_86 ?_
    refine lv_iload_n hx hb dX8_image_89 rfl (lv_at hl 1 rfl) ?_
    refine lv_aload_n hx hb dX8_image_90 rfl (lv_at hl 0 rfl) ?_
    refine xa_get (C := RX8) (T := TX8) (N := 36) cx hG hP 0 rfl rfl uX8 2 (by decide) lf_X8_188 rfl dX8_image_91 ?_
    obtain ⟨hi13, h⟩ := chk_out h
    refine xw_iast (ws' := [((a_t 0), .inr (7, [.ref (a_t 1), .ref (a_t 2), .int t_acted, .ref (a_t 4), .ref (a_t 5), .ref (a_t 6), .ref (a_t 7), .ref (a_t 8), .ref (a_t 9), .int t_taped, .int t_faultKind, .int t_faultPlace, .int t_at, .int t_begin, .int t_token, .int t_value, .int t_bad, .ref (a_t 18), .ref (a_t 19), .ref (a_t 20), .int t_wide, .int t_lost, .ref (a_t 23), .long t_det, .ref (a_t 25), .int t_mask, .int t_mode, .int t_wanted, .int t_orders, .int t_foundAt, .long t_foundBy, .ref (a_t 32), .ref (a_t 33), .int t_unlikes, .ref (a_t 35), .ref (a_t 36)])), ((a_t 1), .inl (g.2.2.1 0, 27, .inl t_mem)), ((a_t 4), .inl (g.2.2.1 0, 810, .inl t_past)), ((a_t 5), .inl (g.2.2.1 0, 81, .inl t_images)), ((a_t 6), .inl (g.2.2.1 0, 3, .inl (upd t_imageActed v1.toNatClampNeg t_acted))), ((a_t 7), .inl (g.2.2.1 0, 2430, .inl t_imagePast)), ((a_t 8), .inl (g.2.2.1 3, 3, .inl t_hasImage))]) (k := v1.toNatClampNeg) cx hG hP hD hS 4 rfl hi13 rfl rfl dX8_image_94 (fun H locs hP hD hS => ?_)
    have hG := hGk hS
    refine lv_aload_n hx hb dX8_image_95 rfl (lv_at hl 0 rfl) ?_
    refine xa_get (C := RX8) (T := TX8) (N := 36) cx hG hP 0 rfl rfl uX8 7 (by decide) lf_X8_40 rfl dX8_image_96 ?_
    refine lv_iload_n hx hb dX8_image_99 rfl (lv_at hl 1 rfl) ?_
    refine lv_iconst (v := 1) hx hb dX8_image_100 (by decide) ?_
    obtain ⟨hi14, h⟩ := chk_out h
    refine xw_zast (ws' := [((a_t 0), .inr (7, [.ref (a_t 1), .ref (a_t 2), .int t_acted, .ref (a_t 4), .ref (a_t 5), .ref (a_t 6), .ref (a_t 7), .ref (a_t 8), .ref (a_t 9), .int t_taped, .int t_faultKind, .int t_faultPlace, .int t_at, .int t_begin, .int t_token, .int t_value, .int t_bad, .ref (a_t 18), .ref (a_t 19), .ref (a_t 20), .int t_wide, .int t_lost, .ref (a_t 23), .long t_det, .ref (a_t 25), .int t_mask, .int t_mode, .int t_wanted, .int t_orders, .int t_foundAt, .long t_foundBy, .ref (a_t 32), .ref (a_t 33), .int t_unlikes, .ref (a_t 35), .ref (a_t 36)])), ((a_t 1), .inl (g.2.2.1 0, 27, .inl t_mem)), ((a_t 4), .inl (g.2.2.1 0, 810, .inl t_past)), ((a_t 5), .inl (g.2.2.1 0, 81, .inl t_images)), ((a_t 6), .inl (g.2.2.1 0, 3, .inl (upd t_imageActed v1.toNatClampNeg t_acted))), ((a_t 7), .inl (g.2.2.1 0, 2430, .inl t_imagePast)), ((a_t 8), .inl (g.2.2.1 3, 3, .inl (upd t_hasImage v1.toNatClampNeg (vp_nar .boolean 1))))]) (k := v1.toNatClampNeg) cx hG hP hD hS 6 rfl hi14 rfl rfl dX8_image_101 (fun H locs hP hD hS => ?_)
    have hG := hGk hS
    refine lv_iconst (v := 0) hx hb dX8_image_102 (by decide) ?_
    exact hrt (fun _ => 0) _ _ ((0)) t_images (upd t_imageActed v1.toNatClampNeg t_acted) t_imagePast (upd t_hasImage v1.toNatClampNeg (vp_nar .boolean 1)) _ _ dX8_image_103 h (hP.sub [0, 1, 2, 3, 4, 5, 6] rfl) (hD.sub [0, 1, 2, 3, 4, 5, 6] (by decide) rfl) hS
  have w50 : ∀ (n : Nat) (t_images : Nat → Int32) (t_imageActed : Nat → Int32) (t_imagePast : Nat → Int32) (t_hasImage : Nat → Int32) (v1 : Int32) (v2 : Int32) (H : Heap) (locs : List Loc), va_P g.2.1 vwCl [((a_t 0), .inr (7, [.ref (a_t 1), .ref (a_t 2), .int t_acted, .ref (a_t 4), .ref (a_t 5), .ref (a_t 6), .ref (a_t 7), .ref (a_t 8), .ref (a_t 9), .int t_taped, .int t_faultKind, .int t_faultPlace, .int t_at, .int t_begin, .int t_token, .int t_value, .int t_bad, .ref (a_t 18), .ref (a_t 19), .ref (a_t 20), .int t_wide, .int t_lost, .ref (a_t 23), .long t_det, .ref (a_t 25), .int t_mask, .int t_mode, .int t_wanted, .int t_orders, .int t_foundAt, .long t_foundBy, .ref (a_t 32), .ref (a_t 33), .int t_unlikes, .ref (a_t 35), .ref (a_t 36)])), ((a_t 1), .inl (g.2.2.1 0, 27, .inl t_mem)), ((a_t 4), .inl (g.2.2.1 0, 810, .inl t_past)), ((a_t 5), .inl (g.2.2.1 0, 81, .inl t_images)), ((a_t 6), .inl (g.2.2.1 0, 3, .inl t_imageActed)), ((a_t 7), .inl (g.2.2.1 0, 2430, .inl t_imagePast)), ((a_t 8), .inl (g.2.2.1 3, 3, .inl t_hasImage))] H → va_D A [((a_t 0), .inr (7, [.ref (a_t 1), .ref (a_t 2), .int t_acted, .ref (a_t 4), .ref (a_t 5), .ref (a_t 6), .ref (a_t 7), .ref (a_t 8), .ref (a_t 9), .int t_taped, .int t_faultKind, .int t_faultPlace, .int t_at, .int t_begin, .int t_token, .int t_value, .int t_bad, .ref (a_t 18), .ref (a_t 19), .ref (a_t 20), .int t_wide, .int t_lost, .ref (a_t 23), .long t_det, .ref (a_t 25), .int t_mask, .int t_mode, .int t_wanted, .int t_orders, .int t_foundAt, .long t_foundBy, .ref (a_t 32), .ref (a_t 33), .int t_unlikes, .ref (a_t 35), .ref (a_t 36)])), ((a_t 1), .inl (g.2.2.1 0, 27, .inl t_mem)), ((a_t 4), .inl (g.2.2.1 0, 810, .inl t_past)), ((a_t 5), .inl (g.2.2.1 0, 81, .inl t_images)), ((a_t 6), .inl (g.2.2.1 0, 3, .inl t_imageActed)), ((a_t 7), .inl (g.2.2.1 0, 2430, .inl t_imagePast)), ((a_t 8), .inl (g.2.2.1 3, 3, .inl t_hasImage))] → va_S A s.heap H locs → ∀ (ls : Array Slot), lv_has ls 3 [(0, .ref ((a_t 0))), (1, .int v1), (2, .int v2)] → fX8_image_50  n t_acted t_past t_images t_imageActed t_imagePast t_hasImage v1 v2 = some (o, o_t_images, o_t_imageActed, o_t_imagePast, o_t_hasImage) → W p l e ⟨2, 0, 0, 45⟩ s m args below meth c H locs 0 0 Q (F0 m 50 ls []) := by
    intro n
    induction n with
    | zero => intro t_images t_imageActed t_imagePast t_hasImage v1 v2 H locs hP hD hS ls hl h; cases (fX8_image_50_z  t_acted t_past t_images t_imageActed t_imagePast t_hasImage v1 v2).symm.trans h
    | succ n ih =>
    intro t_images t_imageActed t_imagePast t_hasImage v1 v2 H locs hP hD hS ls hl h
    have h := (fX8_image_50_s  n t_acted t_past t_images t_imageActed t_imagePast t_hasImage v1 v2).symm.trans h
    have hG := hGk hS
    refine lv_iload_n hx hb dX8_image_50 rfl (lv_at hl 2 rfl) ?_
    refine lv_bipush (v := 27) hx hb dX8_image_51 (by decide) ?_
    refine lv_aload_n hx hb dX8_image_53 rfl (lv_at hl 0 rfl) ?_
    refine xa_get (C := RX8) (T := TX8) (N := 36) cx hG hP 0 rfl rfl uX8 2 (by decide) lf_X8_188 rfl dX8_image_54 ?_
    refine lv_imul hx hb dX8_image_57 ?_
    refine lv_icmp_ge (tgt := 85) hx hb dX8_image_58 (by decide) (fun c10 => ?_) (fun c10 => ?_)
    · have h := itp c10 h
      exact w85 t_images t_imageActed t_imagePast t_hasImage v1 _ _ hP hD hS _ (lv_sub hl [0, 1] rfl) h
    · have h := itn c10 h
      refine lv_aload_n hx hb dX8_image_61 rfl (lv_at hl 0 rfl) ?_
      refine xa_get (C := RX8) (T := TX8) (N := 36) cx hG hP 0 rfl rfl uX8 6 (by decide) lf_X8_37 rfl dX8_image_62 ?_
      refine lv_sipush (v := 810) hx hb dX8_image_65 (by decide) ?_
      refine lv_iload_n hx hb dX8_image_68 rfl (lv_at hl 1 rfl) ?_
      refine lv_imul hx hb dX8_image_69 ?_
      refine lv_iload_n hx hb dX8_image_70 rfl (lv_at hl 2 rfl) ?_
      refine lv_iadd hx hb dX8_image_71 ?_
      refine lv_aload_n hx hb dX8_image_72 rfl (lv_at hl 0 rfl) ?_
      refine xa_get (C := RX8) (T := TX8) (N := 36) cx hG hP 0 rfl rfl uX8 3 (by decide) lf_X8_28 rfl dX8_image_73 ?_
      refine lv_iload_n hx hb dX8_image_76 rfl (lv_at hl 2 rfl) ?_
      obtain ⟨hi11, h⟩ := chk_out h
      refine xa_iald cx hG hP 2 rfl hi11 rfl dX8_image_77 ?_
      obtain ⟨hi12, h⟩ := chk_out h
      refine xw_iast (ws' := [((a_t 0), .inr (7, [.ref (a_t 1), .ref (a_t 2), .int t_acted, .ref (a_t 4), .ref (a_t 5), .ref (a_t 6), .ref (a_t 7), .ref (a_t 8), .ref (a_t 9), .int t_taped, .int t_faultKind, .int t_faultPlace, .int t_at, .int t_begin, .int t_token, .int t_value, .int t_bad, .ref (a_t 18), .ref (a_t 19), .ref (a_t 20), .int t_wide, .int t_lost, .ref (a_t 23), .long t_det, .ref (a_t 25), .int t_mask, .int t_mode, .int t_wanted, .int t_orders, .int t_foundAt, .long t_foundBy, .ref (a_t 32), .ref (a_t 33), .int t_unlikes, .ref (a_t 35), .ref (a_t 36)])), ((a_t 1), .inl (g.2.2.1 0, 27, .inl t_mem)), ((a_t 4), .inl (g.2.2.1 0, 810, .inl t_past)), ((a_t 5), .inl (g.2.2.1 0, 81, .inl t_images)), ((a_t 6), .inl (g.2.2.1 0, 3, .inl t_imageActed)), ((a_t 7), .inl (g.2.2.1 0, 2430, .inl (upd t_imagePast (((810 * v1) + v2).toNatClampNeg) (t_past v2.toNatClampNeg)))), ((a_t 8), .inl (g.2.2.1 3, 3, .inl t_hasImage))]) (k := (((810 * v1) + v2).toNatClampNeg)) cx hG hP hD hS 5 rfl hi12 rfl rfl dX8_image_78 (fun H locs hP hD hS => ?_)
      have hG := hGk hS
      refine lv_iinc (v := v2 + 1) (lv' := [(2, .int (v2 + 1)), (0, .ref ((a_t 0))), (1, .int v1)]) hx hb dX8_image_79 hl (k := 2) rfl rfl (by decide) rfl (fun ls hl => ?_)
      refine lv_goto (tgt := 50) hx hb dX8_image_82 (by decide) ?_
      exact ih t_images t_imageActed (upd t_imagePast (((810 * v1) + v2).toNatClampNeg) (t_past v2.toNatClampNeg)) t_hasImage v1 (v2 + 1) _ _ hP hD hS _ (lv_sub hl [1, 2, 0] rfl) h
  have w48 : ∀ (t_images : Nat → Int32) (t_imageActed : Nat → Int32) (t_imagePast : Nat → Int32) (t_hasImage : Nat → Int32) (v1 : Int32) (H : Heap) (locs : List Loc), va_P g.2.1 vwCl [((a_t 0), .inr (7, [.ref (a_t 1), .ref (a_t 2), .int t_acted, .ref (a_t 4), .ref (a_t 5), .ref (a_t 6), .ref (a_t 7), .ref (a_t 8), .ref (a_t 9), .int t_taped, .int t_faultKind, .int t_faultPlace, .int t_at, .int t_begin, .int t_token, .int t_value, .int t_bad, .ref (a_t 18), .ref (a_t 19), .ref (a_t 20), .int t_wide, .int t_lost, .ref (a_t 23), .long t_det, .ref (a_t 25), .int t_mask, .int t_mode, .int t_wanted, .int t_orders, .int t_foundAt, .long t_foundBy, .ref (a_t 32), .ref (a_t 33), .int t_unlikes, .ref (a_t 35), .ref (a_t 36)])), ((a_t 1), .inl (g.2.2.1 0, 27, .inl t_mem)), ((a_t 4), .inl (g.2.2.1 0, 810, .inl t_past)), ((a_t 5), .inl (g.2.2.1 0, 81, .inl t_images)), ((a_t 6), .inl (g.2.2.1 0, 3, .inl t_imageActed)), ((a_t 7), .inl (g.2.2.1 0, 2430, .inl t_imagePast)), ((a_t 8), .inl (g.2.2.1 3, 3, .inl t_hasImage))] H → va_D A [((a_t 0), .inr (7, [.ref (a_t 1), .ref (a_t 2), .int t_acted, .ref (a_t 4), .ref (a_t 5), .ref (a_t 6), .ref (a_t 7), .ref (a_t 8), .ref (a_t 9), .int t_taped, .int t_faultKind, .int t_faultPlace, .int t_at, .int t_begin, .int t_token, .int t_value, .int t_bad, .ref (a_t 18), .ref (a_t 19), .ref (a_t 20), .int t_wide, .int t_lost, .ref (a_t 23), .long t_det, .ref (a_t 25), .int t_mask, .int t_mode, .int t_wanted, .int t_orders, .int t_foundAt, .long t_foundBy, .ref (a_t 32), .ref (a_t 33), .int t_unlikes, .ref (a_t 35), .ref (a_t 36)])), ((a_t 1), .inl (g.2.2.1 0, 27, .inl t_mem)), ((a_t 4), .inl (g.2.2.1 0, 810, .inl t_past)), ((a_t 5), .inl (g.2.2.1 0, 81, .inl t_images)), ((a_t 6), .inl (g.2.2.1 0, 3, .inl t_imageActed)), ((a_t 7), .inl (g.2.2.1 0, 2430, .inl t_imagePast)), ((a_t 8), .inl (g.2.2.1 3, 3, .inl t_hasImage))] → va_S A s.heap H locs → ∀ (ls : Array Slot), lv_has ls 3 [(0, .ref ((a_t 0))), (1, .int v1)] → fX8_image_48  t_acted t_past t_images t_imageActed t_imagePast t_hasImage v1 = some (o, o_t_images, o_t_imageActed, o_t_imagePast, o_t_hasImage) → W p l e ⟨2, 0, 0, 45⟩ s m args below meth c H locs 0 0 Q (F0 m 48 ls []) := by
    intro t_images t_imageActed t_imagePast t_hasImage v1 H locs hP hD hS ls hl h
    unfold fX8_image_48 at h
    have hG := hGk hS
    refine lv_iconst (v := 0) hx hb dX8_image_48 (by decide) ?_
    refine lv_istore_n (lv' := [(2, .int (0)), (0, .ref ((a_t 0))), (1, .int v1)]) hx hb dX8_image_49 rfl hl (by decide) rfl (fun ls hl => ?_)
    exact w50 FU t_images t_imageActed t_imagePast t_hasImage v1 0 _ _ hP hD hS _ (lv_sub hl [1, 2, 0] rfl) h
  have w19 : ∀ (n : Nat) (t_images : Nat → Int32) (t_imageActed : Nat → Int32) (t_imagePast : Nat → Int32) (t_hasImage : Nat → Int32) (v1 : Int32) (v2 : Int32) (H : Heap) (locs : List Loc), va_P g.2.1 vwCl [((a_t 0), .inr (7, [.ref (a_t 1), .ref (a_t 2), .int t_acted, .ref (a_t 4), .ref (a_t 5), .ref (a_t 6), .ref (a_t 7), .ref (a_t 8), .ref (a_t 9), .int t_taped, .int t_faultKind, .int t_faultPlace, .int t_at, .int t_begin, .int t_token, .int t_value, .int t_bad, .ref (a_t 18), .ref (a_t 19), .ref (a_t 20), .int t_wide, .int t_lost, .ref (a_t 23), .long t_det, .ref (a_t 25), .int t_mask, .int t_mode, .int t_wanted, .int t_orders, .int t_foundAt, .long t_foundBy, .ref (a_t 32), .ref (a_t 33), .int t_unlikes, .ref (a_t 35), .ref (a_t 36)])), ((a_t 1), .inl (g.2.2.1 0, 27, .inl t_mem)), ((a_t 4), .inl (g.2.2.1 0, 810, .inl t_past)), ((a_t 5), .inl (g.2.2.1 0, 81, .inl t_images)), ((a_t 6), .inl (g.2.2.1 0, 3, .inl t_imageActed)), ((a_t 7), .inl (g.2.2.1 0, 2430, .inl t_imagePast)), ((a_t 8), .inl (g.2.2.1 3, 3, .inl t_hasImage))] H → va_D A [((a_t 0), .inr (7, [.ref (a_t 1), .ref (a_t 2), .int t_acted, .ref (a_t 4), .ref (a_t 5), .ref (a_t 6), .ref (a_t 7), .ref (a_t 8), .ref (a_t 9), .int t_taped, .int t_faultKind, .int t_faultPlace, .int t_at, .int t_begin, .int t_token, .int t_value, .int t_bad, .ref (a_t 18), .ref (a_t 19), .ref (a_t 20), .int t_wide, .int t_lost, .ref (a_t 23), .long t_det, .ref (a_t 25), .int t_mask, .int t_mode, .int t_wanted, .int t_orders, .int t_foundAt, .long t_foundBy, .ref (a_t 32), .ref (a_t 33), .int t_unlikes, .ref (a_t 35), .ref (a_t 36)])), ((a_t 1), .inl (g.2.2.1 0, 27, .inl t_mem)), ((a_t 4), .inl (g.2.2.1 0, 810, .inl t_past)), ((a_t 5), .inl (g.2.2.1 0, 81, .inl t_images)), ((a_t 6), .inl (g.2.2.1 0, 3, .inl t_imageActed)), ((a_t 7), .inl (g.2.2.1 0, 2430, .inl t_imagePast)), ((a_t 8), .inl (g.2.2.1 3, 3, .inl t_hasImage))] → va_S A s.heap H locs → ∀ (ls : Array Slot), lv_has ls 3 [(0, .ref ((a_t 0))), (1, .int v1), (2, .int v2)] → fX8_image_19  n t_mem t_acted t_past t_images t_imageActed t_imagePast t_hasImage v1 v2 = some (o, o_t_images, o_t_imageActed, o_t_imagePast, o_t_hasImage) → W p l e ⟨2, 0, 0, 45⟩ s m args below meth c H locs 0 0 Q (F0 m 19 ls []) := by
    intro n
    induction n with
    | zero => intro t_images t_imageActed t_imagePast t_hasImage v1 v2 H locs hP hD hS ls hl h; cases (fX8_image_19_z  t_mem t_acted t_past t_images t_imageActed t_imagePast t_hasImage v1 v2).symm.trans h
    | succ n ih =>
    intro t_images t_imageActed t_imagePast t_hasImage v1 v2 H locs hP hD hS ls hl h
    have h := (fX8_image_19_s  n t_mem t_acted t_past t_images t_imageActed t_imagePast t_hasImage v1 v2).symm.trans h
    have hG := hGk hS
    refine lv_iload_n hx hb dX8_image_19 rfl (lv_at hl 2 rfl) ?_
    refine lv_bipush (v := 27) hx hb dX8_image_20 (by decide) ?_
    refine lv_icmp_ge (tgt := 48) hx hb dX8_image_22 (by decide) (fun c7 => ?_) (fun c7 => ?_)
    · have h := itp c7 h
      exact w48 t_images t_imageActed t_imagePast t_hasImage v1 _ _ hP hD hS _ (lv_sub hl [0, 1] rfl) h
    · have h := itn c7 h
      refine lv_aload_n hx hb dX8_image_25 rfl (lv_at hl 0 rfl) ?_
      refine xa_get (C := RX8) (T := TX8) (N := 36) cx hG hP 0 rfl rfl uX8 4 (by decide) lf_X8_31 rfl dX8_image_26 ?_
      refine lv_bipush (v := 27) hx hb dX8_image_29 (by decide) ?_
      refine lv_iload_n hx hb dX8_image_31 rfl (lv_at hl 1 rfl) ?_
      refine lv_imul hx hb dX8_image_32 ?_
      refine lv_iload_n hx hb dX8_image_33 rfl (lv_at hl 2 rfl) ?_
      refine lv_iadd hx hb dX8_image_34 ?_
      refine lv_aload_n hx hb dX8_image_35 rfl (lv_at hl 0 rfl) ?_
      refine xa_get (C := RX8) (T := TX8) (N := 36) cx hG hP 0 rfl rfl uX8 0 (by decide) lf_X8_21 rfl dX8_image_36 ?_
      refine lv_iload_n hx hb dX8_image_39 rfl (lv_at hl 2 rfl) ?_
      obtain ⟨hi8, h⟩ := chk_out h
      refine xa_iald cx hG hP 1 rfl hi8 rfl dX8_image_40 ?_
      obtain ⟨hi9, h⟩ := chk_out h
      refine xw_iast (ws' := [((a_t 0), .inr (7, [.ref (a_t 1), .ref (a_t 2), .int t_acted, .ref (a_t 4), .ref (a_t 5), .ref (a_t 6), .ref (a_t 7), .ref (a_t 8), .ref (a_t 9), .int t_taped, .int t_faultKind, .int t_faultPlace, .int t_at, .int t_begin, .int t_token, .int t_value, .int t_bad, .ref (a_t 18), .ref (a_t 19), .ref (a_t 20), .int t_wide, .int t_lost, .ref (a_t 23), .long t_det, .ref (a_t 25), .int t_mask, .int t_mode, .int t_wanted, .int t_orders, .int t_foundAt, .long t_foundBy, .ref (a_t 32), .ref (a_t 33), .int t_unlikes, .ref (a_t 35), .ref (a_t 36)])), ((a_t 1), .inl (g.2.2.1 0, 27, .inl t_mem)), ((a_t 4), .inl (g.2.2.1 0, 810, .inl t_past)), ((a_t 5), .inl (g.2.2.1 0, 81, .inl (upd t_images (((27 * v1) + v2).toNatClampNeg) (t_mem v2.toNatClampNeg)))), ((a_t 6), .inl (g.2.2.1 0, 3, .inl t_imageActed)), ((a_t 7), .inl (g.2.2.1 0, 2430, .inl t_imagePast)), ((a_t 8), .inl (g.2.2.1 3, 3, .inl t_hasImage))]) (k := (((27 * v1) + v2).toNatClampNeg)) cx hG hP hD hS 3 rfl hi9 rfl rfl dX8_image_41 (fun H locs hP hD hS => ?_)
      have hG := hGk hS
      refine lv_iinc (v := v2 + 1) (lv' := [(2, .int (v2 + 1)), (0, .ref ((a_t 0))), (1, .int v1)]) hx hb dX8_image_42 hl (k := 2) rfl rfl (by decide) rfl (fun ls hl => ?_)
      refine lv_goto (tgt := 19) hx hb dX8_image_45 (by decide) ?_
      exact ih (upd t_images (((27 * v1) + v2).toNatClampNeg) (t_mem v2.toNatClampNeg)) t_imageActed t_imagePast t_hasImage v1 (v2 + 1) _ _ hP hD hS _ (lv_sub hl [1, 2, 0] rfl) h
  unfold fX8_image at h
  refine lv_aload_n hx hb dX8_image_0 rfl (lv_at hl 0 rfl) ?_
  obtain ⟨r1, hr2, h⟩ := bnd h
  refine ro_z (runV (As := []) (rest := []) cx hl.1 (ctX8_is l g a_t t_acted t_taped t_faultKind t_faultPlace t_at t_begin t_token t_value t_bad t_wide t_lost t_det t_mask t_mode t_wanted t_orders t_foundAt t_foundBy t_unlikes t_mem r1 hr2) kmX8_is kvX8_is lm_X8_236 ⟨rfl, rfl⟩ ⟨Nat.le_of_ble_eq_true rfl, Nat.le_of_ble_eq_true rfl⟩ (roV (q0 := 0) (ci := 7) hG (hP.sub [0, 1] rfl) hP rfl rfl) rfl rfl (Nat.le_of_ble_eq_true rfl) dX8_image_1 ⟨Nat.le_of_ble_eq_true rfl, Nat.le_of_ble_eq_true rfl⟩) (fun hz3 => ?_)
  refine lv_if_eq (tgt := 14) hx hb dX8_image_4 (by decide) (fun c4 => ?_) (fun c4 => ?_)
  · have h := itp c4 h
    refine lv_bipush (v := -2) hx hb dX8_image_14 (by decide) ?_
    exact hrt (fun _ => 0) _ _ ((-2)) t_images t_imageActed t_imagePast t_hasImage _ _ dX8_image_16 h (hP.sub [0, 1, 2, 3, 4, 5, 6] rfl) (hD.sub [0, 1, 2, 3, 4, 5, 6] (by decide) rfl) hS
  · have h := itn c4 h
    refine lv_iload_n hx hb dX8_image_7 rfl (lv_at hl 1 rfl) ?_
    refine ro_z (runS (As := [.int v1]) (rest := []) cx hl.1 (ctX8_isImage l g v1 (fX8_isImage v1) rfl) kmX8_isImage ksX8_isImage lm_X8_404 ⟨rfl, rfl⟩ ⟨Nat.le_of_ble_eq_true rfl, Nat.le_of_ble_eq_true rfl⟩ (roS hG (hP.sub [] rfl)) rfl rfl (Nat.le_of_ble_eq_true rfl) dX8_image_8 ⟨Nat.le_of_ble_eq_true rfl, Nat.le_of_ble_eq_true rfl⟩) (fun hz5 => ?_)
    refine lv_if_ne (tgt := 17) hx hb dX8_image_11 (by decide) (fun c6 => ?_) (fun c6 => ?_)
    · have h := itn c6 h
      refine lv_iconst (v := 0) hx hb dX8_image_17 (by decide) ?_
      refine lv_istore_n (lv' := [(2, .int (0)), (0, .ref ((a_t 0))), (1, .int v1)]) hx hb dX8_image_18 rfl hl (by decide) rfl (fun ls hl => ?_)
      exact w19 FU t_images t_imageActed t_imagePast t_hasImage v1 0 _ _ hP hD hS _ (lv_sub hl [1, 2, 0] rfl) h
    · have h := itp c6 h
      refine lv_bipush (v := -2) hx hb dX8_image_14 (by decide) ?_
      exact hrt (fun _ => 0) _ _ ((-2)) t_images t_imageActed t_imagePast t_hasImage _ _ dX8_image_16 h (hP.sub [0, 1, 2, 3, 4, 5, 6] rfl) (hD.sub [0, 1, 2, 3, 4, 5, 6] (by decide) rfl) hS
-- X8_back
theorem dX8_back_0 : decode cX8_back 0 = .ok (.iload_n 1, 1) := by decide +kernel
theorem dX8_back_1 : decode cX8_back 1 = .ok (.invokestatic 404, 3) := by decide +kernel
theorem dX8_back_4 : decode cX8_back 4 = .ok (.ifCond .ne 6, 3) := by decide +kernel
theorem dX8_back_7 : decode cX8_back 7 = .ok (.bipush (-2), 2) := by decide +kernel
theorem dX8_back_9 : decode cX8_back 9 = .ok (.ireturn, 1) := by decide +kernel
theorem dX8_back_10 : decode cX8_back 10 = .ok (.aload_n 0, 1) := by decide +kernel
theorem dX8_back_11 : decode cX8_back 11 = .ok (.getfield 40, 3) := by decide +kernel
theorem dX8_back_14 : decode cX8_back 14 = .ok (.iload_n 1, 1) := by decide +kernel
theorem dX8_back_15 : decode cX8_back 15 = .ok (.baload, 1) := by decide +kernel
theorem dX8_back_16 : decode cX8_back 16 = .ok (.ifCond .ne 6, 3) := by decide +kernel
theorem dX8_back_19 : decode cX8_back 19 = .ok (.bipush (-6), 2) := by decide +kernel
theorem dX8_back_21 : decode cX8_back 21 = .ok (.ireturn, 1) := by decide +kernel
theorem dX8_back_22 : decode cX8_back 22 = .ok (.iconst 0, 1) := by decide +kernel
theorem dX8_back_23 : decode cX8_back 23 = .ok (.istore_n 2, 1) := by decide +kernel
theorem dX8_back_24 : decode cX8_back 24 = .ok (.iload_n 2, 1) := by decide +kernel
theorem dX8_back_25 : decode cX8_back 25 = .ok (.bipush 27, 2) := by decide +kernel
theorem dX8_back_27 : decode cX8_back 27 = .ok (.if_icmp .ge 26, 3) := by decide +kernel
theorem dX8_back_30 : decode cX8_back 30 = .ok (.aload_n 0, 1) := by decide +kernel
theorem dX8_back_31 : decode cX8_back 31 = .ok (.getfield 21, 3) := by decide +kernel
theorem dX8_back_34 : decode cX8_back 34 = .ok (.iload_n 2, 1) := by decide +kernel
theorem dX8_back_35 : decode cX8_back 35 = .ok (.aload_n 0, 1) := by decide +kernel
theorem dX8_back_36 : decode cX8_back 36 = .ok (.getfield 31, 3) := by decide +kernel
theorem dX8_back_39 : decode cX8_back 39 = .ok (.bipush 27, 2) := by decide +kernel
theorem dX8_back_41 : decode cX8_back 41 = .ok (.iload_n 1, 1) := by decide +kernel
theorem dX8_back_42 : decode cX8_back 42 = .ok (.imul, 1) := by decide +kernel
theorem dX8_back_43 : decode cX8_back 43 = .ok (.iload_n 2, 1) := by decide +kernel
theorem dX8_back_44 : decode cX8_back 44 = .ok (.iadd, 1) := by decide +kernel
theorem dX8_back_45 : decode cX8_back 45 = .ok (.iaload, 1) := by decide +kernel
theorem dX8_back_46 : decode cX8_back 46 = .ok (.iastore, 1) := by decide +kernel
theorem dX8_back_47 : decode cX8_back 47 = .ok (.iinc 2 1, 3) := by decide +kernel
theorem dX8_back_50 : decode cX8_back 50 = .ok (.goto (-26), 3) := by decide +kernel
theorem dX8_back_53 : decode cX8_back 53 = .ok (.aload_n 0, 1) := by decide +kernel
theorem dX8_back_54 : decode cX8_back 54 = .ok (.aload_n 0, 1) := by decide +kernel
theorem dX8_back_55 : decode cX8_back 55 = .ok (.getfield 34, 3) := by decide +kernel
theorem dX8_back_58 : decode cX8_back 58 = .ok (.iload_n 1, 1) := by decide +kernel
theorem dX8_back_59 : decode cX8_back 59 = .ok (.iaload, 1) := by decide +kernel
theorem dX8_back_60 : decode cX8_back 60 = .ok (.putfield 188, 3) := by decide +kernel
theorem dX8_back_63 : decode cX8_back 63 = .ok (.iconst 0, 1) := by decide +kernel
theorem dX8_back_64 : decode cX8_back 64 = .ok (.istore_n 2, 1) := by decide +kernel
theorem dX8_back_65 : decode cX8_back 65 = .ok (.iload_n 2, 1) := by decide +kernel
theorem dX8_back_66 : decode cX8_back 66 = .ok (.bipush 27, 2) := by decide +kernel
theorem dX8_back_68 : decode cX8_back 68 = .ok (.aload_n 0, 1) := by decide +kernel
theorem dX8_back_69 : decode cX8_back 69 = .ok (.getfield 188, 3) := by decide +kernel
theorem dX8_back_72 : decode cX8_back 72 = .ok (.imul, 1) := by decide +kernel
theorem dX8_back_73 : decode cX8_back 73 = .ok (.if_icmp .ge 27, 3) := by decide +kernel
theorem dX8_back_76 : decode cX8_back 76 = .ok (.aload_n 0, 1) := by decide +kernel
theorem dX8_back_77 : decode cX8_back 77 = .ok (.getfield 28, 3) := by decide +kernel
theorem dX8_back_80 : decode cX8_back 80 = .ok (.iload_n 2, 1) := by decide +kernel
theorem dX8_back_81 : decode cX8_back 81 = .ok (.aload_n 0, 1) := by decide +kernel
theorem dX8_back_82 : decode cX8_back 82 = .ok (.getfield 37, 3) := by decide +kernel
theorem dX8_back_85 : decode cX8_back 85 = .ok (.sipush 810, 3) := by decide +kernel
theorem dX8_back_88 : decode cX8_back 88 = .ok (.iload_n 1, 1) := by decide +kernel
theorem dX8_back_89 : decode cX8_back 89 = .ok (.imul, 1) := by decide +kernel
theorem dX8_back_90 : decode cX8_back 90 = .ok (.iload_n 2, 1) := by decide +kernel
theorem dX8_back_91 : decode cX8_back 91 = .ok (.iadd, 1) := by decide +kernel
theorem dX8_back_92 : decode cX8_back 92 = .ok (.iaload, 1) := by decide +kernel
theorem dX8_back_93 : decode cX8_back 93 = .ok (.iastore, 1) := by decide +kernel
theorem dX8_back_94 : decode cX8_back 94 = .ok (.iinc 2 1, 3) := by decide +kernel
theorem dX8_back_97 : decode cX8_back 97 = .ok (.goto (-32), 3) := by decide +kernel
theorem dX8_back_100 : decode cX8_back 100 = .ok (.iconst 0, 1) := by decide +kernel
theorem dX8_back_101 : decode cX8_back 101 = .ok (.ireturn, 1) := by decide +kernel
noncomputable def fX8_back_65  : Nat → (Nat → Int32) → Int32 → (Nat → Int32) → (Nat → Int32) → Int32 → Int32 → Option (Int32 × (Nat → Int32) × Int32 × (Nat → Int32))
  | 0, _, _, _, _, _, _ => none
  | n + 1, t_mem, t_acted, t_past, t_imagePast, v1, v2 => (if (27 * t_acted) ≤ v2 then some ((0), t_mem, t_acted, t_past) else chk 2430 ((810 * v1) + v2) (chk 810 v2 (fX8_back_65 n t_mem t_acted (upd t_past v2.toNatClampNeg (t_imagePast ((810 * v1) + v2).toNatClampNeg)) t_imagePast v1 (v2 + 1))))
theorem fX8_back_65_z  (t_mem : Nat → Int32) (t_acted : Int32) (t_past : Nat → Int32) (t_imagePast : Nat → Int32) (v1 : Int32) (v2 : Int32) : fX8_back_65  0 t_mem t_acted t_past t_imagePast v1 v2 = none := rfl
theorem fX8_back_65_s  (n : Nat) (t_mem : Nat → Int32) (t_acted : Int32) (t_past : Nat → Int32) (t_imagePast : Nat → Int32) (v1 : Int32) (v2 : Int32) : fX8_back_65  (n + 1) t_mem t_acted t_past t_imagePast v1 v2 = (if (27 * t_acted) ≤ v2 then some ((0), t_mem, t_acted, t_past) else chk 2430 ((810 * v1) + v2) (chk 810 v2 (fX8_back_65 n t_mem t_acted (upd t_past v2.toNatClampNeg (t_imagePast ((810 * v1) + v2).toNatClampNeg)) t_imagePast v1 (v2 + 1)))) := rfl
noncomputable def fX8_back_53  (t_mem : Nat → Int32) (t_acted : Int32) (t_past : Nat → Int32) (t_imageActed : Nat → Int32) (t_imagePast : Nat → Int32) (v1 : Int32) : Option (Int32 × (Nat → Int32) × Int32 × (Nat → Int32)) := chk 3 v1 (fX8_back_65 FU t_mem (t_imageActed v1.toNatClampNeg) t_past t_imagePast v1 0)
noncomputable def fX8_back_24  : Nat → (Nat → Int32) → Int32 → (Nat → Int32) → (Nat → Int32) → (Nat → Int32) → (Nat → Int32) → Int32 → Int32 → Option (Int32 × (Nat → Int32) × Int32 × (Nat → Int32))
  | 0, _, _, _, _, _, _, _, _ => none
  | n + 1, t_mem, t_acted, t_past, t_images, t_imageActed, t_imagePast, v1, v2 => (if 27 ≤ v2 then fX8_back_53 t_mem t_acted t_past t_imageActed t_imagePast v1 else chk 81 ((27 * v1) + v2) (chk 27 v2 (fX8_back_24 n (upd t_mem v2.toNatClampNeg (t_images ((27 * v1) + v2).toNatClampNeg)) t_acted t_past t_images t_imageActed t_imagePast v1 (v2 + 1))))
theorem fX8_back_24_z  (t_mem : Nat → Int32) (t_acted : Int32) (t_past : Nat → Int32) (t_images : Nat → Int32) (t_imageActed : Nat → Int32) (t_imagePast : Nat → Int32) (v1 : Int32) (v2 : Int32) : fX8_back_24  0 t_mem t_acted t_past t_images t_imageActed t_imagePast v1 v2 = none := rfl
theorem fX8_back_24_s  (n : Nat) (t_mem : Nat → Int32) (t_acted : Int32) (t_past : Nat → Int32) (t_images : Nat → Int32) (t_imageActed : Nat → Int32) (t_imagePast : Nat → Int32) (v1 : Int32) (v2 : Int32) : fX8_back_24  (n + 1) t_mem t_acted t_past t_images t_imageActed t_imagePast v1 v2 = (if 27 ≤ v2 then fX8_back_53 t_mem t_acted t_past t_imageActed t_imagePast v1 else chk 81 ((27 * v1) + v2) (chk 27 v2 (fX8_back_24 n (upd t_mem v2.toNatClampNeg (t_images ((27 * v1) + v2).toNatClampNeg)) t_acted t_past t_images t_imageActed t_imagePast v1 (v2 + 1)))) := rfl
noncomputable def fX8_back  (t_mem : Nat → Int32) (t_acted : Int32) (t_past : Nat → Int32) (t_images : Nat → Int32) (t_imageActed : Nat → Int32) (t_imagePast : Nat → Int32) (t_hasImage : Nat → Int32) (v1 : Int32) : Option (Int32 × (Nat → Int32) × Int32 × (Nat → Int32)) := (if (fX8_isImage v1) = 0 then some ((-2), t_mem, t_acted, t_past) else chk 3 v1 ((if (t_hasImage v1.toNatClampNeg) = 0 then some ((-6), t_mem, t_acted, t_past) else fX8_back_24 FU t_mem t_acted t_past t_images t_imageActed t_imagePast v1 0)))
set_option maxHeartbeats 4000000 in
set_option maxRecDepth 100000 in
theorem ctX8_back (l : Launch) (g : GT) (sz : Nat) (a_t : Nat → Nat) (t_acted : Int32) (t_taped : Int32) (t_faultKind : Int32) (t_faultPlace : Int32) (t_at : Int32) (t_begin : Int32) (t_token : Int32) (t_value : Int32) (t_bad : Int32) (t_wide : Int32) (t_lost : Int32) (t_det : Int64) (t_mask : Int32) (t_mode : Int32) (t_wanted : Int32) (t_orders : Int32) (t_foundAt : Int32) (t_foundBy : Int64) (t_unlikes : Int32) (t_mem : Nat → Int32) (t_past : Nat → Int32) (t_images : Nat → Int32) (t_imageActed : Nat → Int32) (t_imagePast : Nat → Int32) (t_hasImage : Nat → Int32) (v1 : Int32) (o : Int32) (o_t_mem : Nat → Int32) (o_t_acted : Int32) (o_t_past : Nat → Int32) (h : fX8_back t_mem t_acted t_past t_images t_imageActed t_imagePast t_hasImage v1 = some (o, o_t_mem, o_t_acted, o_t_past)) : Met l yX8_back (Cond.code yX8_back cX8_back 3 (some .int) :: Tw) ⟨2, 0, 0, 45⟩ (va_Pc [.ref ((a_t 0)), .int v1] (rwB g [((a_t 0), .inr (7, [.ref (a_t 1), .ref (a_t 2), .int t_acted, .ref (a_t 4), .ref (a_t 5), .ref (a_t 6), .ref (a_t 7), .ref (a_t 8), .ref (a_t 9), .int t_taped, .int t_faultKind, .int t_faultPlace, .int t_at, .int t_begin, .int t_token, .int t_value, .int t_bad, .ref (a_t 18), .ref (a_t 19), .ref (a_t 20), .int t_wide, .int t_lost, .ref (a_t 23), .long t_det, .ref (a_t 25), .int t_mask, .int t_mode, .int t_wanted, .int t_orders, .int t_foundAt, .long t_foundBy, .ref (a_t 32), .ref (a_t 33), .int t_unlikes, .ref (a_t 35), .ref (a_t 36)])), ((a_t 1), .inl (g.2.2.1 0, 27, .inl t_mem)), ((a_t 4), .inl (g.2.2.1 0, 810, .inl t_past)), ((a_t 5), .inl (g.2.2.1 0, 81, .inl t_images)), ((a_t 6), .inl (g.2.2.1 0, 3, .inl t_imageActed)), ((a_t 7), .inl (g.2.2.1 0, 2430, .inl t_imagePast)), ((a_t 8), .inl (g.2.2.1 3, 3, .inl t_hasImage))] sz)) (va_Qi (fun x (_ : Nat → Nat) => x = o) (fun u => rwE g (va_A [((a_t 0), .inr (7, [.ref (a_t 1), .ref (a_t 2), .int t_acted, .ref (a_t 4), .ref (a_t 5), .ref (a_t 6), .ref (a_t 7), .ref (a_t 8), .ref (a_t 9), .int t_taped, .int t_faultKind, .int t_faultPlace, .int t_at, .int t_begin, .int t_token, .int t_value, .int t_bad, .ref (a_t 18), .ref (a_t 19), .ref (a_t 20), .int t_wide, .int t_lost, .ref (a_t 23), .long t_det, .ref (a_t 25), .int t_mask, .int t_mode, .int t_wanted, .int t_orders, .int t_foundAt, .long t_foundBy, .ref (a_t 32), .ref (a_t 33), .int t_unlikes, .ref (a_t 35), .ref (a_t 36)])), ((a_t 1), .inl (g.2.2.1 0, 27, .inl t_mem)), ((a_t 4), .inl (g.2.2.1 0, 810, .inl t_past)), ((a_t 5), .inl (g.2.2.1 0, 81, .inl t_images)), ((a_t 6), .inl (g.2.2.1 0, 3, .inl t_imageActed)), ((a_t 7), .inl (g.2.2.1 0, 2430, .inl t_imagePast)), ((a_t 8), .inl (g.2.2.1 3, 3, .inl t_hasImage))] sz) [((a_t 0), .inr (7, [.ref (a_t 1), .ref (a_t 2), .int o_t_acted, .ref (a_t 4), .ref (a_t 5), .ref (a_t 6), .ref (a_t 7), .ref (a_t 8), .ref (a_t 9), .int t_taped, .int t_faultKind, .int t_faultPlace, .int t_at, .int t_begin, .int t_token, .int t_value, .int t_bad, .ref (a_t 18), .ref (a_t 19), .ref (a_t 20), .int t_wide, .int t_lost, .ref (a_t 23), .long t_det, .ref (a_t 25), .int t_mask, .int t_mode, .int t_wanted, .int t_orders, .int t_foundAt, .long t_foundBy, .ref (a_t 32), .ref (a_t 33), .int t_unlikes, .ref (a_t 35), .ref (a_t 36)])), ((a_t 1), .inl (g.2.2.1 0, 27, .inl o_t_mem)), ((a_t 4), .inl (g.2.2.1 0, 810, .inl o_t_past)), ((a_t 5), .inl (g.2.2.1 0, 81, .inl t_images)), ((a_t 6), .inl (g.2.2.1 0, 3, .inl t_imageActed)), ((a_t 7), .inl (g.2.2.1 0, 2430, .inl t_imagePast)), ((a_t 8), .inl (g.2.2.1 3, 3, .inl t_hasImage))]) (va_A [((a_t 0), .inr (7, [.ref (a_t 1), .ref (a_t 2), .int t_acted, .ref (a_t 4), .ref (a_t 5), .ref (a_t 6), .ref (a_t 7), .ref (a_t 8), .ref (a_t 9), .int t_taped, .int t_faultKind, .int t_faultPlace, .int t_at, .int t_begin, .int t_token, .int t_value, .int t_bad, .ref (a_t 18), .ref (a_t 19), .ref (a_t 20), .int t_wide, .int t_lost, .ref (a_t 23), .long t_det, .ref (a_t 25), .int t_mask, .int t_mode, .int t_wanted, .int t_orders, .int t_foundAt, .long t_foundBy, .ref (a_t 32), .ref (a_t 33), .int t_unlikes, .ref (a_t 35), .ref (a_t 36)])), ((a_t 1), .inl (g.2.2.1 0, 27, .inl t_mem)), ((a_t 4), .inl (g.2.2.1 0, 810, .inl t_past)), ((a_t 5), .inl (g.2.2.1 0, 81, .inl t_images)), ((a_t 6), .inl (g.2.2.1 0, 3, .inl t_imageActed)), ((a_t 7), .inl (g.2.2.1 0, 2430, .inl t_imagePast)), ((a_t 8), .inl (g.2.2.1 3, 3, .inl t_hasImage))] sz)) 0 0 (va_A [((a_t 0), .inr (7, [.ref (a_t 1), .ref (a_t 2), .int t_acted, .ref (a_t 4), .ref (a_t 5), .ref (a_t 6), .ref (a_t 7), .ref (a_t 8), .ref (a_t 9), .int t_taped, .int t_faultKind, .int t_faultPlace, .int t_at, .int t_begin, .int t_token, .int t_value, .int t_bad, .ref (a_t 18), .ref (a_t 19), .ref (a_t 20), .int t_wide, .int t_lost, .ref (a_t 23), .long t_det, .ref (a_t 25), .int t_mask, .int t_mode, .int t_wanted, .int t_orders, .int t_foundAt, .long t_foundBy, .ref (a_t 32), .ref (a_t 33), .int t_unlikes, .ref (a_t 35), .ref (a_t 36)])), ((a_t 1), .inl (g.2.2.1 0, 27, .inl t_mem)), ((a_t 4), .inl (g.2.2.1 0, 810, .inl t_past)), ((a_t 5), .inl (g.2.2.1 0, 81, .inl t_images)), ((a_t 6), .inl (g.2.2.1 0, 3, .inl t_imageActed)), ((a_t 7), .inl (g.2.2.1 0, 2430, .inl t_imagePast)), ((a_t 8), .inl (g.2.2.1 3, 3, .inl t_hasImage))] sz) := by
  refine rw_meti (by decide) (Nat.le_of_ble_eq_true rfl) (lv0 := [(0, .ref ((a_t 0))), (1, .int v1)]) rfl ?_
  intro p e s m args below meth c ls Q A cx hret hG hAb hb0 hA hP hD hl
  have hx := cx.1
  have hb := cx.2.1
  have hG0 := hG
  have hGk : ∀ {H : Heap} {locs : List Loc}, va_S A s.heap H locs → GE g s H := fun hS => hG0.keptS hAb hS
  have hSb : ∀ {H : Heap} {locs : List Loc}, va_S A s.heap H locs → va_S (fun a => g.1 ≤ a) s.heap H locs := fun hS => ⟨hS.1, fun q h1 h2 => hS.2.1 q h1 (fun z => h2 (hAb q z)), fun l hl => hAb _ (hS.2.2 l hl)⟩
  have hS : va_S A s.heap s.heap [] := va_S.rf
  have hrt : ∀ (u : Nat → Nat) (pc : Nat) (ls : Array Slot) (v : Int32) (x_t_mem : Nat → Int32) (x_t_acted : Int32) (x_t_past : Nat → Int32) (H : Heap) (locs : List Loc), decode cX8_back pc = .ok (.ireturn, 1) → some (v, x_t_mem, x_t_acted, x_t_past) = some (o, o_t_mem, o_t_acted, o_t_past) → va_P g.2.1 vwCl [((a_t 0), .inr (7, [.ref (a_t 1), .ref (a_t 2), .int x_t_acted, .ref (a_t 4), .ref (a_t 5), .ref (a_t 6), .ref (a_t 7), .ref (a_t 8), .ref (a_t 9), .int t_taped, .int t_faultKind, .int t_faultPlace, .int t_at, .int t_begin, .int t_token, .int t_value, .int t_bad, .ref (a_t 18), .ref (a_t 19), .ref (a_t 20), .int t_wide, .int t_lost, .ref (a_t 23), .long t_det, .ref (a_t 25), .int t_mask, .int t_mode, .int t_wanted, .int t_orders, .int t_foundAt, .long t_foundBy, .ref (a_t 32), .ref (a_t 33), .int t_unlikes, .ref (a_t 35), .ref (a_t 36)])), ((a_t 1), .inl (g.2.2.1 0, 27, .inl x_t_mem)), ((a_t 4), .inl (g.2.2.1 0, 810, .inl x_t_past)), ((a_t 5), .inl (g.2.2.1 0, 81, .inl t_images)), ((a_t 6), .inl (g.2.2.1 0, 3, .inl t_imageActed)), ((a_t 7), .inl (g.2.2.1 0, 2430, .inl t_imagePast)), ((a_t 8), .inl (g.2.2.1 3, 3, .inl t_hasImage))] H → va_D A [((a_t 0), .inr (7, [.ref (a_t 1), .ref (a_t 2), .int x_t_acted, .ref (a_t 4), .ref (a_t 5), .ref (a_t 6), .ref (a_t 7), .ref (a_t 8), .ref (a_t 9), .int t_taped, .int t_faultKind, .int t_faultPlace, .int t_at, .int t_begin, .int t_token, .int t_value, .int t_bad, .ref (a_t 18), .ref (a_t 19), .ref (a_t 20), .int t_wide, .int t_lost, .ref (a_t 23), .long t_det, .ref (a_t 25), .int t_mask, .int t_mode, .int t_wanted, .int t_orders, .int t_foundAt, .long t_foundBy, .ref (a_t 32), .ref (a_t 33), .int t_unlikes, .ref (a_t 35), .ref (a_t 36)])), ((a_t 1), .inl (g.2.2.1 0, 27, .inl x_t_mem)), ((a_t 4), .inl (g.2.2.1 0, 810, .inl x_t_past)), ((a_t 5), .inl (g.2.2.1 0, 81, .inl t_images)), ((a_t 6), .inl (g.2.2.1 0, 3, .inl t_imageActed)), ((a_t 7), .inl (g.2.2.1 0, 2430, .inl t_imagePast)), ((a_t 8), .inl (g.2.2.1 3, 3, .inl t_hasImage))] → va_S A s.heap H locs → W p l e ⟨2, 0, 0, 45⟩ s m args below meth c H locs 0 0 Q (F0 m pc ls [.int v]) := by
    intro u pc ls v x_t_mem x_t_acted x_t_past H locs hd h hP hD hS
    cases h
    exact hret u _ _ _ _ _ hd rfl hP hD hS
  have w65 : ∀ (n : Nat) (t_mem : Nat → Int32) (t_acted : Int32) (t_past : Nat → Int32) (v1 : Int32) (v2 : Int32) (H : Heap) (locs : List Loc), va_P g.2.1 vwCl [((a_t 0), .inr (7, [.ref (a_t 1), .ref (a_t 2), .int t_acted, .ref (a_t 4), .ref (a_t 5), .ref (a_t 6), .ref (a_t 7), .ref (a_t 8), .ref (a_t 9), .int t_taped, .int t_faultKind, .int t_faultPlace, .int t_at, .int t_begin, .int t_token, .int t_value, .int t_bad, .ref (a_t 18), .ref (a_t 19), .ref (a_t 20), .int t_wide, .int t_lost, .ref (a_t 23), .long t_det, .ref (a_t 25), .int t_mask, .int t_mode, .int t_wanted, .int t_orders, .int t_foundAt, .long t_foundBy, .ref (a_t 32), .ref (a_t 33), .int t_unlikes, .ref (a_t 35), .ref (a_t 36)])), ((a_t 1), .inl (g.2.2.1 0, 27, .inl t_mem)), ((a_t 4), .inl (g.2.2.1 0, 810, .inl t_past)), ((a_t 5), .inl (g.2.2.1 0, 81, .inl t_images)), ((a_t 6), .inl (g.2.2.1 0, 3, .inl t_imageActed)), ((a_t 7), .inl (g.2.2.1 0, 2430, .inl t_imagePast)), ((a_t 8), .inl (g.2.2.1 3, 3, .inl t_hasImage))] H → va_D A [((a_t 0), .inr (7, [.ref (a_t 1), .ref (a_t 2), .int t_acted, .ref (a_t 4), .ref (a_t 5), .ref (a_t 6), .ref (a_t 7), .ref (a_t 8), .ref (a_t 9), .int t_taped, .int t_faultKind, .int t_faultPlace, .int t_at, .int t_begin, .int t_token, .int t_value, .int t_bad, .ref (a_t 18), .ref (a_t 19), .ref (a_t 20), .int t_wide, .int t_lost, .ref (a_t 23), .long t_det, .ref (a_t 25), .int t_mask, .int t_mode, .int t_wanted, .int t_orders, .int t_foundAt, .long t_foundBy, .ref (a_t 32), .ref (a_t 33), .int t_unlikes, .ref (a_t 35), .ref (a_t 36)])), ((a_t 1), .inl (g.2.2.1 0, 27, .inl t_mem)), ((a_t 4), .inl (g.2.2.1 0, 810, .inl t_past)), ((a_t 5), .inl (g.2.2.1 0, 81, .inl t_images)), ((a_t 6), .inl (g.2.2.1 0, 3, .inl t_imageActed)), ((a_t 7), .inl (g.2.2.1 0, 2430, .inl t_imagePast)), ((a_t 8), .inl (g.2.2.1 3, 3, .inl t_hasImage))] → va_S A s.heap H locs → ∀ (ls : Array Slot), lv_has ls 3 [(0, .ref ((a_t 0))), (1, .int v1), (2, .int v2)] → fX8_back_65  n t_mem t_acted t_past t_imagePast v1 v2 = some (o, o_t_mem, o_t_acted, o_t_past) → W p l e ⟨2, 0, 0, 45⟩ s m args below meth c H locs 0 0 Q (F0 m 65 ls []) := by
    intro n
    induction n with
    | zero => intro t_mem t_acted t_past v1 v2 H locs hP hD hS ls hl h; cases (fX8_back_65_z  t_mem t_acted t_past t_imagePast v1 v2).symm.trans h
    | succ n ih =>
    intro t_mem t_acted t_past v1 v2 H locs hP hD hS ls hl h
    have h := (fX8_back_65_s  n t_mem t_acted t_past t_imagePast v1 v2).symm.trans h
    have hG := hGk hS
    refine lv_iload_n hx hb dX8_back_65 rfl (lv_at hl 2 rfl) ?_
    refine lv_bipush (v := 27) hx hb dX8_back_66 (by decide) ?_
    refine lv_aload_n hx hb dX8_back_68 rfl (lv_at hl 0 rfl) ?_
    refine xa_get (C := RX8) (T := TX8) (N := 36) cx hG hP 0 rfl rfl uX8 2 (by decide) lf_X8_188 rfl dX8_back_69 ?_
    refine lv_imul hx hb dX8_back_72 ?_
    refine lv_icmp_ge (tgt := 100) hx hb dX8_back_73 (by decide) (fun c9 => ?_) (fun c9 => ?_)
    · have h := itp c9 h
      refine lv_iconst (v := 0) hx hb dX8_back_100 (by decide) ?_
      exact hrt (fun _ => 0) _ _ ((0)) t_mem t_acted t_past _ _ dX8_back_101 h (hP.sub [0, 1, 2, 3, 4, 5, 6] rfl) (hD.sub [0, 1, 2, 3, 4, 5, 6] (by decide) rfl) hS
    · have h := itn c9 h
      refine lv_aload_n hx hb dX8_back_76 rfl (lv_at hl 0 rfl) ?_
      refine xa_get (C := RX8) (T := TX8) (N := 36) cx hG hP 0 rfl rfl uX8 3 (by decide) lf_X8_28 rfl dX8_back_77 ?_
      refine lv_iload_n hx hb dX8_back_80 rfl (lv_at hl 2 rfl) ?_
      refine lv_aload_n hx hb dX8_back_81 rfl (lv_at hl 0 rfl) ?_
      refine xa_get (C := RX8) (T := TX8) (N := 36) cx hG hP 0 rfl rfl uX8 6 (by decide) lf_X8_37 rfl dX8_back_82 ?_
      refine lv_sipush (v := 810) hx hb dX8_back_85 (by decide) ?_
      refine lv_iload_n hx hb dX8_back_88 rfl (lv_at hl 1 rfl) ?_
      refine lv_imul hx hb dX8_back_89 ?_
      refine lv_iload_n hx hb dX8_back_90 rfl (lv_at hl 2 rfl) ?_
      refine lv_iadd hx hb dX8_back_91 ?_
      obtain ⟨hi10, h⟩ := chk_out h
      refine xa_iald cx hG hP 5 rfl hi10 rfl dX8_back_92 ?_
      obtain ⟨hi11, h⟩ := chk_out h
      refine xw_iast (ws' := [((a_t 0), .inr (7, [.ref (a_t 1), .ref (a_t 2), .int t_acted, .ref (a_t 4), .ref (a_t 5), .ref (a_t 6), .ref (a_t 7), .ref (a_t 8), .ref (a_t 9), .int t_taped, .int t_faultKind, .int t_faultPlace, .int t_at, .int t_begin, .int t_token, .int t_value, .int t_bad, .ref (a_t 18), .ref (a_t 19), .ref (a_t 20), .int t_wide, .int t_lost, .ref (a_t 23), .long t_det, .ref (a_t 25), .int t_mask, .int t_mode, .int t_wanted, .int t_orders, .int t_foundAt, .long t_foundBy, .ref (a_t 32), .ref (a_t 33), .int t_unlikes, .ref (a_t 35), .ref (a_t 36)])), ((a_t 1), .inl (g.2.2.1 0, 27, .inl t_mem)), ((a_t 4), .inl (g.2.2.1 0, 810, .inl (upd t_past v2.toNatClampNeg (t_imagePast ((810 * v1) + v2).toNatClampNeg)))), ((a_t 5), .inl (g.2.2.1 0, 81, .inl t_images)), ((a_t 6), .inl (g.2.2.1 0, 3, .inl t_imageActed)), ((a_t 7), .inl (g.2.2.1 0, 2430, .inl t_imagePast)), ((a_t 8), .inl (g.2.2.1 3, 3, .inl t_hasImage))]) (k := v2.toNatClampNeg) cx hG hP hD hS 2 rfl hi11 rfl rfl dX8_back_93 (fun H locs hP hD hS => ?_)
      have hG := hGk hS
      refine lv_iinc (v := v2 + 1) (lv' := [(2, .int (v2 + 1)), (0, .ref ((a_t 0))), (1, .int v1)]) hx hb dX8_back_94 hl (k := 2) rfl rfl (by decide) rfl (fun ls hl => ?_)
      refine lv_goto (tgt := 65) hx hb dX8_back_97 (by decide) ?_
      exact ih t_mem t_acted (upd t_past v2.toNatClampNeg (t_imagePast ((810 * v1) + v2).toNatClampNeg)) v1 (v2 + 1) _ _ hP hD hS _ (lv_sub hl [1, 2, 0] rfl) h
  have w53 : ∀ (t_mem : Nat → Int32) (t_acted : Int32) (t_past : Nat → Int32) (v1 : Int32) (H : Heap) (locs : List Loc), va_P g.2.1 vwCl [((a_t 0), .inr (7, [.ref (a_t 1), .ref (a_t 2), .int t_acted, .ref (a_t 4), .ref (a_t 5), .ref (a_t 6), .ref (a_t 7), .ref (a_t 8), .ref (a_t 9), .int t_taped, .int t_faultKind, .int t_faultPlace, .int t_at, .int t_begin, .int t_token, .int t_value, .int t_bad, .ref (a_t 18), .ref (a_t 19), .ref (a_t 20), .int t_wide, .int t_lost, .ref (a_t 23), .long t_det, .ref (a_t 25), .int t_mask, .int t_mode, .int t_wanted, .int t_orders, .int t_foundAt, .long t_foundBy, .ref (a_t 32), .ref (a_t 33), .int t_unlikes, .ref (a_t 35), .ref (a_t 36)])), ((a_t 1), .inl (g.2.2.1 0, 27, .inl t_mem)), ((a_t 4), .inl (g.2.2.1 0, 810, .inl t_past)), ((a_t 5), .inl (g.2.2.1 0, 81, .inl t_images)), ((a_t 6), .inl (g.2.2.1 0, 3, .inl t_imageActed)), ((a_t 7), .inl (g.2.2.1 0, 2430, .inl t_imagePast)), ((a_t 8), .inl (g.2.2.1 3, 3, .inl t_hasImage))] H → va_D A [((a_t 0), .inr (7, [.ref (a_t 1), .ref (a_t 2), .int t_acted, .ref (a_t 4), .ref (a_t 5), .ref (a_t 6), .ref (a_t 7), .ref (a_t 8), .ref (a_t 9), .int t_taped, .int t_faultKind, .int t_faultPlace, .int t_at, .int t_begin, .int t_token, .int t_value, .int t_bad, .ref (a_t 18), .ref (a_t 19), .ref (a_t 20), .int t_wide, .int t_lost, .ref (a_t 23), .long t_det, .ref (a_t 25), .int t_mask, .int t_mode, .int t_wanted, .int t_orders, .int t_foundAt, .long t_foundBy, .ref (a_t 32), .ref (a_t 33), .int t_unlikes, .ref (a_t 35), .ref (a_t 36)])), ((a_t 1), .inl (g.2.2.1 0, 27, .inl t_mem)), ((a_t 4), .inl (g.2.2.1 0, 810, .inl t_past)), ((a_t 5), .inl (g.2.2.1 0, 81, .inl t_images)), ((a_t 6), .inl (g.2.2.1 0, 3, .inl t_imageActed)), ((a_t 7), .inl (g.2.2.1 0, 2430, .inl t_imagePast)), ((a_t 8), .inl (g.2.2.1 3, 3, .inl t_hasImage))] → va_S A s.heap H locs → ∀ (ls : Array Slot), lv_has ls 3 [(0, .ref ((a_t 0))), (1, .int v1)] → fX8_back_53  t_mem t_acted t_past t_imageActed t_imagePast v1 = some (o, o_t_mem, o_t_acted, o_t_past) → W p l e ⟨2, 0, 0, 45⟩ s m args below meth c H locs 0 0 Q (F0 m 53 ls []) := by
    intro t_mem t_acted t_past v1 H locs hP hD hS ls hl h
    unfold fX8_back_53 at h
    have hG := hGk hS
    refine lv_aload_n hx hb dX8_back_53 rfl (lv_at hl 0 rfl) ?_
    refine lv_aload_n hx hb dX8_back_54 rfl (lv_at hl 0 rfl) ?_
    refine xa_get (C := RX8) (T := TX8) (N := 36) cx hG hP 0 rfl rfl uX8 5 (by decide) lf_X8_34 rfl dX8_back_55 ?_
    refine lv_iload_n hx hb dX8_back_58 rfl (lv_at hl 1 rfl) ?_
    obtain ⟨hi8, h⟩ := chk_out h
    refine xa_iald cx hG hP 4 rfl hi8 rfl dX8_back_59 ?_
    refine xw_put (C := RX8) (T := TX8) (N := 36) (ty := .int) (v := .int (t_imageActed v1.toNatClampNeg)) (ws' := [((a_t 0), .inr (7, [.ref (a_t 1), .ref (a_t 2), .int (t_imageActed v1.toNatClampNeg), .ref (a_t 4), .ref (a_t 5), .ref (a_t 6), .ref (a_t 7), .ref (a_t 8), .ref (a_t 9), .int t_taped, .int t_faultKind, .int t_faultPlace, .int t_at, .int t_begin, .int t_token, .int t_value, .int t_bad, .ref (a_t 18), .ref (a_t 19), .ref (a_t 20), .int t_wide, .int t_lost, .ref (a_t 23), .long t_det, .ref (a_t 25), .int t_mask, .int t_mode, .int t_wanted, .int t_orders, .int t_foundAt, .long t_foundBy, .ref (a_t 32), .ref (a_t 33), .int t_unlikes, .ref (a_t 35), .ref (a_t 36)])), ((a_t 1), .inl (g.2.2.1 0, 27, .inl t_mem)), ((a_t 4), .inl (g.2.2.1 0, 810, .inl t_past)), ((a_t 5), .inl (g.2.2.1 0, 81, .inl t_images)), ((a_t 6), .inl (g.2.2.1 0, 3, .inl t_imageActed)), ((a_t 7), .inl (g.2.2.1 0, 2430, .inl t_imagePast)), ((a_t 8), .inl (g.2.2.1 3, 3, .inl t_hasImage))]) cx hG hP hD hS 0 rfl rfl uX8 tyX8 tyX8_ok nmX8 2 (by decide) lf_X8_188 rfl (by decide +kernel) rfl rfl (Nat.le_of_ble_eq_true rfl) rfl dX8_back_60 (fun H locs hP hD hS => ?_)
    have hG := hGk hS
    refine lv_iconst (v := 0) hx hb dX8_back_63 (by decide) ?_
    refine lv_istore_n (lv' := [(2, .int (0)), (0, .ref ((a_t 0))), (1, .int v1)]) hx hb dX8_back_64 rfl hl (by decide) rfl (fun ls hl => ?_)
    exact w65 FU t_mem (t_imageActed v1.toNatClampNeg) t_past v1 0 _ _ hP hD hS _ (lv_sub hl [1, 2, 0] rfl) h
  have w24 : ∀ (n : Nat) (t_mem : Nat → Int32) (t_acted : Int32) (t_past : Nat → Int32) (v1 : Int32) (v2 : Int32) (H : Heap) (locs : List Loc), va_P g.2.1 vwCl [((a_t 0), .inr (7, [.ref (a_t 1), .ref (a_t 2), .int t_acted, .ref (a_t 4), .ref (a_t 5), .ref (a_t 6), .ref (a_t 7), .ref (a_t 8), .ref (a_t 9), .int t_taped, .int t_faultKind, .int t_faultPlace, .int t_at, .int t_begin, .int t_token, .int t_value, .int t_bad, .ref (a_t 18), .ref (a_t 19), .ref (a_t 20), .int t_wide, .int t_lost, .ref (a_t 23), .long t_det, .ref (a_t 25), .int t_mask, .int t_mode, .int t_wanted, .int t_orders, .int t_foundAt, .long t_foundBy, .ref (a_t 32), .ref (a_t 33), .int t_unlikes, .ref (a_t 35), .ref (a_t 36)])), ((a_t 1), .inl (g.2.2.1 0, 27, .inl t_mem)), ((a_t 4), .inl (g.2.2.1 0, 810, .inl t_past)), ((a_t 5), .inl (g.2.2.1 0, 81, .inl t_images)), ((a_t 6), .inl (g.2.2.1 0, 3, .inl t_imageActed)), ((a_t 7), .inl (g.2.2.1 0, 2430, .inl t_imagePast)), ((a_t 8), .inl (g.2.2.1 3, 3, .inl t_hasImage))] H → va_D A [((a_t 0), .inr (7, [.ref (a_t 1), .ref (a_t 2), .int t_acted, .ref (a_t 4), .ref (a_t 5), .ref (a_t 6), .ref (a_t 7), .ref (a_t 8), .ref (a_t 9), .int t_taped, .int t_faultKind, .int t_faultPlace, .int t_at, .int t_begin, .int t_token, .int t_value, .int t_bad, .ref (a_t 18), .ref (a_t 19), .ref (a_t 20), .int t_wide, .int t_lost, .ref (a_t 23), .long t_det, .ref (a_t 25), .int t_mask, .int t_mode, .int t_wanted, .int t_orders, .int t_foundAt, .long t_foundBy, .ref (a_t 32), .ref (a_t 33), .int t_unlikes, .ref (a_t 35), .ref (a_t 36)])), ((a_t 1), .inl (g.2.2.1 0, 27, .inl t_mem)), ((a_t 4), .inl (g.2.2.1 0, 810, .inl t_past)), ((a_t 5), .inl (g.2.2.1 0, 81, .inl t_images)), ((a_t 6), .inl (g.2.2.1 0, 3, .inl t_imageActed)), ((a_t 7), .inl (g.2.2.1 0, 2430, .inl t_imagePast)), ((a_t 8), .inl (g.2.2.1 3, 3, .inl t_hasImage))] → va_S A s.heap H locs → ∀ (ls : Array Slot), lv_has ls 3 [(0, .ref ((a_t 0))), (1, .int v1), (2, .int v2)] → fX8_back_24  n t_mem t_acted t_past t_images t_imageActed t_imagePast v1 v2 = some (o, o_t_mem, o_t_acted, o_t_past) → W p l e ⟨2, 0, 0, 45⟩ s m args below meth c H locs 0 0 Q (F0 m 24 ls []) := by
    intro n
    induction n with
    | zero => intro t_mem t_acted t_past v1 v2 H locs hP hD hS ls hl h; cases (fX8_back_24_z  t_mem t_acted t_past t_images t_imageActed t_imagePast v1 v2).symm.trans h
    | succ n ih =>
    intro t_mem t_acted t_past v1 v2 H locs hP hD hS ls hl h
    have h := (fX8_back_24_s  n t_mem t_acted t_past t_images t_imageActed t_imagePast v1 v2).symm.trans h
    have hG := hGk hS
    refine lv_iload_n hx hb dX8_back_24 rfl (lv_at hl 2 rfl) ?_
    refine lv_bipush (v := 27) hx hb dX8_back_25 (by decide) ?_
    refine lv_icmp_ge (tgt := 53) hx hb dX8_back_27 (by decide) (fun c5 => ?_) (fun c5 => ?_)
    · have h := itp c5 h
      exact w53 t_mem t_acted t_past v1 _ _ hP hD hS _ (lv_sub hl [0, 1] rfl) h
    · have h := itn c5 h
      refine lv_aload_n hx hb dX8_back_30 rfl (lv_at hl 0 rfl) ?_
      refine xa_get (C := RX8) (T := TX8) (N := 36) cx hG hP 0 rfl rfl uX8 0 (by decide) lf_X8_21 rfl dX8_back_31 ?_
      refine lv_iload_n hx hb dX8_back_34 rfl (lv_at hl 2 rfl) ?_
      refine lv_aload_n hx hb dX8_back_35 rfl (lv_at hl 0 rfl) ?_
      refine xa_get (C := RX8) (T := TX8) (N := 36) cx hG hP 0 rfl rfl uX8 4 (by decide) lf_X8_31 rfl dX8_back_36 ?_
      refine lv_bipush (v := 27) hx hb dX8_back_39 (by decide) ?_
      refine lv_iload_n hx hb dX8_back_41 rfl (lv_at hl 1 rfl) ?_
      refine lv_imul hx hb dX8_back_42 ?_
      refine lv_iload_n hx hb dX8_back_43 rfl (lv_at hl 2 rfl) ?_
      refine lv_iadd hx hb dX8_back_44 ?_
      obtain ⟨hi6, h⟩ := chk_out h
      refine xa_iald cx hG hP 3 rfl hi6 rfl dX8_back_45 ?_
      obtain ⟨hi7, h⟩ := chk_out h
      refine xw_iast (ws' := [((a_t 0), .inr (7, [.ref (a_t 1), .ref (a_t 2), .int t_acted, .ref (a_t 4), .ref (a_t 5), .ref (a_t 6), .ref (a_t 7), .ref (a_t 8), .ref (a_t 9), .int t_taped, .int t_faultKind, .int t_faultPlace, .int t_at, .int t_begin, .int t_token, .int t_value, .int t_bad, .ref (a_t 18), .ref (a_t 19), .ref (a_t 20), .int t_wide, .int t_lost, .ref (a_t 23), .long t_det, .ref (a_t 25), .int t_mask, .int t_mode, .int t_wanted, .int t_orders, .int t_foundAt, .long t_foundBy, .ref (a_t 32), .ref (a_t 33), .int t_unlikes, .ref (a_t 35), .ref (a_t 36)])), ((a_t 1), .inl (g.2.2.1 0, 27, .inl (upd t_mem v2.toNatClampNeg (t_images ((27 * v1) + v2).toNatClampNeg)))), ((a_t 4), .inl (g.2.2.1 0, 810, .inl t_past)), ((a_t 5), .inl (g.2.2.1 0, 81, .inl t_images)), ((a_t 6), .inl (g.2.2.1 0, 3, .inl t_imageActed)), ((a_t 7), .inl (g.2.2.1 0, 2430, .inl t_imagePast)), ((a_t 8), .inl (g.2.2.1 3, 3, .inl t_hasImage))]) (k := v2.toNatClampNeg) cx hG hP hD hS 1 rfl hi7 rfl rfl dX8_back_46 (fun H locs hP hD hS => ?_)
      have hG := hGk hS
      refine lv_iinc (v := v2 + 1) (lv' := [(2, .int (v2 + 1)), (0, .ref ((a_t 0))), (1, .int v1)]) hx hb dX8_back_47 hl (k := 2) rfl rfl (by decide) rfl (fun ls hl => ?_)
      refine lv_goto (tgt := 24) hx hb dX8_back_50 (by decide) ?_
      exact ih (upd t_mem v2.toNatClampNeg (t_images ((27 * v1) + v2).toNatClampNeg)) t_acted t_past v1 (v2 + 1) _ _ hP hD hS _ (lv_sub hl [1, 2, 0] rfl) h
  unfold fX8_back at h
  refine lv_iload_n hx hb dX8_back_0 rfl (lv_at hl 1 rfl) ?_
  refine ro_z (runS (As := [.int v1]) (rest := []) cx hl.1 (ctX8_isImage l g v1 (fX8_isImage v1) rfl) kmX8_isImage ksX8_isImage lm_X8_404 ⟨rfl, rfl⟩ ⟨Nat.le_of_ble_eq_true rfl, Nat.le_of_ble_eq_true rfl⟩ (roS hG (hP.sub [] rfl)) rfl rfl (Nat.le_of_ble_eq_true rfl) dX8_back_1 ⟨Nat.le_of_ble_eq_true rfl, Nat.le_of_ble_eq_true rfl⟩) (fun hz1 => ?_)
  refine lv_if_ne (tgt := 10) hx hb dX8_back_4 (by decide) (fun c2 => ?_) (fun c2 => ?_)
  · have h := itn c2 h
    refine lv_aload_n hx hb dX8_back_10 rfl (lv_at hl 0 rfl) ?_
    refine xa_get (C := RX8) (T := TX8) (N := 36) cx hG hP 0 rfl rfl uX8 7 (by decide) lf_X8_40 rfl dX8_back_11 ?_
    refine lv_iload_n hx hb dX8_back_14 rfl (lv_at hl 1 rfl) ?_
    obtain ⟨hi3, h⟩ := chk_out h
    refine xa_zald cx hG hP 6 rfl hi3 rfl dX8_back_15 ?_
    refine lv_if_ne (tgt := 22) hx hb dX8_back_16 (by decide) (fun c4 => ?_) (fun c4 => ?_)
    · have h := itn c4 h
      refine lv_iconst (v := 0) hx hb dX8_back_22 (by decide) ?_
      refine lv_istore_n (lv' := [(2, .int (0)), (0, .ref ((a_t 0))), (1, .int v1)]) hx hb dX8_back_23 rfl hl (by decide) rfl (fun ls hl => ?_)
      exact w24 FU t_mem t_acted t_past v1 0 _ _ hP hD hS _ (lv_sub hl [1, 2, 0] rfl) h
    · have h := itp c4 h
      refine lv_bipush (v := -6) hx hb dX8_back_19 (by decide) ?_
      exact hrt (fun _ => 0) _ _ ((-6)) t_mem t_acted t_past _ _ dX8_back_21 h (hP.sub [0, 1, 2, 3, 4, 5, 6] rfl) (hD.sub [0, 1, 2, 3, 4, 5, 6] (by decide) rfl) hS
  · have h := itp c2 h
    refine lv_bipush (v := -2) hx hb dX8_back_7 (by decide) ?_
    exact hrt (fun _ => 0) _ _ ((-2)) t_mem t_acted t_past _ _ dX8_back_9 h (hP.sub [0, 1, 2, 3, 4, 5, 6] rfl) (hD.sub [0, 1, 2, 3, 4, 5, 6] (by decide) rfl) hS
-- X8_undo
theorem dX8_undo_0 : decode cX8_undo 0 = .ok (.aload_n 0, 1) := by decide +kernel
theorem dX8_undo_1 : decode cX8_undo 1 = .ok (.invokevirtual 236, 3) := by decide +kernel
theorem dX8_undo_4 : decode cX8_undo 4 = .ok (.ifCond .ne 6, 3) := by decide +kernel
theorem dX8_undo_7 : decode cX8_undo 7 = .ok (.bipush (-2), 2) := by decide +kernel
theorem dX8_undo_9 : decode cX8_undo 9 = .ok (.ireturn, 1) := by decide +kernel
theorem dX8_undo_10 : decode cX8_undo 10 = .ok (.aload_n 0, 1) := by decide +kernel
theorem dX8_undo_11 : decode cX8_undo 11 = .ok (.getfield 188, 3) := by decide +kernel
theorem dX8_undo_14 : decode cX8_undo 14 = .ok (.ifCond .ne 6, 3) := by decide +kernel
theorem dX8_undo_17 : decode cX8_undo 17 = .ok (.bipush (-5), 2) := by decide +kernel
theorem dX8_undo_19 : decode cX8_undo 19 = .ok (.ireturn, 1) := by decide +kernel
theorem dX8_undo_20 : decode cX8_undo 20 = .ok (.aload_n 0, 1) := by decide +kernel
theorem dX8_undo_21 : decode cX8_undo 21 = .ok (.aload_n 0, 1) := by decide +kernel
theorem dX8_undo_22 : decode cX8_undo 22 = .ok (.getfield 188, 3) := by decide +kernel
theorem dX8_undo_25 : decode cX8_undo 25 = .ok (.iconst 1, 1) := by decide +kernel
theorem dX8_undo_26 : decode cX8_undo 26 = .ok (.isub, 1) := by decide +kernel
theorem dX8_undo_27 : decode cX8_undo 27 = .ok (.invokevirtual 439, 3) := by decide +kernel
theorem dX8_undo_30 : decode cX8_undo 30 = .ok (.aload_n 0, 1) := by decide +kernel
theorem dX8_undo_31 : decode cX8_undo 31 = .ok (.getfield 188, 3) := by decide +kernel
theorem dX8_undo_34 : decode cX8_undo 34 = .ok (.ireturn, 1) := by decide +kernel
noncomputable def fX8_undo  (t_mem : Nat → Int32) (t_acted : Int32) (t_past : Nat → Int32) : Option (Int32 × (Nat → Int32) × Int32) := (fX8_is t_mem).bind fun r1 => (if r1 = 0 then some ((-2), t_mem, t_acted) else (if t_acted = 0 then some ((-5), t_mem, t_acted) else ob2 (fX8_goesBack t_mem t_acted t_past (t_acted - 1)) fun w7 w8 => some (w8, w7, w8)))
set_option maxHeartbeats 4000000 in
set_option maxRecDepth 100000 in
theorem ctX8_undo (l : Launch) (g : GT) (sz : Nat) (a_t : Nat → Nat) (t_acted : Int32) (t_taped : Int32) (t_faultKind : Int32) (t_faultPlace : Int32) (t_at : Int32) (t_begin : Int32) (t_token : Int32) (t_value : Int32) (t_bad : Int32) (t_wide : Int32) (t_lost : Int32) (t_det : Int64) (t_mask : Int32) (t_mode : Int32) (t_wanted : Int32) (t_orders : Int32) (t_foundAt : Int32) (t_foundBy : Int64) (t_unlikes : Int32) (t_mem : Nat → Int32) (t_past : Nat → Int32) (o : Int32) (o_t_mem : Nat → Int32) (o_t_acted : Int32) (h : fX8_undo t_mem t_acted t_past = some (o, o_t_mem, o_t_acted)) : Met l yX8_undo (Cond.code yX8_undo cX8_undo 1 (some .int) :: Tw) ⟨1, 0, 0, 22⟩ (va_Pc [.ref ((a_t 0))] (rwB g [((a_t 0), .inr (7, [.ref (a_t 1), .ref (a_t 2), .int t_acted, .ref (a_t 4), .ref (a_t 5), .ref (a_t 6), .ref (a_t 7), .ref (a_t 8), .ref (a_t 9), .int t_taped, .int t_faultKind, .int t_faultPlace, .int t_at, .int t_begin, .int t_token, .int t_value, .int t_bad, .ref (a_t 18), .ref (a_t 19), .ref (a_t 20), .int t_wide, .int t_lost, .ref (a_t 23), .long t_det, .ref (a_t 25), .int t_mask, .int t_mode, .int t_wanted, .int t_orders, .int t_foundAt, .long t_foundBy, .ref (a_t 32), .ref (a_t 33), .int t_unlikes, .ref (a_t 35), .ref (a_t 36)])), ((a_t 1), .inl (g.2.2.1 0, 27, .inl t_mem)), ((a_t 4), .inl (g.2.2.1 0, 810, .inl t_past))] sz)) (va_Qi (fun x (_ : Nat → Nat) => x = o) (fun u => rwE g (va_A [((a_t 0), .inr (7, [.ref (a_t 1), .ref (a_t 2), .int t_acted, .ref (a_t 4), .ref (a_t 5), .ref (a_t 6), .ref (a_t 7), .ref (a_t 8), .ref (a_t 9), .int t_taped, .int t_faultKind, .int t_faultPlace, .int t_at, .int t_begin, .int t_token, .int t_value, .int t_bad, .ref (a_t 18), .ref (a_t 19), .ref (a_t 20), .int t_wide, .int t_lost, .ref (a_t 23), .long t_det, .ref (a_t 25), .int t_mask, .int t_mode, .int t_wanted, .int t_orders, .int t_foundAt, .long t_foundBy, .ref (a_t 32), .ref (a_t 33), .int t_unlikes, .ref (a_t 35), .ref (a_t 36)])), ((a_t 1), .inl (g.2.2.1 0, 27, .inl t_mem)), ((a_t 4), .inl (g.2.2.1 0, 810, .inl t_past))] sz) [((a_t 0), .inr (7, [.ref (a_t 1), .ref (a_t 2), .int o_t_acted, .ref (a_t 4), .ref (a_t 5), .ref (a_t 6), .ref (a_t 7), .ref (a_t 8), .ref (a_t 9), .int t_taped, .int t_faultKind, .int t_faultPlace, .int t_at, .int t_begin, .int t_token, .int t_value, .int t_bad, .ref (a_t 18), .ref (a_t 19), .ref (a_t 20), .int t_wide, .int t_lost, .ref (a_t 23), .long t_det, .ref (a_t 25), .int t_mask, .int t_mode, .int t_wanted, .int t_orders, .int t_foundAt, .long t_foundBy, .ref (a_t 32), .ref (a_t 33), .int t_unlikes, .ref (a_t 35), .ref (a_t 36)])), ((a_t 1), .inl (g.2.2.1 0, 27, .inl o_t_mem)), ((a_t 4), .inl (g.2.2.1 0, 810, .inl t_past))]) (va_A [((a_t 0), .inr (7, [.ref (a_t 1), .ref (a_t 2), .int t_acted, .ref (a_t 4), .ref (a_t 5), .ref (a_t 6), .ref (a_t 7), .ref (a_t 8), .ref (a_t 9), .int t_taped, .int t_faultKind, .int t_faultPlace, .int t_at, .int t_begin, .int t_token, .int t_value, .int t_bad, .ref (a_t 18), .ref (a_t 19), .ref (a_t 20), .int t_wide, .int t_lost, .ref (a_t 23), .long t_det, .ref (a_t 25), .int t_mask, .int t_mode, .int t_wanted, .int t_orders, .int t_foundAt, .long t_foundBy, .ref (a_t 32), .ref (a_t 33), .int t_unlikes, .ref (a_t 35), .ref (a_t 36)])), ((a_t 1), .inl (g.2.2.1 0, 27, .inl t_mem)), ((a_t 4), .inl (g.2.2.1 0, 810, .inl t_past))] sz)) 0 0 (va_A [((a_t 0), .inr (7, [.ref (a_t 1), .ref (a_t 2), .int t_acted, .ref (a_t 4), .ref (a_t 5), .ref (a_t 6), .ref (a_t 7), .ref (a_t 8), .ref (a_t 9), .int t_taped, .int t_faultKind, .int t_faultPlace, .int t_at, .int t_begin, .int t_token, .int t_value, .int t_bad, .ref (a_t 18), .ref (a_t 19), .ref (a_t 20), .int t_wide, .int t_lost, .ref (a_t 23), .long t_det, .ref (a_t 25), .int t_mask, .int t_mode, .int t_wanted, .int t_orders, .int t_foundAt, .long t_foundBy, .ref (a_t 32), .ref (a_t 33), .int t_unlikes, .ref (a_t 35), .ref (a_t 36)])), ((a_t 1), .inl (g.2.2.1 0, 27, .inl t_mem)), ((a_t 4), .inl (g.2.2.1 0, 810, .inl t_past))] sz) := by
  refine rw_meti (by decide) (Nat.le_of_ble_eq_true rfl) (lv0 := [(0, .ref ((a_t 0)))]) rfl ?_
  intro p e s m args below meth c ls Q A cx hret hG hAb hb0 hA hP hD hl
  have hx := cx.1
  have hb := cx.2.1
  have hG0 := hG
  have hGk : ∀ {H : Heap} {locs : List Loc}, va_S A s.heap H locs → GE g s H := fun hS => hG0.keptS hAb hS
  have hSb : ∀ {H : Heap} {locs : List Loc}, va_S A s.heap H locs → va_S (fun a => g.1 ≤ a) s.heap H locs := fun hS => ⟨hS.1, fun q h1 h2 => hS.2.1 q h1 (fun z => h2 (hAb q z)), fun l hl => hAb _ (hS.2.2 l hl)⟩
  have hS : va_S A s.heap s.heap [] := va_S.rf
  have hrt : ∀ (u : Nat → Nat) (pc : Nat) (ls : Array Slot) (v : Int32) (x_t_mem : Nat → Int32) (x_t_acted : Int32) (H : Heap) (locs : List Loc), decode cX8_undo pc = .ok (.ireturn, 1) → some (v, x_t_mem, x_t_acted) = some (o, o_t_mem, o_t_acted) → va_P g.2.1 vwCl [((a_t 0), .inr (7, [.ref (a_t 1), .ref (a_t 2), .int x_t_acted, .ref (a_t 4), .ref (a_t 5), .ref (a_t 6), .ref (a_t 7), .ref (a_t 8), .ref (a_t 9), .int t_taped, .int t_faultKind, .int t_faultPlace, .int t_at, .int t_begin, .int t_token, .int t_value, .int t_bad, .ref (a_t 18), .ref (a_t 19), .ref (a_t 20), .int t_wide, .int t_lost, .ref (a_t 23), .long t_det, .ref (a_t 25), .int t_mask, .int t_mode, .int t_wanted, .int t_orders, .int t_foundAt, .long t_foundBy, .ref (a_t 32), .ref (a_t 33), .int t_unlikes, .ref (a_t 35), .ref (a_t 36)])), ((a_t 1), .inl (g.2.2.1 0, 27, .inl x_t_mem)), ((a_t 4), .inl (g.2.2.1 0, 810, .inl t_past))] H → va_D A [((a_t 0), .inr (7, [.ref (a_t 1), .ref (a_t 2), .int x_t_acted, .ref (a_t 4), .ref (a_t 5), .ref (a_t 6), .ref (a_t 7), .ref (a_t 8), .ref (a_t 9), .int t_taped, .int t_faultKind, .int t_faultPlace, .int t_at, .int t_begin, .int t_token, .int t_value, .int t_bad, .ref (a_t 18), .ref (a_t 19), .ref (a_t 20), .int t_wide, .int t_lost, .ref (a_t 23), .long t_det, .ref (a_t 25), .int t_mask, .int t_mode, .int t_wanted, .int t_orders, .int t_foundAt, .long t_foundBy, .ref (a_t 32), .ref (a_t 33), .int t_unlikes, .ref (a_t 35), .ref (a_t 36)])), ((a_t 1), .inl (g.2.2.1 0, 27, .inl x_t_mem)), ((a_t 4), .inl (g.2.2.1 0, 810, .inl t_past))] → va_S A s.heap H locs → W p l e ⟨1, 0, 0, 22⟩ s m args below meth c H locs 0 0 Q (F0 m pc ls [.int v]) := by
    intro u pc ls v x_t_mem x_t_acted H locs hd h hP hD hS
    cases h
    exact hret u _ _ _ _ _ hd rfl hP hD hS
  unfold fX8_undo at h
  refine lv_aload_n hx hb dX8_undo_0 rfl (lv_at hl 0 rfl) ?_
  obtain ⟨r1, hr2, h⟩ := bnd h
  refine ro_z (runV (As := []) (rest := []) cx hl.1 (ctX8_is l g a_t t_acted t_taped t_faultKind t_faultPlace t_at t_begin t_token t_value t_bad t_wide t_lost t_det t_mask t_mode t_wanted t_orders t_foundAt t_foundBy t_unlikes t_mem r1 hr2) kmX8_is kvX8_is lm_X8_236 ⟨rfl, rfl⟩ ⟨Nat.le_of_ble_eq_true rfl, Nat.le_of_ble_eq_true rfl⟩ (roV (q0 := 0) (ci := 7) hG (hP.sub [0, 1] rfl) hP rfl rfl) rfl rfl (Nat.le_of_ble_eq_true rfl) dX8_undo_1 ⟨Nat.le_of_ble_eq_true rfl, Nat.le_of_ble_eq_true rfl⟩) (fun hz3 => ?_)
  refine lv_if_ne (tgt := 10) hx hb dX8_undo_4 (by decide) (fun c4 => ?_) (fun c4 => ?_)
  · have h := itn c4 h
    refine lv_aload_n hx hb dX8_undo_10 rfl (lv_at hl 0 rfl) ?_
    refine xa_get (C := RX8) (T := TX8) (N := 36) cx hG hP 0 rfl rfl uX8 2 (by decide) lf_X8_188 rfl dX8_undo_11 ?_
    refine lv_if_ne (tgt := 20) hx hb dX8_undo_14 (by decide) (fun c5 => ?_) (fun c5 => ?_)
    · have h := itn c5 h
      refine lv_aload_n hx hb dX8_undo_20 rfl (lv_at hl 0 rfl) ?_
      refine lv_aload_n hx hb dX8_undo_21 rfl (lv_at hl 0 rfl) ?_
      refine xa_get (C := RX8) (T := TX8) (N := 36) cx hG hP 0 rfl rfl uX8 2 (by decide) lf_X8_188 rfl dX8_undo_22 ?_
      refine lv_iconst (v := 1) hx hb dX8_undo_25 (by decide) ?_
      refine lv_isub hx hb dX8_undo_26 ?_
      obtain ⟨w7, w8, hr6, h⟩ := ob2_out h
      refine rw_v (WN := fun u9 => [((a_t 0), .inr (7, [.ref (a_t 1), .ref (a_t 2), .int w8, .ref (a_t 4), .ref (a_t 5), .ref (a_t 6), .ref (a_t 7), .ref (a_t 8), .ref (a_t 9), .int t_taped, .int t_faultKind, .int t_faultPlace, .int t_at, .int t_begin, .int t_token, .int t_value, .int t_bad, .ref (a_t 18), .ref (a_t 19), .ref (a_t 20), .int t_wide, .int t_lost, .ref (a_t 23), .long t_det, .ref (a_t 25), .int t_mask, .int t_mode, .int t_wanted, .int t_orders, .int t_foundAt, .long t_foundBy, .ref (a_t 32), .ref (a_t 33), .int t_unlikes, .ref (a_t 35), .ref (a_t 36)])), ((a_t 1), .inl (g.2.2.1 0, 27, .inl w7)), ((a_t 4), .inl (g.2.2.1 0, 810, .inl t_past))]) (wr := []) (runV (As := [.int (t_acted - 1)]) (rest := []) cx hl.1 (ctX8_goesBack l g s.heap.size a_t t_acted t_taped t_faultKind t_faultPlace t_at t_begin t_token t_value t_bad t_wide t_lost t_det t_mask t_mode t_wanted t_orders t_foundAt t_foundBy t_unlikes t_mem t_past (t_acted - 1) w7 w8 hr6) kmX8_goesBack kvX8_goesBack lm_X8_439 ⟨rfl, rfl⟩ ⟨Nat.le_of_ble_eq_true rfl, Nat.le_of_ble_eq_true rfl⟩ (rwV (q0 := 0) (ci := 7) hG (hP.sub [0, 1, 2] rfl) (hD.sub [0, 1, 2] (by decide) rfl) hAb hb0 hS hP rfl rfl) rfl rfl (Nat.le_of_ble_eq_true rfl) dX8_undo_27 ⟨Nat.le_of_ble_eq_true rfl, Nat.le_of_ble_eq_true rfl⟩) hP hD hS hA [0, 1, 2] [] rfl rfl (by decide) (by decide) (fun _ => rfl) (fun u9 H locs hP hD hS => ?_)
      have hG := hGk hS
      refine lv_aload_n hx hb dX8_undo_30 rfl (lv_at hl 0 rfl) ?_
      refine xa_get (C := RX8) (T := TX8) (N := 36) cx hG hP 0 rfl rfl uX8 2 (by decide) lf_X8_188 rfl dX8_undo_31 ?_
      exact hrt (fun _ => 0) _ _ w8 w7 w8 _ _ dX8_undo_34 h (hP.sub [0, 1, 2] rfl) (hD.sub [0, 1, 2] (by decide) rfl) hS
    · have h := itp c5 h
      refine lv_bipush (v := -5) hx hb dX8_undo_17 (by decide) ?_
      exact hrt (fun _ => 0) _ _ ((-5)) t_mem t_acted _ _ dX8_undo_19 h (hP.sub [0, 1, 2] rfl) (hD.sub [0, 1, 2] (by decide) rfl) hS
  · have h := itp c4 h
    refine lv_bipush (v := -2) hx hb dX8_undo_7 (by decide) ?_
    exact hrt (fun _ => 0) _ _ ((-2)) t_mem t_acted _ _ dX8_undo_9 h (hP.sub [0, 1, 2] rfl) (hD.sub [0, 1, 2] (by decide) rfl) hS
-- X8_anew
theorem dX8_anew_0 : decode cX8_anew 0 = .ok (.aload_n 0, 1) := by decide +kernel
theorem dX8_anew_1 : decode cX8_anew 1 = .ok (.invokevirtual 236, 3) := by decide +kernel
theorem dX8_anew_4 : decode cX8_anew 4 = .ok (.ifCond .ne 6, 3) := by decide +kernel
theorem dX8_anew_7 : decode cX8_anew 7 = .ok (.bipush (-2), 2) := by decide +kernel
theorem dX8_anew_9 : decode cX8_anew 9 = .ok (.ireturn, 1) := by decide +kernel
theorem dX8_anew_10 : decode cX8_anew 10 = .ok (.aload_n 0, 1) := by decide +kernel
theorem dX8_anew_11 : decode cX8_anew 11 = .ok (.getfield 188, 3) := by decide +kernel
theorem dX8_anew_14 : decode cX8_anew 14 = .ok (.istore_n 1, 1) := by decide +kernel
theorem dX8_anew_15 : decode cX8_anew 15 = .ok (.iload_n 1, 1) := by decide +kernel
theorem dX8_anew_16 : decode cX8_anew 16 = .ok (.ifCond .le 8, 3) := by decide +kernel
theorem dX8_anew_19 : decode cX8_anew 19 = .ok (.aload_n 0, 1) := by decide +kernel
theorem dX8_anew_20 : decode cX8_anew 20 = .ok (.iconst 0, 1) := by decide +kernel
theorem dX8_anew_21 : decode cX8_anew 21 = .ok (.invokevirtual 439, 3) := by decide +kernel
theorem dX8_anew_24 : decode cX8_anew 24 = .ok (.iload_n 1, 1) := by decide +kernel
theorem dX8_anew_25 : decode cX8_anew 25 = .ok (.ireturn, 1) := by decide +kernel
noncomputable def fX8_anew  (t_mem : Nat → Int32) (t_acted : Int32) (t_past : Nat → Int32) : Option (Int32 × (Nat → Int32) × Int32) := (fX8_is t_mem).bind fun r1 => (if r1 = 0 then some ((-2), t_mem, t_acted) else (if t_acted ≤ 0 then some (t_acted, t_mem, t_acted) else ob2 (fX8_goesBack t_mem t_acted t_past 0) fun w7 w8 => some (t_acted, w7, w8)))
set_option maxHeartbeats 4000000 in
set_option maxRecDepth 100000 in
theorem ctX8_anew (l : Launch) (g : GT) (sz : Nat) (a_t : Nat → Nat) (t_acted : Int32) (t_taped : Int32) (t_faultKind : Int32) (t_faultPlace : Int32) (t_at : Int32) (t_begin : Int32) (t_token : Int32) (t_value : Int32) (t_bad : Int32) (t_wide : Int32) (t_lost : Int32) (t_det : Int64) (t_mask : Int32) (t_mode : Int32) (t_wanted : Int32) (t_orders : Int32) (t_foundAt : Int32) (t_foundBy : Int64) (t_unlikes : Int32) (t_mem : Nat → Int32) (t_past : Nat → Int32) (o : Int32) (o_t_mem : Nat → Int32) (o_t_acted : Int32) (h : fX8_anew t_mem t_acted t_past = some (o, o_t_mem, o_t_acted)) : Met l yX8_anew (Cond.code yX8_anew cX8_anew 2 (some .int) :: Tw) ⟨1, 0, 0, 22⟩ (va_Pc [.ref ((a_t 0))] (rwB g [((a_t 0), .inr (7, [.ref (a_t 1), .ref (a_t 2), .int t_acted, .ref (a_t 4), .ref (a_t 5), .ref (a_t 6), .ref (a_t 7), .ref (a_t 8), .ref (a_t 9), .int t_taped, .int t_faultKind, .int t_faultPlace, .int t_at, .int t_begin, .int t_token, .int t_value, .int t_bad, .ref (a_t 18), .ref (a_t 19), .ref (a_t 20), .int t_wide, .int t_lost, .ref (a_t 23), .long t_det, .ref (a_t 25), .int t_mask, .int t_mode, .int t_wanted, .int t_orders, .int t_foundAt, .long t_foundBy, .ref (a_t 32), .ref (a_t 33), .int t_unlikes, .ref (a_t 35), .ref (a_t 36)])), ((a_t 1), .inl (g.2.2.1 0, 27, .inl t_mem)), ((a_t 4), .inl (g.2.2.1 0, 810, .inl t_past))] sz)) (va_Qi (fun x (_ : Nat → Nat) => x = o) (fun u => rwE g (va_A [((a_t 0), .inr (7, [.ref (a_t 1), .ref (a_t 2), .int t_acted, .ref (a_t 4), .ref (a_t 5), .ref (a_t 6), .ref (a_t 7), .ref (a_t 8), .ref (a_t 9), .int t_taped, .int t_faultKind, .int t_faultPlace, .int t_at, .int t_begin, .int t_token, .int t_value, .int t_bad, .ref (a_t 18), .ref (a_t 19), .ref (a_t 20), .int t_wide, .int t_lost, .ref (a_t 23), .long t_det, .ref (a_t 25), .int t_mask, .int t_mode, .int t_wanted, .int t_orders, .int t_foundAt, .long t_foundBy, .ref (a_t 32), .ref (a_t 33), .int t_unlikes, .ref (a_t 35), .ref (a_t 36)])), ((a_t 1), .inl (g.2.2.1 0, 27, .inl t_mem)), ((a_t 4), .inl (g.2.2.1 0, 810, .inl t_past))] sz) [((a_t 0), .inr (7, [.ref (a_t 1), .ref (a_t 2), .int o_t_acted, .ref (a_t 4), .ref (a_t 5), .ref (a_t 6), .ref (a_t 7), .ref (a_t 8), .ref (a_t 9), .int t_taped, .int t_faultKind, .int t_faultPlace, .int t_at, .int t_begin, .int t_token, .int t_value, .int t_bad, .ref (a_t 18), .ref (a_t 19), .ref (a_t 20), .int t_wide, .int t_lost, .ref (a_t 23), .long t_det, .ref (a_t 25), .int t_mask, .int t_mode, .int t_wanted, .int t_orders, .int t_foundAt, .long t_foundBy, .ref (a_t 32), .ref (a_t 33), .int t_unlikes, .ref (a_t 35), .ref (a_t 36)])), ((a_t 1), .inl (g.2.2.1 0, 27, .inl o_t_mem)), ((a_t 4), .inl (g.2.2.1 0, 810, .inl t_past))]) (va_A [((a_t 0), .inr (7, [.ref (a_t 1), .ref (a_t 2), .int t_acted, .ref (a_t 4), .ref (a_t 5), .ref (a_t 6), .ref (a_t 7), .ref (a_t 8), .ref (a_t 9), .int t_taped, .int t_faultKind, .int t_faultPlace, .int t_at, .int t_begin, .int t_token, .int t_value, .int t_bad, .ref (a_t 18), .ref (a_t 19), .ref (a_t 20), .int t_wide, .int t_lost, .ref (a_t 23), .long t_det, .ref (a_t 25), .int t_mask, .int t_mode, .int t_wanted, .int t_orders, .int t_foundAt, .long t_foundBy, .ref (a_t 32), .ref (a_t 33), .int t_unlikes, .ref (a_t 35), .ref (a_t 36)])), ((a_t 1), .inl (g.2.2.1 0, 27, .inl t_mem)), ((a_t 4), .inl (g.2.2.1 0, 810, .inl t_past))] sz)) 0 0 (va_A [((a_t 0), .inr (7, [.ref (a_t 1), .ref (a_t 2), .int t_acted, .ref (a_t 4), .ref (a_t 5), .ref (a_t 6), .ref (a_t 7), .ref (a_t 8), .ref (a_t 9), .int t_taped, .int t_faultKind, .int t_faultPlace, .int t_at, .int t_begin, .int t_token, .int t_value, .int t_bad, .ref (a_t 18), .ref (a_t 19), .ref (a_t 20), .int t_wide, .int t_lost, .ref (a_t 23), .long t_det, .ref (a_t 25), .int t_mask, .int t_mode, .int t_wanted, .int t_orders, .int t_foundAt, .long t_foundBy, .ref (a_t 32), .ref (a_t 33), .int t_unlikes, .ref (a_t 35), .ref (a_t 36)])), ((a_t 1), .inl (g.2.2.1 0, 27, .inl t_mem)), ((a_t 4), .inl (g.2.2.1 0, 810, .inl t_past))] sz) := by
  refine rw_meti (by decide) (Nat.le_of_ble_eq_true rfl) (lv0 := [(0, .ref ((a_t 0)))]) rfl ?_
  intro p e s m args below meth c ls Q A cx hret hG hAb hb0 hA hP hD hl
  have hx := cx.1
  have hb := cx.2.1
  have hG0 := hG
  have hGk : ∀ {H : Heap} {locs : List Loc}, va_S A s.heap H locs → GE g s H := fun hS => hG0.keptS hAb hS
  have hSb : ∀ {H : Heap} {locs : List Loc}, va_S A s.heap H locs → va_S (fun a => g.1 ≤ a) s.heap H locs := fun hS => ⟨hS.1, fun q h1 h2 => hS.2.1 q h1 (fun z => h2 (hAb q z)), fun l hl => hAb _ (hS.2.2 l hl)⟩
  have hS : va_S A s.heap s.heap [] := va_S.rf
  have hrt : ∀ (u : Nat → Nat) (pc : Nat) (ls : Array Slot) (v : Int32) (x_t_mem : Nat → Int32) (x_t_acted : Int32) (H : Heap) (locs : List Loc), decode cX8_anew pc = .ok (.ireturn, 1) → some (v, x_t_mem, x_t_acted) = some (o, o_t_mem, o_t_acted) → va_P g.2.1 vwCl [((a_t 0), .inr (7, [.ref (a_t 1), .ref (a_t 2), .int x_t_acted, .ref (a_t 4), .ref (a_t 5), .ref (a_t 6), .ref (a_t 7), .ref (a_t 8), .ref (a_t 9), .int t_taped, .int t_faultKind, .int t_faultPlace, .int t_at, .int t_begin, .int t_token, .int t_value, .int t_bad, .ref (a_t 18), .ref (a_t 19), .ref (a_t 20), .int t_wide, .int t_lost, .ref (a_t 23), .long t_det, .ref (a_t 25), .int t_mask, .int t_mode, .int t_wanted, .int t_orders, .int t_foundAt, .long t_foundBy, .ref (a_t 32), .ref (a_t 33), .int t_unlikes, .ref (a_t 35), .ref (a_t 36)])), ((a_t 1), .inl (g.2.2.1 0, 27, .inl x_t_mem)), ((a_t 4), .inl (g.2.2.1 0, 810, .inl t_past))] H → va_D A [((a_t 0), .inr (7, [.ref (a_t 1), .ref (a_t 2), .int x_t_acted, .ref (a_t 4), .ref (a_t 5), .ref (a_t 6), .ref (a_t 7), .ref (a_t 8), .ref (a_t 9), .int t_taped, .int t_faultKind, .int t_faultPlace, .int t_at, .int t_begin, .int t_token, .int t_value, .int t_bad, .ref (a_t 18), .ref (a_t 19), .ref (a_t 20), .int t_wide, .int t_lost, .ref (a_t 23), .long t_det, .ref (a_t 25), .int t_mask, .int t_mode, .int t_wanted, .int t_orders, .int t_foundAt, .long t_foundBy, .ref (a_t 32), .ref (a_t 33), .int t_unlikes, .ref (a_t 35), .ref (a_t 36)])), ((a_t 1), .inl (g.2.2.1 0, 27, .inl x_t_mem)), ((a_t 4), .inl (g.2.2.1 0, 810, .inl t_past))] → va_S A s.heap H locs → W p l e ⟨1, 0, 0, 22⟩ s m args below meth c H locs 0 0 Q (F0 m pc ls [.int v]) := by
    intro u pc ls v x_t_mem x_t_acted H locs hd h hP hD hS
    cases h
    exact hret u _ _ _ _ _ hd rfl hP hD hS
  unfold fX8_anew at h
  refine lv_aload_n hx hb dX8_anew_0 rfl (lv_at hl 0 rfl) ?_
  obtain ⟨r1, hr2, h⟩ := bnd h
  refine ro_z (runV (As := []) (rest := []) cx hl.1 (ctX8_is l g a_t t_acted t_taped t_faultKind t_faultPlace t_at t_begin t_token t_value t_bad t_wide t_lost t_det t_mask t_mode t_wanted t_orders t_foundAt t_foundBy t_unlikes t_mem r1 hr2) kmX8_is kvX8_is lm_X8_236 ⟨rfl, rfl⟩ ⟨Nat.le_of_ble_eq_true rfl, Nat.le_of_ble_eq_true rfl⟩ (roV (q0 := 0) (ci := 7) hG (hP.sub [0, 1] rfl) hP rfl rfl) rfl rfl (Nat.le_of_ble_eq_true rfl) dX8_anew_1 ⟨Nat.le_of_ble_eq_true rfl, Nat.le_of_ble_eq_true rfl⟩) (fun hz3 => ?_)
  refine lv_if_ne (tgt := 10) hx hb dX8_anew_4 (by decide) (fun c4 => ?_) (fun c4 => ?_)
  · have h := itn c4 h
    refine lv_aload_n hx hb dX8_anew_10 rfl (lv_at hl 0 rfl) ?_
    refine xa_get (C := RX8) (T := TX8) (N := 36) cx hG hP 0 rfl rfl uX8 2 (by decide) lf_X8_188 rfl dX8_anew_11 ?_
    refine lv_istore_n (lv' := [(1, .int t_acted), (0, .ref ((a_t 0)))]) hx hb dX8_anew_14 rfl hl (by decide) rfl (fun ls hl => ?_)
    refine lv_iload_n hx hb dX8_anew_15 rfl (lv_at hl 0 rfl) ?_
    refine lv_if_le (tgt := 24) hx hb dX8_anew_16 (by decide) (fun c5 => ?_) (fun c5 => ?_)
    · have h := itp c5 h
      refine lv_iload_n hx hb dX8_anew_24 rfl (lv_at hl 0 rfl) ?_
      exact hrt (fun _ => 0) _ _ t_acted t_mem t_acted _ _ dX8_anew_25 h (hP.sub [0, 1, 2] rfl) (hD.sub [0, 1, 2] (by decide) rfl) hS
    · have h := itn c5 h
      refine lv_aload_n hx hb dX8_anew_19 rfl (lv_at hl 1 rfl) ?_
      refine lv_iconst (v := 0) hx hb dX8_anew_20 (by decide) ?_
      obtain ⟨w7, w8, hr6, h⟩ := ob2_out h
      refine rw_v (WN := fun u9 => [((a_t 0), .inr (7, [.ref (a_t 1), .ref (a_t 2), .int w8, .ref (a_t 4), .ref (a_t 5), .ref (a_t 6), .ref (a_t 7), .ref (a_t 8), .ref (a_t 9), .int t_taped, .int t_faultKind, .int t_faultPlace, .int t_at, .int t_begin, .int t_token, .int t_value, .int t_bad, .ref (a_t 18), .ref (a_t 19), .ref (a_t 20), .int t_wide, .int t_lost, .ref (a_t 23), .long t_det, .ref (a_t 25), .int t_mask, .int t_mode, .int t_wanted, .int t_orders, .int t_foundAt, .long t_foundBy, .ref (a_t 32), .ref (a_t 33), .int t_unlikes, .ref (a_t 35), .ref (a_t 36)])), ((a_t 1), .inl (g.2.2.1 0, 27, .inl w7)), ((a_t 4), .inl (g.2.2.1 0, 810, .inl t_past))]) (wr := []) (runV (As := [.int (0)]) (rest := []) cx hl.1 (ctX8_goesBack l g s.heap.size a_t t_acted t_taped t_faultKind t_faultPlace t_at t_begin t_token t_value t_bad t_wide t_lost t_det t_mask t_mode t_wanted t_orders t_foundAt t_foundBy t_unlikes t_mem t_past (0) w7 w8 hr6) kmX8_goesBack kvX8_goesBack lm_X8_439 ⟨rfl, rfl⟩ ⟨Nat.le_of_ble_eq_true rfl, Nat.le_of_ble_eq_true rfl⟩ (rwV (q0 := 0) (ci := 7) hG (hP.sub [0, 1, 2] rfl) (hD.sub [0, 1, 2] (by decide) rfl) hAb hb0 hS hP rfl rfl) rfl rfl (Nat.le_of_ble_eq_true rfl) dX8_anew_21 ⟨Nat.le_of_ble_eq_true rfl, Nat.le_of_ble_eq_true rfl⟩) hP hD hS hA [0, 1, 2] [] rfl rfl (by decide) (by decide) (fun _ => rfl) (fun u9 H locs hP hD hS => ?_)
      have hG := hGk hS
      refine lv_iload_n hx hb dX8_anew_24 rfl (lv_at hl 0 rfl) ?_
      exact hrt (fun _ => 0) _ _ t_acted w7 w8 _ _ dX8_anew_25 h (hP.sub [0, 1, 2] rfl) (hD.sub [0, 1, 2] (by decide) rfl) hS
  · have h := itp c4 h
    refine lv_bipush (v := -2) hx hb dX8_anew_7 (by decide) ?_
    exact hrt (fun _ => 0) _ _ ((-2)) t_mem t_acted _ _ dX8_anew_9 h (hP.sub [0, 1, 2] rfl) (hD.sub [0, 1, 2] (by decide) rfl) hS
