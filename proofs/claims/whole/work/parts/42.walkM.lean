-- X8_sum
theorem dX8_sum_0 : decode cX8_sum 0 = .ok (.lconst 0, 1) := by decide +kernel
theorem dX8_sum_1 : decode cX8_sum 1 = .ok (.lstore 4, 2) := by decide +kernel
theorem dX8_sum_3 : decode cX8_sum 3 = .ok (.iconst 0, 1) := by decide +kernel
theorem dX8_sum_4 : decode cX8_sum 4 = .ok (.istore 6, 2) := by decide +kernel
theorem dX8_sum_6 : decode cX8_sum 6 = .ok (.iload 6, 2) := by decide +kernel
theorem dX8_sum_8 : decode cX8_sum 8 = .ok (.aload_n 0, 1) := by decide +kernel
theorem dX8_sum_9 : decode cX8_sum 9 = .ok (.getfield 206, 3) := by decide +kernel
theorem dX8_sum_12 : decode cX8_sum 12 = .ok (.if_icmp .ge 90, 3) := by decide +kernel
theorem dX8_sum_15 : decode cX8_sum 15 = .ok (.iconst 2, 1) := by decide +kernel
theorem dX8_sum_16 : decode cX8_sum 16 = .ok (.iload 6, 2) := by decide +kernel
theorem dX8_sum_18 : decode cX8_sum 18 = .ok (.imul, 1) := by decide +kernel
theorem dX8_sum_19 : decode cX8_sum 19 = .ok (.iconst 1, 1) := by decide +kernel
theorem dX8_sum_20 : decode cX8_sum 20 = .ok (.iadd, 1) := by decide +kernel
theorem dX8_sum_21 : decode cX8_sum 21 = .ok (.aload_n 0, 1) := by decide +kernel
theorem dX8_sum_22 : decode cX8_sum 22 = .ok (.getfield 206, 3) := by decide +kernel
theorem dX8_sum_25 : decode cX8_sum 25 = .ok (.isub, 1) := by decide +kernel
theorem dX8_sum_26 : decode cX8_sum 26 = .ok (.istore 7, 2) := by decide +kernel
theorem dX8_sum_28 : decode cX8_sum 28 = .ok (.iload_n 1, 1) := by decide +kernel
theorem dX8_sum_29 : decode cX8_sum 29 = .ok (.ifCond .ne 7, 3) := by decide +kernel
theorem dX8_sum_32 : decode cX8_sum 32 = .ok (.lconst 1, 1) := by decide +kernel
theorem dX8_sum_33 : decode cX8_sum 33 = .ok (.goto 24, 3) := by decide +kernel
theorem dX8_sum_36 : decode cX8_sum 36 = .ok (.iload_n 1, 1) := by decide +kernel
theorem dX8_sum_37 : decode cX8_sum 37 = .ok (.iconst 1, 1) := by decide +kernel
theorem dX8_sum_38 : decode cX8_sum 38 = .ok (.if_icmp .ne 9, 3) := by decide +kernel
theorem dX8_sum_41 : decode cX8_sum 41 = .ok (.iload 7, 2) := by decide +kernel
theorem dX8_sum_43 : decode cX8_sum 43 = .ok (.i2l, 1) := by decide +kernel
theorem dX8_sum_44 : decode cX8_sum 44 = .ok (.goto 13, 3) := by decide +kernel
theorem dX8_sum_47 : decode cX8_sum 47 = .ok (.iconst 3, 1) := by decide +kernel
theorem dX8_sum_48 : decode cX8_sum 48 = .ok (.iload 7, 2) := by decide +kernel
theorem dX8_sum_50 : decode cX8_sum 50 = .ok (.imul, 1) := by decide +kernel
theorem dX8_sum_51 : decode cX8_sum 51 = .ok (.iload 7, 2) := by decide +kernel
theorem dX8_sum_53 : decode cX8_sum 53 = .ok (.imul, 1) := by decide +kernel
theorem dX8_sum_54 : decode cX8_sum 54 = .ok (.iconst 1, 1) := by decide +kernel
theorem dX8_sum_55 : decode cX8_sum 55 = .ok (.iadd, 1) := by decide +kernel
theorem dX8_sum_56 : decode cX8_sum 56 = .ok (.i2l, 1) := by decide +kernel
theorem dX8_sum_57 : decode cX8_sum 57 = .ok (.lstore 8, 2) := by decide +kernel
theorem dX8_sum_59 : decode cX8_sum 59 = .ok (.lload 4, 2) := by decide +kernel
theorem dX8_sum_61 : decode cX8_sum 61 = .ok (.aload_n 0, 1) := by decide +kernel
theorem dX8_sum_62 : decode cX8_sum 62 = .ok (.getfield 209, 3) := by decide +kernel
theorem dX8_sum_65 : decode cX8_sum 65 = .ok (.iload 6, 2) := by decide +kernel
theorem dX8_sum_67 : decode cX8_sum 67 = .ok (.invokestatic 212, 3) := by decide +kernel
theorem dX8_sum_70 : decode cX8_sum 70 = .ok (.ifCond .eq 7, 3) := by decide +kernel
theorem dX8_sum_73 : decode cX8_sum 73 = .ok (.lconst 0, 1) := by decide +kernel
theorem dX8_sum_74 : decode cX8_sum 74 = .ok (.goto 19, 3) := by decide +kernel
theorem dX8_sum_77 : decode cX8_sum 77 = .ok (.lload 8, 2) := by decide +kernel
theorem dX8_sum_79 : decode cX8_sum 79 = .ok (.aload_n 0, 1) := by decide +kernel
theorem dX8_sum_80 : decode cX8_sum 80 = .ok (.aload_n 0, 1) := by decide +kernel
theorem dX8_sum_81 : decode cX8_sum 81 = .ok (.getfield 57, 3) := by decide +kernel
theorem dX8_sum_84 : decode cX8_sum 84 = .ok (.iload 6, 2) := by decide +kernel
theorem dX8_sum_86 : decode cX8_sum 86 = .ok (.iaload, 1) := by decide +kernel
theorem dX8_sum_87 : decode cX8_sum 87 = .ok (.iload_n 2, 1) := by decide +kernel
theorem dX8_sum_88 : decode cX8_sum 88 = .ok (.iload_n 3, 1) := by decide +kernel
theorem dX8_sum_89 : decode cX8_sum 89 = .ok (.invokevirtual 215, 3) := by decide +kernel
theorem dX8_sum_92 : decode cX8_sum 92 = .ok (.lmul, 1) := by decide +kernel
theorem dX8_sum_93 : decode cX8_sum 93 = .ok (.ladd, 1) := by decide +kernel
theorem dX8_sum_94 : decode cX8_sum 94 = .ok (.lstore 4, 2) := by decide +kernel
theorem dX8_sum_96 : decode cX8_sum 96 = .ok (.iinc 6 1, 3) := by decide +kernel
theorem dX8_sum_99 : decode cX8_sum 99 = .ok (.goto (-93), 3) := by decide +kernel
theorem dX8_sum_102 : decode cX8_sum 102 = .ok (.lload 4, 2) := by decide +kernel
theorem dX8_sum_104 : decode cX8_sum 104 = .ok (.lreturn, 1) := by decide +kernel
noncomputable def fX8_sum_93 (k6 : (Nat → Int32) → (Nat → Int32) → Int32 → Int32 → Int32 → Int32 → Int32 → Int64 → Int32 → Option (Int64)) (t_mem : Nat → Int32) (t_row : Nat → Int32) (t_wide : Int32) (t_lost : Int32) (v1 : Int32) (v2 : Int32) (v3 : Int32) (v6 : Int32) (z0 : Int64) (z1 : Int64) : Option (Int64) := k6 t_mem t_row t_wide t_lost v1 v2 v3 (z0 + z1) (v6 + 1)
noncomputable def fX8_sum_57 (k6 : (Nat → Int32) → (Nat → Int32) → Int32 → Int32 → Int32 → Int32 → Int32 → Int64 → Int32 → Option (Int64)) (t_mem : Nat → Int32) (t_row : Nat → Int32) (t_wide : Int32) (t_lost : Int32) (v1 : Int32) (v2 : Int32) (v3 : Int32) (v4 : Int64) (v6 : Int32) (z0 : Int64) : Option (Int64) := (if (fX8_has t_lost v6) = 0 then chk 8 v6 ((fX8_entry t_mem (t_row v6.toNatClampNeg) v2 v3).bind fun r7 => fX8_sum_93 k6 t_mem t_row t_wide t_lost v1 v2 v3 v6 v4 (z0 * r7)) else fX8_sum_93 k6 t_mem t_row t_wide t_lost v1 v2 v3 v6 v4 0)
noncomputable def fX8_sum_6  : Nat → (Nat → Int32) → (Nat → Int32) → Int32 → Int32 → Int32 → Int32 → Int32 → Int64 → Int32 → Option (Int64)
  | 0, _, _, _, _, _, _, _, _, _ => none
  | n + 1, t_mem, t_row, t_wide, t_lost, v1, v2, v3, v4, v6 => (if t_wide ≤ v6 then some v4 else (if v1 = 0 then fX8_sum_57 (fX8_sum_6 n) t_mem t_row t_wide t_lost v1 v2 v3 v4 v6 1 else (if v1 = 1 then fX8_sum_57 (fX8_sum_6 n) t_mem t_row t_wide t_lost v1 v2 v3 v4 v6 ((((2 * v6) + 1) - t_wide).toInt64) else fX8_sum_57 (fX8_sum_6 n) t_mem t_row t_wide t_lost v1 v2 v3 v4 v6 ((((3 * (((2 * v6) + 1) - t_wide)) * (((2 * v6) + 1) - t_wide)) + 1).toInt64))))
theorem fX8_sum_6_z  (t_mem : Nat → Int32) (t_row : Nat → Int32) (t_wide : Int32) (t_lost : Int32) (v1 : Int32) (v2 : Int32) (v3 : Int32) (v4 : Int64) (v6 : Int32) : fX8_sum_6  0 t_mem t_row t_wide t_lost v1 v2 v3 v4 v6 = none := rfl
theorem fX8_sum_6_s  (n : Nat) (t_mem : Nat → Int32) (t_row : Nat → Int32) (t_wide : Int32) (t_lost : Int32) (v1 : Int32) (v2 : Int32) (v3 : Int32) (v4 : Int64) (v6 : Int32) : fX8_sum_6  (n + 1) t_mem t_row t_wide t_lost v1 v2 v3 v4 v6 = (if t_wide ≤ v6 then some v4 else (if v1 = 0 then fX8_sum_57 (fX8_sum_6 n) t_mem t_row t_wide t_lost v1 v2 v3 v4 v6 1 else (if v1 = 1 then fX8_sum_57 (fX8_sum_6 n) t_mem t_row t_wide t_lost v1 v2 v3 v4 v6 ((((2 * v6) + 1) - t_wide).toInt64) else fX8_sum_57 (fX8_sum_6 n) t_mem t_row t_wide t_lost v1 v2 v3 v4 v6 ((((3 * (((2 * v6) + 1) - t_wide)) * (((2 * v6) + 1) - t_wide)) + 1).toInt64)))) := rfl
noncomputable def fX8_sum  (t_mem : Nat → Int32) (t_row : Nat → Int32) (t_wide : Int32) (t_lost : Int32) (v1 : Int32) (v2 : Int32) (v3 : Int32) : Option (Int64) := fX8_sum_6 FU t_mem t_row t_wide t_lost v1 v2 v3 0 0
set_option maxHeartbeats 4000000 in
set_option maxRecDepth 100000 in
theorem ctX8_sum (l : Launch) (g : GT) (a_t : Nat → Nat) (t_acted : Int32) (t_taped : Int32) (t_faultKind : Int32) (t_faultPlace : Int32) (t_at : Int32) (t_begin : Int32) (t_token : Int32) (t_value : Int32) (t_bad : Int32) (t_wide : Int32) (t_lost : Int32) (t_det : Int64) (t_mask : Int32) (t_mode : Int32) (t_wanted : Int32) (t_orders : Int32) (t_foundAt : Int32) (t_foundBy : Int64) (t_unlikes : Int32) (t_mem : Nat → Int32) (t_row : Nat → Int32) (v1 : Int32) (v2 : Int32) (v3 : Int32) (o : Int64) (h : fX8_sum t_mem t_row t_wide t_lost v1 v2 v3 = some o) : Met l yX8_sum (Cond.code yX8_sum cX8_sum 10 (some .long) :: Tw) ⟨1, 0, 0, 27⟩ (va_Pc [.ref ((a_t 0)), .int v1, .int v2, .int v3] (roB g [((a_t 0), .inr (7, [.ref (a_t 1), .ref (a_t 2), .int t_acted, .ref (a_t 4), .ref (a_t 5), .ref (a_t 6), .ref (a_t 7), .ref (a_t 8), .ref (a_t 9), .int t_taped, .int t_faultKind, .int t_faultPlace, .int t_at, .int t_begin, .int t_token, .int t_value, .int t_bad, .ref (a_t 18), .ref (a_t 19), .ref (a_t 20), .int t_wide, .int t_lost, .ref (a_t 23), .long t_det, .ref (a_t 25), .int t_mask, .int t_mode, .int t_wanted, .int t_orders, .int t_foundAt, .long t_foundBy, .ref (a_t 32), .ref (a_t 33), .int t_unlikes, .ref (a_t 35), .ref (a_t 36)])), ((a_t 1), .inl (g.2.2.1 0, 27, .inl t_mem)), ((a_t 20), .inl (g.2.2.1 0, 8, .inl t_row))])) (vp_Sl (fun x => x = o)) 0 0 (fun _ => False) := by
  refine ro_metl (by decide) (Nat.le_of_ble_eq_true rfl) (lv0 := [(0, .ref ((a_t 0))), (1, .int v1), (2, .int v2), (3, .int v3)]) rfl ?_
  intro p e s m args below meth c ls Q cx hret hG hP hl
  have hx := cx.1
  have hb := cx.2.1
  have hG0 := hG
  have w93 : ∀ (k6 : (Nat → Int32) → (Nat → Int32) → Int32 → Int32 → Int32 → Int32 → Int32 → Int64 → Int32 → Option (Int64)) (hk6 : ∀ (v1 : Int32) (v2 : Int32) (v3 : Int32) (v4 : Int64) (v6 : Int32) (ls : Array Slot), lv_has ls 10 [(0, .ref ((a_t 0))), (1, .int v1), (2, .int v2), (3, .int v3), (4, .long v4), (6, .int v6)] → k6 t_mem t_row t_wide t_lost v1 v2 v3 v4 v6 = some o → W p l e ⟨1, 0, 0, 27⟩ s m args below meth c s.heap [] 0 0 Q (F0 m 6 ls [])) (v1 : Int32) (v2 : Int32) (v3 : Int32) (v6 : Int32) (z0 : Int64) (z1 : Int64) (ls : Array Slot), lv_has ls 10 [(0, .ref ((a_t 0))), (1, .int v1), (2, .int v2), (3, .int v3), (6, .int v6)] → fX8_sum_93 k6 t_mem t_row t_wide t_lost v1 v2 v3 v6 z0 z1 = some o → W p l e ⟨1, 0, 0, 27⟩ s m args below meth c s.heap [] 0 0 Q (F0 m 93 ls [.long z1, .long z0]) := by
    intro k6 hk6 v1 v2 v3 v6 z0 z1 ls hl h
    unfold fX8_sum_93 at h
    refine lv_ladd hx hb dX8_sum_93 ?_
    refine lv_lstore (lv' := [(4, .long (z0 + z1)), (0, .ref ((a_t 0))), (1, .int v1), (2, .int v2), (3, .int v3), (6, .int v6)]) hx hb dX8_sum_94 hl (by decide) rfl (fun ls hl => ?_)
    refine lv_iinc (v := v6 + 1) (lv' := [(6, .int (v6 + 1)), (4, .long (z0 + z1)), (0, .ref ((a_t 0))), (1, .int v1), (2, .int v2), (3, .int v3)]) hx hb dX8_sum_96 hl (k := 5) rfl rfl (by decide) rfl (fun ls hl => ?_)
    refine lv_goto (tgt := 6) hx hb dX8_sum_99 (by decide) ?_
    exact hk6 v1 v2 v3 (z0 + z1) (v6 + 1) _ (lv_sub hl [2, 3, 4, 5, 1, 0] rfl) h
  have w57 : ∀ (k6 : (Nat → Int32) → (Nat → Int32) → Int32 → Int32 → Int32 → Int32 → Int32 → Int64 → Int32 → Option (Int64)) (hk6 : ∀ (v1 : Int32) (v2 : Int32) (v3 : Int32) (v4 : Int64) (v6 : Int32) (ls : Array Slot), lv_has ls 10 [(0, .ref ((a_t 0))), (1, .int v1), (2, .int v2), (3, .int v3), (4, .long v4), (6, .int v6)] → k6 t_mem t_row t_wide t_lost v1 v2 v3 v4 v6 = some o → W p l e ⟨1, 0, 0, 27⟩ s m args below meth c s.heap [] 0 0 Q (F0 m 6 ls [])) (v1 : Int32) (v2 : Int32) (v3 : Int32) (v4 : Int64) (v6 : Int32) (z0 : Int64) (ls : Array Slot), lv_has ls 10 [(0, .ref ((a_t 0))), (1, .int v1), (2, .int v2), (3, .int v3), (4, .long v4), (6, .int v6)] → fX8_sum_57 k6 t_mem t_row t_wide t_lost v1 v2 v3 v4 v6 z0 = some o → W p l e ⟨1, 0, 0, 27⟩ s m args below meth c s.heap [] 0 0 Q (F0 m 57 ls [.long z0]) := by
    intro k6 hk6 v1 v2 v3 v4 v6 z0 ls hl h
    unfold fX8_sum_57 at h
    refine lv_lstore (lv' := [(8, .long z0), (0, .ref ((a_t 0))), (1, .int v1), (2, .int v2), (3, .int v3), (4, .long v4), (6, .int v6)]) hx hb dX8_sum_57 hl (by decide) rfl (fun ls hl => ?_)
    refine lv_lload hx hb dX8_sum_59 (lv_at hl 5 rfl) ?_
    refine lv_aload_n hx hb dX8_sum_61 rfl (lv_at hl 1 rfl) ?_
    refine xa_get (C := RX8) (T := TX8) (N := 36) cx hG hP 0 rfl rfl uX8 21 (by decide) lf_X8_209 rfl dX8_sum_62 ?_
    refine lv_iload hx hb dX8_sum_65 (lv_at hl 6 rfl) ?_
    refine ro_z (runS (As := [.int t_lost, .int v6]) (rest := [.long v4]) cx hl.1 (ctX8_has l g t_lost v6 (fX8_has t_lost v6) rfl) kmX8_has ksX8_has lm_X8_212 ⟨rfl, rfl⟩ ⟨Nat.le_of_ble_eq_true rfl, Nat.le_of_ble_eq_true rfl⟩ (roS hG (hP.sub [] rfl)) rfl rfl (Nat.le_of_ble_eq_true rfl) dX8_sum_67 ⟨Nat.le_of_ble_eq_true rfl, Nat.le_of_ble_eq_true rfl⟩) (fun hz4 => ?_)
    refine lv_if_eq (tgt := 77) hx hb dX8_sum_70 (by decide) (fun c5 => ?_) (fun c5 => ?_)
    · have h := itp c5 h
      refine lv_lload hx hb dX8_sum_77 (lv_at hl 0 rfl) ?_
      refine lv_aload_n hx hb dX8_sum_79 rfl (lv_at hl 1 rfl) ?_
      refine lv_aload_n hx hb dX8_sum_80 rfl (lv_at hl 1 rfl) ?_
      refine xa_get (C := RX8) (T := TX8) (N := 36) cx hG hP 0 rfl rfl uX8 19 (by decide) lf_X8_57 rfl dX8_sum_81 ?_
      refine lv_iload hx hb dX8_sum_84 (lv_at hl 6 rfl) ?_
      obtain ⟨hi6, h⟩ := chk_out h
      refine xa_iald cx hG hP 2 rfl hi6 rfl dX8_sum_86 ?_
      refine lv_iload_n hx hb dX8_sum_87 rfl (lv_at hl 3 rfl) ?_
      refine lv_iload_n hx hb dX8_sum_88 rfl (lv_at hl 4 rfl) ?_
      obtain ⟨r7, hr8, h⟩ := bnd h
      refine ro_l (runV (As := [.int (t_row v6.toNatClampNeg), .int v2, .int v3]) (rest := [.long z0, .long v4]) cx hl.1 (ctX8_entry l g a_t t_acted t_taped t_faultKind t_faultPlace t_at t_begin t_token t_value t_bad t_wide t_lost t_det t_mask t_mode t_wanted t_orders t_foundAt t_foundBy t_unlikes t_mem (t_row v6.toNatClampNeg) v2 v3 r7 hr8) kmX8_entry kvX8_entry lm_X8_215 ⟨rfl, rfl⟩ ⟨Nat.le_of_ble_eq_true rfl, Nat.le_of_ble_eq_true rfl⟩ (roV (q0 := 0) (ci := 7) hG (hP.sub [0, 1] rfl) hP rfl rfl) rfl rfl (Nat.le_of_ble_eq_true rfl) dX8_sum_89 ⟨Nat.le_of_ble_eq_true rfl, Nat.le_of_ble_eq_true rfl⟩) ?_
      refine lv_lmul hx hb dX8_sum_92 ?_
      exact w93 _ hk6 v1 v2 v3 v6 v4 (z0 * r7) _ (lv_sub hl [1, 2, 3, 4, 6] rfl) h
    · have h := itn c5 h
      refine lv_lconst (v := 0) hx hb dX8_sum_73 (by decide) ?_
      refine lv_goto (tgt := 93) hx hb dX8_sum_74 (by decide) ?_
      exact w93 _ hk6 v1 v2 v3 v6 v4 0 _ (lv_sub hl [1, 2, 3, 4, 6] rfl) h
  have w6 : ∀ (n : Nat) (v1 : Int32) (v2 : Int32) (v3 : Int32) (v4 : Int64) (v6 : Int32) (ls : Array Slot), lv_has ls 10 [(0, .ref ((a_t 0))), (1, .int v1), (2, .int v2), (3, .int v3), (4, .long v4), (6, .int v6)] → fX8_sum_6  n t_mem t_row t_wide t_lost v1 v2 v3 v4 v6 = some o → W p l e ⟨1, 0, 0, 27⟩ s m args below meth c s.heap [] 0 0 Q (F0 m 6 ls []) := by
    intro n
    induction n with
    | zero => intro v1 v2 v3 v4 v6 ls hl h; cases (fX8_sum_6_z  t_mem t_row t_wide t_lost v1 v2 v3 v4 v6).symm.trans h
    | succ n ih =>
    intro v1 v2 v3 v4 v6 ls hl h
    have h := (fX8_sum_6_s  n t_mem t_row t_wide t_lost v1 v2 v3 v4 v6).symm.trans h
    refine lv_iload hx hb dX8_sum_6 (lv_at hl 5 rfl) ?_
    refine lv_aload_n hx hb dX8_sum_8 rfl (lv_at hl 0 rfl) ?_
    refine xa_get (C := RX8) (T := TX8) (N := 36) cx hG hP 0 rfl rfl uX8 20 (by decide) lf_X8_206 rfl dX8_sum_9 ?_
    refine lv_icmp_ge (tgt := 102) hx hb dX8_sum_12 (by decide) (fun c1 => ?_) (fun c1 => ?_)
    · have h := itp c1 h
      refine lv_lload hx hb dX8_sum_102 (lv_at hl 4 rfl) ?_
      exact hret _ _ _ dX8_sum_104 (Option.some.inj h)
    · have h := itn c1 h
      refine lv_iconst (v := 2) hx hb dX8_sum_15 (by decide) ?_
      refine lv_iload hx hb dX8_sum_16 (lv_at hl 5 rfl) ?_
      refine lv_imul hx hb dX8_sum_18 ?_
      refine lv_iconst (v := 1) hx hb dX8_sum_19 (by decide) ?_
      refine lv_iadd hx hb dX8_sum_20 ?_
      refine lv_aload_n hx hb dX8_sum_21 rfl (lv_at hl 0 rfl) ?_
      refine xa_get (C := RX8) (T := TX8) (N := 36) cx hG hP 0 rfl rfl uX8 20 (by decide) lf_X8_206 rfl dX8_sum_22 ?_
      refine lv_isub hx hb dX8_sum_25 ?_
      refine lv_istore (lv' := [(7, .int (((2 * v6) + 1) - t_wide)), (0, .ref ((a_t 0))), (1, .int v1), (2, .int v2), (3, .int v3), (4, .long v4), (6, .int v6)]) hx hb dX8_sum_26 hl (by decide) rfl (fun ls hl => ?_)
      refine lv_iload_n hx hb dX8_sum_28 rfl (lv_at hl 2 rfl) ?_
      refine lv_if_ne (tgt := 36) hx hb dX8_sum_29 (by decide) (fun c2 => ?_) (fun c2 => ?_)
      · have h := itn c2 h
        refine lv_iload_n hx hb dX8_sum_36 rfl (lv_at hl 2 rfl) ?_
        refine lv_iconst (v := 1) hx hb dX8_sum_37 (by decide) ?_
        refine lv_icmp_ne (tgt := 47) hx hb dX8_sum_38 (by decide) (fun c3 => ?_) (fun c3 => ?_)
        · have h := itn c3 h
          refine lv_iconst (v := 3) hx hb dX8_sum_47 (by decide) ?_
          refine lv_iload hx hb dX8_sum_48 (lv_at hl 0 rfl) ?_
          refine lv_imul hx hb dX8_sum_50 ?_
          refine lv_iload hx hb dX8_sum_51 (lv_at hl 0 rfl) ?_
          refine lv_imul hx hb dX8_sum_53 ?_
          refine lv_iconst (v := 1) hx hb dX8_sum_54 (by decide) ?_
          refine lv_iadd hx hb dX8_sum_55 ?_
          refine lv_i2l (v := (((3 * (((2 * v6) + 1) - t_wide)) * (((2 * v6) + 1) - t_wide)) + 1).toInt64) hx hb dX8_sum_56 rfl ?_
          exact w57 _ ih v1 v2 v3 v4 v6 ((((3 * (((2 * v6) + 1) - t_wide)) * (((2 * v6) + 1) - t_wide)) + 1).toInt64) _ (lv_sub hl [1, 2, 3, 4, 5, 6] rfl) h
        · have h := itp c3 h
          refine lv_iload hx hb dX8_sum_41 (lv_at hl 0 rfl) ?_
          refine lv_i2l (v := (((2 * v6) + 1) - t_wide).toInt64) hx hb dX8_sum_43 rfl ?_
          refine lv_goto (tgt := 57) hx hb dX8_sum_44 (by decide) ?_
          exact w57 _ ih v1 v2 v3 v4 v6 ((((2 * v6) + 1) - t_wide).toInt64) _ (lv_sub hl [1, 2, 3, 4, 5, 6] rfl) h
      · have h := itp c2 h
        refine lv_lconst (v := 1) hx hb dX8_sum_32 (by decide) ?_
        refine lv_goto (tgt := 57) hx hb dX8_sum_33 (by decide) ?_
        exact w57 _ ih v1 v2 v3 v4 v6 1 _ (lv_sub hl [1, 2, 3, 4, 5, 6] rfl) h
  unfold fX8_sum at h
  refine lv_lconst (v := 0) hx hb dX8_sum_0 (by decide) ?_
  refine lv_lstore (lv' := [(4, .long (0)), (0, .ref ((a_t 0))), (1, .int v1), (2, .int v2), (3, .int v3)]) hx hb dX8_sum_1 hl (by decide) rfl (fun ls hl => ?_)
  refine lv_iconst (v := 0) hx hb dX8_sum_3 (by decide) ?_
  refine lv_istore (lv' := [(6, .int (0)), (4, .long (0)), (0, .ref ((a_t 0))), (1, .int v1), (2, .int v2), (3, .int v3)]) hx hb dX8_sum_4 hl (by decide) rfl (fun ls hl => ?_)
  exact w6 FU v1 v2 v3 0 0 _ (lv_sub hl [2, 3, 4, 5, 1, 0] rfl) h
-- X8_warpHere
theorem dX8_warpHere_0 : decode cX8_warpHere 0 = .ok (.lconst 0, 1) := by decide +kernel
theorem dX8_warpHere_1 : decode cX8_warpHere 1 = .ok (.lstore_n 1, 1) := by decide +kernel
theorem dX8_warpHere_2 : decode cX8_warpHere 2 = .ok (.iconst 0, 1) := by decide +kernel
theorem dX8_warpHere_3 : decode cX8_warpHere 3 = .ok (.istore_n 3, 1) := by decide +kernel
theorem dX8_warpHere_4 : decode cX8_warpHere 4 = .ok (.iload_n 3, 1) := by decide +kernel
theorem dX8_warpHere_5 : decode cX8_warpHere 5 = .ok (.iconst 3, 1) := by decide +kernel
theorem dX8_warpHere_6 : decode cX8_warpHere 6 = .ok (.if_icmp .ge 38, 3) := by decide +kernel
theorem dX8_warpHere_9 : decode cX8_warpHere 9 = .ok (.iconst 0, 1) := by decide +kernel
theorem dX8_warpHere_10 : decode cX8_warpHere 10 = .ok (.istore 4, 2) := by decide +kernel
theorem dX8_warpHere_12 : decode cX8_warpHere 12 = .ok (.iload 4, 2) := by decide +kernel
theorem dX8_warpHere_14 : decode cX8_warpHere 14 = .ok (.iconst 3, 1) := by decide +kernel
theorem dX8_warpHere_15 : decode cX8_warpHere 15 = .ok (.if_icmp .ge 23, 3) := by decide +kernel
theorem dX8_warpHere_18 : decode cX8_warpHere 18 = .ok (.lload_n 1, 1) := by decide +kernel
theorem dX8_warpHere_19 : decode cX8_warpHere 19 = .ok (.aload_n 0, 1) := by decide +kernel
theorem dX8_warpHere_20 : decode cX8_warpHere 20 = .ok (.iconst 1, 1) := by decide +kernel
theorem dX8_warpHere_21 : decode cX8_warpHere 21 = .ok (.iload_n 3, 1) := by decide +kernel
theorem dX8_warpHere_22 : decode cX8_warpHere 22 = .ok (.iload 4, 2) := by decide +kernel
theorem dX8_warpHere_24 : decode cX8_warpHere 24 = .ok (.invokevirtual 219, 3) := by decide +kernel
theorem dX8_warpHere_27 : decode cX8_warpHere 27 = .ok (.invokestatic 3, 3) := by decide +kernel
theorem dX8_warpHere_30 : decode cX8_warpHere 30 = .ok (.ladd, 1) := by decide +kernel
theorem dX8_warpHere_31 : decode cX8_warpHere 31 = .ok (.lstore_n 1, 1) := by decide +kernel
theorem dX8_warpHere_32 : decode cX8_warpHere 32 = .ok (.iinc 4 1, 3) := by decide +kernel
theorem dX8_warpHere_35 : decode cX8_warpHere 35 = .ok (.goto (-23), 3) := by decide +kernel
theorem dX8_warpHere_38 : decode cX8_warpHere 38 = .ok (.iinc 3 1, 3) := by decide +kernel
theorem dX8_warpHere_41 : decode cX8_warpHere 41 = .ok (.goto (-37), 3) := by decide +kernel
theorem dX8_warpHere_44 : decode cX8_warpHere 44 = .ok (.lload_n 1, 1) := by decide +kernel
theorem dX8_warpHere_45 : decode cX8_warpHere 45 = .ok (.lreturn, 1) := by decide +kernel
noncomputable def fX8_warpHere_38 (k4 : (Nat → Int32) → (Nat → Int32) → Int32 → Int32 → Int64 → Int32 → Option (Int64)) (t_mem : Nat → Int32) (t_row : Nat → Int32) (t_wide : Int32) (t_lost : Int32) (v1 : Int64) (v3 : Int32) : Option (Int64) := k4 t_mem t_row t_wide t_lost v1 (v3 + 1)
noncomputable def fX8_warpHere_12 (k4 : (Nat → Int32) → (Nat → Int32) → Int32 → Int32 → Int64 → Int32 → Option (Int64)) : Nat → (Nat → Int32) → (Nat → Int32) → Int32 → Int32 → Int64 → Int32 → Int32 → Option (Int64)
  | 0, _, _, _, _, _, _, _ => none
  | n + 1, t_mem, t_row, t_wide, t_lost, v1, v3, v4 => (if 3 ≤ v4 then fX8_warpHere_38 k4 t_mem t_row t_wide t_lost v1 v3 else (fX8_sum t_mem t_row t_wide t_lost 1 v3 v4).bind fun r3 => fX8_warpHere_12 k4 n t_mem t_row t_wide t_lost (v1 + (labs r3)) v3 (v4 + 1))
theorem fX8_warpHere_12_z (k4 : (Nat → Int32) → (Nat → Int32) → Int32 → Int32 → Int64 → Int32 → Option (Int64)) (t_mem : Nat → Int32) (t_row : Nat → Int32) (t_wide : Int32) (t_lost : Int32) (v1 : Int64) (v3 : Int32) (v4 : Int32) : fX8_warpHere_12 k4 0 t_mem t_row t_wide t_lost v1 v3 v4 = none := rfl
theorem fX8_warpHere_12_s (k4 : (Nat → Int32) → (Nat → Int32) → Int32 → Int32 → Int64 → Int32 → Option (Int64)) (n : Nat) (t_mem : Nat → Int32) (t_row : Nat → Int32) (t_wide : Int32) (t_lost : Int32) (v1 : Int64) (v3 : Int32) (v4 : Int32) : fX8_warpHere_12 k4 (n + 1) t_mem t_row t_wide t_lost v1 v3 v4 = (if 3 ≤ v4 then fX8_warpHere_38 k4 t_mem t_row t_wide t_lost v1 v3 else (fX8_sum t_mem t_row t_wide t_lost 1 v3 v4).bind fun r3 => fX8_warpHere_12 k4 n t_mem t_row t_wide t_lost (v1 + (labs r3)) v3 (v4 + 1)) := rfl
noncomputable def fX8_warpHere_4  : Nat → (Nat → Int32) → (Nat → Int32) → Int32 → Int32 → Int64 → Int32 → Option (Int64)
  | 0, _, _, _, _, _, _ => none
  | n + 1, t_mem, t_row, t_wide, t_lost, v1, v3 => (if 3 ≤ v3 then some v1 else fX8_warpHere_12 (fX8_warpHere_4 n) FU t_mem t_row t_wide t_lost v1 v3 0)
theorem fX8_warpHere_4_z  (t_mem : Nat → Int32) (t_row : Nat → Int32) (t_wide : Int32) (t_lost : Int32) (v1 : Int64) (v3 : Int32) : fX8_warpHere_4  0 t_mem t_row t_wide t_lost v1 v3 = none := rfl
theorem fX8_warpHere_4_s  (n : Nat) (t_mem : Nat → Int32) (t_row : Nat → Int32) (t_wide : Int32) (t_lost : Int32) (v1 : Int64) (v3 : Int32) : fX8_warpHere_4  (n + 1) t_mem t_row t_wide t_lost v1 v3 = (if 3 ≤ v3 then some v1 else fX8_warpHere_12 (fX8_warpHere_4 n) FU t_mem t_row t_wide t_lost v1 v3 0) := rfl
noncomputable def fX8_warpHere  (t_mem : Nat → Int32) (t_row : Nat → Int32) (t_wide : Int32) (t_lost : Int32) : Option (Int64) := fX8_warpHere_4 FU t_mem t_row t_wide t_lost 0 0
set_option maxHeartbeats 4000000 in
set_option maxRecDepth 100000 in
theorem ctX8_warpHere (l : Launch) (g : GT) (a_t : Nat → Nat) (t_acted : Int32) (t_taped : Int32) (t_faultKind : Int32) (t_faultPlace : Int32) (t_at : Int32) (t_begin : Int32) (t_token : Int32) (t_value : Int32) (t_bad : Int32) (t_wide : Int32) (t_lost : Int32) (t_det : Int64) (t_mask : Int32) (t_mode : Int32) (t_wanted : Int32) (t_orders : Int32) (t_foundAt : Int32) (t_foundBy : Int64) (t_unlikes : Int32) (t_mem : Nat → Int32) (t_row : Nat → Int32) (o : Int64) (h : fX8_warpHere t_mem t_row t_wide t_lost = some o) : Met l yX8_warpHere (Cond.code yX8_warpHere cX8_warpHere 5 (some .long) :: Tw) ⟨2, 0, 0, 56⟩ (va_Pc [.ref ((a_t 0))] (roB g [((a_t 0), .inr (7, [.ref (a_t 1), .ref (a_t 2), .int t_acted, .ref (a_t 4), .ref (a_t 5), .ref (a_t 6), .ref (a_t 7), .ref (a_t 8), .ref (a_t 9), .int t_taped, .int t_faultKind, .int t_faultPlace, .int t_at, .int t_begin, .int t_token, .int t_value, .int t_bad, .ref (a_t 18), .ref (a_t 19), .ref (a_t 20), .int t_wide, .int t_lost, .ref (a_t 23), .long t_det, .ref (a_t 25), .int t_mask, .int t_mode, .int t_wanted, .int t_orders, .int t_foundAt, .long t_foundBy, .ref (a_t 32), .ref (a_t 33), .int t_unlikes, .ref (a_t 35), .ref (a_t 36)])), ((a_t 1), .inl (g.2.2.1 0, 27, .inl t_mem)), ((a_t 20), .inl (g.2.2.1 0, 8, .inl t_row))])) (vp_Sl (fun x => x = o)) 0 0 (fun _ => False) := by
  refine ro_metl (by decide) (Nat.le_of_ble_eq_true rfl) (lv0 := [(0, .ref ((a_t 0)))]) rfl ?_
  intro p e s m args below meth c ls Q cx hret hG hP hl
  have hx := cx.1
  have hb := cx.2.1
  have hG0 := hG
  have w38 : ∀ (k4 : (Nat → Int32) → (Nat → Int32) → Int32 → Int32 → Int64 → Int32 → Option (Int64)) (hk4 : ∀ (v1 : Int64) (v3 : Int32) (ls : Array Slot), lv_has ls 5 [(0, .ref ((a_t 0))), (1, .long v1), (3, .int v3)] → k4 t_mem t_row t_wide t_lost v1 v3 = some o → W p l e ⟨2, 0, 0, 56⟩ s m args below meth c s.heap [] 0 0 Q (F0 m 4 ls [])) (v1 : Int64) (v3 : Int32) (ls : Array Slot), lv_has ls 5 [(0, .ref ((a_t 0))), (1, .long v1), (3, .int v3)] → fX8_warpHere_38 k4 t_mem t_row t_wide t_lost v1 v3 = some o → W p l e ⟨2, 0, 0, 56⟩ s m args below meth c s.heap [] 0 0 Q (F0 m 38 ls []) := by
    intro k4 hk4 v1 v3 ls hl h
    unfold fX8_warpHere_38 at h
    refine lv_iinc (v := v3 + 1) (lv' := [(3, .int (v3 + 1)), (0, .ref ((a_t 0))), (1, .long v1)]) hx hb dX8_warpHere_38 hl (k := 2) rfl rfl (by decide) rfl (fun ls hl => ?_)
    refine lv_goto (tgt := 4) hx hb dX8_warpHere_41 (by decide) ?_
    exact hk4 v1 (v3 + 1) _ (lv_sub hl [1, 2, 0] rfl) h
  have w12 : ∀ (k4 : (Nat → Int32) → (Nat → Int32) → Int32 → Int32 → Int64 → Int32 → Option (Int64)) (hk4 : ∀ (v1 : Int64) (v3 : Int32) (ls : Array Slot), lv_has ls 5 [(0, .ref ((a_t 0))), (1, .long v1), (3, .int v3)] → k4 t_mem t_row t_wide t_lost v1 v3 = some o → W p l e ⟨2, 0, 0, 56⟩ s m args below meth c s.heap [] 0 0 Q (F0 m 4 ls [])) (n : Nat) (v1 : Int64) (v3 : Int32) (v4 : Int32) (ls : Array Slot), lv_has ls 5 [(0, .ref ((a_t 0))), (1, .long v1), (3, .int v3), (4, .int v4)] → fX8_warpHere_12 k4 n t_mem t_row t_wide t_lost v1 v3 v4 = some o → W p l e ⟨2, 0, 0, 56⟩ s m args below meth c s.heap [] 0 0 Q (F0 m 12 ls []) := by
    intro k4 hk4 n
    induction n with
    | zero => intro v1 v3 v4 ls hl h; cases (fX8_warpHere_12_z k4 t_mem t_row t_wide t_lost v1 v3 v4).symm.trans h
    | succ n ih =>
    intro v1 v3 v4 ls hl h
    have h := (fX8_warpHere_12_s k4 n t_mem t_row t_wide t_lost v1 v3 v4).symm.trans h
    refine lv_iload hx hb dX8_warpHere_12 (lv_at hl 3 rfl) ?_
    refine lv_iconst (v := 3) hx hb dX8_warpHere_14 (by decide) ?_
    refine lv_icmp_ge (tgt := 38) hx hb dX8_warpHere_15 (by decide) (fun c2 => ?_) (fun c2 => ?_)
    · have h := itp c2 h
      exact w38 _ hk4 v1 v3 _ (lv_sub hl [0, 1, 2] rfl) h
    · have h := itn c2 h
      refine lv_lload_n hx hb dX8_warpHere_18 rfl (lv_at hl 1 rfl) ?_
      refine lv_aload_n hx hb dX8_warpHere_19 rfl (lv_at hl 0 rfl) ?_
      refine lv_iconst (v := 1) hx hb dX8_warpHere_20 (by decide) ?_
      refine lv_iload_n hx hb dX8_warpHere_21 rfl (lv_at hl 2 rfl) ?_
      refine lv_iload hx hb dX8_warpHere_22 (lv_at hl 3 rfl) ?_
      obtain ⟨r3, hr4, h⟩ := bnd h
      refine ro_l (runV (As := [.int (1), .int v3, .int v4]) (rest := [.long v1]) cx hl.1 (ctX8_sum l g a_t t_acted t_taped t_faultKind t_faultPlace t_at t_begin t_token t_value t_bad t_wide t_lost t_det t_mask t_mode t_wanted t_orders t_foundAt t_foundBy t_unlikes t_mem t_row (1) v3 v4 r3 hr4) kmX8_sum kvX8_sum lm_X8_219 ⟨rfl, rfl⟩ ⟨Nat.le_of_ble_eq_true rfl, Nat.le_of_ble_eq_true rfl⟩ (roV (q0 := 0) (ci := 7) hG (hP.sub [0, 1, 2] rfl) hP rfl rfl) rfl rfl (Nat.le_of_ble_eq_true rfl) dX8_warpHere_24 ⟨Nat.le_of_ble_eq_true rfl, Nat.le_of_ble_eq_true rfl⟩) ?_
      refine xm_labs cx hl.1 lm_X8_3 ⟨ksJ9_abs_067f4, kmJ9_abs_067f4.2.1, kmJ9_abs_067f4.1⟩ (Nat.le_of_ble_eq_true rfl) (Nat.le_of_ble_eq_true rfl) (Nat.le_of_ble_eq_true rfl) (Nat.le_of_ble_eq_true rfl) dX8_warpHere_27 ?_
      refine lv_ladd hx hb dX8_warpHere_30 ?_
      refine lv_lstore_n (lv' := [(1, .long (v1 + (labs r3))), (0, .ref ((a_t 0))), (3, .int v3), (4, .int v4)]) hx hb dX8_warpHere_31 rfl hl (by decide) rfl (fun ls hl => ?_)
      refine lv_iinc (v := v4 + 1) (lv' := [(4, .int (v4 + 1)), (1, .long (v1 + (labs r3))), (0, .ref ((a_t 0))), (3, .int v3)]) hx hb dX8_warpHere_32 hl (k := 3) rfl rfl (by decide) rfl (fun ls hl => ?_)
      refine lv_goto (tgt := 12) hx hb dX8_warpHere_35 (by decide) ?_
      exact ih (v1 + (labs r3)) v3 (v4 + 1) _ (lv_sub hl [2, 1, 3, 0] rfl) h
  have w4 : ∀ (n : Nat) (v1 : Int64) (v3 : Int32) (ls : Array Slot), lv_has ls 5 [(0, .ref ((a_t 0))), (1, .long v1), (3, .int v3)] → fX8_warpHere_4  n t_mem t_row t_wide t_lost v1 v3 = some o → W p l e ⟨2, 0, 0, 56⟩ s m args below meth c s.heap [] 0 0 Q (F0 m 4 ls []) := by
    intro n
    induction n with
    | zero => intro v1 v3 ls hl h; cases (fX8_warpHere_4_z  t_mem t_row t_wide t_lost v1 v3).symm.trans h
    | succ n ih =>
    intro v1 v3 ls hl h
    have h := (fX8_warpHere_4_s  n t_mem t_row t_wide t_lost v1 v3).symm.trans h
    refine lv_iload_n hx hb dX8_warpHere_4 rfl (lv_at hl 2 rfl) ?_
    refine lv_iconst (v := 3) hx hb dX8_warpHere_5 (by decide) ?_
    refine lv_icmp_ge (tgt := 44) hx hb dX8_warpHere_6 (by decide) (fun c1 => ?_) (fun c1 => ?_)
    · have h := itp c1 h
      refine lv_lload_n hx hb dX8_warpHere_44 rfl (lv_at hl 1 rfl) ?_
      exact hret _ _ _ dX8_warpHere_45 (Option.some.inj h)
    · have h := itn c1 h
      refine lv_iconst (v := 0) hx hb dX8_warpHere_9 (by decide) ?_
      refine lv_istore (lv' := [(4, .int (0)), (0, .ref ((a_t 0))), (1, .long v1), (3, .int v3)]) hx hb dX8_warpHere_10 hl (by decide) rfl (fun ls hl => ?_)
      exact w12 _ ih FU v1 v3 0 _ (lv_sub hl [1, 2, 3, 0] rfl) h
  unfold fX8_warpHere at h
  refine lv_lconst (v := 0) hx hb dX8_warpHere_0 (by decide) ?_
  refine lv_lstore_n (lv' := [(1, .long (0)), (0, .ref ((a_t 0)))]) hx hb dX8_warpHere_1 rfl hl (by decide) rfl (fun ls hl => ?_)
  refine lv_iconst (v := 0) hx hb dX8_warpHere_2 (by decide) ?_
  refine lv_istore_n (lv' := [(3, .int (0)), (1, .long (0)), (0, .ref ((a_t 0)))]) hx hb dX8_warpHere_3 rfl hl (by decide) rfl (fun ls hl => ?_)
  exact w4 FU 0 0 _ (lv_sub hl [2, 1, 0] rfl) h
-- X8_twistHere
theorem dX8_twistHere_0 : decode cX8_twistHere 0 = .ok (.aload_n 0, 1) := by decide +kernel
theorem dX8_twistHere_1 : decode cX8_twistHere 1 = .ok (.iconst 0, 1) := by decide +kernel
theorem dX8_twistHere_2 : decode cX8_twistHere 2 = .ok (.iconst 0, 1) := by decide +kernel
theorem dX8_twistHere_3 : decode cX8_twistHere 3 = .ok (.iconst 2, 1) := by decide +kernel
theorem dX8_twistHere_4 : decode cX8_twistHere 4 = .ok (.invokevirtual 219, 3) := by decide +kernel
theorem dX8_twistHere_7 : decode cX8_twistHere 7 = .ok (.invokestatic 3, 3) := by decide +kernel
theorem dX8_twistHere_10 : decode cX8_twistHere 10 = .ok (.aload_n 0, 1) := by decide +kernel
theorem dX8_twistHere_11 : decode cX8_twistHere 11 = .ok (.iconst 0, 1) := by decide +kernel
theorem dX8_twistHere_12 : decode cX8_twistHere 12 = .ok (.iconst 1, 1) := by decide +kernel
theorem dX8_twistHere_13 : decode cX8_twistHere 13 = .ok (.iconst 2, 1) := by decide +kernel
theorem dX8_twistHere_14 : decode cX8_twistHere 14 = .ok (.invokevirtual 219, 3) := by decide +kernel
theorem dX8_twistHere_17 : decode cX8_twistHere 17 = .ok (.invokestatic 3, 3) := by decide +kernel
theorem dX8_twistHere_20 : decode cX8_twistHere 20 = .ok (.ladd, 1) := by decide +kernel
theorem dX8_twistHere_21 : decode cX8_twistHere 21 = .ok (.aload_n 0, 1) := by decide +kernel
theorem dX8_twistHere_22 : decode cX8_twistHere 22 = .ok (.iconst 2, 1) := by decide +kernel
theorem dX8_twistHere_23 : decode cX8_twistHere 23 = .ok (.iconst 0, 1) := by decide +kernel
theorem dX8_twistHere_24 : decode cX8_twistHere 24 = .ok (.iconst 2, 1) := by decide +kernel
theorem dX8_twistHere_25 : decode cX8_twistHere 25 = .ok (.invokevirtual 219, 3) := by decide +kernel
theorem dX8_twistHere_28 : decode cX8_twistHere 28 = .ok (.invokestatic 3, 3) := by decide +kernel
theorem dX8_twistHere_31 : decode cX8_twistHere 31 = .ok (.ladd, 1) := by decide +kernel
theorem dX8_twistHere_32 : decode cX8_twistHere 32 = .ok (.aload_n 0, 1) := by decide +kernel
theorem dX8_twistHere_33 : decode cX8_twistHere 33 = .ok (.iconst 2, 1) := by decide +kernel
theorem dX8_twistHere_34 : decode cX8_twistHere 34 = .ok (.iconst 1, 1) := by decide +kernel
theorem dX8_twistHere_35 : decode cX8_twistHere 35 = .ok (.iconst 2, 1) := by decide +kernel
theorem dX8_twistHere_36 : decode cX8_twistHere 36 = .ok (.invokevirtual 219, 3) := by decide +kernel
theorem dX8_twistHere_39 : decode cX8_twistHere 39 = .ok (.invokestatic 3, 3) := by decide +kernel
theorem dX8_twistHere_42 : decode cX8_twistHere 42 = .ok (.ladd, 1) := by decide +kernel
theorem dX8_twistHere_43 : decode cX8_twistHere 43 = .ok (.lreturn, 1) := by decide +kernel
noncomputable def fX8_twistHere  (t_mem : Nat → Int32) (t_row : Nat → Int32) (t_wide : Int32) (t_lost : Int32) : Option (Int64) := (fX8_sum t_mem t_row t_wide t_lost 0 0 2).bind fun r1 => (fX8_sum t_mem t_row t_wide t_lost 0 1 2).bind fun r3 => (fX8_sum t_mem t_row t_wide t_lost 2 0 2).bind fun r5 => (fX8_sum t_mem t_row t_wide t_lost 2 1 2).bind fun r7 => some ((((labs r1) + (labs r3)) + (labs r5)) + (labs r7))
set_option maxHeartbeats 4000000 in
set_option maxRecDepth 100000 in
theorem ctX8_twistHere (l : Launch) (g : GT) (a_t : Nat → Nat) (t_acted : Int32) (t_taped : Int32) (t_faultKind : Int32) (t_faultPlace : Int32) (t_at : Int32) (t_begin : Int32) (t_token : Int32) (t_value : Int32) (t_bad : Int32) (t_wide : Int32) (t_lost : Int32) (t_det : Int64) (t_mask : Int32) (t_mode : Int32) (t_wanted : Int32) (t_orders : Int32) (t_foundAt : Int32) (t_foundBy : Int64) (t_unlikes : Int32) (t_mem : Nat → Int32) (t_row : Nat → Int32) (o : Int64) (h : fX8_twistHere t_mem t_row t_wide t_lost = some o) : Met l yX8_twistHere (Cond.code yX8_twistHere cX8_twistHere 1 (some .long) :: Tw) ⟨2, 0, 0, 56⟩ (va_Pc [.ref ((a_t 0))] (roB g [((a_t 0), .inr (7, [.ref (a_t 1), .ref (a_t 2), .int t_acted, .ref (a_t 4), .ref (a_t 5), .ref (a_t 6), .ref (a_t 7), .ref (a_t 8), .ref (a_t 9), .int t_taped, .int t_faultKind, .int t_faultPlace, .int t_at, .int t_begin, .int t_token, .int t_value, .int t_bad, .ref (a_t 18), .ref (a_t 19), .ref (a_t 20), .int t_wide, .int t_lost, .ref (a_t 23), .long t_det, .ref (a_t 25), .int t_mask, .int t_mode, .int t_wanted, .int t_orders, .int t_foundAt, .long t_foundBy, .ref (a_t 32), .ref (a_t 33), .int t_unlikes, .ref (a_t 35), .ref (a_t 36)])), ((a_t 1), .inl (g.2.2.1 0, 27, .inl t_mem)), ((a_t 20), .inl (g.2.2.1 0, 8, .inl t_row))])) (vp_Sl (fun x => x = o)) 0 0 (fun _ => False) := by
  refine ro_metl (by decide) (Nat.le_of_ble_eq_true rfl) (lv0 := [(0, .ref ((a_t 0)))]) rfl ?_
  intro p e s m args below meth c ls Q cx hret hG hP hl
  have hx := cx.1
  have hb := cx.2.1
  have hG0 := hG
  unfold fX8_twistHere at h
  refine lv_aload_n hx hb dX8_twistHere_0 rfl (lv_at hl 0 rfl) ?_
  refine lv_iconst (v := 0) hx hb dX8_twistHere_1 (by decide) ?_
  refine lv_iconst (v := 0) hx hb dX8_twistHere_2 (by decide) ?_
  refine lv_iconst (v := 2) hx hb dX8_twistHere_3 (by decide) ?_
  obtain ⟨r1, hr2, h⟩ := bnd h
  refine ro_l (runV (As := [.int (0), .int (0), .int (2)]) (rest := []) cx hl.1 (ctX8_sum l g a_t t_acted t_taped t_faultKind t_faultPlace t_at t_begin t_token t_value t_bad t_wide t_lost t_det t_mask t_mode t_wanted t_orders t_foundAt t_foundBy t_unlikes t_mem t_row (0) (0) (2) r1 hr2) kmX8_sum kvX8_sum lm_X8_219 ⟨rfl, rfl⟩ ⟨Nat.le_of_ble_eq_true rfl, Nat.le_of_ble_eq_true rfl⟩ (roV (q0 := 0) (ci := 7) hG (hP.sub [0, 1, 2] rfl) hP rfl rfl) rfl rfl (Nat.le_of_ble_eq_true rfl) dX8_twistHere_4 ⟨Nat.le_of_ble_eq_true rfl, Nat.le_of_ble_eq_true rfl⟩) ?_
  refine xm_labs cx hl.1 lm_X8_3 ⟨ksJ9_abs_067f4, kmJ9_abs_067f4.2.1, kmJ9_abs_067f4.1⟩ (Nat.le_of_ble_eq_true rfl) (Nat.le_of_ble_eq_true rfl) (Nat.le_of_ble_eq_true rfl) (Nat.le_of_ble_eq_true rfl) dX8_twistHere_7 ?_
  refine lv_aload_n hx hb dX8_twistHere_10 rfl (lv_at hl 0 rfl) ?_
  refine lv_iconst (v := 0) hx hb dX8_twistHere_11 (by decide) ?_
  refine lv_iconst (v := 1) hx hb dX8_twistHere_12 (by decide) ?_
  refine lv_iconst (v := 2) hx hb dX8_twistHere_13 (by decide) ?_
  obtain ⟨r3, hr4, h⟩ := bnd h
  refine ro_l (runV (As := [.int (0), .int (1), .int (2)]) (rest := [.long (labs r1)]) cx hl.1 (ctX8_sum l g a_t t_acted t_taped t_faultKind t_faultPlace t_at t_begin t_token t_value t_bad t_wide t_lost t_det t_mask t_mode t_wanted t_orders t_foundAt t_foundBy t_unlikes t_mem t_row (0) (1) (2) r3 hr4) kmX8_sum kvX8_sum lm_X8_219 ⟨rfl, rfl⟩ ⟨Nat.le_of_ble_eq_true rfl, Nat.le_of_ble_eq_true rfl⟩ (roV (q0 := 0) (ci := 7) hG (hP.sub [0, 1, 2] rfl) hP rfl rfl) rfl rfl (Nat.le_of_ble_eq_true rfl) dX8_twistHere_14 ⟨Nat.le_of_ble_eq_true rfl, Nat.le_of_ble_eq_true rfl⟩) ?_
  refine xm_labs cx hl.1 lm_X8_3 ⟨ksJ9_abs_067f4, kmJ9_abs_067f4.2.1, kmJ9_abs_067f4.1⟩ (Nat.le_of_ble_eq_true rfl) (Nat.le_of_ble_eq_true rfl) (Nat.le_of_ble_eq_true rfl) (Nat.le_of_ble_eq_true rfl) dX8_twistHere_17 ?_
  refine lv_ladd hx hb dX8_twistHere_20 ?_
  refine lv_aload_n hx hb dX8_twistHere_21 rfl (lv_at hl 0 rfl) ?_
  refine lv_iconst (v := 2) hx hb dX8_twistHere_22 (by decide) ?_
  refine lv_iconst (v := 0) hx hb dX8_twistHere_23 (by decide) ?_
  refine lv_iconst (v := 2) hx hb dX8_twistHere_24 (by decide) ?_
  obtain ⟨r5, hr6, h⟩ := bnd h
  refine ro_l (runV (As := [.int (2), .int (0), .int (2)]) (rest := [.long ((labs r1) + (labs r3))]) cx hl.1 (ctX8_sum l g a_t t_acted t_taped t_faultKind t_faultPlace t_at t_begin t_token t_value t_bad t_wide t_lost t_det t_mask t_mode t_wanted t_orders t_foundAt t_foundBy t_unlikes t_mem t_row (2) (0) (2) r5 hr6) kmX8_sum kvX8_sum lm_X8_219 ⟨rfl, rfl⟩ ⟨Nat.le_of_ble_eq_true rfl, Nat.le_of_ble_eq_true rfl⟩ (roV (q0 := 0) (ci := 7) hG (hP.sub [0, 1, 2] rfl) hP rfl rfl) rfl rfl (Nat.le_of_ble_eq_true rfl) dX8_twistHere_25 ⟨Nat.le_of_ble_eq_true rfl, Nat.le_of_ble_eq_true rfl⟩) ?_
  refine xm_labs cx hl.1 lm_X8_3 ⟨ksJ9_abs_067f4, kmJ9_abs_067f4.2.1, kmJ9_abs_067f4.1⟩ (Nat.le_of_ble_eq_true rfl) (Nat.le_of_ble_eq_true rfl) (Nat.le_of_ble_eq_true rfl) (Nat.le_of_ble_eq_true rfl) dX8_twistHere_28 ?_
  refine lv_ladd hx hb dX8_twistHere_31 ?_
  refine lv_aload_n hx hb dX8_twistHere_32 rfl (lv_at hl 0 rfl) ?_
  refine lv_iconst (v := 2) hx hb dX8_twistHere_33 (by decide) ?_
  refine lv_iconst (v := 1) hx hb dX8_twistHere_34 (by decide) ?_
  refine lv_iconst (v := 2) hx hb dX8_twistHere_35 (by decide) ?_
  obtain ⟨r7, hr8, h⟩ := bnd h
  refine ro_l (runV (As := [.int (2), .int (1), .int (2)]) (rest := [.long (((labs r1) + (labs r3)) + (labs r5))]) cx hl.1 (ctX8_sum l g a_t t_acted t_taped t_faultKind t_faultPlace t_at t_begin t_token t_value t_bad t_wide t_lost t_det t_mask t_mode t_wanted t_orders t_foundAt t_foundBy t_unlikes t_mem t_row (2) (1) (2) r7 hr8) kmX8_sum kvX8_sum lm_X8_219 ⟨rfl, rfl⟩ ⟨Nat.le_of_ble_eq_true rfl, Nat.le_of_ble_eq_true rfl⟩ (roV (q0 := 0) (ci := 7) hG (hP.sub [0, 1, 2] rfl) hP rfl rfl) rfl rfl (Nat.le_of_ble_eq_true rfl) dX8_twistHere_36 ⟨Nat.le_of_ble_eq_true rfl, Nat.le_of_ble_eq_true rfl⟩) ?_
  refine xm_labs cx hl.1 lm_X8_3 ⟨ksJ9_abs_067f4, kmJ9_abs_067f4.2.1, kmJ9_abs_067f4.1⟩ (Nat.le_of_ble_eq_true rfl) (Nat.le_of_ble_eq_true rfl) (Nat.le_of_ble_eq_true rfl) (Nat.le_of_ble_eq_true rfl) dX8_twistHere_39 ?_
  refine lv_ladd hx hb dX8_twistHere_42 ?_
  exact hret _ _ _ dX8_twistHere_43 (Option.some.inj h)
-- X8_isMirrored
theorem dX8_isMirrored_0 : decode cX8_isMirrored 0 = .ok (.iconst 0, 1) := by decide +kernel
theorem dX8_isMirrored_1 : decode cX8_isMirrored 1 = .ok (.istore_n 1, 1) := by decide +kernel
theorem dX8_isMirrored_2 : decode cX8_isMirrored 2 = .ok (.iload_n 1, 1) := by decide +kernel
theorem dX8_isMirrored_3 : decode cX8_isMirrored 3 = .ok (.aload_n 0, 1) := by decide +kernel
theorem dX8_isMirrored_4 : decode cX8_isMirrored 4 = .ok (.getfield 206, 3) := by decide +kernel
theorem dX8_isMirrored_7 : decode cX8_isMirrored 7 = .ok (.if_icmp .ge 33, 3) := by decide +kernel
theorem dX8_isMirrored_10 : decode cX8_isMirrored 10 = .ok (.aload_n 0, 1) := by decide +kernel
theorem dX8_isMirrored_11 : decode cX8_isMirrored 11 = .ok (.getfield 57, 3) := by decide +kernel
theorem dX8_isMirrored_14 : decode cX8_isMirrored 14 = .ok (.iload_n 1, 1) := by decide +kernel
theorem dX8_isMirrored_15 : decode cX8_isMirrored 15 = .ok (.iaload, 1) := by decide +kernel
theorem dX8_isMirrored_16 : decode cX8_isMirrored 16 = .ok (.aload_n 0, 1) := by decide +kernel
theorem dX8_isMirrored_17 : decode cX8_isMirrored 17 = .ok (.getfield 57, 3) := by decide +kernel
theorem dX8_isMirrored_20 : decode cX8_isMirrored 20 = .ok (.aload_n 0, 1) := by decide +kernel
theorem dX8_isMirrored_21 : decode cX8_isMirrored 21 = .ok (.getfield 206, 3) := by decide +kernel
theorem dX8_isMirrored_24 : decode cX8_isMirrored 24 = .ok (.iconst 1, 1) := by decide +kernel
theorem dX8_isMirrored_25 : decode cX8_isMirrored 25 = .ok (.isub, 1) := by decide +kernel
theorem dX8_isMirrored_26 : decode cX8_isMirrored 26 = .ok (.iload_n 1, 1) := by decide +kernel
theorem dX8_isMirrored_27 : decode cX8_isMirrored 27 = .ok (.isub, 1) := by decide +kernel
theorem dX8_isMirrored_28 : decode cX8_isMirrored 28 = .ok (.iaload, 1) := by decide +kernel
theorem dX8_isMirrored_29 : decode cX8_isMirrored 29 = .ok (.if_icmp .eq 5, 3) := by decide +kernel
theorem dX8_isMirrored_32 : decode cX8_isMirrored 32 = .ok (.iconst 0, 1) := by decide +kernel
theorem dX8_isMirrored_33 : decode cX8_isMirrored 33 = .ok (.ireturn, 1) := by decide +kernel
theorem dX8_isMirrored_34 : decode cX8_isMirrored 34 = .ok (.iinc 1 1, 3) := by decide +kernel
theorem dX8_isMirrored_37 : decode cX8_isMirrored 37 = .ok (.goto (-35), 3) := by decide +kernel
theorem dX8_isMirrored_40 : decode cX8_isMirrored 40 = .ok (.iconst 1, 1) := by decide +kernel
theorem dX8_isMirrored_41 : decode cX8_isMirrored 41 = .ok (.ireturn, 1) := by decide +kernel
noncomputable def fX8_isMirrored_2  : Nat → (Nat → Int32) → Int32 → Int32 → Option (Int32)
  | 0, _, _, _ => none
  | n + 1, t_row, t_wide, v1 => (if t_wide ≤ v1 then some (1) else chk 8 v1 (chk 8 ((t_wide - 1) - v1) ((if (t_row v1.toNatClampNeg) = (t_row ((t_wide - 1) - v1).toNatClampNeg) then fX8_isMirrored_2 n t_row t_wide (v1 + 1) else some (0)))))
theorem fX8_isMirrored_2_z  (t_row : Nat → Int32) (t_wide : Int32) (v1 : Int32) : fX8_isMirrored_2  0 t_row t_wide v1 = none := rfl
theorem fX8_isMirrored_2_s  (n : Nat) (t_row : Nat → Int32) (t_wide : Int32) (v1 : Int32) : fX8_isMirrored_2  (n + 1) t_row t_wide v1 = (if t_wide ≤ v1 then some (1) else chk 8 v1 (chk 8 ((t_wide - 1) - v1) ((if (t_row v1.toNatClampNeg) = (t_row ((t_wide - 1) - v1).toNatClampNeg) then fX8_isMirrored_2 n t_row t_wide (v1 + 1) else some (0))))) := rfl
noncomputable def fX8_isMirrored  (t_row : Nat → Int32) (t_wide : Int32) : Option (Int32) := fX8_isMirrored_2 FU t_row t_wide 0
set_option maxHeartbeats 4000000 in
set_option maxRecDepth 100000 in
theorem ctX8_isMirrored (l : Launch) (g : GT) (a_t : Nat → Nat) (t_acted : Int32) (t_taped : Int32) (t_faultKind : Int32) (t_faultPlace : Int32) (t_at : Int32) (t_begin : Int32) (t_token : Int32) (t_value : Int32) (t_bad : Int32) (t_wide : Int32) (t_lost : Int32) (t_det : Int64) (t_mask : Int32) (t_mode : Int32) (t_wanted : Int32) (t_orders : Int32) (t_foundAt : Int32) (t_foundBy : Int64) (t_unlikes : Int32) (t_row : Nat → Int32) (o : Int32) (h : fX8_isMirrored t_row t_wide = some o) : Met l yX8_isMirrored (Cond.code yX8_isMirrored cX8_isMirrored 2 (some .boolean) :: Tw) ⟨0, 0, 0, 0⟩ (va_Pc [.ref ((a_t 0))] (roB g [((a_t 0), .inr (7, [.ref (a_t 1), .ref (a_t 2), .int t_acted, .ref (a_t 4), .ref (a_t 5), .ref (a_t 6), .ref (a_t 7), .ref (a_t 8), .ref (a_t 9), .int t_taped, .int t_faultKind, .int t_faultPlace, .int t_at, .int t_begin, .int t_token, .int t_value, .int t_bad, .ref (a_t 18), .ref (a_t 19), .ref (a_t 20), .int t_wide, .int t_lost, .ref (a_t 23), .long t_det, .ref (a_t 25), .int t_mask, .int t_mode, .int t_wanted, .int t_orders, .int t_foundAt, .long t_foundBy, .ref (a_t 32), .ref (a_t 33), .int t_unlikes, .ref (a_t 35), .ref (a_t 36)])), ((a_t 20), .inl (g.2.2.1 0, 8, .inl t_row))])) (vp_Si (fun x => x = o ∧ (x = 0 ∨ x = 1))) 0 0 (fun _ => False) := by
  refine ro_metz (by decide) (Nat.le_of_ble_eq_true rfl) (lv0 := [(0, .ref ((a_t 0)))]) rfl ?_
  intro p e s m args below meth c ls Q cx hret hG hP hl
  have hx := cx.1
  have hb := cx.2.1
  have hG0 := hG
  have w2 : ∀ (n : Nat) (v1 : Int32) (ls : Array Slot), lv_has ls 2 [(0, .ref ((a_t 0))), (1, .int v1)] → fX8_isMirrored_2  n t_row t_wide v1 = some o → W p l e ⟨0, 0, 0, 0⟩ s m args below meth c s.heap [] 0 0 Q (F0 m 2 ls []) := by
    intro n
    induction n with
    | zero => intro v1 ls hl h; cases (fX8_isMirrored_2_z  t_row t_wide v1).symm.trans h
    | succ n ih =>
    intro v1 ls hl h
    have h := (fX8_isMirrored_2_s  n t_row t_wide v1).symm.trans h
    refine lv_iload_n hx hb dX8_isMirrored_2 rfl (lv_at hl 1 rfl) ?_
    refine lv_aload_n hx hb dX8_isMirrored_3 rfl (lv_at hl 0 rfl) ?_
    refine xa_get (C := RX8) (T := TX8) (N := 36) cx hG hP 0 rfl rfl uX8 20 (by decide) lf_X8_206 rfl dX8_isMirrored_4 ?_
    refine lv_icmp_ge (tgt := 40) hx hb dX8_isMirrored_7 (by decide) (fun c1 => ?_) (fun c1 => ?_)
    · have h := itp c1 h
      refine lv_iconst (v := 1) hx hb dX8_isMirrored_40 (by decide) ?_
      exact hret _ _ _ dX8_isMirrored_41 (by decide) (Option.some.inj h)
    · have h := itn c1 h
      refine lv_aload_n hx hb dX8_isMirrored_10 rfl (lv_at hl 0 rfl) ?_
      refine xa_get (C := RX8) (T := TX8) (N := 36) cx hG hP 0 rfl rfl uX8 19 (by decide) lf_X8_57 rfl dX8_isMirrored_11 ?_
      refine lv_iload_n hx hb dX8_isMirrored_14 rfl (lv_at hl 1 rfl) ?_
      obtain ⟨hi2, h⟩ := chk_out h
      refine xa_iald cx hG hP 1 rfl hi2 rfl dX8_isMirrored_15 ?_
      refine lv_aload_n hx hb dX8_isMirrored_16 rfl (lv_at hl 0 rfl) ?_
      refine xa_get (C := RX8) (T := TX8) (N := 36) cx hG hP 0 rfl rfl uX8 19 (by decide) lf_X8_57 rfl dX8_isMirrored_17 ?_
      refine lv_aload_n hx hb dX8_isMirrored_20 rfl (lv_at hl 0 rfl) ?_
      refine xa_get (C := RX8) (T := TX8) (N := 36) cx hG hP 0 rfl rfl uX8 20 (by decide) lf_X8_206 rfl dX8_isMirrored_21 ?_
      refine lv_iconst (v := 1) hx hb dX8_isMirrored_24 (by decide) ?_
      refine lv_isub hx hb dX8_isMirrored_25 ?_
      refine lv_iload_n hx hb dX8_isMirrored_26 rfl (lv_at hl 1 rfl) ?_
      refine lv_isub hx hb dX8_isMirrored_27 ?_
      obtain ⟨hi3, h⟩ := chk_out h
      refine xa_iald cx hG hP 1 rfl hi3 rfl dX8_isMirrored_28 ?_
      refine lv_icmp_eq (tgt := 34) hx hb dX8_isMirrored_29 (by decide) (fun c4 => ?_) (fun c4 => ?_)
      · have h := itp c4 h
        refine lv_iinc (v := v1 + 1) (lv' := [(1, .int (v1 + 1)), (0, .ref ((a_t 0)))]) hx hb dX8_isMirrored_34 hl (k := 1) rfl rfl (by decide) rfl (fun ls hl => ?_)
        refine lv_goto (tgt := 2) hx hb dX8_isMirrored_37 (by decide) ?_
        exact ih (v1 + 1) _ (lv_sub hl [1, 0] rfl) h
      · have h := itn c4 h
        refine lv_iconst (v := 0) hx hb dX8_isMirrored_32 (by decide) ?_
        exact hret _ _ _ dX8_isMirrored_33 (by decide) (Option.some.inj h)
  unfold fX8_isMirrored at h
  refine lv_iconst (v := 0) hx hb dX8_isMirrored_0 (by decide) ?_
  refine lv_istore_n (lv' := [(1, .int (0)), (0, .ref ((a_t 0)))]) hx hb dX8_isMirrored_1 rfl hl (by decide) rfl (fun ls hl => ?_)
  exact w2 FU 0 _ (lv_sub hl [1, 0] rfl) h
-- X8_isBalanced
theorem dX8_isBalanced_0 : decode cX8_isBalanced 0 = .ok (.iconst 0, 1) := by decide +kernel
theorem dX8_isBalanced_1 : decode cX8_isBalanced 1 = .ok (.istore_n 1, 1) := by decide +kernel
theorem dX8_isBalanced_2 : decode cX8_isBalanced 2 = .ok (.iload_n 1, 1) := by decide +kernel
theorem dX8_isBalanced_3 : decode cX8_isBalanced 3 = .ok (.iconst 3, 1) := by decide +kernel
theorem dX8_isBalanced_4 : decode cX8_isBalanced 4 = .ok (.if_icmp .ge 73, 3) := by decide +kernel
theorem dX8_isBalanced_7 : decode cX8_isBalanced 7 = .ok (.iconst 0, 1) := by decide +kernel
theorem dX8_isBalanced_8 : decode cX8_isBalanced 8 = .ok (.istore_n 2, 1) := by decide +kernel
theorem dX8_isBalanced_9 : decode cX8_isBalanced 9 = .ok (.iconst 0, 1) := by decide +kernel
theorem dX8_isBalanced_10 : decode cX8_isBalanced 10 = .ok (.istore_n 3, 1) := by decide +kernel
theorem dX8_isBalanced_11 : decode cX8_isBalanced 11 = .ok (.iload_n 3, 1) := by decide +kernel
theorem dX8_isBalanced_12 : decode cX8_isBalanced 12 = .ok (.aload_n 0, 1) := by decide +kernel
theorem dX8_isBalanced_13 : decode cX8_isBalanced 13 = .ok (.getfield 206, 3) := by decide +kernel
theorem dX8_isBalanced_16 : decode cX8_isBalanced 16 = .ok (.if_icmp .ge 49, 3) := by decide +kernel
theorem dX8_isBalanced_19 : decode cX8_isBalanced 19 = .ok (.iload_n 2, 1) := by decide +kernel
theorem dX8_isBalanced_20 : decode cX8_isBalanced 20 = .ok (.aload_n 0, 1) := by decide +kernel
theorem dX8_isBalanced_21 : decode cX8_isBalanced 21 = .ok (.getfield 57, 3) := by decide +kernel
theorem dX8_isBalanced_24 : decode cX8_isBalanced 24 = .ok (.iload_n 3, 1) := by decide +kernel
theorem dX8_isBalanced_25 : decode cX8_isBalanced 25 = .ok (.iaload, 1) := by decide +kernel
theorem dX8_isBalanced_26 : decode cX8_isBalanced 26 = .ok (.iconst 4, 1) := by decide +kernel
theorem dX8_isBalanced_27 : decode cX8_isBalanced 27 = .ok (.iload_n 1, 1) := by decide +kernel
theorem dX8_isBalanced_28 : decode cX8_isBalanced 28 = .ok (.imul, 1) := by decide +kernel
theorem dX8_isBalanced_29 : decode cX8_isBalanced 29 = .ok (.iconst 1, 1) := by decide +kernel
theorem dX8_isBalanced_30 : decode cX8_isBalanced 30 = .ok (.iadd, 1) := by decide +kernel
theorem dX8_isBalanced_31 : decode cX8_isBalanced 31 = .ok (.if_icmp .ne 7, 3) := by decide +kernel
theorem dX8_isBalanced_34 : decode cX8_isBalanced 34 = .ok (.iconst 1, 1) := by decide +kernel
theorem dX8_isBalanced_35 : decode cX8_isBalanced 35 = .ok (.goto 22, 3) := by decide +kernel
theorem dX8_isBalanced_38 : decode cX8_isBalanced 38 = .ok (.aload_n 0, 1) := by decide +kernel
theorem dX8_isBalanced_39 : decode cX8_isBalanced 39 = .ok (.getfield 57, 3) := by decide +kernel
theorem dX8_isBalanced_42 : decode cX8_isBalanced 42 = .ok (.iload_n 3, 1) := by decide +kernel
theorem dX8_isBalanced_43 : decode cX8_isBalanced 43 = .ok (.iaload, 1) := by decide +kernel
theorem dX8_isBalanced_44 : decode cX8_isBalanced 44 = .ok (.iconst 4, 1) := by decide +kernel
theorem dX8_isBalanced_45 : decode cX8_isBalanced 45 = .ok (.iload_n 1, 1) := by decide +kernel
theorem dX8_isBalanced_46 : decode cX8_isBalanced 46 = .ok (.imul, 1) := by decide +kernel
theorem dX8_isBalanced_47 : decode cX8_isBalanced 47 = .ok (.iconst 2, 1) := by decide +kernel
theorem dX8_isBalanced_48 : decode cX8_isBalanced 48 = .ok (.iadd, 1) := by decide +kernel
theorem dX8_isBalanced_49 : decode cX8_isBalanced 49 = .ok (.if_icmp .ne 7, 3) := by decide +kernel
theorem dX8_isBalanced_52 : decode cX8_isBalanced 52 = .ok (.iconst (-1), 1) := by decide +kernel
theorem dX8_isBalanced_53 : decode cX8_isBalanced 53 = .ok (.goto 4, 3) := by decide +kernel
theorem dX8_isBalanced_56 : decode cX8_isBalanced 56 = .ok (.iconst 0, 1) := by decide +kernel
theorem dX8_isBalanced_57 : decode cX8_isBalanced 57 = .ok (.iadd, 1) := by decide +kernel
theorem dX8_isBalanced_58 : decode cX8_isBalanced 58 = .ok (.istore_n 2, 1) := by decide +kernel
theorem dX8_isBalanced_59 : decode cX8_isBalanced 59 = .ok (.iinc 3 1, 3) := by decide +kernel
theorem dX8_isBalanced_62 : decode cX8_isBalanced 62 = .ok (.goto (-51), 3) := by decide +kernel
theorem dX8_isBalanced_65 : decode cX8_isBalanced 65 = .ok (.iload_n 2, 1) := by decide +kernel
theorem dX8_isBalanced_66 : decode cX8_isBalanced 66 = .ok (.ifCond .eq 5, 3) := by decide +kernel
theorem dX8_isBalanced_69 : decode cX8_isBalanced 69 = .ok (.iconst 0, 1) := by decide +kernel
theorem dX8_isBalanced_70 : decode cX8_isBalanced 70 = .ok (.ireturn, 1) := by decide +kernel
theorem dX8_isBalanced_71 : decode cX8_isBalanced 71 = .ok (.iinc 1 1, 3) := by decide +kernel
theorem dX8_isBalanced_74 : decode cX8_isBalanced 74 = .ok (.goto (-72), 3) := by decide +kernel
theorem dX8_isBalanced_77 : decode cX8_isBalanced 77 = .ok (.iconst 1, 1) := by decide +kernel
theorem dX8_isBalanced_78 : decode cX8_isBalanced 78 = .ok (.ireturn, 1) := by decide +kernel
noncomputable def fX8_isBalanced_57 (k2 : (Nat → Int32) → Int32 → Int32 → Option (Int32)) (k11 : (Nat → Int32) → Int32 → Int32 → Int32 → Int32 → Option (Int32)) (t_row : Nat → Int32) (t_wide : Int32) (v1 : Int32) (v3 : Int32) (z0 : Int32) (z1 : Int32) : Option (Int32) := k11 t_row t_wide v1 (z0 + z1) (v3 + 1)
noncomputable def fX8_isBalanced_65 (k2 : (Nat → Int32) → Int32 → Int32 → Option (Int32)) (t_row : Nat → Int32) (t_wide : Int32) (v1 : Int32) (v2 : Int32) : Option (Int32) := (if v2 = 0 then k2 t_row t_wide (v1 + 1) else some (0))
noncomputable def fX8_isBalanced_11 (k2 : (Nat → Int32) → Int32 → Int32 → Option (Int32)) : Nat → (Nat → Int32) → Int32 → Int32 → Int32 → Int32 → Option (Int32)
  | 0, _, _, _, _, _ => none
  | n + 1, t_row, t_wide, v1, v2, v3 => (if t_wide ≤ v3 then fX8_isBalanced_65 k2 t_row t_wide v1 v2 else chk 8 v3 ((if (t_row v3.toNatClampNeg) = ((4 * v1) + 1) then fX8_isBalanced_57 k2 (fX8_isBalanced_11 k2 n) t_row t_wide v1 v3 v2 1 else chk 8 v3 ((if (t_row v3.toNatClampNeg) = ((4 * v1) + 2) then fX8_isBalanced_57 k2 (fX8_isBalanced_11 k2 n) t_row t_wide v1 v3 v2 (-1) else fX8_isBalanced_57 k2 (fX8_isBalanced_11 k2 n) t_row t_wide v1 v3 v2 0)))))
theorem fX8_isBalanced_11_z (k2 : (Nat → Int32) → Int32 → Int32 → Option (Int32)) (t_row : Nat → Int32) (t_wide : Int32) (v1 : Int32) (v2 : Int32) (v3 : Int32) : fX8_isBalanced_11 k2 0 t_row t_wide v1 v2 v3 = none := rfl
theorem fX8_isBalanced_11_s (k2 : (Nat → Int32) → Int32 → Int32 → Option (Int32)) (n : Nat) (t_row : Nat → Int32) (t_wide : Int32) (v1 : Int32) (v2 : Int32) (v3 : Int32) : fX8_isBalanced_11 k2 (n + 1) t_row t_wide v1 v2 v3 = (if t_wide ≤ v3 then fX8_isBalanced_65 k2 t_row t_wide v1 v2 else chk 8 v3 ((if (t_row v3.toNatClampNeg) = ((4 * v1) + 1) then fX8_isBalanced_57 k2 (fX8_isBalanced_11 k2 n) t_row t_wide v1 v3 v2 1 else chk 8 v3 ((if (t_row v3.toNatClampNeg) = ((4 * v1) + 2) then fX8_isBalanced_57 k2 (fX8_isBalanced_11 k2 n) t_row t_wide v1 v3 v2 (-1) else fX8_isBalanced_57 k2 (fX8_isBalanced_11 k2 n) t_row t_wide v1 v3 v2 0))))) := rfl
noncomputable def fX8_isBalanced_2  : Nat → (Nat → Int32) → Int32 → Int32 → Option (Int32)
  | 0, _, _, _ => none
  | n + 1, t_row, t_wide, v1 => (if 3 ≤ v1 then some (1) else fX8_isBalanced_11 (fX8_isBalanced_2 n) FU t_row t_wide v1 0 0)
theorem fX8_isBalanced_2_z  (t_row : Nat → Int32) (t_wide : Int32) (v1 : Int32) : fX8_isBalanced_2  0 t_row t_wide v1 = none := rfl
theorem fX8_isBalanced_2_s  (n : Nat) (t_row : Nat → Int32) (t_wide : Int32) (v1 : Int32) : fX8_isBalanced_2  (n + 1) t_row t_wide v1 = (if 3 ≤ v1 then some (1) else fX8_isBalanced_11 (fX8_isBalanced_2 n) FU t_row t_wide v1 0 0) := rfl
noncomputable def fX8_isBalanced  (t_row : Nat → Int32) (t_wide : Int32) : Option (Int32) := fX8_isBalanced_2 FU t_row t_wide 0
set_option maxHeartbeats 4000000 in
set_option maxRecDepth 100000 in
theorem ctX8_isBalanced (l : Launch) (g : GT) (a_t : Nat → Nat) (t_acted : Int32) (t_taped : Int32) (t_faultKind : Int32) (t_faultPlace : Int32) (t_at : Int32) (t_begin : Int32) (t_token : Int32) (t_value : Int32) (t_bad : Int32) (t_wide : Int32) (t_lost : Int32) (t_det : Int64) (t_mask : Int32) (t_mode : Int32) (t_wanted : Int32) (t_orders : Int32) (t_foundAt : Int32) (t_foundBy : Int64) (t_unlikes : Int32) (t_row : Nat → Int32) (o : Int32) (h : fX8_isBalanced t_row t_wide = some o) : Met l yX8_isBalanced (Cond.code yX8_isBalanced cX8_isBalanced 4 (some .boolean) :: Tw) ⟨0, 0, 0, 0⟩ (va_Pc [.ref ((a_t 0))] (roB g [((a_t 0), .inr (7, [.ref (a_t 1), .ref (a_t 2), .int t_acted, .ref (a_t 4), .ref (a_t 5), .ref (a_t 6), .ref (a_t 7), .ref (a_t 8), .ref (a_t 9), .int t_taped, .int t_faultKind, .int t_faultPlace, .int t_at, .int t_begin, .int t_token, .int t_value, .int t_bad, .ref (a_t 18), .ref (a_t 19), .ref (a_t 20), .int t_wide, .int t_lost, .ref (a_t 23), .long t_det, .ref (a_t 25), .int t_mask, .int t_mode, .int t_wanted, .int t_orders, .int t_foundAt, .long t_foundBy, .ref (a_t 32), .ref (a_t 33), .int t_unlikes, .ref (a_t 35), .ref (a_t 36)])), ((a_t 20), .inl (g.2.2.1 0, 8, .inl t_row))])) (vp_Si (fun x => x = o ∧ (x = 0 ∨ x = 1))) 0 0 (fun _ => False) := by
  refine ro_metz (by decide) (Nat.le_of_ble_eq_true rfl) (lv0 := [(0, .ref ((a_t 0)))]) rfl ?_
  intro p e s m args below meth c ls Q cx hret hG hP hl
  have hx := cx.1
  have hb := cx.2.1
  have hG0 := hG
  have w57 : ∀ (k2 : (Nat → Int32) → Int32 → Int32 → Option (Int32)) (hk2 : ∀ (v1 : Int32) (ls : Array Slot), lv_has ls 4 [(0, .ref ((a_t 0))), (1, .int v1)] → k2 t_row t_wide v1 = some o → W p l e ⟨0, 0, 0, 0⟩ s m args below meth c s.heap [] 0 0 Q (F0 m 2 ls [])) (k11 : (Nat → Int32) → Int32 → Int32 → Int32 → Int32 → Option (Int32)) (hk11 : ∀ (v1 : Int32) (v2 : Int32) (v3 : Int32) (ls : Array Slot), lv_has ls 4 [(0, .ref ((a_t 0))), (1, .int v1), (2, .int v2), (3, .int v3)] → k11 t_row t_wide v1 v2 v3 = some o → W p l e ⟨0, 0, 0, 0⟩ s m args below meth c s.heap [] 0 0 Q (F0 m 11 ls [])) (v1 : Int32) (v3 : Int32) (z0 : Int32) (z1 : Int32) (ls : Array Slot), lv_has ls 4 [(0, .ref ((a_t 0))), (1, .int v1), (3, .int v3)] → fX8_isBalanced_57 k2 k11 t_row t_wide v1 v3 z0 z1 = some o → W p l e ⟨0, 0, 0, 0⟩ s m args below meth c s.heap [] 0 0 Q (F0 m 57 ls [.int z1, .int z0]) := by
    intro k2 hk2 k11 hk11 v1 v3 z0 z1 ls hl h
    unfold fX8_isBalanced_57 at h
    refine lv_iadd hx hb dX8_isBalanced_57 ?_
    refine lv_istore_n (lv' := [(2, .int (z0 + z1)), (0, .ref ((a_t 0))), (1, .int v1), (3, .int v3)]) hx hb dX8_isBalanced_58 rfl hl (by decide) rfl (fun ls hl => ?_)
    refine lv_iinc (v := v3 + 1) (lv' := [(3, .int (v3 + 1)), (2, .int (z0 + z1)), (0, .ref ((a_t 0))), (1, .int v1)]) hx hb dX8_isBalanced_59 hl (k := 3) rfl rfl (by decide) rfl (fun ls hl => ?_)
    refine lv_goto (tgt := 11) hx hb dX8_isBalanced_62 (by decide) ?_
    exact hk11 v1 (z0 + z1) (v3 + 1) _ (lv_sub hl [2, 3, 1, 0] rfl) h
  have w65 : ∀ (k2 : (Nat → Int32) → Int32 → Int32 → Option (Int32)) (hk2 : ∀ (v1 : Int32) (ls : Array Slot), lv_has ls 4 [(0, .ref ((a_t 0))), (1, .int v1)] → k2 t_row t_wide v1 = some o → W p l e ⟨0, 0, 0, 0⟩ s m args below meth c s.heap [] 0 0 Q (F0 m 2 ls [])) (v1 : Int32) (v2 : Int32) (ls : Array Slot), lv_has ls 4 [(0, .ref ((a_t 0))), (1, .int v1), (2, .int v2)] → fX8_isBalanced_65 k2 t_row t_wide v1 v2 = some o → W p l e ⟨0, 0, 0, 0⟩ s m args below meth c s.heap [] 0 0 Q (F0 m 65 ls []) := by
    intro k2 hk2 v1 v2 ls hl h
    unfold fX8_isBalanced_65 at h
    refine lv_iload_n hx hb dX8_isBalanced_65 rfl (lv_at hl 2 rfl) ?_
    refine lv_if_eq (tgt := 71) hx hb dX8_isBalanced_66 (by decide) (fun c7 => ?_) (fun c7 => ?_)
    · have h := itp c7 h
      refine lv_iinc (v := v1 + 1) (lv' := [(1, .int (v1 + 1)), (0, .ref ((a_t 0))), (2, .int v2)]) hx hb dX8_isBalanced_71 hl (k := 1) rfl rfl (by decide) rfl (fun ls hl => ?_)
      refine lv_goto (tgt := 2) hx hb dX8_isBalanced_74 (by decide) ?_
      exact hk2 (v1 + 1) _ (lv_sub hl [1, 0] rfl) h
    · have h := itn c7 h
      refine lv_iconst (v := 0) hx hb dX8_isBalanced_69 (by decide) ?_
      exact hret _ _ _ dX8_isBalanced_70 (by decide) (Option.some.inj h)
  have w11 : ∀ (k2 : (Nat → Int32) → Int32 → Int32 → Option (Int32)) (hk2 : ∀ (v1 : Int32) (ls : Array Slot), lv_has ls 4 [(0, .ref ((a_t 0))), (1, .int v1)] → k2 t_row t_wide v1 = some o → W p l e ⟨0, 0, 0, 0⟩ s m args below meth c s.heap [] 0 0 Q (F0 m 2 ls [])) (n : Nat) (v1 : Int32) (v2 : Int32) (v3 : Int32) (ls : Array Slot), lv_has ls 4 [(0, .ref ((a_t 0))), (1, .int v1), (2, .int v2), (3, .int v3)] → fX8_isBalanced_11 k2 n t_row t_wide v1 v2 v3 = some o → W p l e ⟨0, 0, 0, 0⟩ s m args below meth c s.heap [] 0 0 Q (F0 m 11 ls []) := by
    intro k2 hk2 n
    induction n with
    | zero => intro v1 v2 v3 ls hl h; cases (fX8_isBalanced_11_z k2 t_row t_wide v1 v2 v3).symm.trans h
    | succ n ih =>
    intro v1 v2 v3 ls hl h
    have h := (fX8_isBalanced_11_s k2 n t_row t_wide v1 v2 v3).symm.trans h
    refine lv_iload_n hx hb dX8_isBalanced_11 rfl (lv_at hl 3 rfl) ?_
    refine lv_aload_n hx hb dX8_isBalanced_12 rfl (lv_at hl 0 rfl) ?_
    refine xa_get (C := RX8) (T := TX8) (N := 36) cx hG hP 0 rfl rfl uX8 20 (by decide) lf_X8_206 rfl dX8_isBalanced_13 ?_
    refine lv_icmp_ge (tgt := 65) hx hb dX8_isBalanced_16 (by decide) (fun c2 => ?_) (fun c2 => ?_)
    · have h := itp c2 h
      exact w65 _ hk2 v1 v2 _ (lv_sub hl [0, 1, 2] rfl) h
    · have h := itn c2 h
      refine lv_iload_n hx hb dX8_isBalanced_19 rfl (lv_at hl 2 rfl) ?_
      refine lv_aload_n hx hb dX8_isBalanced_20 rfl (lv_at hl 0 rfl) ?_
      refine xa_get (C := RX8) (T := TX8) (N := 36) cx hG hP 0 rfl rfl uX8 19 (by decide) lf_X8_57 rfl dX8_isBalanced_21 ?_
      refine lv_iload_n hx hb dX8_isBalanced_24 rfl (lv_at hl 3 rfl) ?_
      obtain ⟨hi3, h⟩ := chk_out h
      refine xa_iald cx hG hP 1 rfl hi3 rfl dX8_isBalanced_25 ?_
      refine lv_iconst (v := 4) hx hb dX8_isBalanced_26 (by decide) ?_
      refine lv_iload_n hx hb dX8_isBalanced_27 rfl (lv_at hl 1 rfl) ?_
      refine lv_imul hx hb dX8_isBalanced_28 ?_
      refine lv_iconst (v := 1) hx hb dX8_isBalanced_29 (by decide) ?_
      refine lv_iadd hx hb dX8_isBalanced_30 ?_
      refine lv_icmp_ne (tgt := 38) hx hb dX8_isBalanced_31 (by decide) (fun c4 => ?_) (fun c4 => ?_)
      · have h := itn c4 h
        refine lv_aload_n hx hb dX8_isBalanced_38 rfl (lv_at hl 0 rfl) ?_
        refine xa_get (C := RX8) (T := TX8) (N := 36) cx hG hP 0 rfl rfl uX8 19 (by decide) lf_X8_57 rfl dX8_isBalanced_39 ?_
        refine lv_iload_n hx hb dX8_isBalanced_42 rfl (lv_at hl 3 rfl) ?_
        obtain ⟨hi5, h⟩ := chk_out h
        refine xa_iald cx hG hP 1 rfl hi5 rfl dX8_isBalanced_43 ?_
        refine lv_iconst (v := 4) hx hb dX8_isBalanced_44 (by decide) ?_
        refine lv_iload_n hx hb dX8_isBalanced_45 rfl (lv_at hl 1 rfl) ?_
        refine lv_imul hx hb dX8_isBalanced_46 ?_
        refine lv_iconst (v := 2) hx hb dX8_isBalanced_47 (by decide) ?_
        refine lv_iadd hx hb dX8_isBalanced_48 ?_
        refine lv_icmp_ne (tgt := 56) hx hb dX8_isBalanced_49 (by decide) (fun c6 => ?_) (fun c6 => ?_)
        · have h := itn c6 h
          refine lv_iconst (v := 0) hx hb dX8_isBalanced_56 (by decide) ?_
          exact w57 _ hk2 _ ih v1 v3 v2 0 _ (lv_sub hl [0, 1, 3] rfl) h
        · have h := itp c6 h
          refine lv_iconst (v := -1) hx hb dX8_isBalanced_52 (by decide) ?_
          refine lv_goto (tgt := 57) hx hb dX8_isBalanced_53 (by decide) ?_
          exact w57 _ hk2 _ ih v1 v3 v2 (-1) _ (lv_sub hl [0, 1, 3] rfl) h
      · have h := itp c4 h
        refine lv_iconst (v := 1) hx hb dX8_isBalanced_34 (by decide) ?_
        refine lv_goto (tgt := 57) hx hb dX8_isBalanced_35 (by decide) ?_
        exact w57 _ hk2 _ ih v1 v3 v2 1 _ (lv_sub hl [0, 1, 3] rfl) h
  have w2 : ∀ (n : Nat) (v1 : Int32) (ls : Array Slot), lv_has ls 4 [(0, .ref ((a_t 0))), (1, .int v1)] → fX8_isBalanced_2  n t_row t_wide v1 = some o → W p l e ⟨0, 0, 0, 0⟩ s m args below meth c s.heap [] 0 0 Q (F0 m 2 ls []) := by
    intro n
    induction n with
    | zero => intro v1 ls hl h; cases (fX8_isBalanced_2_z  t_row t_wide v1).symm.trans h
    | succ n ih =>
    intro v1 ls hl h
    have h := (fX8_isBalanced_2_s  n t_row t_wide v1).symm.trans h
    refine lv_iload_n hx hb dX8_isBalanced_2 rfl (lv_at hl 1 rfl) ?_
    refine lv_iconst (v := 3) hx hb dX8_isBalanced_3 (by decide) ?_
    refine lv_icmp_ge (tgt := 77) hx hb dX8_isBalanced_4 (by decide) (fun c1 => ?_) (fun c1 => ?_)
    · have h := itp c1 h
      refine lv_iconst (v := 1) hx hb dX8_isBalanced_77 (by decide) ?_
      exact hret _ _ _ dX8_isBalanced_78 (by decide) (Option.some.inj h)
    · have h := itn c1 h
      refine lv_iconst (v := 0) hx hb dX8_isBalanced_7 (by decide) ?_
      refine lv_istore_n (lv' := [(2, .int (0)), (0, .ref ((a_t 0))), (1, .int v1)]) hx hb dX8_isBalanced_8 rfl hl (by decide) rfl (fun ls hl => ?_)
      refine lv_iconst (v := 0) hx hb dX8_isBalanced_9 (by decide) ?_
      refine lv_istore_n (lv' := [(3, .int (0)), (2, .int (0)), (0, .ref ((a_t 0))), (1, .int v1)]) hx hb dX8_isBalanced_10 rfl hl (by decide) rfl (fun ls hl => ?_)
      exact w11 _ ih FU v1 0 0 _ (lv_sub hl [2, 3, 1, 0] rfl) h
  unfold fX8_isBalanced at h
  refine lv_iconst (v := 0) hx hb dX8_isBalanced_0 (by decide) ?_
  refine lv_istore_n (lv' := [(1, .int (0)), (0, .ref ((a_t 0)))]) hx hb dX8_isBalanced_1 rfl hl (by decide) rfl (fun ls hl => ?_)
  exact w2 FU 0 _ (lv_sub hl [1, 0] rfl) h
-- X8_isSo
theorem dX8_isSo_0 : decode cX8_isSo 0 = .ok (.iload_n 1, 1) := by decide +kernel
theorem dX8_isSo_1 : decode cX8_isSo 1 = .ok (.iconst 0, 1) := by decide +kernel
theorem dX8_isSo_2 : decode cX8_isSo 2 = .ok (.invokestatic 212, 3) := by decide +kernel
theorem dX8_isSo_5 : decode cX8_isSo 5 = .ok (.ifCond .eq 10, 3) := by decide +kernel
theorem dX8_isSo_8 : decode cX8_isSo 8 = .ok (.aload_n 0, 1) := by decide +kernel
theorem dX8_isSo_9 : decode cX8_isSo 9 = .ok (.invokevirtual 222, 3) := by decide +kernel
theorem dX8_isSo_12 : decode cX8_isSo 12 = .ok (.ifCond .eq 41, 3) := by decide +kernel
theorem dX8_isSo_15 : decode cX8_isSo 15 = .ok (.iload_n 1, 1) := by decide +kernel
theorem dX8_isSo_16 : decode cX8_isSo 16 = .ok (.iconst 1, 1) := by decide +kernel
theorem dX8_isSo_17 : decode cX8_isSo 17 = .ok (.invokestatic 212, 3) := by decide +kernel
theorem dX8_isSo_20 : decode cX8_isSo 20 = .ok (.ifCond .eq 12, 3) := by decide +kernel
theorem dX8_isSo_23 : decode cX8_isSo 23 = .ok (.aload_n 0, 1) := by decide +kernel
theorem dX8_isSo_24 : decode cX8_isSo 24 = .ok (.invokevirtual 226, 3) := by decide +kernel
theorem dX8_isSo_27 : decode cX8_isSo 27 = .ok (.lconst 0, 1) := by decide +kernel
theorem dX8_isSo_28 : decode cX8_isSo 28 = .ok (.lcmp, 1) := by decide +kernel
theorem dX8_isSo_29 : decode cX8_isSo 29 = .ok (.ifCond .ne 24, 3) := by decide +kernel
theorem dX8_isSo_32 : decode cX8_isSo 32 = .ok (.iload_n 1, 1) := by decide +kernel
theorem dX8_isSo_33 : decode cX8_isSo 33 = .ok (.iconst 2, 1) := by decide +kernel
theorem dX8_isSo_34 : decode cX8_isSo 34 = .ok (.invokestatic 212, 3) := by decide +kernel
theorem dX8_isSo_37 : decode cX8_isSo 37 = .ok (.ifCond .eq 12, 3) := by decide +kernel
theorem dX8_isSo_40 : decode cX8_isSo 40 = .ok (.aload_n 0, 1) := by decide +kernel
theorem dX8_isSo_41 : decode cX8_isSo 41 = .ok (.invokevirtual 230, 3) := by decide +kernel
theorem dX8_isSo_44 : decode cX8_isSo 44 = .ok (.lconst 0, 1) := by decide +kernel
theorem dX8_isSo_45 : decode cX8_isSo 45 = .ok (.lcmp, 1) := by decide +kernel
theorem dX8_isSo_46 : decode cX8_isSo 46 = .ok (.ifCond .ne 7, 3) := by decide +kernel
theorem dX8_isSo_49 : decode cX8_isSo 49 = .ok (.iconst 1, 1) := by decide +kernel
theorem dX8_isSo_50 : decode cX8_isSo 50 = .ok (.goto 4, 3) := by decide +kernel
theorem dX8_isSo_53 : decode cX8_isSo 53 = .ok (.iconst 0, 1) := by decide +kernel
theorem dX8_isSo_54 : decode cX8_isSo 54 = .ok (.ireturn, 1) := by decide +kernel
noncomputable def fX8_isSo_32  (t_mem : Nat → Int32) (t_row : Nat → Int32) (t_wide : Int32) (t_lost : Int32) (v1 : Int32) : Option (Int32) := (if (fX8_has v1 2) = 0 then some (1) else (fX8_twistHere t_mem t_row t_wide t_lost).bind fun r14 => (if (lg_cmp r14 0) = 0 then some (1) else some (0)))
noncomputable def fX8_isSo_15  (t_mem : Nat → Int32) (t_row : Nat → Int32) (t_wide : Int32) (t_lost : Int32) (v1 : Int32) : Option (Int32) := (if (fX8_has v1 1) = 0 then fX8_isSo_32 t_mem t_row t_wide t_lost v1 else (fX8_warpHere t_mem t_row t_wide t_lost).bind fun r9 => (if (lg_cmp r9 0) = 0 then fX8_isSo_32 t_mem t_row t_wide t_lost v1 else some (0)))
noncomputable def fX8_isSo  (t_mem : Nat → Int32) (t_row : Nat → Int32) (t_wide : Int32) (t_lost : Int32) (v1 : Int32) : Option (Int32) := (if (fX8_has v1 0) = 0 then fX8_isSo_15 t_mem t_row t_wide t_lost v1 else (fX8_isMirrored t_row t_wide).bind fun r3 => (if r3 = 0 then some (0) else fX8_isSo_15 t_mem t_row t_wide t_lost v1))
set_option maxHeartbeats 4000000 in
set_option maxRecDepth 100000 in
theorem ctX8_isSo (l : Launch) (g : GT) (a_t : Nat → Nat) (t_acted : Int32) (t_taped : Int32) (t_faultKind : Int32) (t_faultPlace : Int32) (t_at : Int32) (t_begin : Int32) (t_token : Int32) (t_value : Int32) (t_bad : Int32) (t_wide : Int32) (t_lost : Int32) (t_det : Int64) (t_mask : Int32) (t_mode : Int32) (t_wanted : Int32) (t_orders : Int32) (t_foundAt : Int32) (t_foundBy : Int64) (t_unlikes : Int32) (t_mem : Nat → Int32) (t_row : Nat → Int32) (v1 : Int32) (o : Int32) (h : fX8_isSo t_mem t_row t_wide t_lost v1 = some o) : Met l yX8_isSo (Cond.code yX8_isSo cX8_isSo 2 (some .boolean) :: Tw) ⟨3, 0, 0, 80⟩ (va_Pc [.ref ((a_t 0)), .int v1] (roB g [((a_t 0), .inr (7, [.ref (a_t 1), .ref (a_t 2), .int t_acted, .ref (a_t 4), .ref (a_t 5), .ref (a_t 6), .ref (a_t 7), .ref (a_t 8), .ref (a_t 9), .int t_taped, .int t_faultKind, .int t_faultPlace, .int t_at, .int t_begin, .int t_token, .int t_value, .int t_bad, .ref (a_t 18), .ref (a_t 19), .ref (a_t 20), .int t_wide, .int t_lost, .ref (a_t 23), .long t_det, .ref (a_t 25), .int t_mask, .int t_mode, .int t_wanted, .int t_orders, .int t_foundAt, .long t_foundBy, .ref (a_t 32), .ref (a_t 33), .int t_unlikes, .ref (a_t 35), .ref (a_t 36)])), ((a_t 1), .inl (g.2.2.1 0, 27, .inl t_mem)), ((a_t 20), .inl (g.2.2.1 0, 8, .inl t_row))])) (vp_Si (fun x => x = o ∧ (x = 0 ∨ x = 1))) 0 0 (fun _ => False) := by
  refine ro_metz (by decide) (Nat.le_of_ble_eq_true rfl) (lv0 := [(0, .ref ((a_t 0))), (1, .int v1)]) rfl ?_
  intro p e s m args below meth c ls Q cx hret hG hP hl
  have hx := cx.1
  have hb := cx.2.1
  have hG0 := hG
  have w32 : ∀ (v1 : Int32) (ls : Array Slot), lv_has ls 2 [(0, .ref ((a_t 0))), (1, .int v1)] → fX8_isSo_32  t_mem t_row t_wide t_lost v1 = some o → W p l e ⟨3, 0, 0, 80⟩ s m args below meth c s.heap [] 0 0 Q (F0 m 32 ls []) := by
    intro v1 ls hl h
    unfold fX8_isSo_32 at h
    refine lv_iload_n hx hb dX8_isSo_32 rfl (lv_at hl 1 rfl) ?_
    refine lv_iconst (v := 2) hx hb dX8_isSo_33 (by decide) ?_
    refine ro_z (runS (As := [.int v1, .int (2)]) (rest := []) cx hl.1 (ctX8_has l g v1 (2) (fX8_has v1 2) rfl) kmX8_has ksX8_has lm_X8_212 ⟨rfl, rfl⟩ ⟨Nat.le_of_ble_eq_true rfl, Nat.le_of_ble_eq_true rfl⟩ (roS hG (hP.sub [] rfl)) rfl rfl (Nat.le_of_ble_eq_true rfl) dX8_isSo_34 ⟨Nat.le_of_ble_eq_true rfl, Nat.le_of_ble_eq_true rfl⟩) (fun hz12 => ?_)
    refine lv_if_eq (tgt := 49) hx hb dX8_isSo_37 (by decide) (fun c13 => ?_) (fun c13 => ?_)
    · have h := itp c13 h
      refine lv_iconst (v := 1) hx hb dX8_isSo_49 (by decide) ?_
      refine lv_goto (tgt := 54) hx hb dX8_isSo_50 (by decide) ?_
      exact hret _ _ _ dX8_isSo_54 (by decide) (Option.some.inj h)
    · have h := itn c13 h
      refine lv_aload_n hx hb dX8_isSo_40 rfl (lv_at hl 0 rfl) ?_
      obtain ⟨r14, hr15, h⟩ := bnd h
      refine ro_l (runV (As := []) (rest := []) cx hl.1 (ctX8_twistHere l g a_t t_acted t_taped t_faultKind t_faultPlace t_at t_begin t_token t_value t_bad t_wide t_lost t_det t_mask t_mode t_wanted t_orders t_foundAt t_foundBy t_unlikes t_mem t_row r14 hr15) kmX8_twistHere kvX8_twistHere lm_X8_230 ⟨rfl, rfl⟩ ⟨Nat.le_of_ble_eq_true rfl, Nat.le_of_ble_eq_true rfl⟩ (roV (q0 := 0) (ci := 7) hG (hP.sub [0, 1, 2] rfl) hP rfl rfl) rfl rfl (Nat.le_of_ble_eq_true rfl) dX8_isSo_41 ⟨Nat.le_of_ble_eq_true rfl, Nat.le_of_ble_eq_true rfl⟩) ?_
      refine lv_lconst (v := 0) hx hb dX8_isSo_44 (by decide) ?_
      refine W.lcmp hx hb dX8_isSo_45 ?_
      refine lv_if_ne (tgt := 53) hx hb dX8_isSo_46 (by decide) (fun c16 => ?_) (fun c16 => ?_)
      · have h := itn c16 h
        refine lv_iconst (v := 0) hx hb dX8_isSo_53 (by decide) ?_
        exact hret _ _ _ dX8_isSo_54 (by decide) (Option.some.inj h)
      · have h := itp c16 h
        refine lv_iconst (v := 1) hx hb dX8_isSo_49 (by decide) ?_
        refine lv_goto (tgt := 54) hx hb dX8_isSo_50 (by decide) ?_
        exact hret _ _ _ dX8_isSo_54 (by decide) (Option.some.inj h)
  have w15 : ∀ (v1 : Int32) (ls : Array Slot), lv_has ls 2 [(0, .ref ((a_t 0))), (1, .int v1)] → fX8_isSo_15  t_mem t_row t_wide t_lost v1 = some o → W p l e ⟨3, 0, 0, 80⟩ s m args below meth c s.heap [] 0 0 Q (F0 m 15 ls []) := by
    intro v1 ls hl h
    unfold fX8_isSo_15 at h
    refine lv_iload_n hx hb dX8_isSo_15 rfl (lv_at hl 1 rfl) ?_
    refine lv_iconst (v := 1) hx hb dX8_isSo_16 (by decide) ?_
    refine ro_z (runS (As := [.int v1, .int (1)]) (rest := []) cx hl.1 (ctX8_has l g v1 (1) (fX8_has v1 1) rfl) kmX8_has ksX8_has lm_X8_212 ⟨rfl, rfl⟩ ⟨Nat.le_of_ble_eq_true rfl, Nat.le_of_ble_eq_true rfl⟩ (roS hG (hP.sub [] rfl)) rfl rfl (Nat.le_of_ble_eq_true rfl) dX8_isSo_17 ⟨Nat.le_of_ble_eq_true rfl, Nat.le_of_ble_eq_true rfl⟩) (fun hz7 => ?_)
    refine lv_if_eq (tgt := 32) hx hb dX8_isSo_20 (by decide) (fun c8 => ?_) (fun c8 => ?_)
    · have h := itp c8 h
      exact w32 v1 _ (lv_sub hl [0, 1] rfl) h
    · have h := itn c8 h
      refine lv_aload_n hx hb dX8_isSo_23 rfl (lv_at hl 0 rfl) ?_
      obtain ⟨r9, hr10, h⟩ := bnd h
      refine ro_l (runV (As := []) (rest := []) cx hl.1 (ctX8_warpHere l g a_t t_acted t_taped t_faultKind t_faultPlace t_at t_begin t_token t_value t_bad t_wide t_lost t_det t_mask t_mode t_wanted t_orders t_foundAt t_foundBy t_unlikes t_mem t_row r9 hr10) kmX8_warpHere kvX8_warpHere lm_X8_226 ⟨rfl, rfl⟩ ⟨Nat.le_of_ble_eq_true rfl, Nat.le_of_ble_eq_true rfl⟩ (roV (q0 := 0) (ci := 7) hG (hP.sub [0, 1, 2] rfl) hP rfl rfl) rfl rfl (Nat.le_of_ble_eq_true rfl) dX8_isSo_24 ⟨Nat.le_of_ble_eq_true rfl, Nat.le_of_ble_eq_true rfl⟩) ?_
      refine lv_lconst (v := 0) hx hb dX8_isSo_27 (by decide) ?_
      refine W.lcmp hx hb dX8_isSo_28 ?_
      refine lv_if_ne (tgt := 53) hx hb dX8_isSo_29 (by decide) (fun c11 => ?_) (fun c11 => ?_)
      · have h := itn c11 h
        refine lv_iconst (v := 0) hx hb dX8_isSo_53 (by decide) ?_
        exact hret _ _ _ dX8_isSo_54 (by decide) (Option.some.inj h)
      · have h := itp c11 h
        exact w32 v1 _ (lv_sub hl [0, 1] rfl) h
  unfold fX8_isSo at h
  refine lv_iload_n hx hb dX8_isSo_0 rfl (lv_at hl 1 rfl) ?_
  refine lv_iconst (v := 0) hx hb dX8_isSo_1 (by decide) ?_
  refine ro_z (runS (As := [.int v1, .int (0)]) (rest := []) cx hl.1 (ctX8_has l g v1 (0) (fX8_has v1 0) rfl) kmX8_has ksX8_has lm_X8_212 ⟨rfl, rfl⟩ ⟨Nat.le_of_ble_eq_true rfl, Nat.le_of_ble_eq_true rfl⟩ (roS hG (hP.sub [] rfl)) rfl rfl (Nat.le_of_ble_eq_true rfl) dX8_isSo_2 ⟨Nat.le_of_ble_eq_true rfl, Nat.le_of_ble_eq_true rfl⟩) (fun hz1 => ?_)
  refine lv_if_eq (tgt := 15) hx hb dX8_isSo_5 (by decide) (fun c2 => ?_) (fun c2 => ?_)
  · have h := itp c2 h
    exact w15 v1 _ (lv_sub hl [0, 1] rfl) h
  · have h := itn c2 h
    refine lv_aload_n hx hb dX8_isSo_8 rfl (lv_at hl 0 rfl) ?_
    obtain ⟨r3, hr4, h⟩ := bnd h
    refine ro_z (runV (As := []) (rest := []) cx hl.1 (ctX8_isMirrored l g a_t t_acted t_taped t_faultKind t_faultPlace t_at t_begin t_token t_value t_bad t_wide t_lost t_det t_mask t_mode t_wanted t_orders t_foundAt t_foundBy t_unlikes t_row r3 hr4) kmX8_isMirrored kvX8_isMirrored lm_X8_222 ⟨rfl, rfl⟩ ⟨Nat.le_of_ble_eq_true rfl, Nat.le_of_ble_eq_true rfl⟩ (roV (q0 := 0) (ci := 7) hG (hP.sub [0, 2] rfl) hP rfl rfl) rfl rfl (Nat.le_of_ble_eq_true rfl) dX8_isSo_9 ⟨Nat.le_of_ble_eq_true rfl, Nat.le_of_ble_eq_true rfl⟩) (fun hz5 => ?_)
    refine lv_if_eq (tgt := 53) hx hb dX8_isSo_12 (by decide) (fun c6 => ?_) (fun c6 => ?_)
    · have h := itp c6 h
      refine lv_iconst (v := 0) hx hb dX8_isSo_53 (by decide) ?_
      exact hret _ _ _ dX8_isSo_54 (by decide) (Option.some.inj h)
    · have h := itn c6 h
      exact w15 v1 _ (lv_sub hl [0, 1] rfl) h
-- X8_longestRun
theorem dX8_longestRun_0 : decode cX8_longestRun 0 = .ok (.iconst 0, 1) := by decide +kernel
theorem dX8_longestRun_1 : decode cX8_longestRun 1 = .ok (.istore_n 1, 1) := by decide +kernel
theorem dX8_longestRun_2 : decode cX8_longestRun 2 = .ok (.iconst 0, 1) := by decide +kernel
theorem dX8_longestRun_3 : decode cX8_longestRun 3 = .ok (.istore_n 2, 1) := by decide +kernel
theorem dX8_longestRun_4 : decode cX8_longestRun 4 = .ok (.iconst 0, 1) := by decide +kernel
theorem dX8_longestRun_5 : decode cX8_longestRun 5 = .ok (.istore_n 3, 1) := by decide +kernel
theorem dX8_longestRun_6 : decode cX8_longestRun 6 = .ok (.iload_n 3, 1) := by decide +kernel
theorem dX8_longestRun_7 : decode cX8_longestRun 7 = .ok (.aload_n 0, 1) := by decide +kernel
theorem dX8_longestRun_8 : decode cX8_longestRun 8 = .ok (.getfield 206, 3) := by decide +kernel
theorem dX8_longestRun_11 : decode cX8_longestRun 11 = .ok (.if_icmp .ge 48, 3) := by decide +kernel
theorem dX8_longestRun_14 : decode cX8_longestRun 14 = .ok (.iload_n 3, 1) := by decide +kernel
theorem dX8_longestRun_15 : decode cX8_longestRun 15 = .ok (.ifCond .le 30, 3) := by decide +kernel
theorem dX8_longestRun_18 : decode cX8_longestRun 18 = .ok (.aload_n 0, 1) := by decide +kernel
theorem dX8_longestRun_19 : decode cX8_longestRun 19 = .ok (.getfield 57, 3) := by decide +kernel
theorem dX8_longestRun_22 : decode cX8_longestRun 22 = .ok (.iload_n 3, 1) := by decide +kernel
theorem dX8_longestRun_23 : decode cX8_longestRun 23 = .ok (.iaload, 1) := by decide +kernel
theorem dX8_longestRun_24 : decode cX8_longestRun 24 = .ok (.iconst 4, 1) := by decide +kernel
theorem dX8_longestRun_25 : decode cX8_longestRun 25 = .ok (.irem, 1) := by decide +kernel
theorem dX8_longestRun_26 : decode cX8_longestRun 26 = .ok (.aload_n 0, 1) := by decide +kernel
theorem dX8_longestRun_27 : decode cX8_longestRun 27 = .ok (.getfield 57, 3) := by decide +kernel
theorem dX8_longestRun_30 : decode cX8_longestRun 30 = .ok (.iload_n 3, 1) := by decide +kernel
theorem dX8_longestRun_31 : decode cX8_longestRun 31 = .ok (.iconst 1, 1) := by decide +kernel
theorem dX8_longestRun_32 : decode cX8_longestRun 32 = .ok (.isub, 1) := by decide +kernel
theorem dX8_longestRun_33 : decode cX8_longestRun 33 = .ok (.iaload, 1) := by decide +kernel
theorem dX8_longestRun_34 : decode cX8_longestRun 34 = .ok (.iconst 4, 1) := by decide +kernel
theorem dX8_longestRun_35 : decode cX8_longestRun 35 = .ok (.irem, 1) := by decide +kernel
theorem dX8_longestRun_36 : decode cX8_longestRun 36 = .ok (.if_icmp .ne 9, 3) := by decide +kernel
theorem dX8_longestRun_39 : decode cX8_longestRun 39 = .ok (.iload_n 2, 1) := by decide +kernel
theorem dX8_longestRun_40 : decode cX8_longestRun 40 = .ok (.iconst 1, 1) := by decide +kernel
theorem dX8_longestRun_41 : decode cX8_longestRun 41 = .ok (.iadd, 1) := by decide +kernel
theorem dX8_longestRun_42 : decode cX8_longestRun 42 = .ok (.goto 4, 3) := by decide +kernel
theorem dX8_longestRun_45 : decode cX8_longestRun 45 = .ok (.iconst 1, 1) := by decide +kernel
theorem dX8_longestRun_46 : decode cX8_longestRun 46 = .ok (.istore_n 2, 1) := by decide +kernel
theorem dX8_longestRun_47 : decode cX8_longestRun 47 = .ok (.iload_n 1, 1) := by decide +kernel
theorem dX8_longestRun_48 : decode cX8_longestRun 48 = .ok (.iload_n 2, 1) := by decide +kernel
theorem dX8_longestRun_49 : decode cX8_longestRun 49 = .ok (.invokestatic 233, 3) := by decide +kernel
theorem dX8_longestRun_52 : decode cX8_longestRun 52 = .ok (.istore_n 1, 1) := by decide +kernel
theorem dX8_longestRun_53 : decode cX8_longestRun 53 = .ok (.iinc 3 1, 3) := by decide +kernel
theorem dX8_longestRun_56 : decode cX8_longestRun 56 = .ok (.goto (-50), 3) := by decide +kernel
theorem dX8_longestRun_59 : decode cX8_longestRun 59 = .ok (.iload_n 1, 1) := by decide +kernel
theorem dX8_longestRun_60 : decode cX8_longestRun 60 = .ok (.ireturn, 1) := by decide +kernel
noncomputable def fX8_longestRun_46 (k6 : (Nat → Int32) → Int32 → Int32 → Int32 → Int32 → Option (Int32)) (t_row : Nat → Int32) (t_wide : Int32) (v1 : Int32) (v3 : Int32) (z0 : Int32) : Option (Int32) := k6 t_row t_wide (imax v1 z0) z0 (v3 + 1)
noncomputable def fX8_longestRun_45 (k6 : (Nat → Int32) → Int32 → Int32 → Int32 → Int32 → Option (Int32)) (t_row : Nat → Int32) (t_wide : Int32) (v1 : Int32) (v3 : Int32) : Option (Int32) := fX8_longestRun_46 k6 t_row t_wide v1 v3 1
noncomputable def fX8_longestRun_6  : Nat → (Nat → Int32) → Int32 → Int32 → Int32 → Int32 → Option (Int32)
  | 0, _, _, _, _, _ => none
  | n + 1, t_row, t_wide, v1, v2, v3 => (if t_wide ≤ v3 then some v1 else (if v3 ≤ 0 then fX8_longestRun_45 (fX8_longestRun_6 n) t_row t_wide v1 v3 else chk 8 v3 (chk 8 (v3 - 1) ((if (irem (t_row v3.toNatClampNeg) 4) = (irem (t_row (v3 - 1).toNatClampNeg) 4) then fX8_longestRun_46 (fX8_longestRun_6 n) t_row t_wide v1 v3 (v2 + 1) else fX8_longestRun_45 (fX8_longestRun_6 n) t_row t_wide v1 v3)))))
theorem fX8_longestRun_6_z  (t_row : Nat → Int32) (t_wide : Int32) (v1 : Int32) (v2 : Int32) (v3 : Int32) : fX8_longestRun_6  0 t_row t_wide v1 v2 v3 = none := rfl
theorem fX8_longestRun_6_s  (n : Nat) (t_row : Nat → Int32) (t_wide : Int32) (v1 : Int32) (v2 : Int32) (v3 : Int32) : fX8_longestRun_6  (n + 1) t_row t_wide v1 v2 v3 = (if t_wide ≤ v3 then some v1 else (if v3 ≤ 0 then fX8_longestRun_45 (fX8_longestRun_6 n) t_row t_wide v1 v3 else chk 8 v3 (chk 8 (v3 - 1) ((if (irem (t_row v3.toNatClampNeg) 4) = (irem (t_row (v3 - 1).toNatClampNeg) 4) then fX8_longestRun_46 (fX8_longestRun_6 n) t_row t_wide v1 v3 (v2 + 1) else fX8_longestRun_45 (fX8_longestRun_6 n) t_row t_wide v1 v3))))) := rfl
noncomputable def fX8_longestRun  (t_row : Nat → Int32) (t_wide : Int32) : Option (Int32) := fX8_longestRun_6 FU t_row t_wide 0 0 0
set_option maxHeartbeats 4000000 in
set_option maxRecDepth 100000 in
theorem ctX8_longestRun (l : Launch) (g : GT) (a_t : Nat → Nat) (t_acted : Int32) (t_taped : Int32) (t_faultKind : Int32) (t_faultPlace : Int32) (t_at : Int32) (t_begin : Int32) (t_token : Int32) (t_value : Int32) (t_bad : Int32) (t_wide : Int32) (t_lost : Int32) (t_det : Int64) (t_mask : Int32) (t_mode : Int32) (t_wanted : Int32) (t_orders : Int32) (t_foundAt : Int32) (t_foundBy : Int64) (t_unlikes : Int32) (t_row : Nat → Int32) (o : Int32) (h : fX8_longestRun t_row t_wide = some o) : Met l yX8_longestRun (Cond.code yX8_longestRun cX8_longestRun 4 (some .int) :: Tw) ⟨1, 0, 0, 26⟩ (va_Pc [.ref ((a_t 0))] (roB g [((a_t 0), .inr (7, [.ref (a_t 1), .ref (a_t 2), .int t_acted, .ref (a_t 4), .ref (a_t 5), .ref (a_t 6), .ref (a_t 7), .ref (a_t 8), .ref (a_t 9), .int t_taped, .int t_faultKind, .int t_faultPlace, .int t_at, .int t_begin, .int t_token, .int t_value, .int t_bad, .ref (a_t 18), .ref (a_t 19), .ref (a_t 20), .int t_wide, .int t_lost, .ref (a_t 23), .long t_det, .ref (a_t 25), .int t_mask, .int t_mode, .int t_wanted, .int t_orders, .int t_foundAt, .long t_foundBy, .ref (a_t 32), .ref (a_t 33), .int t_unlikes, .ref (a_t 35), .ref (a_t 36)])), ((a_t 20), .inl (g.2.2.1 0, 8, .inl t_row))])) (vp_Si (fun x => x = o)) 0 0 (fun _ => False) := by
  refine ro_meti (by decide) (Nat.le_of_ble_eq_true rfl) (lv0 := [(0, .ref ((a_t 0)))]) rfl ?_
  intro p e s m args below meth c ls Q cx hret hG hP hl
  have hx := cx.1
  have hb := cx.2.1
  have hG0 := hG
  have w46 : ∀ (k6 : (Nat → Int32) → Int32 → Int32 → Int32 → Int32 → Option (Int32)) (hk6 : ∀ (v1 : Int32) (v2 : Int32) (v3 : Int32) (ls : Array Slot), lv_has ls 4 [(0, .ref ((a_t 0))), (1, .int v1), (2, .int v2), (3, .int v3)] → k6 t_row t_wide v1 v2 v3 = some o → W p l e ⟨1, 0, 0, 26⟩ s m args below meth c s.heap [] 0 0 Q (F0 m 6 ls [])) (v1 : Int32) (v3 : Int32) (z0 : Int32) (ls : Array Slot), lv_has ls 4 [(0, .ref ((a_t 0))), (1, .int v1), (3, .int v3)] → fX8_longestRun_46 k6 t_row t_wide v1 v3 z0 = some o → W p l e ⟨1, 0, 0, 26⟩ s m args below meth c s.heap [] 0 0 Q (F0 m 46 ls [.int z0]) := by
    intro k6 hk6 v1 v3 z0 ls hl h
    unfold fX8_longestRun_46 at h
    refine lv_istore_n (lv' := [(2, .int z0), (0, .ref ((a_t 0))), (1, .int v1), (3, .int v3)]) hx hb dX8_longestRun_46 rfl hl (by decide) rfl (fun ls hl => ?_)
    refine lv_iload_n hx hb dX8_longestRun_47 rfl (lv_at hl 2 rfl) ?_
    refine lv_iload_n hx hb dX8_longestRun_48 rfl (lv_at hl 0 rfl) ?_
    refine xm_imax cx hl.1 lm_X8_233 ⟨ksJ9_max_7cf53, kmJ9_max_7cf53.2.1, kmJ9_max_7cf53.1⟩ (Nat.le_of_ble_eq_true rfl) (Nat.le_of_ble_eq_true rfl) (Nat.le_of_ble_eq_true rfl) (Nat.le_of_ble_eq_true rfl) dX8_longestRun_49 ?_
    refine lv_istore_n (lv' := [(1, .int (imax v1 z0)), (2, .int z0), (0, .ref ((a_t 0))), (3, .int v3)]) hx hb dX8_longestRun_52 rfl hl (by decide) rfl (fun ls hl => ?_)
    refine lv_iinc (v := v3 + 1) (lv' := [(3, .int (v3 + 1)), (1, .int (imax v1 z0)), (2, .int z0), (0, .ref ((a_t 0)))]) hx hb dX8_longestRun_53 hl (k := 3) rfl rfl (by decide) rfl (fun ls hl => ?_)
    refine lv_goto (tgt := 6) hx hb dX8_longestRun_56 (by decide) ?_
    exact hk6 (imax v1 z0) z0 (v3 + 1) _ (lv_sub hl [3, 1, 2, 0] rfl) h
  have w45 : ∀ (k6 : (Nat → Int32) → Int32 → Int32 → Int32 → Int32 → Option (Int32)) (hk6 : ∀ (v1 : Int32) (v2 : Int32) (v3 : Int32) (ls : Array Slot), lv_has ls 4 [(0, .ref ((a_t 0))), (1, .int v1), (2, .int v2), (3, .int v3)] → k6 t_row t_wide v1 v2 v3 = some o → W p l e ⟨1, 0, 0, 26⟩ s m args below meth c s.heap [] 0 0 Q (F0 m 6 ls [])) (v1 : Int32) (v3 : Int32) (ls : Array Slot), lv_has ls 4 [(0, .ref ((a_t 0))), (1, .int v1), (3, .int v3)] → fX8_longestRun_45 k6 t_row t_wide v1 v3 = some o → W p l e ⟨1, 0, 0, 26⟩ s m args below meth c s.heap [] 0 0 Q (F0 m 45 ls []) := by
    intro k6 hk6 v1 v3 ls hl h
    unfold fX8_longestRun_45 at h
    refine lv_iconst (v := 1) hx hb dX8_longestRun_45 (by decide) ?_
    exact w46 _ hk6 v1 v3 1 _ (lv_sub hl [0, 1, 2] rfl) h
  have w6 : ∀ (n : Nat) (v1 : Int32) (v2 : Int32) (v3 : Int32) (ls : Array Slot), lv_has ls 4 [(0, .ref ((a_t 0))), (1, .int v1), (2, .int v2), (3, .int v3)] → fX8_longestRun_6  n t_row t_wide v1 v2 v3 = some o → W p l e ⟨1, 0, 0, 26⟩ s m args below meth c s.heap [] 0 0 Q (F0 m 6 ls []) := by
    intro n
    induction n with
    | zero => intro v1 v2 v3 ls hl h; cases (fX8_longestRun_6_z  t_row t_wide v1 v2 v3).symm.trans h
    | succ n ih =>
    intro v1 v2 v3 ls hl h
    have h := (fX8_longestRun_6_s  n t_row t_wide v1 v2 v3).symm.trans h
    refine lv_iload_n hx hb dX8_longestRun_6 rfl (lv_at hl 3 rfl) ?_
    refine lv_aload_n hx hb dX8_longestRun_7 rfl (lv_at hl 0 rfl) ?_
    refine xa_get (C := RX8) (T := TX8) (N := 36) cx hG hP 0 rfl rfl uX8 20 (by decide) lf_X8_206 rfl dX8_longestRun_8 ?_
    refine lv_icmp_ge (tgt := 59) hx hb dX8_longestRun_11 (by decide) (fun c1 => ?_) (fun c1 => ?_)
    · have h := itp c1 h
      refine lv_iload_n hx hb dX8_longestRun_59 rfl (lv_at hl 1 rfl) ?_
      exact hret _ _ _ dX8_longestRun_60 (Option.some.inj h)
    · have h := itn c1 h
      refine lv_iload_n hx hb dX8_longestRun_14 rfl (lv_at hl 3 rfl) ?_
      refine lv_if_le (tgt := 45) hx hb dX8_longestRun_15 (by decide) (fun c2 => ?_) (fun c2 => ?_)
      · have h := itp c2 h
        exact w45 _ ih v1 v3 _ (lv_sub hl [0, 1, 3] rfl) h
      · have h := itn c2 h
        refine lv_aload_n hx hb dX8_longestRun_18 rfl (lv_at hl 0 rfl) ?_
        refine xa_get (C := RX8) (T := TX8) (N := 36) cx hG hP 0 rfl rfl uX8 19 (by decide) lf_X8_57 rfl dX8_longestRun_19 ?_
        refine lv_iload_n hx hb dX8_longestRun_22 rfl (lv_at hl 3 rfl) ?_
        obtain ⟨hi3, h⟩ := chk_out h
        refine xa_iald cx hG hP 1 rfl hi3 rfl dX8_longestRun_23 ?_
        refine lv_iconst (v := 4) hx hb dX8_longestRun_24 (by decide) ?_
        refine xv_irem hx hb dX8_longestRun_25 (by decide) ?_
        refine lv_aload_n hx hb dX8_longestRun_26 rfl (lv_at hl 0 rfl) ?_
        refine xa_get (C := RX8) (T := TX8) (N := 36) cx hG hP 0 rfl rfl uX8 19 (by decide) lf_X8_57 rfl dX8_longestRun_27 ?_
        refine lv_iload_n hx hb dX8_longestRun_30 rfl (lv_at hl 3 rfl) ?_
        refine lv_iconst (v := 1) hx hb dX8_longestRun_31 (by decide) ?_
        refine lv_isub hx hb dX8_longestRun_32 ?_
        obtain ⟨hi4, h⟩ := chk_out h
        refine xa_iald cx hG hP 1 rfl hi4 rfl dX8_longestRun_33 ?_
        refine lv_iconst (v := 4) hx hb dX8_longestRun_34 (by decide) ?_
        refine xv_irem hx hb dX8_longestRun_35 (by decide) ?_
        refine lv_icmp_ne (tgt := 45) hx hb dX8_longestRun_36 (by decide) (fun c5 => ?_) (fun c5 => ?_)
        · have h := itn c5 h
          exact w45 _ ih v1 v3 _ (lv_sub hl [0, 1, 3] rfl) h
        · have h := itp c5 h
          refine lv_iload_n hx hb dX8_longestRun_39 rfl (lv_at hl 2 rfl) ?_
          refine lv_iconst (v := 1) hx hb dX8_longestRun_40 (by decide) ?_
          refine lv_iadd hx hb dX8_longestRun_41 ?_
          refine lv_goto (tgt := 46) hx hb dX8_longestRun_42 (by decide) ?_
          exact w46 _ ih v1 v3 (v2 + 1) _ (lv_sub hl [0, 1, 3] rfl) h
  unfold fX8_longestRun at h
  refine lv_iconst (v := 0) hx hb dX8_longestRun_0 (by decide) ?_
  refine lv_istore_n (lv' := [(1, .int (0)), (0, .ref ((a_t 0)))]) hx hb dX8_longestRun_1 rfl hl (by decide) rfl (fun ls hl => ?_)
  refine lv_iconst (v := 0) hx hb dX8_longestRun_2 (by decide) ?_
  refine lv_istore_n (lv' := [(2, .int (0)), (1, .int (0)), (0, .ref ((a_t 0)))]) hx hb dX8_longestRun_3 rfl hl (by decide) rfl (fun ls hl => ?_)
  refine lv_iconst (v := 0) hx hb dX8_longestRun_4 (by decide) ?_
  refine lv_istore_n (lv' := [(3, .int (0)), (2, .int (0)), (1, .int (0)), (0, .ref ((a_t 0)))]) hx hb dX8_longestRun_5 rfl hl (by decide) rfl (fun ls hl => ?_)
  exact w6 FU 0 0 0 _ (lv_sub hl [3, 2, 1, 0] rfl) h
-- X8_likesHere
theorem dX8_likesHere_0 : decode cX8_likesHere 0 = .ok (.iconst 0, 1) := by decide +kernel
theorem dX8_likesHere_1 : decode cX8_likesHere 1 = .ok (.istore_n 1, 1) := by decide +kernel
theorem dX8_likesHere_2 : decode cX8_likesHere 2 = .ok (.iconst 1, 1) := by decide +kernel
theorem dX8_likesHere_3 : decode cX8_likesHere 3 = .ok (.istore_n 2, 1) := by decide +kernel
theorem dX8_likesHere_4 : decode cX8_likesHere 4 = .ok (.iload_n 2, 1) := by decide +kernel
theorem dX8_likesHere_5 : decode cX8_likesHere 5 = .ok (.aload_n 0, 1) := by decide +kernel
theorem dX8_likesHere_6 : decode cX8_likesHere 6 = .ok (.getfield 206, 3) := by decide +kernel
theorem dX8_likesHere_9 : decode cX8_likesHere 9 = .ok (.if_icmp .ge 38, 3) := by decide +kernel
theorem dX8_likesHere_12 : decode cX8_likesHere 12 = .ok (.iload_n 1, 1) := by decide +kernel
theorem dX8_likesHere_13 : decode cX8_likesHere 13 = .ok (.aload_n 0, 1) := by decide +kernel
theorem dX8_likesHere_14 : decode cX8_likesHere 14 = .ok (.getfield 57, 3) := by decide +kernel
theorem dX8_likesHere_17 : decode cX8_likesHere 17 = .ok (.iload_n 2, 1) := by decide +kernel
theorem dX8_likesHere_18 : decode cX8_likesHere 18 = .ok (.iaload, 1) := by decide +kernel
theorem dX8_likesHere_19 : decode cX8_likesHere 19 = .ok (.iconst 4, 1) := by decide +kernel
theorem dX8_likesHere_20 : decode cX8_likesHere 20 = .ok (.irem, 1) := by decide +kernel
theorem dX8_likesHere_21 : decode cX8_likesHere 21 = .ok (.aload_n 0, 1) := by decide +kernel
theorem dX8_likesHere_22 : decode cX8_likesHere 22 = .ok (.getfield 57, 3) := by decide +kernel
theorem dX8_likesHere_25 : decode cX8_likesHere 25 = .ok (.iload_n 2, 1) := by decide +kernel
theorem dX8_likesHere_26 : decode cX8_likesHere 26 = .ok (.iconst 1, 1) := by decide +kernel
theorem dX8_likesHere_27 : decode cX8_likesHere 27 = .ok (.isub, 1) := by decide +kernel
theorem dX8_likesHere_28 : decode cX8_likesHere 28 = .ok (.iaload, 1) := by decide +kernel
theorem dX8_likesHere_29 : decode cX8_likesHere 29 = .ok (.iconst 4, 1) := by decide +kernel
theorem dX8_likesHere_30 : decode cX8_likesHere 30 = .ok (.irem, 1) := by decide +kernel
theorem dX8_likesHere_31 : decode cX8_likesHere 31 = .ok (.if_icmp .ne 7, 3) := by decide +kernel
theorem dX8_likesHere_34 : decode cX8_likesHere 34 = .ok (.iconst 1, 1) := by decide +kernel
theorem dX8_likesHere_35 : decode cX8_likesHere 35 = .ok (.goto 4, 3) := by decide +kernel
theorem dX8_likesHere_38 : decode cX8_likesHere 38 = .ok (.iconst 0, 1) := by decide +kernel
theorem dX8_likesHere_39 : decode cX8_likesHere 39 = .ok (.iadd, 1) := by decide +kernel
theorem dX8_likesHere_40 : decode cX8_likesHere 40 = .ok (.istore_n 1, 1) := by decide +kernel
theorem dX8_likesHere_41 : decode cX8_likesHere 41 = .ok (.iinc 2 1, 3) := by decide +kernel
theorem dX8_likesHere_44 : decode cX8_likesHere 44 = .ok (.goto (-40), 3) := by decide +kernel
theorem dX8_likesHere_47 : decode cX8_likesHere 47 = .ok (.iload_n 1, 1) := by decide +kernel
theorem dX8_likesHere_48 : decode cX8_likesHere 48 = .ok (.ireturn, 1) := by decide +kernel
noncomputable def fX8_likesHere_39 (k4 : (Nat → Int32) → Int32 → Int32 → Int32 → Option (Int32)) (t_row : Nat → Int32) (t_wide : Int32) (v2 : Int32) (z0 : Int32) (z1 : Int32) : Option (Int32) := k4 t_row t_wide (z0 + z1) (v2 + 1)
noncomputable def fX8_likesHere_4  : Nat → (Nat → Int32) → Int32 → Int32 → Int32 → Option (Int32)
  | 0, _, _, _, _ => none
  | n + 1, t_row, t_wide, v1, v2 => (if t_wide ≤ v2 then some v1 else chk 8 v2 (chk 8 (v2 - 1) ((if (irem (t_row v2.toNatClampNeg) 4) = (irem (t_row (v2 - 1).toNatClampNeg) 4) then fX8_likesHere_39 (fX8_likesHere_4 n) t_row t_wide v2 v1 1 else fX8_likesHere_39 (fX8_likesHere_4 n) t_row t_wide v2 v1 0))))
theorem fX8_likesHere_4_z  (t_row : Nat → Int32) (t_wide : Int32) (v1 : Int32) (v2 : Int32) : fX8_likesHere_4  0 t_row t_wide v1 v2 = none := rfl
theorem fX8_likesHere_4_s  (n : Nat) (t_row : Nat → Int32) (t_wide : Int32) (v1 : Int32) (v2 : Int32) : fX8_likesHere_4  (n + 1) t_row t_wide v1 v2 = (if t_wide ≤ v2 then some v1 else chk 8 v2 (chk 8 (v2 - 1) ((if (irem (t_row v2.toNatClampNeg) 4) = (irem (t_row (v2 - 1).toNatClampNeg) 4) then fX8_likesHere_39 (fX8_likesHere_4 n) t_row t_wide v2 v1 1 else fX8_likesHere_39 (fX8_likesHere_4 n) t_row t_wide v2 v1 0)))) := rfl
noncomputable def fX8_likesHere  (t_row : Nat → Int32) (t_wide : Int32) : Option (Int32) := fX8_likesHere_4 FU t_row t_wide 0 1
set_option maxHeartbeats 4000000 in
set_option maxRecDepth 100000 in
theorem ctX8_likesHere (l : Launch) (g : GT) (a_t : Nat → Nat) (t_acted : Int32) (t_taped : Int32) (t_faultKind : Int32) (t_faultPlace : Int32) (t_at : Int32) (t_begin : Int32) (t_token : Int32) (t_value : Int32) (t_bad : Int32) (t_wide : Int32) (t_lost : Int32) (t_det : Int64) (t_mask : Int32) (t_mode : Int32) (t_wanted : Int32) (t_orders : Int32) (t_foundAt : Int32) (t_foundBy : Int64) (t_unlikes : Int32) (t_row : Nat → Int32) (o : Int32) (h : fX8_likesHere t_row t_wide = some o) : Met l yX8_likesHere (Cond.code yX8_likesHere cX8_likesHere 3 (some .int) :: Tw) ⟨0, 0, 0, 0⟩ (va_Pc [.ref ((a_t 0))] (roB g [((a_t 0), .inr (7, [.ref (a_t 1), .ref (a_t 2), .int t_acted, .ref (a_t 4), .ref (a_t 5), .ref (a_t 6), .ref (a_t 7), .ref (a_t 8), .ref (a_t 9), .int t_taped, .int t_faultKind, .int t_faultPlace, .int t_at, .int t_begin, .int t_token, .int t_value, .int t_bad, .ref (a_t 18), .ref (a_t 19), .ref (a_t 20), .int t_wide, .int t_lost, .ref (a_t 23), .long t_det, .ref (a_t 25), .int t_mask, .int t_mode, .int t_wanted, .int t_orders, .int t_foundAt, .long t_foundBy, .ref (a_t 32), .ref (a_t 33), .int t_unlikes, .ref (a_t 35), .ref (a_t 36)])), ((a_t 20), .inl (g.2.2.1 0, 8, .inl t_row))])) (vp_Si (fun x => x = o)) 0 0 (fun _ => False) := by
  refine ro_meti (by decide) (Nat.le_of_ble_eq_true rfl) (lv0 := [(0, .ref ((a_t 0)))]) rfl ?_
  intro p e s m args below meth c ls Q cx hret hG hP hl
  have hx := cx.1
  have hb := cx.2.1
  have hG0 := hG
  have w39 : ∀ (k4 : (Nat → Int32) → Int32 → Int32 → Int32 → Option (Int32)) (hk4 : ∀ (v1 : Int32) (v2 : Int32) (ls : Array Slot), lv_has ls 3 [(0, .ref ((a_t 0))), (1, .int v1), (2, .int v2)] → k4 t_row t_wide v1 v2 = some o → W p l e ⟨0, 0, 0, 0⟩ s m args below meth c s.heap [] 0 0 Q (F0 m 4 ls [])) (v2 : Int32) (z0 : Int32) (z1 : Int32) (ls : Array Slot), lv_has ls 3 [(0, .ref ((a_t 0))), (2, .int v2)] → fX8_likesHere_39 k4 t_row t_wide v2 z0 z1 = some o → W p l e ⟨0, 0, 0, 0⟩ s m args below meth c s.heap [] 0 0 Q (F0 m 39 ls [.int z1, .int z0]) := by
    intro k4 hk4 v2 z0 z1 ls hl h
    unfold fX8_likesHere_39 at h
    refine lv_iadd hx hb dX8_likesHere_39 ?_
    refine lv_istore_n (lv' := [(1, .int (z0 + z1)), (0, .ref ((a_t 0))), (2, .int v2)]) hx hb dX8_likesHere_40 rfl hl (by decide) rfl (fun ls hl => ?_)
    refine lv_iinc (v := v2 + 1) (lv' := [(2, .int (v2 + 1)), (1, .int (z0 + z1)), (0, .ref ((a_t 0)))]) hx hb dX8_likesHere_41 hl (k := 2) rfl rfl (by decide) rfl (fun ls hl => ?_)
    refine lv_goto (tgt := 4) hx hb dX8_likesHere_44 (by decide) ?_
    exact hk4 (z0 + z1) (v2 + 1) _ (lv_sub hl [2, 1, 0] rfl) h
  have w4 : ∀ (n : Nat) (v1 : Int32) (v2 : Int32) (ls : Array Slot), lv_has ls 3 [(0, .ref ((a_t 0))), (1, .int v1), (2, .int v2)] → fX8_likesHere_4  n t_row t_wide v1 v2 = some o → W p l e ⟨0, 0, 0, 0⟩ s m args below meth c s.heap [] 0 0 Q (F0 m 4 ls []) := by
    intro n
    induction n with
    | zero => intro v1 v2 ls hl h; cases (fX8_likesHere_4_z  t_row t_wide v1 v2).symm.trans h
    | succ n ih =>
    intro v1 v2 ls hl h
    have h := (fX8_likesHere_4_s  n t_row t_wide v1 v2).symm.trans h
    refine lv_iload_n hx hb dX8_likesHere_4 rfl (lv_at hl 2 rfl) ?_
    refine lv_aload_n hx hb dX8_likesHere_5 rfl (lv_at hl 0 rfl) ?_
    refine xa_get (C := RX8) (T := TX8) (N := 36) cx hG hP 0 rfl rfl uX8 20 (by decide) lf_X8_206 rfl dX8_likesHere_6 ?_
    refine lv_icmp_ge (tgt := 47) hx hb dX8_likesHere_9 (by decide) (fun c1 => ?_) (fun c1 => ?_)
    · have h := itp c1 h
      refine lv_iload_n hx hb dX8_likesHere_47 rfl (lv_at hl 1 rfl) ?_
      exact hret _ _ _ dX8_likesHere_48 (Option.some.inj h)
    · have h := itn c1 h
      refine lv_iload_n hx hb dX8_likesHere_12 rfl (lv_at hl 1 rfl) ?_
      refine lv_aload_n hx hb dX8_likesHere_13 rfl (lv_at hl 0 rfl) ?_
      refine xa_get (C := RX8) (T := TX8) (N := 36) cx hG hP 0 rfl rfl uX8 19 (by decide) lf_X8_57 rfl dX8_likesHere_14 ?_
      refine lv_iload_n hx hb dX8_likesHere_17 rfl (lv_at hl 2 rfl) ?_
      obtain ⟨hi2, h⟩ := chk_out h
      refine xa_iald cx hG hP 1 rfl hi2 rfl dX8_likesHere_18 ?_
      refine lv_iconst (v := 4) hx hb dX8_likesHere_19 (by decide) ?_
      refine xv_irem hx hb dX8_likesHere_20 (by decide) ?_
      refine lv_aload_n hx hb dX8_likesHere_21 rfl (lv_at hl 0 rfl) ?_
      refine xa_get (C := RX8) (T := TX8) (N := 36) cx hG hP 0 rfl rfl uX8 19 (by decide) lf_X8_57 rfl dX8_likesHere_22 ?_
      refine lv_iload_n hx hb dX8_likesHere_25 rfl (lv_at hl 2 rfl) ?_
      refine lv_iconst (v := 1) hx hb dX8_likesHere_26 (by decide) ?_
      refine lv_isub hx hb dX8_likesHere_27 ?_
      obtain ⟨hi3, h⟩ := chk_out h
      refine xa_iald cx hG hP 1 rfl hi3 rfl dX8_likesHere_28 ?_
      refine lv_iconst (v := 4) hx hb dX8_likesHere_29 (by decide) ?_
      refine xv_irem hx hb dX8_likesHere_30 (by decide) ?_
      refine lv_icmp_ne (tgt := 38) hx hb dX8_likesHere_31 (by decide) (fun c4 => ?_) (fun c4 => ?_)
      · have h := itn c4 h
        refine lv_iconst (v := 0) hx hb dX8_likesHere_38 (by decide) ?_
        exact w39 _ ih v2 v1 0 _ (lv_sub hl [0, 2] rfl) h
      · have h := itp c4 h
        refine lv_iconst (v := 1) hx hb dX8_likesHere_34 (by decide) ?_
        refine lv_goto (tgt := 39) hx hb dX8_likesHere_35 (by decide) ?_
        exact w39 _ ih v2 v1 1 _ (lv_sub hl [0, 2] rfl) h
  unfold fX8_likesHere at h
  refine lv_iconst (v := 0) hx hb dX8_likesHere_0 (by decide) ?_
  refine lv_istore_n (lv' := [(1, .int (0)), (0, .ref ((a_t 0)))]) hx hb dX8_likesHere_1 rfl hl (by decide) rfl (fun ls hl => ?_)
  refine lv_iconst (v := 1) hx hb dX8_likesHere_2 (by decide) ?_
  refine lv_istore_n (lv' := [(2, .int (1)), (1, .int (0)), (0, .ref ((a_t 0)))]) hx hb dX8_likesHere_3 rfl hl (by decide) rfl (fun ls hl => ?_)
  exact w4 FU 0 1 _ (lv_sub hl [2, 1, 0] rfl) h
-- X8_stiff
theorem dX8_stiff_0 : decode cX8_stiff 0 = .ok (.aload_n 0, 1) := by decide +kernel
theorem dX8_stiff_1 : decode cX8_stiff 1 = .ok (.invokevirtual 236, 3) := by decide +kernel
theorem dX8_stiff_4 : decode cX8_stiff 4 = .ok (.ifCond .eq 39, 3) := by decide +kernel
theorem dX8_stiff_7 : decode cX8_stiff 7 = .ok (.iload_n 1, 1) := by decide +kernel
theorem dX8_stiff_8 : decode cX8_stiff 8 = .ok (.i2l, 1) := by decide +kernel
theorem dX8_stiff_9 : decode cX8_stiff 9 = .ok (.lconst 0, 1) := by decide +kernel
theorem dX8_stiff_10 : decode cX8_stiff 10 = .ok (.ldc2_w 239, 3) := by decide +kernel
theorem dX8_stiff_13 : decode cX8_stiff 13 = .ok (.invokestatic 83, 3) := by decide +kernel
theorem dX8_stiff_16 : decode cX8_stiff 16 = .ok (.ifCond .eq 27, 3) := by decide +kernel
theorem dX8_stiff_19 : decode cX8_stiff 19 = .ok (.iload_n 2, 1) := by decide +kernel
theorem dX8_stiff_20 : decode cX8_stiff 20 = .ok (.i2l, 1) := by decide +kernel
theorem dX8_stiff_21 : decode cX8_stiff 21 = .ok (.lconst 0, 1) := by decide +kernel
theorem dX8_stiff_22 : decode cX8_stiff 22 = .ok (.ldc2_w 239, 3) := by decide +kernel
theorem dX8_stiff_25 : decode cX8_stiff 25 = .ok (.invokestatic 83, 3) := by decide +kernel
theorem dX8_stiff_28 : decode cX8_stiff 28 = .ok (.ifCond .eq 15, 3) := by decide +kernel
theorem dX8_stiff_31 : decode cX8_stiff 31 = .ok (.iload_n 3, 1) := by decide +kernel
theorem dX8_stiff_32 : decode cX8_stiff 32 = .ok (.i2l, 1) := by decide +kernel
theorem dX8_stiff_33 : decode cX8_stiff 33 = .ok (.lconst 0, 1) := by decide +kernel
theorem dX8_stiff_34 : decode cX8_stiff 34 = .ok (.ldc2_w 239, 3) := by decide +kernel
theorem dX8_stiff_37 : decode cX8_stiff 37 = .ok (.invokestatic 83, 3) := by decide +kernel
theorem dX8_stiff_40 : decode cX8_stiff 40 = .ok (.ifCond .ne 7, 3) := by decide +kernel
theorem dX8_stiff_43 : decode cX8_stiff 43 = .ok (.ldc2_w 241, 3) := by decide +kernel
theorem dX8_stiff_46 : decode cX8_stiff 46 = .ok (.lreturn, 1) := by decide +kernel
theorem dX8_stiff_47 : decode cX8_stiff 47 = .ok (.aload_n 0, 1) := by decide +kernel
theorem dX8_stiff_48 : decode cX8_stiff 48 = .ok (.invokevirtual 243, 3) := by decide +kernel
theorem dX8_stiff_51 : decode cX8_stiff 51 = .ok (.aload_n 0, 1) := by decide +kernel
theorem dX8_stiff_52 : decode cX8_stiff 52 = .ok (.iload_n 1, 1) := by decide +kernel
theorem dX8_stiff_53 : decode cX8_stiff 53 = .ok (.iload_n 2, 1) := by decide +kernel
theorem dX8_stiff_54 : decode cX8_stiff 54 = .ok (.iload_n 3, 1) := by decide +kernel
theorem dX8_stiff_55 : decode cX8_stiff 55 = .ok (.invokevirtual 219, 3) := by decide +kernel
theorem dX8_stiff_58 : decode cX8_stiff 58 = .ok (.lreturn, 1) := by decide +kernel
noncomputable def fX8_stiff  (t_mem : Nat → Int32) (t_row : Nat → Int32) (t_wide : Int32) (t_lost : Int32) (v1 : Int32) (v2 : Int32) (v3 : Int32) : Option (Int64 × (Nat → Int32) × Int32 × Int32) := (fX8_is t_mem).bind fun r1 => (if r1 = 0 then some ((-9223372036854775808), t_row, t_wide, t_lost) else (if (fX8_in v1.toInt64 0 2) = 0 then some ((-9223372036854775808), t_row, t_wide, t_lost) else (if (fX8_in v2.toInt64 0 2) = 0 then some ((-9223372036854775808), t_row, t_wide, t_lost) else (if (fX8_in v3.toInt64 0 2) = 0 then some ((-9223372036854775808), t_row, t_wide, t_lost) else ob3 (fX8_laysPlate t_mem t_row t_wide t_lost) fun w12 w13 w14 => (fX8_sum t_mem w12 w13 w14 v1 v2 v3).bind fun r16 => some (r16, w12, w13, w14)))))
set_option maxHeartbeats 4000000 in
set_option maxRecDepth 100000 in
theorem ctX8_stiff (l : Launch) (g : GT) (sz : Nat) (a_t : Nat → Nat) (t_acted : Int32) (t_taped : Int32) (t_faultKind : Int32) (t_faultPlace : Int32) (t_at : Int32) (t_begin : Int32) (t_token : Int32) (t_value : Int32) (t_bad : Int32) (t_wide : Int32) (t_lost : Int32) (t_det : Int64) (t_mask : Int32) (t_mode : Int32) (t_wanted : Int32) (t_orders : Int32) (t_foundAt : Int32) (t_foundBy : Int64) (t_unlikes : Int32) (t_mem : Nat → Int32) (t_row : Nat → Int32) (v1 : Int32) (v2 : Int32) (v3 : Int32) (o : Int64) (o_t_row : Nat → Int32) (o_t_wide : Int32) (o_t_lost : Int32) (h : fX8_stiff t_mem t_row t_wide t_lost v1 v2 v3 = some (o, o_t_row, o_t_wide, o_t_lost)) : Met l yX8_stiff (Cond.code yX8_stiff cX8_stiff 4 (some .long) :: Tw) ⟨2, 0, 0, 56⟩ (va_Pc [.ref ((a_t 0)), .int v1, .int v2, .int v3] (rwB g [((a_t 0), .inr (7, [.ref (a_t 1), .ref (a_t 2), .int t_acted, .ref (a_t 4), .ref (a_t 5), .ref (a_t 6), .ref (a_t 7), .ref (a_t 8), .ref (a_t 9), .int t_taped, .int t_faultKind, .int t_faultPlace, .int t_at, .int t_begin, .int t_token, .int t_value, .int t_bad, .ref (a_t 18), .ref (a_t 19), .ref (a_t 20), .int t_wide, .int t_lost, .ref (a_t 23), .long t_det, .ref (a_t 25), .int t_mask, .int t_mode, .int t_wanted, .int t_orders, .int t_foundAt, .long t_foundBy, .ref (a_t 32), .ref (a_t 33), .int t_unlikes, .ref (a_t 35), .ref (a_t 36)])), ((a_t 1), .inl (g.2.2.1 0, 27, .inl t_mem)), ((a_t 20), .inl (g.2.2.1 0, 8, .inl t_row))] sz)) (va_Ql (fun x (_ : Nat → Nat) => x = o) (fun u => rwE g (va_A [((a_t 0), .inr (7, [.ref (a_t 1), .ref (a_t 2), .int t_acted, .ref (a_t 4), .ref (a_t 5), .ref (a_t 6), .ref (a_t 7), .ref (a_t 8), .ref (a_t 9), .int t_taped, .int t_faultKind, .int t_faultPlace, .int t_at, .int t_begin, .int t_token, .int t_value, .int t_bad, .ref (a_t 18), .ref (a_t 19), .ref (a_t 20), .int t_wide, .int t_lost, .ref (a_t 23), .long t_det, .ref (a_t 25), .int t_mask, .int t_mode, .int t_wanted, .int t_orders, .int t_foundAt, .long t_foundBy, .ref (a_t 32), .ref (a_t 33), .int t_unlikes, .ref (a_t 35), .ref (a_t 36)])), ((a_t 1), .inl (g.2.2.1 0, 27, .inl t_mem)), ((a_t 20), .inl (g.2.2.1 0, 8, .inl t_row))] sz) [((a_t 0), .inr (7, [.ref (a_t 1), .ref (a_t 2), .int t_acted, .ref (a_t 4), .ref (a_t 5), .ref (a_t 6), .ref (a_t 7), .ref (a_t 8), .ref (a_t 9), .int t_taped, .int t_faultKind, .int t_faultPlace, .int t_at, .int t_begin, .int t_token, .int t_value, .int t_bad, .ref (a_t 18), .ref (a_t 19), .ref (a_t 20), .int o_t_wide, .int o_t_lost, .ref (a_t 23), .long t_det, .ref (a_t 25), .int t_mask, .int t_mode, .int t_wanted, .int t_orders, .int t_foundAt, .long t_foundBy, .ref (a_t 32), .ref (a_t 33), .int t_unlikes, .ref (a_t 35), .ref (a_t 36)])), ((a_t 1), .inl (g.2.2.1 0, 27, .inl t_mem)), ((a_t 20), .inl (g.2.2.1 0, 8, .inl o_t_row))]) (va_A [((a_t 0), .inr (7, [.ref (a_t 1), .ref (a_t 2), .int t_acted, .ref (a_t 4), .ref (a_t 5), .ref (a_t 6), .ref (a_t 7), .ref (a_t 8), .ref (a_t 9), .int t_taped, .int t_faultKind, .int t_faultPlace, .int t_at, .int t_begin, .int t_token, .int t_value, .int t_bad, .ref (a_t 18), .ref (a_t 19), .ref (a_t 20), .int t_wide, .int t_lost, .ref (a_t 23), .long t_det, .ref (a_t 25), .int t_mask, .int t_mode, .int t_wanted, .int t_orders, .int t_foundAt, .long t_foundBy, .ref (a_t 32), .ref (a_t 33), .int t_unlikes, .ref (a_t 35), .ref (a_t 36)])), ((a_t 1), .inl (g.2.2.1 0, 27, .inl t_mem)), ((a_t 20), .inl (g.2.2.1 0, 8, .inl t_row))] sz)) 0 0 (va_A [((a_t 0), .inr (7, [.ref (a_t 1), .ref (a_t 2), .int t_acted, .ref (a_t 4), .ref (a_t 5), .ref (a_t 6), .ref (a_t 7), .ref (a_t 8), .ref (a_t 9), .int t_taped, .int t_faultKind, .int t_faultPlace, .int t_at, .int t_begin, .int t_token, .int t_value, .int t_bad, .ref (a_t 18), .ref (a_t 19), .ref (a_t 20), .int t_wide, .int t_lost, .ref (a_t 23), .long t_det, .ref (a_t 25), .int t_mask, .int t_mode, .int t_wanted, .int t_orders, .int t_foundAt, .long t_foundBy, .ref (a_t 32), .ref (a_t 33), .int t_unlikes, .ref (a_t 35), .ref (a_t 36)])), ((a_t 1), .inl (g.2.2.1 0, 27, .inl t_mem)), ((a_t 20), .inl (g.2.2.1 0, 8, .inl t_row))] sz) := by
  refine rw_metl (by decide) (Nat.le_of_ble_eq_true rfl) (lv0 := [(0, .ref ((a_t 0))), (1, .int v1), (2, .int v2), (3, .int v3)]) rfl ?_
  intro p e s m args below meth c ls Q A cx hret hG hAb hb0 hA hP hD hl
  have hx := cx.1
  have hb := cx.2.1
  have hG0 := hG
  have hGk : ∀ {H : Heap} {locs : List Loc}, va_S A s.heap H locs → GE g s H := fun hS => hG0.keptS hAb hS
  have hSb : ∀ {H : Heap} {locs : List Loc}, va_S A s.heap H locs → va_S (fun a => g.1 ≤ a) s.heap H locs := fun hS => ⟨hS.1, fun q h1 h2 => hS.2.1 q h1 (fun z => h2 (hAb q z)), fun l hl => hAb _ (hS.2.2 l hl)⟩
  have hS : va_S A s.heap s.heap [] := va_S.rf
  have hrt : ∀ (u : Nat → Nat) (pc : Nat) (ls : Array Slot) (v : Int64) (x_t_row : Nat → Int32) (x_t_wide : Int32) (x_t_lost : Int32) (H : Heap) (locs : List Loc), decode cX8_stiff pc = .ok (.lreturn, 1) → some (v, x_t_row, x_t_wide, x_t_lost) = some (o, o_t_row, o_t_wide, o_t_lost) → va_P g.2.1 vwCl [((a_t 0), .inr (7, [.ref (a_t 1), .ref (a_t 2), .int t_acted, .ref (a_t 4), .ref (a_t 5), .ref (a_t 6), .ref (a_t 7), .ref (a_t 8), .ref (a_t 9), .int t_taped, .int t_faultKind, .int t_faultPlace, .int t_at, .int t_begin, .int t_token, .int t_value, .int t_bad, .ref (a_t 18), .ref (a_t 19), .ref (a_t 20), .int x_t_wide, .int x_t_lost, .ref (a_t 23), .long t_det, .ref (a_t 25), .int t_mask, .int t_mode, .int t_wanted, .int t_orders, .int t_foundAt, .long t_foundBy, .ref (a_t 32), .ref (a_t 33), .int t_unlikes, .ref (a_t 35), .ref (a_t 36)])), ((a_t 1), .inl (g.2.2.1 0, 27, .inl t_mem)), ((a_t 20), .inl (g.2.2.1 0, 8, .inl x_t_row))] H → va_D A [((a_t 0), .inr (7, [.ref (a_t 1), .ref (a_t 2), .int t_acted, .ref (a_t 4), .ref (a_t 5), .ref (a_t 6), .ref (a_t 7), .ref (a_t 8), .ref (a_t 9), .int t_taped, .int t_faultKind, .int t_faultPlace, .int t_at, .int t_begin, .int t_token, .int t_value, .int t_bad, .ref (a_t 18), .ref (a_t 19), .ref (a_t 20), .int x_t_wide, .int x_t_lost, .ref (a_t 23), .long t_det, .ref (a_t 25), .int t_mask, .int t_mode, .int t_wanted, .int t_orders, .int t_foundAt, .long t_foundBy, .ref (a_t 32), .ref (a_t 33), .int t_unlikes, .ref (a_t 35), .ref (a_t 36)])), ((a_t 1), .inl (g.2.2.1 0, 27, .inl t_mem)), ((a_t 20), .inl (g.2.2.1 0, 8, .inl x_t_row))] → va_S A s.heap H locs → W p l e ⟨2, 0, 0, 56⟩ s m args below meth c H locs 0 0 Q (F0 m pc ls [.long v]) := by
    intro u pc ls v x_t_row x_t_wide x_t_lost H locs hd h hP hD hS
    cases h
    exact hret u _ _ _ _ _ hd rfl hP hD hS
  unfold fX8_stiff at h
  refine lv_aload_n hx hb dX8_stiff_0 rfl (lv_at hl 0 rfl) ?_
  obtain ⟨r1, hr2, h⟩ := bnd h
  refine ro_z (runV (As := []) (rest := []) cx hl.1 (ctX8_is l g a_t t_acted t_taped t_faultKind t_faultPlace t_at t_begin t_token t_value t_bad t_wide t_lost t_det t_mask t_mode t_wanted t_orders t_foundAt t_foundBy t_unlikes t_mem r1 hr2) kmX8_is kvX8_is lm_X8_236 ⟨rfl, rfl⟩ ⟨Nat.le_of_ble_eq_true rfl, Nat.le_of_ble_eq_true rfl⟩ (roV (q0 := 0) (ci := 7) hG (hP.sub [0, 1] rfl) hP rfl rfl) rfl rfl (Nat.le_of_ble_eq_true rfl) dX8_stiff_1 ⟨Nat.le_of_ble_eq_true rfl, Nat.le_of_ble_eq_true rfl⟩) (fun hz3 => ?_)
  refine lv_if_eq (tgt := 43) hx hb dX8_stiff_4 (by decide) (fun c4 => ?_) (fun c4 => ?_)
  · have h := itp c4 h
    refine lv_ldc2 (own := RX8) (v := -9223372036854775808) hx hb cx.2.2.2.1 (cx.2.2.2.2 _ cl_X8_241) dX8_stiff_43 ?_
    exact hrt (fun _ => 0) _ _ ((-9223372036854775808)) t_row t_wide t_lost _ _ dX8_stiff_46 h (hP.sub [0, 1, 2] rfl) (hD.sub [0, 1, 2] (by decide) rfl) hS
  · have h := itn c4 h
    refine lv_iload_n hx hb dX8_stiff_7 rfl (lv_at hl 1 rfl) ?_
    refine lv_i2l (v := v1.toInt64) hx hb dX8_stiff_8 rfl ?_
    refine lv_lconst (v := 0) hx hb dX8_stiff_9 (by decide) ?_
    refine lv_ldc2 (own := RX8) (v := 2) hx hb cx.2.2.2.1 (cx.2.2.2.2 _ cl_X8_239) dX8_stiff_10 ?_
    refine ro_z (runS (As := [.long v1.toInt64, .long (0), .long (2)]) (rest := []) cx hl.1 (ctX8_in l g v1.toInt64 (0) (2) (fX8_in v1.toInt64 0 2) rfl) kmX8_in ksX8_in lm_X8_83 ⟨rfl, rfl⟩ ⟨Nat.le_of_ble_eq_true rfl, Nat.le_of_ble_eq_true rfl⟩ (roS hG (hP.sub [] rfl)) rfl rfl (Nat.le_of_ble_eq_true rfl) dX8_stiff_13 ⟨Nat.le_of_ble_eq_true rfl, Nat.le_of_ble_eq_true rfl⟩) (fun hz5 => ?_)
    refine lv_if_eq (tgt := 43) hx hb dX8_stiff_16 (by decide) (fun c6 => ?_) (fun c6 => ?_)
    · have h := itp c6 h
      refine lv_ldc2 (own := RX8) (v := -9223372036854775808) hx hb cx.2.2.2.1 (cx.2.2.2.2 _ cl_X8_241) dX8_stiff_43 ?_
      exact hrt (fun _ => 0) _ _ ((-9223372036854775808)) t_row t_wide t_lost _ _ dX8_stiff_46 h (hP.sub [0, 1, 2] rfl) (hD.sub [0, 1, 2] (by decide) rfl) hS
    · have h := itn c6 h
      refine lv_iload_n hx hb dX8_stiff_19 rfl (lv_at hl 2 rfl) ?_
      refine lv_i2l (v := v2.toInt64) hx hb dX8_stiff_20 rfl ?_
      refine lv_lconst (v := 0) hx hb dX8_stiff_21 (by decide) ?_
      refine lv_ldc2 (own := RX8) (v := 2) hx hb cx.2.2.2.1 (cx.2.2.2.2 _ cl_X8_239) dX8_stiff_22 ?_
      refine ro_z (runS (As := [.long v2.toInt64, .long (0), .long (2)]) (rest := []) cx hl.1 (ctX8_in l g v2.toInt64 (0) (2) (fX8_in v2.toInt64 0 2) rfl) kmX8_in ksX8_in lm_X8_83 ⟨rfl, rfl⟩ ⟨Nat.le_of_ble_eq_true rfl, Nat.le_of_ble_eq_true rfl⟩ (roS hG (hP.sub [] rfl)) rfl rfl (Nat.le_of_ble_eq_true rfl) dX8_stiff_25 ⟨Nat.le_of_ble_eq_true rfl, Nat.le_of_ble_eq_true rfl⟩) (fun hz7 => ?_)
      refine lv_if_eq (tgt := 43) hx hb dX8_stiff_28 (by decide) (fun c8 => ?_) (fun c8 => ?_)
      · have h := itp c8 h
        refine lv_ldc2 (own := RX8) (v := -9223372036854775808) hx hb cx.2.2.2.1 (cx.2.2.2.2 _ cl_X8_241) dX8_stiff_43 ?_
        exact hrt (fun _ => 0) _ _ ((-9223372036854775808)) t_row t_wide t_lost _ _ dX8_stiff_46 h (hP.sub [0, 1, 2] rfl) (hD.sub [0, 1, 2] (by decide) rfl) hS
      · have h := itn c8 h
        refine lv_iload_n hx hb dX8_stiff_31 rfl (lv_at hl 3 rfl) ?_
        refine lv_i2l (v := v3.toInt64) hx hb dX8_stiff_32 rfl ?_
        refine lv_lconst (v := 0) hx hb dX8_stiff_33 (by decide) ?_
        refine lv_ldc2 (own := RX8) (v := 2) hx hb cx.2.2.2.1 (cx.2.2.2.2 _ cl_X8_239) dX8_stiff_34 ?_
        refine ro_z (runS (As := [.long v3.toInt64, .long (0), .long (2)]) (rest := []) cx hl.1 (ctX8_in l g v3.toInt64 (0) (2) (fX8_in v3.toInt64 0 2) rfl) kmX8_in ksX8_in lm_X8_83 ⟨rfl, rfl⟩ ⟨Nat.le_of_ble_eq_true rfl, Nat.le_of_ble_eq_true rfl⟩ (roS hG (hP.sub [] rfl)) rfl rfl (Nat.le_of_ble_eq_true rfl) dX8_stiff_37 ⟨Nat.le_of_ble_eq_true rfl, Nat.le_of_ble_eq_true rfl⟩) (fun hz9 => ?_)
        refine lv_if_ne (tgt := 47) hx hb dX8_stiff_40 (by decide) (fun c10 => ?_) (fun c10 => ?_)
        · have h := itn c10 h
          refine lv_aload_n hx hb dX8_stiff_47 rfl (lv_at hl 0 rfl) ?_
          obtain ⟨w12, w13, w14, hr11, h⟩ := ob3_out h
          refine rw_v (WN := fun u15 => [((a_t 0), .inr (7, [.ref (a_t 1), .ref (a_t 2), .int t_acted, .ref (a_t 4), .ref (a_t 5), .ref (a_t 6), .ref (a_t 7), .ref (a_t 8), .ref (a_t 9), .int t_taped, .int t_faultKind, .int t_faultPlace, .int t_at, .int t_begin, .int t_token, .int t_value, .int t_bad, .ref (a_t 18), .ref (a_t 19), .ref (a_t 20), .int w13, .int w14, .ref (a_t 23), .long t_det, .ref (a_t 25), .int t_mask, .int t_mode, .int t_wanted, .int t_orders, .int t_foundAt, .long t_foundBy, .ref (a_t 32), .ref (a_t 33), .int t_unlikes, .ref (a_t 35), .ref (a_t 36)])), ((a_t 1), .inl (g.2.2.1 0, 27, .inl t_mem)), ((a_t 20), .inl (g.2.2.1 0, 8, .inl w12))]) (wr := []) (runV (As := []) (rest := []) cx hl.1 (ctX8_laysPlate l g s.heap.size a_t t_acted t_taped t_faultKind t_faultPlace t_at t_begin t_token t_value t_bad t_wide t_lost t_det t_mask t_mode t_wanted t_orders t_foundAt t_foundBy t_unlikes t_mem t_row w12 w13 w14 hr11) kmX8_laysPlate kvX8_laysPlate lm_X8_243 ⟨rfl, rfl⟩ ⟨Nat.le_of_ble_eq_true rfl, Nat.le_of_ble_eq_true rfl⟩ (rwV (q0 := 0) (ci := 7) hG (hP.sub [0, 1, 2] rfl) (hD.sub [0, 1, 2] (by decide) rfl) hAb hb0 hS hP rfl rfl) rfl rfl (Nat.le_of_ble_eq_true rfl) dX8_stiff_48 ⟨Nat.le_of_ble_eq_true rfl, Nat.le_of_ble_eq_true rfl⟩) hP hD hS hA [0, 1, 2] [] rfl rfl (by decide) (by decide) (fun _ => rfl) (fun u15 H locs hP hD hS => ?_)
          have hG := hGk hS
          refine lv_aload_n hx hb dX8_stiff_51 rfl (lv_at hl 0 rfl) ?_
          refine lv_iload_n hx hb dX8_stiff_52 rfl (lv_at hl 1 rfl) ?_
          refine lv_iload_n hx hb dX8_stiff_53 rfl (lv_at hl 2 rfl) ?_
          refine lv_iload_n hx hb dX8_stiff_54 rfl (lv_at hl 3 rfl) ?_
          obtain ⟨r16, hr17, h⟩ := bnd h
          refine ro_l (runV (As := [.int v1, .int v2, .int v3]) (rest := []) cx hl.1 (ctX8_sum l g a_t t_acted t_taped t_faultKind t_faultPlace t_at t_begin t_token t_value t_bad w13 w14 t_det t_mask t_mode t_wanted t_orders t_foundAt t_foundBy t_unlikes t_mem w12 v1 v2 v3 r16 hr17) kmX8_sum kvX8_sum lm_X8_219 ⟨rfl, rfl⟩ ⟨Nat.le_of_ble_eq_true rfl, Nat.le_of_ble_eq_true rfl⟩ (roV (q0 := 0) (ci := 7) hG (hP.sub [0, 1, 2] rfl) hP rfl rfl) rfl rfl (Nat.le_of_ble_eq_true rfl) dX8_stiff_55 ⟨Nat.le_of_ble_eq_true rfl, Nat.le_of_ble_eq_true rfl⟩) ?_
          exact hrt (fun _ => 0) _ _ r16 w12 w13 w14 _ _ dX8_stiff_58 h (hP.sub [0, 1, 2] rfl) (hD.sub [0, 1, 2] (by decide) rfl) hS
        · have h := itp c10 h
          refine lv_ldc2 (own := RX8) (v := -9223372036854775808) hx hb cx.2.2.2.1 (cx.2.2.2.2 _ cl_X8_241) dX8_stiff_43 ?_
          exact hrt (fun _ => 0) _ _ ((-9223372036854775808)) t_row t_wide t_lost _ _ dX8_stiff_46 h (hP.sub [0, 1, 2] rfl) (hD.sub [0, 1, 2] (by decide) rfl) hS
-- X8_even
theorem dX8_even_0 : decode cX8_even 0 = .ok (.aload_n 0, 1) := by decide +kernel
theorem dX8_even_1 : decode cX8_even 1 = .ok (.invokevirtual 236, 3) := by decide +kernel
theorem dX8_even_4 : decode cX8_even 4 = .ok (.ifCond .ne 6, 3) := by decide +kernel
theorem dX8_even_7 : decode cX8_even 7 = .ok (.bipush (-2), 2) := by decide +kernel
theorem dX8_even_9 : decode cX8_even 9 = .ok (.ireturn, 1) := by decide +kernel
theorem dX8_even_10 : decode cX8_even 10 = .ok (.aload_n 0, 1) := by decide +kernel
theorem dX8_even_11 : decode cX8_even 11 = .ok (.invokevirtual 243, 3) := by decide +kernel
theorem dX8_even_14 : decode cX8_even 14 = .ok (.aload_n 0, 1) := by decide +kernel
theorem dX8_even_15 : decode cX8_even 15 = .ok (.invokevirtual 222, 3) := by decide +kernel
theorem dX8_even_18 : decode cX8_even 18 = .ok (.ifCond .eq 7, 3) := by decide +kernel
theorem dX8_even_21 : decode cX8_even 21 = .ok (.iconst 1, 1) := by decide +kernel
theorem dX8_even_22 : decode cX8_even 22 = .ok (.goto 4, 3) := by decide +kernel
theorem dX8_even_25 : decode cX8_even 25 = .ok (.iconst 0, 1) := by decide +kernel
theorem dX8_even_26 : decode cX8_even 26 = .ok (.aload_n 0, 1) := by decide +kernel
theorem dX8_even_27 : decode cX8_even 27 = .ok (.invokevirtual 226, 3) := by decide +kernel
theorem dX8_even_30 : decode cX8_even 30 = .ok (.lconst 0, 1) := by decide +kernel
theorem dX8_even_31 : decode cX8_even 31 = .ok (.lcmp, 1) := by decide +kernel
theorem dX8_even_32 : decode cX8_even 32 = .ok (.ifCond .ne 7, 3) := by decide +kernel
theorem dX8_even_35 : decode cX8_even 35 = .ok (.iconst 2, 1) := by decide +kernel
theorem dX8_even_36 : decode cX8_even 36 = .ok (.goto 4, 3) := by decide +kernel
theorem dX8_even_39 : decode cX8_even 39 = .ok (.iconst 0, 1) := by decide +kernel
theorem dX8_even_40 : decode cX8_even 40 = .ok (.iadd, 1) := by decide +kernel
theorem dX8_even_41 : decode cX8_even 41 = .ok (.aload_n 0, 1) := by decide +kernel
theorem dX8_even_42 : decode cX8_even 42 = .ok (.invokevirtual 230, 3) := by decide +kernel
theorem dX8_even_45 : decode cX8_even 45 = .ok (.lconst 0, 1) := by decide +kernel
theorem dX8_even_46 : decode cX8_even 46 = .ok (.lcmp, 1) := by decide +kernel
theorem dX8_even_47 : decode cX8_even 47 = .ok (.ifCond .ne 7, 3) := by decide +kernel
theorem dX8_even_50 : decode cX8_even 50 = .ok (.iconst 4, 1) := by decide +kernel
theorem dX8_even_51 : decode cX8_even 51 = .ok (.goto 4, 3) := by decide +kernel
theorem dX8_even_54 : decode cX8_even 54 = .ok (.iconst 0, 1) := by decide +kernel
theorem dX8_even_55 : decode cX8_even 55 = .ok (.iadd, 1) := by decide +kernel
theorem dX8_even_56 : decode cX8_even 56 = .ok (.aload_n 0, 1) := by decide +kernel
theorem dX8_even_57 : decode cX8_even 57 = .ok (.invokevirtual 246, 3) := by decide +kernel
theorem dX8_even_60 : decode cX8_even 60 = .ok (.ifCond .eq 8, 3) := by decide +kernel
theorem dX8_even_63 : decode cX8_even 63 = .ok (.bipush 8, 2) := by decide +kernel
theorem dX8_even_65 : decode cX8_even 65 = .ok (.goto 4, 3) := by decide +kernel
theorem dX8_even_68 : decode cX8_even 68 = .ok (.iconst 0, 1) := by decide +kernel
theorem dX8_even_69 : decode cX8_even 69 = .ok (.iadd, 1) := by decide +kernel
theorem dX8_even_70 : decode cX8_even 70 = .ok (.ireturn, 1) := by decide +kernel
noncomputable def fX8_even_55  (t_row : Nat → Int32) (t_wide : Int32) (t_lost : Int32) (z0 : Int32) (z1 : Int32) : Option (Int32 × (Nat → Int32) × Int32 × Int32) := (fX8_isBalanced t_row t_wide).bind fun r20 => (if r20 = 0 then some (((z0 + z1) + 0), t_row, t_wide, t_lost) else some (((z0 + z1) + 8), t_row, t_wide, t_lost))
noncomputable def fX8_even_40  (t_mem : Nat → Int32) (t_row : Nat → Int32) (t_wide : Int32) (t_lost : Int32) (z0 : Int32) (z1 : Int32) : Option (Int32 × (Nat → Int32) × Int32 × Int32) := (fX8_twistHere t_mem t_row t_wide t_lost).bind fun r17 => (if (lg_cmp r17 0) = 0 then fX8_even_55 t_row t_wide t_lost (z0 + z1) 4 else fX8_even_55 t_row t_wide t_lost (z0 + z1) 0)
noncomputable def fX8_even_26  (t_mem : Nat → Int32) (t_row : Nat → Int32) (t_wide : Int32) (t_lost : Int32) (z0 : Int32) : Option (Int32 × (Nat → Int32) × Int32 × Int32) := (fX8_warpHere t_mem t_row t_wide t_lost).bind fun r14 => (if (lg_cmp r14 0) = 0 then fX8_even_40 t_mem t_row t_wide t_lost z0 2 else fX8_even_40 t_mem t_row t_wide t_lost z0 0)
noncomputable def fX8_even  (t_mem : Nat → Int32) (t_row : Nat → Int32) (t_wide : Int32) (t_lost : Int32) : Option (Int32 × (Nat → Int32) × Int32 × Int32) := (fX8_is t_mem).bind fun r1 => (if r1 = 0 then some ((-2), t_row, t_wide, t_lost) else ob3 (fX8_laysPlate t_mem t_row t_wide t_lost) fun w6 w7 w8 => (fX8_isMirrored w6 w7).bind fun r10 => (if r10 = 0 then fX8_even_26 t_mem w6 w7 w8 0 else fX8_even_26 t_mem w6 w7 w8 1))
set_option maxHeartbeats 4000000 in
set_option maxRecDepth 100000 in
theorem ctX8_even (l : Launch) (g : GT) (sz : Nat) (a_t : Nat → Nat) (t_acted : Int32) (t_taped : Int32) (t_faultKind : Int32) (t_faultPlace : Int32) (t_at : Int32) (t_begin : Int32) (t_token : Int32) (t_value : Int32) (t_bad : Int32) (t_wide : Int32) (t_lost : Int32) (t_det : Int64) (t_mask : Int32) (t_mode : Int32) (t_wanted : Int32) (t_orders : Int32) (t_foundAt : Int32) (t_foundBy : Int64) (t_unlikes : Int32) (t_mem : Nat → Int32) (t_row : Nat → Int32) (o : Int32) (o_t_row : Nat → Int32) (o_t_wide : Int32) (o_t_lost : Int32) (h : fX8_even t_mem t_row t_wide t_lost = some (o, o_t_row, o_t_wide, o_t_lost)) : Met l yX8_even (Cond.code yX8_even cX8_even 1 (some .int) :: Tw) ⟨3, 0, 0, 80⟩ (va_Pc [.ref ((a_t 0))] (rwB g [((a_t 0), .inr (7, [.ref (a_t 1), .ref (a_t 2), .int t_acted, .ref (a_t 4), .ref (a_t 5), .ref (a_t 6), .ref (a_t 7), .ref (a_t 8), .ref (a_t 9), .int t_taped, .int t_faultKind, .int t_faultPlace, .int t_at, .int t_begin, .int t_token, .int t_value, .int t_bad, .ref (a_t 18), .ref (a_t 19), .ref (a_t 20), .int t_wide, .int t_lost, .ref (a_t 23), .long t_det, .ref (a_t 25), .int t_mask, .int t_mode, .int t_wanted, .int t_orders, .int t_foundAt, .long t_foundBy, .ref (a_t 32), .ref (a_t 33), .int t_unlikes, .ref (a_t 35), .ref (a_t 36)])), ((a_t 1), .inl (g.2.2.1 0, 27, .inl t_mem)), ((a_t 20), .inl (g.2.2.1 0, 8, .inl t_row))] sz)) (va_Qi (fun x (_ : Nat → Nat) => x = o) (fun u => rwE g (va_A [((a_t 0), .inr (7, [.ref (a_t 1), .ref (a_t 2), .int t_acted, .ref (a_t 4), .ref (a_t 5), .ref (a_t 6), .ref (a_t 7), .ref (a_t 8), .ref (a_t 9), .int t_taped, .int t_faultKind, .int t_faultPlace, .int t_at, .int t_begin, .int t_token, .int t_value, .int t_bad, .ref (a_t 18), .ref (a_t 19), .ref (a_t 20), .int t_wide, .int t_lost, .ref (a_t 23), .long t_det, .ref (a_t 25), .int t_mask, .int t_mode, .int t_wanted, .int t_orders, .int t_foundAt, .long t_foundBy, .ref (a_t 32), .ref (a_t 33), .int t_unlikes, .ref (a_t 35), .ref (a_t 36)])), ((a_t 1), .inl (g.2.2.1 0, 27, .inl t_mem)), ((a_t 20), .inl (g.2.2.1 0, 8, .inl t_row))] sz) [((a_t 0), .inr (7, [.ref (a_t 1), .ref (a_t 2), .int t_acted, .ref (a_t 4), .ref (a_t 5), .ref (a_t 6), .ref (a_t 7), .ref (a_t 8), .ref (a_t 9), .int t_taped, .int t_faultKind, .int t_faultPlace, .int t_at, .int t_begin, .int t_token, .int t_value, .int t_bad, .ref (a_t 18), .ref (a_t 19), .ref (a_t 20), .int o_t_wide, .int o_t_lost, .ref (a_t 23), .long t_det, .ref (a_t 25), .int t_mask, .int t_mode, .int t_wanted, .int t_orders, .int t_foundAt, .long t_foundBy, .ref (a_t 32), .ref (a_t 33), .int t_unlikes, .ref (a_t 35), .ref (a_t 36)])), ((a_t 1), .inl (g.2.2.1 0, 27, .inl t_mem)), ((a_t 20), .inl (g.2.2.1 0, 8, .inl o_t_row))]) (va_A [((a_t 0), .inr (7, [.ref (a_t 1), .ref (a_t 2), .int t_acted, .ref (a_t 4), .ref (a_t 5), .ref (a_t 6), .ref (a_t 7), .ref (a_t 8), .ref (a_t 9), .int t_taped, .int t_faultKind, .int t_faultPlace, .int t_at, .int t_begin, .int t_token, .int t_value, .int t_bad, .ref (a_t 18), .ref (a_t 19), .ref (a_t 20), .int t_wide, .int t_lost, .ref (a_t 23), .long t_det, .ref (a_t 25), .int t_mask, .int t_mode, .int t_wanted, .int t_orders, .int t_foundAt, .long t_foundBy, .ref (a_t 32), .ref (a_t 33), .int t_unlikes, .ref (a_t 35), .ref (a_t 36)])), ((a_t 1), .inl (g.2.2.1 0, 27, .inl t_mem)), ((a_t 20), .inl (g.2.2.1 0, 8, .inl t_row))] sz)) 0 0 (va_A [((a_t 0), .inr (7, [.ref (a_t 1), .ref (a_t 2), .int t_acted, .ref (a_t 4), .ref (a_t 5), .ref (a_t 6), .ref (a_t 7), .ref (a_t 8), .ref (a_t 9), .int t_taped, .int t_faultKind, .int t_faultPlace, .int t_at, .int t_begin, .int t_token, .int t_value, .int t_bad, .ref (a_t 18), .ref (a_t 19), .ref (a_t 20), .int t_wide, .int t_lost, .ref (a_t 23), .long t_det, .ref (a_t 25), .int t_mask, .int t_mode, .int t_wanted, .int t_orders, .int t_foundAt, .long t_foundBy, .ref (a_t 32), .ref (a_t 33), .int t_unlikes, .ref (a_t 35), .ref (a_t 36)])), ((a_t 1), .inl (g.2.2.1 0, 27, .inl t_mem)), ((a_t 20), .inl (g.2.2.1 0, 8, .inl t_row))] sz) := by
  refine rw_meti (by decide) (Nat.le_of_ble_eq_true rfl) (lv0 := [(0, .ref ((a_t 0)))]) rfl ?_
  intro p e s m args below meth c ls Q A cx hret hG hAb hb0 hA hP hD hl
  have hx := cx.1
  have hb := cx.2.1
  have hG0 := hG
  have hGk : ∀ {H : Heap} {locs : List Loc}, va_S A s.heap H locs → GE g s H := fun hS => hG0.keptS hAb hS
  have hSb : ∀ {H : Heap} {locs : List Loc}, va_S A s.heap H locs → va_S (fun a => g.1 ≤ a) s.heap H locs := fun hS => ⟨hS.1, fun q h1 h2 => hS.2.1 q h1 (fun z => h2 (hAb q z)), fun l hl => hAb _ (hS.2.2 l hl)⟩
  have hS : va_S A s.heap s.heap [] := va_S.rf
  have hrt : ∀ (u : Nat → Nat) (pc : Nat) (ls : Array Slot) (v : Int32) (x_t_row : Nat → Int32) (x_t_wide : Int32) (x_t_lost : Int32) (H : Heap) (locs : List Loc), decode cX8_even pc = .ok (.ireturn, 1) → some (v, x_t_row, x_t_wide, x_t_lost) = some (o, o_t_row, o_t_wide, o_t_lost) → va_P g.2.1 vwCl [((a_t 0), .inr (7, [.ref (a_t 1), .ref (a_t 2), .int t_acted, .ref (a_t 4), .ref (a_t 5), .ref (a_t 6), .ref (a_t 7), .ref (a_t 8), .ref (a_t 9), .int t_taped, .int t_faultKind, .int t_faultPlace, .int t_at, .int t_begin, .int t_token, .int t_value, .int t_bad, .ref (a_t 18), .ref (a_t 19), .ref (a_t 20), .int x_t_wide, .int x_t_lost, .ref (a_t 23), .long t_det, .ref (a_t 25), .int t_mask, .int t_mode, .int t_wanted, .int t_orders, .int t_foundAt, .long t_foundBy, .ref (a_t 32), .ref (a_t 33), .int t_unlikes, .ref (a_t 35), .ref (a_t 36)])), ((a_t 1), .inl (g.2.2.1 0, 27, .inl t_mem)), ((a_t 20), .inl (g.2.2.1 0, 8, .inl x_t_row))] H → va_D A [((a_t 0), .inr (7, [.ref (a_t 1), .ref (a_t 2), .int t_acted, .ref (a_t 4), .ref (a_t 5), .ref (a_t 6), .ref (a_t 7), .ref (a_t 8), .ref (a_t 9), .int t_taped, .int t_faultKind, .int t_faultPlace, .int t_at, .int t_begin, .int t_token, .int t_value, .int t_bad, .ref (a_t 18), .ref (a_t 19), .ref (a_t 20), .int x_t_wide, .int x_t_lost, .ref (a_t 23), .long t_det, .ref (a_t 25), .int t_mask, .int t_mode, .int t_wanted, .int t_orders, .int t_foundAt, .long t_foundBy, .ref (a_t 32), .ref (a_t 33), .int t_unlikes, .ref (a_t 35), .ref (a_t 36)])), ((a_t 1), .inl (g.2.2.1 0, 27, .inl t_mem)), ((a_t 20), .inl (g.2.2.1 0, 8, .inl x_t_row))] → va_S A s.heap H locs → W p l e ⟨3, 0, 0, 80⟩ s m args below meth c H locs 0 0 Q (F0 m pc ls [.int v]) := by
    intro u pc ls v x_t_row x_t_wide x_t_lost H locs hd h hP hD hS
    cases h
    exact hret u _ _ _ _ _ hd rfl hP hD hS
  have w55 : ∀ (t_row : Nat → Int32) (t_wide : Int32) (t_lost : Int32) (z0 : Int32) (z1 : Int32) (H : Heap) (locs : List Loc), va_P g.2.1 vwCl [((a_t 0), .inr (7, [.ref (a_t 1), .ref (a_t 2), .int t_acted, .ref (a_t 4), .ref (a_t 5), .ref (a_t 6), .ref (a_t 7), .ref (a_t 8), .ref (a_t 9), .int t_taped, .int t_faultKind, .int t_faultPlace, .int t_at, .int t_begin, .int t_token, .int t_value, .int t_bad, .ref (a_t 18), .ref (a_t 19), .ref (a_t 20), .int t_wide, .int t_lost, .ref (a_t 23), .long t_det, .ref (a_t 25), .int t_mask, .int t_mode, .int t_wanted, .int t_orders, .int t_foundAt, .long t_foundBy, .ref (a_t 32), .ref (a_t 33), .int t_unlikes, .ref (a_t 35), .ref (a_t 36)])), ((a_t 1), .inl (g.2.2.1 0, 27, .inl t_mem)), ((a_t 20), .inl (g.2.2.1 0, 8, .inl t_row))] H → va_D A [((a_t 0), .inr (7, [.ref (a_t 1), .ref (a_t 2), .int t_acted, .ref (a_t 4), .ref (a_t 5), .ref (a_t 6), .ref (a_t 7), .ref (a_t 8), .ref (a_t 9), .int t_taped, .int t_faultKind, .int t_faultPlace, .int t_at, .int t_begin, .int t_token, .int t_value, .int t_bad, .ref (a_t 18), .ref (a_t 19), .ref (a_t 20), .int t_wide, .int t_lost, .ref (a_t 23), .long t_det, .ref (a_t 25), .int t_mask, .int t_mode, .int t_wanted, .int t_orders, .int t_foundAt, .long t_foundBy, .ref (a_t 32), .ref (a_t 33), .int t_unlikes, .ref (a_t 35), .ref (a_t 36)])), ((a_t 1), .inl (g.2.2.1 0, 27, .inl t_mem)), ((a_t 20), .inl (g.2.2.1 0, 8, .inl t_row))] → va_S A s.heap H locs → ∀ (ls : Array Slot), lv_has ls 1 [(0, .ref ((a_t 0)))] → fX8_even_55  t_row t_wide t_lost z0 z1 = some (o, o_t_row, o_t_wide, o_t_lost) → W p l e ⟨3, 0, 0, 80⟩ s m args below meth c H locs 0 0 Q (F0 m 55 ls [.int z1, .int z0]) := by
    intro t_row t_wide t_lost z0 z1 H locs hP hD hS ls hl h
    unfold fX8_even_55 at h
    have hG := hGk hS
    refine lv_iadd hx hb dX8_even_55 ?_
    refine lv_aload_n hx hb dX8_even_56 rfl (lv_at hl 0 rfl) ?_
    obtain ⟨r20, hr21, h⟩ := bnd h
    refine ro_z (runV (As := []) (rest := [.int (z0 + z1)]) cx hl.1 (ctX8_isBalanced l g a_t t_acted t_taped t_faultKind t_faultPlace t_at t_begin t_token t_value t_bad t_wide t_lost t_det t_mask t_mode t_wanted t_orders t_foundAt t_foundBy t_unlikes t_row r20 hr21) kmX8_isBalanced kvX8_isBalanced lm_X8_246 ⟨rfl, rfl⟩ ⟨Nat.le_of_ble_eq_true rfl, Nat.le_of_ble_eq_true rfl⟩ (roV (q0 := 0) (ci := 7) hG (hP.sub [0, 2] rfl) hP rfl rfl) rfl rfl (Nat.le_of_ble_eq_true rfl) dX8_even_57 ⟨Nat.le_of_ble_eq_true rfl, Nat.le_of_ble_eq_true rfl⟩) (fun hz22 => ?_)
    refine lv_if_eq (tgt := 68) hx hb dX8_even_60 (by decide) (fun c23 => ?_) (fun c23 => ?_)
    · have h := itp c23 h
      refine lv_iconst (v := 0) hx hb dX8_even_68 (by decide) ?_
      refine lv_iadd hx hb dX8_even_69 ?_
      exact hrt (fun _ => 0) _ _ (((z0 + z1) + 0)) t_row t_wide t_lost _ _ dX8_even_70 h (hP.sub [0, 1, 2] rfl) (hD.sub [0, 1, 2] (by decide) rfl) hS
    · have h := itn c23 h
      refine lv_bipush (v := 8) hx hb dX8_even_63 (by decide) ?_
      refine lv_goto (tgt := 69) hx hb dX8_even_65 (by decide) ?_
      refine lv_iadd hx hb dX8_even_69 ?_
      exact hrt (fun _ => 0) _ _ (((z0 + z1) + 8)) t_row t_wide t_lost _ _ dX8_even_70 h (hP.sub [0, 1, 2] rfl) (hD.sub [0, 1, 2] (by decide) rfl) hS
  have w40 : ∀ (t_row : Nat → Int32) (t_wide : Int32) (t_lost : Int32) (z0 : Int32) (z1 : Int32) (H : Heap) (locs : List Loc), va_P g.2.1 vwCl [((a_t 0), .inr (7, [.ref (a_t 1), .ref (a_t 2), .int t_acted, .ref (a_t 4), .ref (a_t 5), .ref (a_t 6), .ref (a_t 7), .ref (a_t 8), .ref (a_t 9), .int t_taped, .int t_faultKind, .int t_faultPlace, .int t_at, .int t_begin, .int t_token, .int t_value, .int t_bad, .ref (a_t 18), .ref (a_t 19), .ref (a_t 20), .int t_wide, .int t_lost, .ref (a_t 23), .long t_det, .ref (a_t 25), .int t_mask, .int t_mode, .int t_wanted, .int t_orders, .int t_foundAt, .long t_foundBy, .ref (a_t 32), .ref (a_t 33), .int t_unlikes, .ref (a_t 35), .ref (a_t 36)])), ((a_t 1), .inl (g.2.2.1 0, 27, .inl t_mem)), ((a_t 20), .inl (g.2.2.1 0, 8, .inl t_row))] H → va_D A [((a_t 0), .inr (7, [.ref (a_t 1), .ref (a_t 2), .int t_acted, .ref (a_t 4), .ref (a_t 5), .ref (a_t 6), .ref (a_t 7), .ref (a_t 8), .ref (a_t 9), .int t_taped, .int t_faultKind, .int t_faultPlace, .int t_at, .int t_begin, .int t_token, .int t_value, .int t_bad, .ref (a_t 18), .ref (a_t 19), .ref (a_t 20), .int t_wide, .int t_lost, .ref (a_t 23), .long t_det, .ref (a_t 25), .int t_mask, .int t_mode, .int t_wanted, .int t_orders, .int t_foundAt, .long t_foundBy, .ref (a_t 32), .ref (a_t 33), .int t_unlikes, .ref (a_t 35), .ref (a_t 36)])), ((a_t 1), .inl (g.2.2.1 0, 27, .inl t_mem)), ((a_t 20), .inl (g.2.2.1 0, 8, .inl t_row))] → va_S A s.heap H locs → ∀ (ls : Array Slot), lv_has ls 1 [(0, .ref ((a_t 0)))] → fX8_even_40  t_mem t_row t_wide t_lost z0 z1 = some (o, o_t_row, o_t_wide, o_t_lost) → W p l e ⟨3, 0, 0, 80⟩ s m args below meth c H locs 0 0 Q (F0 m 40 ls [.int z1, .int z0]) := by
    intro t_row t_wide t_lost z0 z1 H locs hP hD hS ls hl h
    unfold fX8_even_40 at h
    have hG := hGk hS
    refine lv_iadd hx hb dX8_even_40 ?_
    refine lv_aload_n hx hb dX8_even_41 rfl (lv_at hl 0 rfl) ?_
    obtain ⟨r17, hr18, h⟩ := bnd h
    refine ro_l (runV (As := []) (rest := [.int (z0 + z1)]) cx hl.1 (ctX8_twistHere l g a_t t_acted t_taped t_faultKind t_faultPlace t_at t_begin t_token t_value t_bad t_wide t_lost t_det t_mask t_mode t_wanted t_orders t_foundAt t_foundBy t_unlikes t_mem t_row r17 hr18) kmX8_twistHere kvX8_twistHere lm_X8_230 ⟨rfl, rfl⟩ ⟨Nat.le_of_ble_eq_true rfl, Nat.le_of_ble_eq_true rfl⟩ (roV (q0 := 0) (ci := 7) hG (hP.sub [0, 1, 2] rfl) hP rfl rfl) rfl rfl (Nat.le_of_ble_eq_true rfl) dX8_even_42 ⟨Nat.le_of_ble_eq_true rfl, Nat.le_of_ble_eq_true rfl⟩) ?_
    refine lv_lconst (v := 0) hx hb dX8_even_45 (by decide) ?_
    refine W.lcmp hx hb dX8_even_46 ?_
    refine lv_if_ne (tgt := 54) hx hb dX8_even_47 (by decide) (fun c19 => ?_) (fun c19 => ?_)
    · have h := itn c19 h
      refine lv_iconst (v := 0) hx hb dX8_even_54 (by decide) ?_
      exact w55 t_row t_wide t_lost (z0 + z1) 0 _ _ hP hD hS _ (lv_sub hl [0] rfl) h
    · have h := itp c19 h
      refine lv_iconst (v := 4) hx hb dX8_even_50 (by decide) ?_
      refine lv_goto (tgt := 55) hx hb dX8_even_51 (by decide) ?_
      exact w55 t_row t_wide t_lost (z0 + z1) 4 _ _ hP hD hS _ (lv_sub hl [0] rfl) h
  have w26 : ∀ (t_row : Nat → Int32) (t_wide : Int32) (t_lost : Int32) (z0 : Int32) (H : Heap) (locs : List Loc), va_P g.2.1 vwCl [((a_t 0), .inr (7, [.ref (a_t 1), .ref (a_t 2), .int t_acted, .ref (a_t 4), .ref (a_t 5), .ref (a_t 6), .ref (a_t 7), .ref (a_t 8), .ref (a_t 9), .int t_taped, .int t_faultKind, .int t_faultPlace, .int t_at, .int t_begin, .int t_token, .int t_value, .int t_bad, .ref (a_t 18), .ref (a_t 19), .ref (a_t 20), .int t_wide, .int t_lost, .ref (a_t 23), .long t_det, .ref (a_t 25), .int t_mask, .int t_mode, .int t_wanted, .int t_orders, .int t_foundAt, .long t_foundBy, .ref (a_t 32), .ref (a_t 33), .int t_unlikes, .ref (a_t 35), .ref (a_t 36)])), ((a_t 1), .inl (g.2.2.1 0, 27, .inl t_mem)), ((a_t 20), .inl (g.2.2.1 0, 8, .inl t_row))] H → va_D A [((a_t 0), .inr (7, [.ref (a_t 1), .ref (a_t 2), .int t_acted, .ref (a_t 4), .ref (a_t 5), .ref (a_t 6), .ref (a_t 7), .ref (a_t 8), .ref (a_t 9), .int t_taped, .int t_faultKind, .int t_faultPlace, .int t_at, .int t_begin, .int t_token, .int t_value, .int t_bad, .ref (a_t 18), .ref (a_t 19), .ref (a_t 20), .int t_wide, .int t_lost, .ref (a_t 23), .long t_det, .ref (a_t 25), .int t_mask, .int t_mode, .int t_wanted, .int t_orders, .int t_foundAt, .long t_foundBy, .ref (a_t 32), .ref (a_t 33), .int t_unlikes, .ref (a_t 35), .ref (a_t 36)])), ((a_t 1), .inl (g.2.2.1 0, 27, .inl t_mem)), ((a_t 20), .inl (g.2.2.1 0, 8, .inl t_row))] → va_S A s.heap H locs → ∀ (ls : Array Slot), lv_has ls 1 [(0, .ref ((a_t 0)))] → fX8_even_26  t_mem t_row t_wide t_lost z0 = some (o, o_t_row, o_t_wide, o_t_lost) → W p l e ⟨3, 0, 0, 80⟩ s m args below meth c H locs 0 0 Q (F0 m 26 ls [.int z0]) := by
    intro t_row t_wide t_lost z0 H locs hP hD hS ls hl h
    unfold fX8_even_26 at h
    have hG := hGk hS
    refine lv_aload_n hx hb dX8_even_26 rfl (lv_at hl 0 rfl) ?_
    obtain ⟨r14, hr15, h⟩ := bnd h
    refine ro_l (runV (As := []) (rest := [.int z0]) cx hl.1 (ctX8_warpHere l g a_t t_acted t_taped t_faultKind t_faultPlace t_at t_begin t_token t_value t_bad t_wide t_lost t_det t_mask t_mode t_wanted t_orders t_foundAt t_foundBy t_unlikes t_mem t_row r14 hr15) kmX8_warpHere kvX8_warpHere lm_X8_226 ⟨rfl, rfl⟩ ⟨Nat.le_of_ble_eq_true rfl, Nat.le_of_ble_eq_true rfl⟩ (roV (q0 := 0) (ci := 7) hG (hP.sub [0, 1, 2] rfl) hP rfl rfl) rfl rfl (Nat.le_of_ble_eq_true rfl) dX8_even_27 ⟨Nat.le_of_ble_eq_true rfl, Nat.le_of_ble_eq_true rfl⟩) ?_
    refine lv_lconst (v := 0) hx hb dX8_even_30 (by decide) ?_
    refine W.lcmp hx hb dX8_even_31 ?_
    refine lv_if_ne (tgt := 39) hx hb dX8_even_32 (by decide) (fun c16 => ?_) (fun c16 => ?_)
    · have h := itn c16 h
      refine lv_iconst (v := 0) hx hb dX8_even_39 (by decide) ?_
      exact w40 t_row t_wide t_lost z0 0 _ _ hP hD hS _ (lv_sub hl [0] rfl) h
    · have h := itp c16 h
      refine lv_iconst (v := 2) hx hb dX8_even_35 (by decide) ?_
      refine lv_goto (tgt := 40) hx hb dX8_even_36 (by decide) ?_
      exact w40 t_row t_wide t_lost z0 2 _ _ hP hD hS _ (lv_sub hl [0] rfl) h
  unfold fX8_even at h
  refine lv_aload_n hx hb dX8_even_0 rfl (lv_at hl 0 rfl) ?_
  obtain ⟨r1, hr2, h⟩ := bnd h
  refine ro_z (runV (As := []) (rest := []) cx hl.1 (ctX8_is l g a_t t_acted t_taped t_faultKind t_faultPlace t_at t_begin t_token t_value t_bad t_wide t_lost t_det t_mask t_mode t_wanted t_orders t_foundAt t_foundBy t_unlikes t_mem r1 hr2) kmX8_is kvX8_is lm_X8_236 ⟨rfl, rfl⟩ ⟨Nat.le_of_ble_eq_true rfl, Nat.le_of_ble_eq_true rfl⟩ (roV (q0 := 0) (ci := 7) hG (hP.sub [0, 1] rfl) hP rfl rfl) rfl rfl (Nat.le_of_ble_eq_true rfl) dX8_even_1 ⟨Nat.le_of_ble_eq_true rfl, Nat.le_of_ble_eq_true rfl⟩) (fun hz3 => ?_)
  refine lv_if_ne (tgt := 10) hx hb dX8_even_4 (by decide) (fun c4 => ?_) (fun c4 => ?_)
  · have h := itn c4 h
    refine lv_aload_n hx hb dX8_even_10 rfl (lv_at hl 0 rfl) ?_
    obtain ⟨w6, w7, w8, hr5, h⟩ := ob3_out h
    refine rw_v (WN := fun u9 => [((a_t 0), .inr (7, [.ref (a_t 1), .ref (a_t 2), .int t_acted, .ref (a_t 4), .ref (a_t 5), .ref (a_t 6), .ref (a_t 7), .ref (a_t 8), .ref (a_t 9), .int t_taped, .int t_faultKind, .int t_faultPlace, .int t_at, .int t_begin, .int t_token, .int t_value, .int t_bad, .ref (a_t 18), .ref (a_t 19), .ref (a_t 20), .int w7, .int w8, .ref (a_t 23), .long t_det, .ref (a_t 25), .int t_mask, .int t_mode, .int t_wanted, .int t_orders, .int t_foundAt, .long t_foundBy, .ref (a_t 32), .ref (a_t 33), .int t_unlikes, .ref (a_t 35), .ref (a_t 36)])), ((a_t 1), .inl (g.2.2.1 0, 27, .inl t_mem)), ((a_t 20), .inl (g.2.2.1 0, 8, .inl w6))]) (wr := []) (runV (As := []) (rest := []) cx hl.1 (ctX8_laysPlate l g s.heap.size a_t t_acted t_taped t_faultKind t_faultPlace t_at t_begin t_token t_value t_bad t_wide t_lost t_det t_mask t_mode t_wanted t_orders t_foundAt t_foundBy t_unlikes t_mem t_row w6 w7 w8 hr5) kmX8_laysPlate kvX8_laysPlate lm_X8_243 ⟨rfl, rfl⟩ ⟨Nat.le_of_ble_eq_true rfl, Nat.le_of_ble_eq_true rfl⟩ (rwV (q0 := 0) (ci := 7) hG (hP.sub [0, 1, 2] rfl) (hD.sub [0, 1, 2] (by decide) rfl) hAb hb0 hS hP rfl rfl) rfl rfl (Nat.le_of_ble_eq_true rfl) dX8_even_11 ⟨Nat.le_of_ble_eq_true rfl, Nat.le_of_ble_eq_true rfl⟩) hP hD hS hA [0, 1, 2] [] rfl rfl (by decide) (by decide) (fun _ => rfl) (fun u9 H locs hP hD hS => ?_)
    have hG := hGk hS
    refine lv_aload_n hx hb dX8_even_14 rfl (lv_at hl 0 rfl) ?_
    obtain ⟨r10, hr11, h⟩ := bnd h
    refine ro_z (runV (As := []) (rest := []) cx hl.1 (ctX8_isMirrored l g a_t t_acted t_taped t_faultKind t_faultPlace t_at t_begin t_token t_value t_bad w7 w8 t_det t_mask t_mode t_wanted t_orders t_foundAt t_foundBy t_unlikes w6 r10 hr11) kmX8_isMirrored kvX8_isMirrored lm_X8_222 ⟨rfl, rfl⟩ ⟨Nat.le_of_ble_eq_true rfl, Nat.le_of_ble_eq_true rfl⟩ (roV (q0 := 0) (ci := 7) hG (hP.sub [0, 2] rfl) hP rfl rfl) rfl rfl (Nat.le_of_ble_eq_true rfl) dX8_even_15 ⟨Nat.le_of_ble_eq_true rfl, Nat.le_of_ble_eq_true rfl⟩) (fun hz12 => ?_)
    refine lv_if_eq (tgt := 25) hx hb dX8_even_18 (by decide) (fun c13 => ?_) (fun c13 => ?_)
    · have h := itp c13 h
      refine lv_iconst (v := 0) hx hb dX8_even_25 (by decide) ?_
      exact w26 w6 w7 w8 0 _ _ hP hD hS _ (lv_sub hl [0] rfl) h
    · have h := itn c13 h
      refine lv_iconst (v := 1) hx hb dX8_even_21 (by decide) ?_
      refine lv_goto (tgt := 26) hx hb dX8_even_22 (by decide) ?_
      exact w26 w6 w7 w8 1 _ _ hP hD hS _ (lv_sub hl [0] rfl) h
  · have h := itp c4 h
    refine lv_bipush (v := -2) hx hb dX8_even_7 (by decide) ?_
    exact hrt (fun _ => 0) _ _ ((-2)) t_row t_wide t_lost _ _ dX8_even_9 h (hP.sub [0, 1, 2] rfl) (hD.sub [0, 1, 2] (by decide) rfl) hS
-- X8_warp
theorem dX8_warp_0 : decode cX8_warp 0 = .ok (.aload_n 0, 1) := by decide +kernel
theorem dX8_warp_1 : decode cX8_warp 1 = .ok (.invokevirtual 243, 3) := by decide +kernel
theorem dX8_warp_4 : decode cX8_warp 4 = .ok (.aload_n 0, 1) := by decide +kernel
theorem dX8_warp_5 : decode cX8_warp 5 = .ok (.invokevirtual 236, 3) := by decide +kernel
theorem dX8_warp_8 : decode cX8_warp 8 = .ok (.ifCond .eq 10, 3) := by decide +kernel
theorem dX8_warp_11 : decode cX8_warp 11 = .ok (.aload_n 0, 1) := by decide +kernel
theorem dX8_warp_12 : decode cX8_warp 12 = .ok (.invokevirtual 226, 3) := by decide +kernel
theorem dX8_warp_15 : decode cX8_warp 15 = .ok (.goto 6, 3) := by decide +kernel
theorem dX8_warp_18 : decode cX8_warp 18 = .ok (.ldc2_w 249, 3) := by decide +kernel
theorem dX8_warp_21 : decode cX8_warp 21 = .ok (.lreturn, 1) := by decide +kernel
noncomputable def fX8_warp  (t_mem : Nat → Int32) (t_row : Nat → Int32) (t_wide : Int32) (t_lost : Int32) : Option (Int64 × (Nat → Int32) × Int32 × Int32) := ob3 (fX8_laysPlate t_mem t_row t_wide t_lost) fun w2 w3 w4 => (fX8_is t_mem).bind fun r6 => (if r6 = 0 then some ((-2), w2, w3, w4) else (fX8_warpHere t_mem w2 w3 w4).bind fun r10 => some (r10, w2, w3, w4))
set_option maxHeartbeats 4000000 in
set_option maxRecDepth 100000 in
theorem ctX8_warp (l : Launch) (g : GT) (sz : Nat) (a_t : Nat → Nat) (t_acted : Int32) (t_taped : Int32) (t_faultKind : Int32) (t_faultPlace : Int32) (t_at : Int32) (t_begin : Int32) (t_token : Int32) (t_value : Int32) (t_bad : Int32) (t_wide : Int32) (t_lost : Int32) (t_det : Int64) (t_mask : Int32) (t_mode : Int32) (t_wanted : Int32) (t_orders : Int32) (t_foundAt : Int32) (t_foundBy : Int64) (t_unlikes : Int32) (t_mem : Nat → Int32) (t_row : Nat → Int32) (o : Int64) (o_t_row : Nat → Int32) (o_t_wide : Int32) (o_t_lost : Int32) (h : fX8_warp t_mem t_row t_wide t_lost = some (o, o_t_row, o_t_wide, o_t_lost)) : Met l yX8_warp (Cond.code yX8_warp cX8_warp 1 (some .long) :: Tw) ⟨3, 0, 0, 80⟩ (va_Pc [.ref ((a_t 0))] (rwB g [((a_t 0), .inr (7, [.ref (a_t 1), .ref (a_t 2), .int t_acted, .ref (a_t 4), .ref (a_t 5), .ref (a_t 6), .ref (a_t 7), .ref (a_t 8), .ref (a_t 9), .int t_taped, .int t_faultKind, .int t_faultPlace, .int t_at, .int t_begin, .int t_token, .int t_value, .int t_bad, .ref (a_t 18), .ref (a_t 19), .ref (a_t 20), .int t_wide, .int t_lost, .ref (a_t 23), .long t_det, .ref (a_t 25), .int t_mask, .int t_mode, .int t_wanted, .int t_orders, .int t_foundAt, .long t_foundBy, .ref (a_t 32), .ref (a_t 33), .int t_unlikes, .ref (a_t 35), .ref (a_t 36)])), ((a_t 1), .inl (g.2.2.1 0, 27, .inl t_mem)), ((a_t 20), .inl (g.2.2.1 0, 8, .inl t_row))] sz)) (va_Ql (fun x (_ : Nat → Nat) => x = o) (fun u => rwE g (va_A [((a_t 0), .inr (7, [.ref (a_t 1), .ref (a_t 2), .int t_acted, .ref (a_t 4), .ref (a_t 5), .ref (a_t 6), .ref (a_t 7), .ref (a_t 8), .ref (a_t 9), .int t_taped, .int t_faultKind, .int t_faultPlace, .int t_at, .int t_begin, .int t_token, .int t_value, .int t_bad, .ref (a_t 18), .ref (a_t 19), .ref (a_t 20), .int t_wide, .int t_lost, .ref (a_t 23), .long t_det, .ref (a_t 25), .int t_mask, .int t_mode, .int t_wanted, .int t_orders, .int t_foundAt, .long t_foundBy, .ref (a_t 32), .ref (a_t 33), .int t_unlikes, .ref (a_t 35), .ref (a_t 36)])), ((a_t 1), .inl (g.2.2.1 0, 27, .inl t_mem)), ((a_t 20), .inl (g.2.2.1 0, 8, .inl t_row))] sz) [((a_t 0), .inr (7, [.ref (a_t 1), .ref (a_t 2), .int t_acted, .ref (a_t 4), .ref (a_t 5), .ref (a_t 6), .ref (a_t 7), .ref (a_t 8), .ref (a_t 9), .int t_taped, .int t_faultKind, .int t_faultPlace, .int t_at, .int t_begin, .int t_token, .int t_value, .int t_bad, .ref (a_t 18), .ref (a_t 19), .ref (a_t 20), .int o_t_wide, .int o_t_lost, .ref (a_t 23), .long t_det, .ref (a_t 25), .int t_mask, .int t_mode, .int t_wanted, .int t_orders, .int t_foundAt, .long t_foundBy, .ref (a_t 32), .ref (a_t 33), .int t_unlikes, .ref (a_t 35), .ref (a_t 36)])), ((a_t 1), .inl (g.2.2.1 0, 27, .inl t_mem)), ((a_t 20), .inl (g.2.2.1 0, 8, .inl o_t_row))]) (va_A [((a_t 0), .inr (7, [.ref (a_t 1), .ref (a_t 2), .int t_acted, .ref (a_t 4), .ref (a_t 5), .ref (a_t 6), .ref (a_t 7), .ref (a_t 8), .ref (a_t 9), .int t_taped, .int t_faultKind, .int t_faultPlace, .int t_at, .int t_begin, .int t_token, .int t_value, .int t_bad, .ref (a_t 18), .ref (a_t 19), .ref (a_t 20), .int t_wide, .int t_lost, .ref (a_t 23), .long t_det, .ref (a_t 25), .int t_mask, .int t_mode, .int t_wanted, .int t_orders, .int t_foundAt, .long t_foundBy, .ref (a_t 32), .ref (a_t 33), .int t_unlikes, .ref (a_t 35), .ref (a_t 36)])), ((a_t 1), .inl (g.2.2.1 0, 27, .inl t_mem)), ((a_t 20), .inl (g.2.2.1 0, 8, .inl t_row))] sz)) 0 0 (va_A [((a_t 0), .inr (7, [.ref (a_t 1), .ref (a_t 2), .int t_acted, .ref (a_t 4), .ref (a_t 5), .ref (a_t 6), .ref (a_t 7), .ref (a_t 8), .ref (a_t 9), .int t_taped, .int t_faultKind, .int t_faultPlace, .int t_at, .int t_begin, .int t_token, .int t_value, .int t_bad, .ref (a_t 18), .ref (a_t 19), .ref (a_t 20), .int t_wide, .int t_lost, .ref (a_t 23), .long t_det, .ref (a_t 25), .int t_mask, .int t_mode, .int t_wanted, .int t_orders, .int t_foundAt, .long t_foundBy, .ref (a_t 32), .ref (a_t 33), .int t_unlikes, .ref (a_t 35), .ref (a_t 36)])), ((a_t 1), .inl (g.2.2.1 0, 27, .inl t_mem)), ((a_t 20), .inl (g.2.2.1 0, 8, .inl t_row))] sz) := by
  refine rw_metl (by decide) (Nat.le_of_ble_eq_true rfl) (lv0 := [(0, .ref ((a_t 0)))]) rfl ?_
  intro p e s m args below meth c ls Q A cx hret hG hAb hb0 hA hP hD hl
  have hx := cx.1
  have hb := cx.2.1
  have hG0 := hG
  have hGk : ∀ {H : Heap} {locs : List Loc}, va_S A s.heap H locs → GE g s H := fun hS => hG0.keptS hAb hS
  have hSb : ∀ {H : Heap} {locs : List Loc}, va_S A s.heap H locs → va_S (fun a => g.1 ≤ a) s.heap H locs := fun hS => ⟨hS.1, fun q h1 h2 => hS.2.1 q h1 (fun z => h2 (hAb q z)), fun l hl => hAb _ (hS.2.2 l hl)⟩
  have hS : va_S A s.heap s.heap [] := va_S.rf
  have hrt : ∀ (u : Nat → Nat) (pc : Nat) (ls : Array Slot) (v : Int64) (x_t_row : Nat → Int32) (x_t_wide : Int32) (x_t_lost : Int32) (H : Heap) (locs : List Loc), decode cX8_warp pc = .ok (.lreturn, 1) → some (v, x_t_row, x_t_wide, x_t_lost) = some (o, o_t_row, o_t_wide, o_t_lost) → va_P g.2.1 vwCl [((a_t 0), .inr (7, [.ref (a_t 1), .ref (a_t 2), .int t_acted, .ref (a_t 4), .ref (a_t 5), .ref (a_t 6), .ref (a_t 7), .ref (a_t 8), .ref (a_t 9), .int t_taped, .int t_faultKind, .int t_faultPlace, .int t_at, .int t_begin, .int t_token, .int t_value, .int t_bad, .ref (a_t 18), .ref (a_t 19), .ref (a_t 20), .int x_t_wide, .int x_t_lost, .ref (a_t 23), .long t_det, .ref (a_t 25), .int t_mask, .int t_mode, .int t_wanted, .int t_orders, .int t_foundAt, .long t_foundBy, .ref (a_t 32), .ref (a_t 33), .int t_unlikes, .ref (a_t 35), .ref (a_t 36)])), ((a_t 1), .inl (g.2.2.1 0, 27, .inl t_mem)), ((a_t 20), .inl (g.2.2.1 0, 8, .inl x_t_row))] H → va_D A [((a_t 0), .inr (7, [.ref (a_t 1), .ref (a_t 2), .int t_acted, .ref (a_t 4), .ref (a_t 5), .ref (a_t 6), .ref (a_t 7), .ref (a_t 8), .ref (a_t 9), .int t_taped, .int t_faultKind, .int t_faultPlace, .int t_at, .int t_begin, .int t_token, .int t_value, .int t_bad, .ref (a_t 18), .ref (a_t 19), .ref (a_t 20), .int x_t_wide, .int x_t_lost, .ref (a_t 23), .long t_det, .ref (a_t 25), .int t_mask, .int t_mode, .int t_wanted, .int t_orders, .int t_foundAt, .long t_foundBy, .ref (a_t 32), .ref (a_t 33), .int t_unlikes, .ref (a_t 35), .ref (a_t 36)])), ((a_t 1), .inl (g.2.2.1 0, 27, .inl t_mem)), ((a_t 20), .inl (g.2.2.1 0, 8, .inl x_t_row))] → va_S A s.heap H locs → W p l e ⟨3, 0, 0, 80⟩ s m args below meth c H locs 0 0 Q (F0 m pc ls [.long v]) := by
    intro u pc ls v x_t_row x_t_wide x_t_lost H locs hd h hP hD hS
    cases h
    exact hret u _ _ _ _ _ hd rfl hP hD hS
  unfold fX8_warp at h
  refine lv_aload_n hx hb dX8_warp_0 rfl (lv_at hl 0 rfl) ?_
  obtain ⟨w2, w3, w4, hr1, h⟩ := ob3_out h
  refine rw_v (WN := fun u5 => [((a_t 0), .inr (7, [.ref (a_t 1), .ref (a_t 2), .int t_acted, .ref (a_t 4), .ref (a_t 5), .ref (a_t 6), .ref (a_t 7), .ref (a_t 8), .ref (a_t 9), .int t_taped, .int t_faultKind, .int t_faultPlace, .int t_at, .int t_begin, .int t_token, .int t_value, .int t_bad, .ref (a_t 18), .ref (a_t 19), .ref (a_t 20), .int w3, .int w4, .ref (a_t 23), .long t_det, .ref (a_t 25), .int t_mask, .int t_mode, .int t_wanted, .int t_orders, .int t_foundAt, .long t_foundBy, .ref (a_t 32), .ref (a_t 33), .int t_unlikes, .ref (a_t 35), .ref (a_t 36)])), ((a_t 1), .inl (g.2.2.1 0, 27, .inl t_mem)), ((a_t 20), .inl (g.2.2.1 0, 8, .inl w2))]) (wr := []) (runV (As := []) (rest := []) cx hl.1 (ctX8_laysPlate l g s.heap.size a_t t_acted t_taped t_faultKind t_faultPlace t_at t_begin t_token t_value t_bad t_wide t_lost t_det t_mask t_mode t_wanted t_orders t_foundAt t_foundBy t_unlikes t_mem t_row w2 w3 w4 hr1) kmX8_laysPlate kvX8_laysPlate lm_X8_243 ⟨rfl, rfl⟩ ⟨Nat.le_of_ble_eq_true rfl, Nat.le_of_ble_eq_true rfl⟩ (rwV (q0 := 0) (ci := 7) hG (hP.sub [0, 1, 2] rfl) (hD.sub [0, 1, 2] (by decide) rfl) hAb hb0 hS hP rfl rfl) rfl rfl (Nat.le_of_ble_eq_true rfl) dX8_warp_1 ⟨Nat.le_of_ble_eq_true rfl, Nat.le_of_ble_eq_true rfl⟩) hP hD hS hA [0, 1, 2] [] rfl rfl (by decide) (by decide) (fun _ => rfl) (fun u5 H locs hP hD hS => ?_)
  have hG := hGk hS
  refine lv_aload_n hx hb dX8_warp_4 rfl (lv_at hl 0 rfl) ?_
  obtain ⟨r6, hr7, h⟩ := bnd h
  refine ro_z (runV (As := []) (rest := []) cx hl.1 (ctX8_is l g a_t t_acted t_taped t_faultKind t_faultPlace t_at t_begin t_token t_value t_bad w3 w4 t_det t_mask t_mode t_wanted t_orders t_foundAt t_foundBy t_unlikes t_mem r6 hr7) kmX8_is kvX8_is lm_X8_236 ⟨rfl, rfl⟩ ⟨Nat.le_of_ble_eq_true rfl, Nat.le_of_ble_eq_true rfl⟩ (roV (q0 := 0) (ci := 7) hG (hP.sub [0, 1] rfl) hP rfl rfl) rfl rfl (Nat.le_of_ble_eq_true rfl) dX8_warp_5 ⟨Nat.le_of_ble_eq_true rfl, Nat.le_of_ble_eq_true rfl⟩) (fun hz8 => ?_)
  refine lv_if_eq (tgt := 18) hx hb dX8_warp_8 (by decide) (fun c9 => ?_) (fun c9 => ?_)
  · have h := itp c9 h
    refine lv_ldc2 (own := RX8) (v := -2) hx hb cx.2.2.2.1 (cx.2.2.2.2 _ cl_X8_249) dX8_warp_18 ?_
    exact hrt (fun _ => 0) _ _ ((-2)) w2 w3 w4 _ _ dX8_warp_21 h (hP.sub [0, 1, 2] rfl) (hD.sub [0, 1, 2] (by decide) rfl) hS
  · have h := itn c9 h
    refine lv_aload_n hx hb dX8_warp_11 rfl (lv_at hl 0 rfl) ?_
    obtain ⟨r10, hr11, h⟩ := bnd h
    refine ro_l (runV (As := []) (rest := []) cx hl.1 (ctX8_warpHere l g a_t t_acted t_taped t_faultKind t_faultPlace t_at t_begin t_token t_value t_bad w3 w4 t_det t_mask t_mode t_wanted t_orders t_foundAt t_foundBy t_unlikes t_mem w2 r10 hr11) kmX8_warpHere kvX8_warpHere lm_X8_226 ⟨rfl, rfl⟩ ⟨Nat.le_of_ble_eq_true rfl, Nat.le_of_ble_eq_true rfl⟩ (roV (q0 := 0) (ci := 7) hG (hP.sub [0, 1, 2] rfl) hP rfl rfl) rfl rfl (Nat.le_of_ble_eq_true rfl) dX8_warp_12 ⟨Nat.le_of_ble_eq_true rfl, Nat.le_of_ble_eq_true rfl⟩) ?_
    refine lv_goto (tgt := 21) hx hb dX8_warp_15 (by decide) ?_
    exact hrt (fun _ => 0) _ _ r10 w2 w3 w4 _ _ dX8_warp_21 h (hP.sub [0, 1, 2] rfl) (hD.sub [0, 1, 2] (by decide) rfl) hS
-- X8_twist
theorem dX8_twist_0 : decode cX8_twist 0 = .ok (.aload_n 0, 1) := by decide +kernel
theorem dX8_twist_1 : decode cX8_twist 1 = .ok (.invokevirtual 243, 3) := by decide +kernel
theorem dX8_twist_4 : decode cX8_twist 4 = .ok (.aload_n 0, 1) := by decide +kernel
theorem dX8_twist_5 : decode cX8_twist 5 = .ok (.invokevirtual 236, 3) := by decide +kernel
theorem dX8_twist_8 : decode cX8_twist 8 = .ok (.ifCond .eq 10, 3) := by decide +kernel
theorem dX8_twist_11 : decode cX8_twist 11 = .ok (.aload_n 0, 1) := by decide +kernel
theorem dX8_twist_12 : decode cX8_twist 12 = .ok (.invokevirtual 230, 3) := by decide +kernel
theorem dX8_twist_15 : decode cX8_twist 15 = .ok (.goto 6, 3) := by decide +kernel
theorem dX8_twist_18 : decode cX8_twist 18 = .ok (.ldc2_w 249, 3) := by decide +kernel
theorem dX8_twist_21 : decode cX8_twist 21 = .ok (.lreturn, 1) := by decide +kernel
noncomputable def fX8_twist  (t_mem : Nat → Int32) (t_row : Nat → Int32) (t_wide : Int32) (t_lost : Int32) : Option (Int64 × (Nat → Int32) × Int32 × Int32) := ob3 (fX8_laysPlate t_mem t_row t_wide t_lost) fun w2 w3 w4 => (fX8_is t_mem).bind fun r6 => (if r6 = 0 then some ((-2), w2, w3, w4) else (fX8_twistHere t_mem w2 w3 w4).bind fun r10 => some (r10, w2, w3, w4))
set_option maxHeartbeats 4000000 in
set_option maxRecDepth 100000 in
theorem ctX8_twist (l : Launch) (g : GT) (sz : Nat) (a_t : Nat → Nat) (t_acted : Int32) (t_taped : Int32) (t_faultKind : Int32) (t_faultPlace : Int32) (t_at : Int32) (t_begin : Int32) (t_token : Int32) (t_value : Int32) (t_bad : Int32) (t_wide : Int32) (t_lost : Int32) (t_det : Int64) (t_mask : Int32) (t_mode : Int32) (t_wanted : Int32) (t_orders : Int32) (t_foundAt : Int32) (t_foundBy : Int64) (t_unlikes : Int32) (t_mem : Nat → Int32) (t_row : Nat → Int32) (o : Int64) (o_t_row : Nat → Int32) (o_t_wide : Int32) (o_t_lost : Int32) (h : fX8_twist t_mem t_row t_wide t_lost = some (o, o_t_row, o_t_wide, o_t_lost)) : Met l yX8_twist (Cond.code yX8_twist cX8_twist 1 (some .long) :: Tw) ⟨3, 0, 0, 76⟩ (va_Pc [.ref ((a_t 0))] (rwB g [((a_t 0), .inr (7, [.ref (a_t 1), .ref (a_t 2), .int t_acted, .ref (a_t 4), .ref (a_t 5), .ref (a_t 6), .ref (a_t 7), .ref (a_t 8), .ref (a_t 9), .int t_taped, .int t_faultKind, .int t_faultPlace, .int t_at, .int t_begin, .int t_token, .int t_value, .int t_bad, .ref (a_t 18), .ref (a_t 19), .ref (a_t 20), .int t_wide, .int t_lost, .ref (a_t 23), .long t_det, .ref (a_t 25), .int t_mask, .int t_mode, .int t_wanted, .int t_orders, .int t_foundAt, .long t_foundBy, .ref (a_t 32), .ref (a_t 33), .int t_unlikes, .ref (a_t 35), .ref (a_t 36)])), ((a_t 1), .inl (g.2.2.1 0, 27, .inl t_mem)), ((a_t 20), .inl (g.2.2.1 0, 8, .inl t_row))] sz)) (va_Ql (fun x (_ : Nat → Nat) => x = o) (fun u => rwE g (va_A [((a_t 0), .inr (7, [.ref (a_t 1), .ref (a_t 2), .int t_acted, .ref (a_t 4), .ref (a_t 5), .ref (a_t 6), .ref (a_t 7), .ref (a_t 8), .ref (a_t 9), .int t_taped, .int t_faultKind, .int t_faultPlace, .int t_at, .int t_begin, .int t_token, .int t_value, .int t_bad, .ref (a_t 18), .ref (a_t 19), .ref (a_t 20), .int t_wide, .int t_lost, .ref (a_t 23), .long t_det, .ref (a_t 25), .int t_mask, .int t_mode, .int t_wanted, .int t_orders, .int t_foundAt, .long t_foundBy, .ref (a_t 32), .ref (a_t 33), .int t_unlikes, .ref (a_t 35), .ref (a_t 36)])), ((a_t 1), .inl (g.2.2.1 0, 27, .inl t_mem)), ((a_t 20), .inl (g.2.2.1 0, 8, .inl t_row))] sz) [((a_t 0), .inr (7, [.ref (a_t 1), .ref (a_t 2), .int t_acted, .ref (a_t 4), .ref (a_t 5), .ref (a_t 6), .ref (a_t 7), .ref (a_t 8), .ref (a_t 9), .int t_taped, .int t_faultKind, .int t_faultPlace, .int t_at, .int t_begin, .int t_token, .int t_value, .int t_bad, .ref (a_t 18), .ref (a_t 19), .ref (a_t 20), .int o_t_wide, .int o_t_lost, .ref (a_t 23), .long t_det, .ref (a_t 25), .int t_mask, .int t_mode, .int t_wanted, .int t_orders, .int t_foundAt, .long t_foundBy, .ref (a_t 32), .ref (a_t 33), .int t_unlikes, .ref (a_t 35), .ref (a_t 36)])), ((a_t 1), .inl (g.2.2.1 0, 27, .inl t_mem)), ((a_t 20), .inl (g.2.2.1 0, 8, .inl o_t_row))]) (va_A [((a_t 0), .inr (7, [.ref (a_t 1), .ref (a_t 2), .int t_acted, .ref (a_t 4), .ref (a_t 5), .ref (a_t 6), .ref (a_t 7), .ref (a_t 8), .ref (a_t 9), .int t_taped, .int t_faultKind, .int t_faultPlace, .int t_at, .int t_begin, .int t_token, .int t_value, .int t_bad, .ref (a_t 18), .ref (a_t 19), .ref (a_t 20), .int t_wide, .int t_lost, .ref (a_t 23), .long t_det, .ref (a_t 25), .int t_mask, .int t_mode, .int t_wanted, .int t_orders, .int t_foundAt, .long t_foundBy, .ref (a_t 32), .ref (a_t 33), .int t_unlikes, .ref (a_t 35), .ref (a_t 36)])), ((a_t 1), .inl (g.2.2.1 0, 27, .inl t_mem)), ((a_t 20), .inl (g.2.2.1 0, 8, .inl t_row))] sz)) 0 0 (va_A [((a_t 0), .inr (7, [.ref (a_t 1), .ref (a_t 2), .int t_acted, .ref (a_t 4), .ref (a_t 5), .ref (a_t 6), .ref (a_t 7), .ref (a_t 8), .ref (a_t 9), .int t_taped, .int t_faultKind, .int t_faultPlace, .int t_at, .int t_begin, .int t_token, .int t_value, .int t_bad, .ref (a_t 18), .ref (a_t 19), .ref (a_t 20), .int t_wide, .int t_lost, .ref (a_t 23), .long t_det, .ref (a_t 25), .int t_mask, .int t_mode, .int t_wanted, .int t_orders, .int t_foundAt, .long t_foundBy, .ref (a_t 32), .ref (a_t 33), .int t_unlikes, .ref (a_t 35), .ref (a_t 36)])), ((a_t 1), .inl (g.2.2.1 0, 27, .inl t_mem)), ((a_t 20), .inl (g.2.2.1 0, 8, .inl t_row))] sz) := by
  refine rw_metl (by decide) (Nat.le_of_ble_eq_true rfl) (lv0 := [(0, .ref ((a_t 0)))]) rfl ?_
  intro p e s m args below meth c ls Q A cx hret hG hAb hb0 hA hP hD hl
  have hx := cx.1
  have hb := cx.2.1
  have hG0 := hG
  have hGk : ∀ {H : Heap} {locs : List Loc}, va_S A s.heap H locs → GE g s H := fun hS => hG0.keptS hAb hS
  have hSb : ∀ {H : Heap} {locs : List Loc}, va_S A s.heap H locs → va_S (fun a => g.1 ≤ a) s.heap H locs := fun hS => ⟨hS.1, fun q h1 h2 => hS.2.1 q h1 (fun z => h2 (hAb q z)), fun l hl => hAb _ (hS.2.2 l hl)⟩
  have hS : va_S A s.heap s.heap [] := va_S.rf
  have hrt : ∀ (u : Nat → Nat) (pc : Nat) (ls : Array Slot) (v : Int64) (x_t_row : Nat → Int32) (x_t_wide : Int32) (x_t_lost : Int32) (H : Heap) (locs : List Loc), decode cX8_twist pc = .ok (.lreturn, 1) → some (v, x_t_row, x_t_wide, x_t_lost) = some (o, o_t_row, o_t_wide, o_t_lost) → va_P g.2.1 vwCl [((a_t 0), .inr (7, [.ref (a_t 1), .ref (a_t 2), .int t_acted, .ref (a_t 4), .ref (a_t 5), .ref (a_t 6), .ref (a_t 7), .ref (a_t 8), .ref (a_t 9), .int t_taped, .int t_faultKind, .int t_faultPlace, .int t_at, .int t_begin, .int t_token, .int t_value, .int t_bad, .ref (a_t 18), .ref (a_t 19), .ref (a_t 20), .int x_t_wide, .int x_t_lost, .ref (a_t 23), .long t_det, .ref (a_t 25), .int t_mask, .int t_mode, .int t_wanted, .int t_orders, .int t_foundAt, .long t_foundBy, .ref (a_t 32), .ref (a_t 33), .int t_unlikes, .ref (a_t 35), .ref (a_t 36)])), ((a_t 1), .inl (g.2.2.1 0, 27, .inl t_mem)), ((a_t 20), .inl (g.2.2.1 0, 8, .inl x_t_row))] H → va_D A [((a_t 0), .inr (7, [.ref (a_t 1), .ref (a_t 2), .int t_acted, .ref (a_t 4), .ref (a_t 5), .ref (a_t 6), .ref (a_t 7), .ref (a_t 8), .ref (a_t 9), .int t_taped, .int t_faultKind, .int t_faultPlace, .int t_at, .int t_begin, .int t_token, .int t_value, .int t_bad, .ref (a_t 18), .ref (a_t 19), .ref (a_t 20), .int x_t_wide, .int x_t_lost, .ref (a_t 23), .long t_det, .ref (a_t 25), .int t_mask, .int t_mode, .int t_wanted, .int t_orders, .int t_foundAt, .long t_foundBy, .ref (a_t 32), .ref (a_t 33), .int t_unlikes, .ref (a_t 35), .ref (a_t 36)])), ((a_t 1), .inl (g.2.2.1 0, 27, .inl t_mem)), ((a_t 20), .inl (g.2.2.1 0, 8, .inl x_t_row))] → va_S A s.heap H locs → W p l e ⟨3, 0, 0, 76⟩ s m args below meth c H locs 0 0 Q (F0 m pc ls [.long v]) := by
    intro u pc ls v x_t_row x_t_wide x_t_lost H locs hd h hP hD hS
    cases h
    exact hret u _ _ _ _ _ hd rfl hP hD hS
  unfold fX8_twist at h
  refine lv_aload_n hx hb dX8_twist_0 rfl (lv_at hl 0 rfl) ?_
  obtain ⟨w2, w3, w4, hr1, h⟩ := ob3_out h
  refine rw_v (WN := fun u5 => [((a_t 0), .inr (7, [.ref (a_t 1), .ref (a_t 2), .int t_acted, .ref (a_t 4), .ref (a_t 5), .ref (a_t 6), .ref (a_t 7), .ref (a_t 8), .ref (a_t 9), .int t_taped, .int t_faultKind, .int t_faultPlace, .int t_at, .int t_begin, .int t_token, .int t_value, .int t_bad, .ref (a_t 18), .ref (a_t 19), .ref (a_t 20), .int w3, .int w4, .ref (a_t 23), .long t_det, .ref (a_t 25), .int t_mask, .int t_mode, .int t_wanted, .int t_orders, .int t_foundAt, .long t_foundBy, .ref (a_t 32), .ref (a_t 33), .int t_unlikes, .ref (a_t 35), .ref (a_t 36)])), ((a_t 1), .inl (g.2.2.1 0, 27, .inl t_mem)), ((a_t 20), .inl (g.2.2.1 0, 8, .inl w2))]) (wr := []) (runV (As := []) (rest := []) cx hl.1 (ctX8_laysPlate l g s.heap.size a_t t_acted t_taped t_faultKind t_faultPlace t_at t_begin t_token t_value t_bad t_wide t_lost t_det t_mask t_mode t_wanted t_orders t_foundAt t_foundBy t_unlikes t_mem t_row w2 w3 w4 hr1) kmX8_laysPlate kvX8_laysPlate lm_X8_243 ⟨rfl, rfl⟩ ⟨Nat.le_of_ble_eq_true rfl, Nat.le_of_ble_eq_true rfl⟩ (rwV (q0 := 0) (ci := 7) hG (hP.sub [0, 1, 2] rfl) (hD.sub [0, 1, 2] (by decide) rfl) hAb hb0 hS hP rfl rfl) rfl rfl (Nat.le_of_ble_eq_true rfl) dX8_twist_1 ⟨Nat.le_of_ble_eq_true rfl, Nat.le_of_ble_eq_true rfl⟩) hP hD hS hA [0, 1, 2] [] rfl rfl (by decide) (by decide) (fun _ => rfl) (fun u5 H locs hP hD hS => ?_)
  have hG := hGk hS
  refine lv_aload_n hx hb dX8_twist_4 rfl (lv_at hl 0 rfl) ?_
  obtain ⟨r6, hr7, h⟩ := bnd h
  refine ro_z (runV (As := []) (rest := []) cx hl.1 (ctX8_is l g a_t t_acted t_taped t_faultKind t_faultPlace t_at t_begin t_token t_value t_bad w3 w4 t_det t_mask t_mode t_wanted t_orders t_foundAt t_foundBy t_unlikes t_mem r6 hr7) kmX8_is kvX8_is lm_X8_236 ⟨rfl, rfl⟩ ⟨Nat.le_of_ble_eq_true rfl, Nat.le_of_ble_eq_true rfl⟩ (roV (q0 := 0) (ci := 7) hG (hP.sub [0, 1] rfl) hP rfl rfl) rfl rfl (Nat.le_of_ble_eq_true rfl) dX8_twist_5 ⟨Nat.le_of_ble_eq_true rfl, Nat.le_of_ble_eq_true rfl⟩) (fun hz8 => ?_)
  refine lv_if_eq (tgt := 18) hx hb dX8_twist_8 (by decide) (fun c9 => ?_) (fun c9 => ?_)
  · have h := itp c9 h
    refine lv_ldc2 (own := RX8) (v := -2) hx hb cx.2.2.2.1 (cx.2.2.2.2 _ cl_X8_249) dX8_twist_18 ?_
    exact hrt (fun _ => 0) _ _ ((-2)) w2 w3 w4 _ _ dX8_twist_21 h (hP.sub [0, 1, 2] rfl) (hD.sub [0, 1, 2] (by decide) rfl) hS
  · have h := itn c9 h
    refine lv_aload_n hx hb dX8_twist_11 rfl (lv_at hl 0 rfl) ?_
    obtain ⟨r10, hr11, h⟩ := bnd h
    refine ro_l (runV (As := []) (rest := []) cx hl.1 (ctX8_twistHere l g a_t t_acted t_taped t_faultKind t_faultPlace t_at t_begin t_token t_value t_bad w3 w4 t_det t_mask t_mode t_wanted t_orders t_foundAt t_foundBy t_unlikes t_mem w2 r10 hr11) kmX8_twistHere kvX8_twistHere lm_X8_230 ⟨rfl, rfl⟩ ⟨Nat.le_of_ble_eq_true rfl, Nat.le_of_ble_eq_true rfl⟩ (roV (q0 := 0) (ci := 7) hG (hP.sub [0, 1, 2] rfl) hP rfl rfl) rfl rfl (Nat.le_of_ble_eq_true rfl) dX8_twist_12 ⟨Nat.le_of_ble_eq_true rfl, Nat.le_of_ble_eq_true rfl⟩) ?_
    refine lv_goto (tgt := 21) hx hb dX8_twist_15 (by decide) ?_
    exact hrt (fun _ => 0) _ _ r10 w2 w3 w4 _ _ dX8_twist_21 h (hP.sub [0, 1, 2] rfl) (hD.sub [0, 1, 2] (by decide) rfl) hS
-- X8_run
theorem dX8_run_0 : decode cX8_run 0 = .ok (.aload_n 0, 1) := by decide +kernel
theorem dX8_run_1 : decode cX8_run 1 = .ok (.invokevirtual 236, 3) := by decide +kernel
theorem dX8_run_4 : decode cX8_run 4 = .ok (.ifCond .eq 13, 3) := by decide +kernel
theorem dX8_run_7 : decode cX8_run 7 = .ok (.iload_n 1, 1) := by decide +kernel
theorem dX8_run_8 : decode cX8_run 8 = .ok (.i2l, 1) := by decide +kernel
theorem dX8_run_9 : decode cX8_run 9 = .ok (.lconst 0, 1) := by decide +kernel
theorem dX8_run_10 : decode cX8_run 10 = .ok (.lconst 1, 1) := by decide +kernel
theorem dX8_run_11 : decode cX8_run 11 = .ok (.invokestatic 83, 3) := by decide +kernel
theorem dX8_run_14 : decode cX8_run 14 = .ok (.ifCond .ne 6, 3) := by decide +kernel
theorem dX8_run_17 : decode cX8_run 17 = .ok (.bipush (-2), 2) := by decide +kernel
theorem dX8_run_19 : decode cX8_run 19 = .ok (.ireturn, 1) := by decide +kernel
theorem dX8_run_20 : decode cX8_run 20 = .ok (.aload_n 0, 1) := by decide +kernel
theorem dX8_run_21 : decode cX8_run 21 = .ok (.invokevirtual 243, 3) := by decide +kernel
theorem dX8_run_24 : decode cX8_run 24 = .ok (.aload_n 0, 1) := by decide +kernel
theorem dX8_run_25 : decode cX8_run 25 = .ok (.invokevirtual 251, 3) := by decide +kernel
theorem dX8_run_28 : decode cX8_run 28 = .ok (.istore_n 2, 1) := by decide +kernel
theorem dX8_run_29 : decode cX8_run 29 = .ok (.iload_n 1, 1) := by decide +kernel
theorem dX8_run_30 : decode cX8_run 30 = .ok (.ifCond .ne 5, 3) := by decide +kernel
theorem dX8_run_33 : decode cX8_run 33 = .ok (.iload_n 2, 1) := by decide +kernel
theorem dX8_run_34 : decode cX8_run 34 = .ok (.ireturn, 1) := by decide +kernel
theorem dX8_run_35 : decode cX8_run 35 = .ok (.iconst 0, 1) := by decide +kernel
theorem dX8_run_36 : decode cX8_run 36 = .ok (.istore_n 3, 1) := by decide +kernel
theorem dX8_run_37 : decode cX8_run 37 = .ok (.iload_n 3, 1) := by decide +kernel
theorem dX8_run_38 : decode cX8_run 38 = .ok (.aload_n 0, 1) := by decide +kernel
theorem dX8_run_39 : decode cX8_run 39 = .ok (.getfield 206, 3) := by decide +kernel
theorem dX8_run_42 : decode cX8_run 42 = .ok (.if_icmp .ge 59, 3) := by decide +kernel
theorem dX8_run_45 : decode cX8_run 45 = .ok (.iconst 1, 1) := by decide +kernel
theorem dX8_run_46 : decode cX8_run 46 = .ok (.istore 4, 2) := by decide +kernel
theorem dX8_run_48 : decode cX8_run 48 = .ok (.iload_n 3, 1) := by decide +kernel
theorem dX8_run_49 : decode cX8_run 49 = .ok (.iload 4, 2) := by decide +kernel
theorem dX8_run_51 : decode cX8_run 51 = .ok (.iadd, 1) := by decide +kernel
theorem dX8_run_52 : decode cX8_run 52 = .ok (.aload_n 0, 1) := by decide +kernel
theorem dX8_run_53 : decode cX8_run 53 = .ok (.getfield 206, 3) := by decide +kernel
theorem dX8_run_56 : decode cX8_run 56 = .ok (.if_icmp .ge 31, 3) := by decide +kernel
theorem dX8_run_59 : decode cX8_run 59 = .ok (.aload_n 0, 1) := by decide +kernel
theorem dX8_run_60 : decode cX8_run 60 = .ok (.getfield 57, 3) := by decide +kernel
theorem dX8_run_63 : decode cX8_run 63 = .ok (.iload_n 3, 1) := by decide +kernel
theorem dX8_run_64 : decode cX8_run 64 = .ok (.iload 4, 2) := by decide +kernel
theorem dX8_run_66 : decode cX8_run 66 = .ok (.iadd, 1) := by decide +kernel
theorem dX8_run_67 : decode cX8_run 67 = .ok (.iaload, 1) := by decide +kernel
theorem dX8_run_68 : decode cX8_run 68 = .ok (.iconst 4, 1) := by decide +kernel
theorem dX8_run_69 : decode cX8_run 69 = .ok (.irem, 1) := by decide +kernel
theorem dX8_run_70 : decode cX8_run 70 = .ok (.aload_n 0, 1) := by decide +kernel
theorem dX8_run_71 : decode cX8_run 71 = .ok (.getfield 57, 3) := by decide +kernel
theorem dX8_run_74 : decode cX8_run 74 = .ok (.iload_n 3, 1) := by decide +kernel
theorem dX8_run_75 : decode cX8_run 75 = .ok (.iaload, 1) := by decide +kernel
theorem dX8_run_76 : decode cX8_run 76 = .ok (.iconst 4, 1) := by decide +kernel
theorem dX8_run_77 : decode cX8_run 77 = .ok (.irem, 1) := by decide +kernel
theorem dX8_run_78 : decode cX8_run 78 = .ok (.if_icmp .ne 9, 3) := by decide +kernel
theorem dX8_run_81 : decode cX8_run 81 = .ok (.iinc 4 1, 3) := by decide +kernel
theorem dX8_run_84 : decode cX8_run 84 = .ok (.goto (-36), 3) := by decide +kernel
theorem dX8_run_87 : decode cX8_run 87 = .ok (.iload 4, 2) := by decide +kernel
theorem dX8_run_89 : decode cX8_run 89 = .ok (.iload_n 2, 1) := by decide +kernel
theorem dX8_run_90 : decode cX8_run 90 = .ok (.if_icmp .ne 5, 3) := by decide +kernel
theorem dX8_run_93 : decode cX8_run 93 = .ok (.iload_n 3, 1) := by decide +kernel
theorem dX8_run_94 : decode cX8_run 94 = .ok (.ireturn, 1) := by decide +kernel
theorem dX8_run_95 : decode cX8_run 95 = .ok (.iinc 3 1, 3) := by decide +kernel
theorem dX8_run_98 : decode cX8_run 98 = .ok (.goto (-61), 3) := by decide +kernel
theorem dX8_run_101 : decode cX8_run 101 = .ok (.iconst (-1), 1) := by decide +kernel
theorem dX8_run_102 : decode cX8_run 102 = .ok (.ireturn, 1) := by decide +kernel
noncomputable def fX8_run_87 (k37 : (Nat → Int32) → Int32 → Int32 → Int32 → Int32 → Option (Int32 × (Nat → Int32) × Int32 × Int32)) (t_row : Nat → Int32) (t_wide : Int32) (t_lost : Int32) (v2 : Int32) (v3 : Int32) (v4 : Int32) : Option (Int32 × (Nat → Int32) × Int32 × Int32) := (if v4 = v2 then some (v3, t_row, t_wide, t_lost) else k37 t_row t_wide t_lost v2 (v3 + 1))
noncomputable def fX8_run_48 (k37 : (Nat → Int32) → Int32 → Int32 → Int32 → Int32 → Option (Int32 × (Nat → Int32) × Int32 × Int32)) : Nat → (Nat → Int32) → Int32 → Int32 → Int32 → Int32 → Int32 → Option (Int32 × (Nat → Int32) × Int32 × Int32)
  | 0, _, _, _, _, _, _ => none
  | n + 1, t_row, t_wide, t_lost, v2, v3, v4 => (if t_wide ≤ (v3 + v4) then fX8_run_87 k37 t_row t_wide t_lost v2 v3 v4 else chk 8 (v3 + v4) (chk 8 v3 ((if (irem (t_row (v3 + v4).toNatClampNeg) 4) = (irem (t_row v3.toNatClampNeg) 4) then fX8_run_48 k37 n t_row t_wide t_lost v2 v3 (v4 + 1) else fX8_run_87 k37 t_row t_wide t_lost v2 v3 v4))))
theorem fX8_run_48_z (k37 : (Nat → Int32) → Int32 → Int32 → Int32 → Int32 → Option (Int32 × (Nat → Int32) × Int32 × Int32)) (t_row : Nat → Int32) (t_wide : Int32) (t_lost : Int32) (v2 : Int32) (v3 : Int32) (v4 : Int32) : fX8_run_48 k37 0 t_row t_wide t_lost v2 v3 v4 = none := rfl
theorem fX8_run_48_s (k37 : (Nat → Int32) → Int32 → Int32 → Int32 → Int32 → Option (Int32 × (Nat → Int32) × Int32 × Int32)) (n : Nat) (t_row : Nat → Int32) (t_wide : Int32) (t_lost : Int32) (v2 : Int32) (v3 : Int32) (v4 : Int32) : fX8_run_48 k37 (n + 1) t_row t_wide t_lost v2 v3 v4 = (if t_wide ≤ (v3 + v4) then fX8_run_87 k37 t_row t_wide t_lost v2 v3 v4 else chk 8 (v3 + v4) (chk 8 v3 ((if (irem (t_row (v3 + v4).toNatClampNeg) 4) = (irem (t_row v3.toNatClampNeg) 4) then fX8_run_48 k37 n t_row t_wide t_lost v2 v3 (v4 + 1) else fX8_run_87 k37 t_row t_wide t_lost v2 v3 v4)))) := rfl
noncomputable def fX8_run_37  : Nat → (Nat → Int32) → Int32 → Int32 → Int32 → Int32 → Option (Int32 × (Nat → Int32) × Int32 × Int32)
  | 0, _, _, _, _, _ => none
  | n + 1, t_row, t_wide, t_lost, v2, v3 => (if t_wide ≤ v3 then some ((-1), t_row, t_wide, t_lost) else fX8_run_48 (fX8_run_37 n) FU t_row t_wide t_lost v2 v3 1)
theorem fX8_run_37_z  (t_row : Nat → Int32) (t_wide : Int32) (t_lost : Int32) (v2 : Int32) (v3 : Int32) : fX8_run_37  0 t_row t_wide t_lost v2 v3 = none := rfl
theorem fX8_run_37_s  (n : Nat) (t_row : Nat → Int32) (t_wide : Int32) (t_lost : Int32) (v2 : Int32) (v3 : Int32) : fX8_run_37  (n + 1) t_row t_wide t_lost v2 v3 = (if t_wide ≤ v3 then some ((-1), t_row, t_wide, t_lost) else fX8_run_48 (fX8_run_37 n) FU t_row t_wide t_lost v2 v3 1) := rfl
noncomputable def fX8_run  (t_mem : Nat → Int32) (t_row : Nat → Int32) (t_wide : Int32) (t_lost : Int32) (v1 : Int32) : Option (Int32 × (Nat → Int32) × Int32 × Int32) := (fX8_is t_mem).bind fun r1 => (if r1 = 0 then some ((-2), t_row, t_wide, t_lost) else (if (fX8_in v1.toInt64 0 1) = 0 then some ((-2), t_row, t_wide, t_lost) else ob3 (fX8_laysPlate t_mem t_row t_wide t_lost) fun w8 w9 w10 => (fX8_longestRun w8 w9).bind fun r12 => (if v1 = 0 then some (r12, w8, w9, w10) else fX8_run_37 FU w8 w9 w10 r12 0)))
set_option maxHeartbeats 4000000 in
set_option maxRecDepth 100000 in
theorem ctX8_run (l : Launch) (g : GT) (sz : Nat) (a_t : Nat → Nat) (t_acted : Int32) (t_taped : Int32) (t_faultKind : Int32) (t_faultPlace : Int32) (t_at : Int32) (t_begin : Int32) (t_token : Int32) (t_value : Int32) (t_bad : Int32) (t_wide : Int32) (t_lost : Int32) (t_det : Int64) (t_mask : Int32) (t_mode : Int32) (t_wanted : Int32) (t_orders : Int32) (t_foundAt : Int32) (t_foundBy : Int64) (t_unlikes : Int32) (t_mem : Nat → Int32) (t_row : Nat → Int32) (v1 : Int32) (o : Int32) (o_t_row : Nat → Int32) (o_t_wide : Int32) (o_t_lost : Int32) (h : fX8_run t_mem t_row t_wide t_lost v1 = some (o, o_t_row, o_t_wide, o_t_lost)) : Met l yX8_run (Cond.code yX8_run cX8_run 5 (some .int) :: Tw) ⟨2, 0, 0, 49⟩ (va_Pc [.ref ((a_t 0)), .int v1] (rwB g [((a_t 0), .inr (7, [.ref (a_t 1), .ref (a_t 2), .int t_acted, .ref (a_t 4), .ref (a_t 5), .ref (a_t 6), .ref (a_t 7), .ref (a_t 8), .ref (a_t 9), .int t_taped, .int t_faultKind, .int t_faultPlace, .int t_at, .int t_begin, .int t_token, .int t_value, .int t_bad, .ref (a_t 18), .ref (a_t 19), .ref (a_t 20), .int t_wide, .int t_lost, .ref (a_t 23), .long t_det, .ref (a_t 25), .int t_mask, .int t_mode, .int t_wanted, .int t_orders, .int t_foundAt, .long t_foundBy, .ref (a_t 32), .ref (a_t 33), .int t_unlikes, .ref (a_t 35), .ref (a_t 36)])), ((a_t 1), .inl (g.2.2.1 0, 27, .inl t_mem)), ((a_t 20), .inl (g.2.2.1 0, 8, .inl t_row))] sz)) (va_Qi (fun x (_ : Nat → Nat) => x = o) (fun u => rwE g (va_A [((a_t 0), .inr (7, [.ref (a_t 1), .ref (a_t 2), .int t_acted, .ref (a_t 4), .ref (a_t 5), .ref (a_t 6), .ref (a_t 7), .ref (a_t 8), .ref (a_t 9), .int t_taped, .int t_faultKind, .int t_faultPlace, .int t_at, .int t_begin, .int t_token, .int t_value, .int t_bad, .ref (a_t 18), .ref (a_t 19), .ref (a_t 20), .int t_wide, .int t_lost, .ref (a_t 23), .long t_det, .ref (a_t 25), .int t_mask, .int t_mode, .int t_wanted, .int t_orders, .int t_foundAt, .long t_foundBy, .ref (a_t 32), .ref (a_t 33), .int t_unlikes, .ref (a_t 35), .ref (a_t 36)])), ((a_t 1), .inl (g.2.2.1 0, 27, .inl t_mem)), ((a_t 20), .inl (g.2.2.1 0, 8, .inl t_row))] sz) [((a_t 0), .inr (7, [.ref (a_t 1), .ref (a_t 2), .int t_acted, .ref (a_t 4), .ref (a_t 5), .ref (a_t 6), .ref (a_t 7), .ref (a_t 8), .ref (a_t 9), .int t_taped, .int t_faultKind, .int t_faultPlace, .int t_at, .int t_begin, .int t_token, .int t_value, .int t_bad, .ref (a_t 18), .ref (a_t 19), .ref (a_t 20), .int o_t_wide, .int o_t_lost, .ref (a_t 23), .long t_det, .ref (a_t 25), .int t_mask, .int t_mode, .int t_wanted, .int t_orders, .int t_foundAt, .long t_foundBy, .ref (a_t 32), .ref (a_t 33), .int t_unlikes, .ref (a_t 35), .ref (a_t 36)])), ((a_t 1), .inl (g.2.2.1 0, 27, .inl t_mem)), ((a_t 20), .inl (g.2.2.1 0, 8, .inl o_t_row))]) (va_A [((a_t 0), .inr (7, [.ref (a_t 1), .ref (a_t 2), .int t_acted, .ref (a_t 4), .ref (a_t 5), .ref (a_t 6), .ref (a_t 7), .ref (a_t 8), .ref (a_t 9), .int t_taped, .int t_faultKind, .int t_faultPlace, .int t_at, .int t_begin, .int t_token, .int t_value, .int t_bad, .ref (a_t 18), .ref (a_t 19), .ref (a_t 20), .int t_wide, .int t_lost, .ref (a_t 23), .long t_det, .ref (a_t 25), .int t_mask, .int t_mode, .int t_wanted, .int t_orders, .int t_foundAt, .long t_foundBy, .ref (a_t 32), .ref (a_t 33), .int t_unlikes, .ref (a_t 35), .ref (a_t 36)])), ((a_t 1), .inl (g.2.2.1 0, 27, .inl t_mem)), ((a_t 20), .inl (g.2.2.1 0, 8, .inl t_row))] sz)) 0 0 (va_A [((a_t 0), .inr (7, [.ref (a_t 1), .ref (a_t 2), .int t_acted, .ref (a_t 4), .ref (a_t 5), .ref (a_t 6), .ref (a_t 7), .ref (a_t 8), .ref (a_t 9), .int t_taped, .int t_faultKind, .int t_faultPlace, .int t_at, .int t_begin, .int t_token, .int t_value, .int t_bad, .ref (a_t 18), .ref (a_t 19), .ref (a_t 20), .int t_wide, .int t_lost, .ref (a_t 23), .long t_det, .ref (a_t 25), .int t_mask, .int t_mode, .int t_wanted, .int t_orders, .int t_foundAt, .long t_foundBy, .ref (a_t 32), .ref (a_t 33), .int t_unlikes, .ref (a_t 35), .ref (a_t 36)])), ((a_t 1), .inl (g.2.2.1 0, 27, .inl t_mem)), ((a_t 20), .inl (g.2.2.1 0, 8, .inl t_row))] sz) := by
  refine rw_meti (by decide) (Nat.le_of_ble_eq_true rfl) (lv0 := [(0, .ref ((a_t 0))), (1, .int v1)]) rfl ?_
  intro p e s m args below meth c ls Q A cx hret hG hAb hb0 hA hP hD hl
  have hx := cx.1
  have hb := cx.2.1
  have hG0 := hG
  have hGk : ∀ {H : Heap} {locs : List Loc}, va_S A s.heap H locs → GE g s H := fun hS => hG0.keptS hAb hS
  have hSb : ∀ {H : Heap} {locs : List Loc}, va_S A s.heap H locs → va_S (fun a => g.1 ≤ a) s.heap H locs := fun hS => ⟨hS.1, fun q h1 h2 => hS.2.1 q h1 (fun z => h2 (hAb q z)), fun l hl => hAb _ (hS.2.2 l hl)⟩
  have hS : va_S A s.heap s.heap [] := va_S.rf
  have hrt : ∀ (u : Nat → Nat) (pc : Nat) (ls : Array Slot) (v : Int32) (x_t_row : Nat → Int32) (x_t_wide : Int32) (x_t_lost : Int32) (H : Heap) (locs : List Loc), decode cX8_run pc = .ok (.ireturn, 1) → some (v, x_t_row, x_t_wide, x_t_lost) = some (o, o_t_row, o_t_wide, o_t_lost) → va_P g.2.1 vwCl [((a_t 0), .inr (7, [.ref (a_t 1), .ref (a_t 2), .int t_acted, .ref (a_t 4), .ref (a_t 5), .ref (a_t 6), .ref (a_t 7), .ref (a_t 8), .ref (a_t 9), .int t_taped, .int t_faultKind, .int t_faultPlace, .int t_at, .int t_begin, .int t_token, .int t_value, .int t_bad, .ref (a_t 18), .ref (a_t 19), .ref (a_t 20), .int x_t_wide, .int x_t_lost, .ref (a_t 23), .long t_det, .ref (a_t 25), .int t_mask, .int t_mode, .int t_wanted, .int t_orders, .int t_foundAt, .long t_foundBy, .ref (a_t 32), .ref (a_t 33), .int t_unlikes, .ref (a_t 35), .ref (a_t 36)])), ((a_t 1), .inl (g.2.2.1 0, 27, .inl t_mem)), ((a_t 20), .inl (g.2.2.1 0, 8, .inl x_t_row))] H → va_D A [((a_t 0), .inr (7, [.ref (a_t 1), .ref (a_t 2), .int t_acted, .ref (a_t 4), .ref (a_t 5), .ref (a_t 6), .ref (a_t 7), .ref (a_t 8), .ref (a_t 9), .int t_taped, .int t_faultKind, .int t_faultPlace, .int t_at, .int t_begin, .int t_token, .int t_value, .int t_bad, .ref (a_t 18), .ref (a_t 19), .ref (a_t 20), .int x_t_wide, .int x_t_lost, .ref (a_t 23), .long t_det, .ref (a_t 25), .int t_mask, .int t_mode, .int t_wanted, .int t_orders, .int t_foundAt, .long t_foundBy, .ref (a_t 32), .ref (a_t 33), .int t_unlikes, .ref (a_t 35), .ref (a_t 36)])), ((a_t 1), .inl (g.2.2.1 0, 27, .inl t_mem)), ((a_t 20), .inl (g.2.2.1 0, 8, .inl x_t_row))] → va_S A s.heap H locs → W p l e ⟨2, 0, 0, 49⟩ s m args below meth c H locs 0 0 Q (F0 m pc ls [.int v]) := by
    intro u pc ls v x_t_row x_t_wide x_t_lost H locs hd h hP hD hS
    cases h
    exact hret u _ _ _ _ _ hd rfl hP hD hS
  have w87 : ∀ (k37 : (Nat → Int32) → Int32 → Int32 → Int32 → Int32 → Option (Int32 × (Nat → Int32) × Int32 × Int32)) (hk37 : ∀ (t_row : Nat → Int32) (t_wide : Int32) (t_lost : Int32) (v2 : Int32) (v3 : Int32) (H : Heap) (locs : List Loc), va_P g.2.1 vwCl [((a_t 0), .inr (7, [.ref (a_t 1), .ref (a_t 2), .int t_acted, .ref (a_t 4), .ref (a_t 5), .ref (a_t 6), .ref (a_t 7), .ref (a_t 8), .ref (a_t 9), .int t_taped, .int t_faultKind, .int t_faultPlace, .int t_at, .int t_begin, .int t_token, .int t_value, .int t_bad, .ref (a_t 18), .ref (a_t 19), .ref (a_t 20), .int t_wide, .int t_lost, .ref (a_t 23), .long t_det, .ref (a_t 25), .int t_mask, .int t_mode, .int t_wanted, .int t_orders, .int t_foundAt, .long t_foundBy, .ref (a_t 32), .ref (a_t 33), .int t_unlikes, .ref (a_t 35), .ref (a_t 36)])), ((a_t 1), .inl (g.2.2.1 0, 27, .inl t_mem)), ((a_t 20), .inl (g.2.2.1 0, 8, .inl t_row))] H → va_D A [((a_t 0), .inr (7, [.ref (a_t 1), .ref (a_t 2), .int t_acted, .ref (a_t 4), .ref (a_t 5), .ref (a_t 6), .ref (a_t 7), .ref (a_t 8), .ref (a_t 9), .int t_taped, .int t_faultKind, .int t_faultPlace, .int t_at, .int t_begin, .int t_token, .int t_value, .int t_bad, .ref (a_t 18), .ref (a_t 19), .ref (a_t 20), .int t_wide, .int t_lost, .ref (a_t 23), .long t_det, .ref (a_t 25), .int t_mask, .int t_mode, .int t_wanted, .int t_orders, .int t_foundAt, .long t_foundBy, .ref (a_t 32), .ref (a_t 33), .int t_unlikes, .ref (a_t 35), .ref (a_t 36)])), ((a_t 1), .inl (g.2.2.1 0, 27, .inl t_mem)), ((a_t 20), .inl (g.2.2.1 0, 8, .inl t_row))] → va_S A s.heap H locs → ∀ (ls : Array Slot), lv_has ls 5 [(0, .ref ((a_t 0))), (2, .int v2), (3, .int v3)] → k37 t_row t_wide t_lost v2 v3 = some (o, o_t_row, o_t_wide, o_t_lost) → W p l e ⟨2, 0, 0, 49⟩ s m args below meth c H locs 0 0 Q (F0 m 37 ls [])) (t_row : Nat → Int32) (t_wide : Int32) (t_lost : Int32) (v2 : Int32) (v3 : Int32) (v4 : Int32) (H : Heap) (locs : List Loc), va_P g.2.1 vwCl [((a_t 0), .inr (7, [.ref (a_t 1), .ref (a_t 2), .int t_acted, .ref (a_t 4), .ref (a_t 5), .ref (a_t 6), .ref (a_t 7), .ref (a_t 8), .ref (a_t 9), .int t_taped, .int t_faultKind, .int t_faultPlace, .int t_at, .int t_begin, .int t_token, .int t_value, .int t_bad, .ref (a_t 18), .ref (a_t 19), .ref (a_t 20), .int t_wide, .int t_lost, .ref (a_t 23), .long t_det, .ref (a_t 25), .int t_mask, .int t_mode, .int t_wanted, .int t_orders, .int t_foundAt, .long t_foundBy, .ref (a_t 32), .ref (a_t 33), .int t_unlikes, .ref (a_t 35), .ref (a_t 36)])), ((a_t 1), .inl (g.2.2.1 0, 27, .inl t_mem)), ((a_t 20), .inl (g.2.2.1 0, 8, .inl t_row))] H → va_D A [((a_t 0), .inr (7, [.ref (a_t 1), .ref (a_t 2), .int t_acted, .ref (a_t 4), .ref (a_t 5), .ref (a_t 6), .ref (a_t 7), .ref (a_t 8), .ref (a_t 9), .int t_taped, .int t_faultKind, .int t_faultPlace, .int t_at, .int t_begin, .int t_token, .int t_value, .int t_bad, .ref (a_t 18), .ref (a_t 19), .ref (a_t 20), .int t_wide, .int t_lost, .ref (a_t 23), .long t_det, .ref (a_t 25), .int t_mask, .int t_mode, .int t_wanted, .int t_orders, .int t_foundAt, .long t_foundBy, .ref (a_t 32), .ref (a_t 33), .int t_unlikes, .ref (a_t 35), .ref (a_t 36)])), ((a_t 1), .inl (g.2.2.1 0, 27, .inl t_mem)), ((a_t 20), .inl (g.2.2.1 0, 8, .inl t_row))] → va_S A s.heap H locs → ∀ (ls : Array Slot), lv_has ls 5 [(0, .ref ((a_t 0))), (2, .int v2), (3, .int v3), (4, .int v4)] → fX8_run_87 k37 t_row t_wide t_lost v2 v3 v4 = some (o, o_t_row, o_t_wide, o_t_lost) → W p l e ⟨2, 0, 0, 49⟩ s m args below meth c H locs 0 0 Q (F0 m 87 ls []) := by
    intro k37 hk37 t_row t_wide t_lost v2 v3 v4 H locs hP hD hS ls hl h
    unfold fX8_run_87 at h
    have hG := hGk hS
    refine lv_iload hx hb dX8_run_87 (lv_at hl 3 rfl) ?_
    refine lv_iload_n hx hb dX8_run_89 rfl (lv_at hl 1 rfl) ?_
    refine lv_icmp_ne (tgt := 95) hx hb dX8_run_90 (by decide) (fun c20 => ?_) (fun c20 => ?_)
    · have h := itn c20 h
      refine lv_iinc (v := v3 + 1) (lv' := [(3, .int (v3 + 1)), (0, .ref ((a_t 0))), (2, .int v2), (4, .int v4)]) hx hb dX8_run_95 hl (k := 2) rfl rfl (by decide) rfl (fun ls hl => ?_)
      refine lv_goto (tgt := 37) hx hb dX8_run_98 (by decide) ?_
      exact hk37 t_row t_wide t_lost v2 (v3 + 1) _ _ hP hD hS _ (lv_sub hl [1, 2, 0] rfl) h
    · have h := itp c20 h
      refine lv_iload_n hx hb dX8_run_93 rfl (lv_at hl 2 rfl) ?_
      exact hrt (fun _ => 0) _ _ v3 t_row t_wide t_lost _ _ dX8_run_94 h (hP.sub [0, 1, 2] rfl) (hD.sub [0, 1, 2] (by decide) rfl) hS
  have w48 : ∀ (k37 : (Nat → Int32) → Int32 → Int32 → Int32 → Int32 → Option (Int32 × (Nat → Int32) × Int32 × Int32)) (hk37 : ∀ (t_row : Nat → Int32) (t_wide : Int32) (t_lost : Int32) (v2 : Int32) (v3 : Int32) (H : Heap) (locs : List Loc), va_P g.2.1 vwCl [((a_t 0), .inr (7, [.ref (a_t 1), .ref (a_t 2), .int t_acted, .ref (a_t 4), .ref (a_t 5), .ref (a_t 6), .ref (a_t 7), .ref (a_t 8), .ref (a_t 9), .int t_taped, .int t_faultKind, .int t_faultPlace, .int t_at, .int t_begin, .int t_token, .int t_value, .int t_bad, .ref (a_t 18), .ref (a_t 19), .ref (a_t 20), .int t_wide, .int t_lost, .ref (a_t 23), .long t_det, .ref (a_t 25), .int t_mask, .int t_mode, .int t_wanted, .int t_orders, .int t_foundAt, .long t_foundBy, .ref (a_t 32), .ref (a_t 33), .int t_unlikes, .ref (a_t 35), .ref (a_t 36)])), ((a_t 1), .inl (g.2.2.1 0, 27, .inl t_mem)), ((a_t 20), .inl (g.2.2.1 0, 8, .inl t_row))] H → va_D A [((a_t 0), .inr (7, [.ref (a_t 1), .ref (a_t 2), .int t_acted, .ref (a_t 4), .ref (a_t 5), .ref (a_t 6), .ref (a_t 7), .ref (a_t 8), .ref (a_t 9), .int t_taped, .int t_faultKind, .int t_faultPlace, .int t_at, .int t_begin, .int t_token, .int t_value, .int t_bad, .ref (a_t 18), .ref (a_t 19), .ref (a_t 20), .int t_wide, .int t_lost, .ref (a_t 23), .long t_det, .ref (a_t 25), .int t_mask, .int t_mode, .int t_wanted, .int t_orders, .int t_foundAt, .long t_foundBy, .ref (a_t 32), .ref (a_t 33), .int t_unlikes, .ref (a_t 35), .ref (a_t 36)])), ((a_t 1), .inl (g.2.2.1 0, 27, .inl t_mem)), ((a_t 20), .inl (g.2.2.1 0, 8, .inl t_row))] → va_S A s.heap H locs → ∀ (ls : Array Slot), lv_has ls 5 [(0, .ref ((a_t 0))), (2, .int v2), (3, .int v3)] → k37 t_row t_wide t_lost v2 v3 = some (o, o_t_row, o_t_wide, o_t_lost) → W p l e ⟨2, 0, 0, 49⟩ s m args below meth c H locs 0 0 Q (F0 m 37 ls [])) (n : Nat) (t_row : Nat → Int32) (t_wide : Int32) (t_lost : Int32) (v2 : Int32) (v3 : Int32) (v4 : Int32) (H : Heap) (locs : List Loc), va_P g.2.1 vwCl [((a_t 0), .inr (7, [.ref (a_t 1), .ref (a_t 2), .int t_acted, .ref (a_t 4), .ref (a_t 5), .ref (a_t 6), .ref (a_t 7), .ref (a_t 8), .ref (a_t 9), .int t_taped, .int t_faultKind, .int t_faultPlace, .int t_at, .int t_begin, .int t_token, .int t_value, .int t_bad, .ref (a_t 18), .ref (a_t 19), .ref (a_t 20), .int t_wide, .int t_lost, .ref (a_t 23), .long t_det, .ref (a_t 25), .int t_mask, .int t_mode, .int t_wanted, .int t_orders, .int t_foundAt, .long t_foundBy, .ref (a_t 32), .ref (a_t 33), .int t_unlikes, .ref (a_t 35), .ref (a_t 36)])), ((a_t 1), .inl (g.2.2.1 0, 27, .inl t_mem)), ((a_t 20), .inl (g.2.2.1 0, 8, .inl t_row))] H → va_D A [((a_t 0), .inr (7, [.ref (a_t 1), .ref (a_t 2), .int t_acted, .ref (a_t 4), .ref (a_t 5), .ref (a_t 6), .ref (a_t 7), .ref (a_t 8), .ref (a_t 9), .int t_taped, .int t_faultKind, .int t_faultPlace, .int t_at, .int t_begin, .int t_token, .int t_value, .int t_bad, .ref (a_t 18), .ref (a_t 19), .ref (a_t 20), .int t_wide, .int t_lost, .ref (a_t 23), .long t_det, .ref (a_t 25), .int t_mask, .int t_mode, .int t_wanted, .int t_orders, .int t_foundAt, .long t_foundBy, .ref (a_t 32), .ref (a_t 33), .int t_unlikes, .ref (a_t 35), .ref (a_t 36)])), ((a_t 1), .inl (g.2.2.1 0, 27, .inl t_mem)), ((a_t 20), .inl (g.2.2.1 0, 8, .inl t_row))] → va_S A s.heap H locs → ∀ (ls : Array Slot), lv_has ls 5 [(0, .ref ((a_t 0))), (2, .int v2), (3, .int v3), (4, .int v4)] → fX8_run_48 k37 n t_row t_wide t_lost v2 v3 v4 = some (o, o_t_row, o_t_wide, o_t_lost) → W p l e ⟨2, 0, 0, 49⟩ s m args below meth c H locs 0 0 Q (F0 m 48 ls []) := by
    intro k37 hk37 n
    induction n with
    | zero => intro t_row t_wide t_lost v2 v3 v4 H locs hP hD hS ls hl h; cases (fX8_run_48_z k37 t_row t_wide t_lost v2 v3 v4).symm.trans h
    | succ n ih =>
    intro t_row t_wide t_lost v2 v3 v4 H locs hP hD hS ls hl h
    have h := (fX8_run_48_s k37 n t_row t_wide t_lost v2 v3 v4).symm.trans h
    have hG := hGk hS
    refine lv_iload_n hx hb dX8_run_48 rfl (lv_at hl 2 rfl) ?_
    refine lv_iload hx hb dX8_run_49 (lv_at hl 3 rfl) ?_
    refine lv_iadd hx hb dX8_run_51 ?_
    refine lv_aload_n hx hb dX8_run_52 rfl (lv_at hl 0 rfl) ?_
    refine xa_get (C := RX8) (T := TX8) (N := 36) cx hG hP 0 rfl rfl uX8 20 (by decide) lf_X8_206 rfl dX8_run_53 ?_
    refine lv_icmp_ge (tgt := 87) hx hb dX8_run_56 (by decide) (fun c16 => ?_) (fun c16 => ?_)
    · have h := itp c16 h
      exact w87 _ hk37 t_row t_wide t_lost v2 v3 v4 _ _ hP hD hS _ (lv_sub hl [0, 1, 2, 3] rfl) h
    · have h := itn c16 h
      refine lv_aload_n hx hb dX8_run_59 rfl (lv_at hl 0 rfl) ?_
      refine xa_get (C := RX8) (T := TX8) (N := 36) cx hG hP 0 rfl rfl uX8 19 (by decide) lf_X8_57 rfl dX8_run_60 ?_
      refine lv_iload_n hx hb dX8_run_63 rfl (lv_at hl 2 rfl) ?_
      refine lv_iload hx hb dX8_run_64 (lv_at hl 3 rfl) ?_
      refine lv_iadd hx hb dX8_run_66 ?_
      obtain ⟨hi17, h⟩ := chk_out h
      refine xa_iald cx hG hP 2 rfl hi17 rfl dX8_run_67 ?_
      refine lv_iconst (v := 4) hx hb dX8_run_68 (by decide) ?_
      refine xv_irem hx hb dX8_run_69 (by decide) ?_
      refine lv_aload_n hx hb dX8_run_70 rfl (lv_at hl 0 rfl) ?_
      refine xa_get (C := RX8) (T := TX8) (N := 36) cx hG hP 0 rfl rfl uX8 19 (by decide) lf_X8_57 rfl dX8_run_71 ?_
      refine lv_iload_n hx hb dX8_run_74 rfl (lv_at hl 2 rfl) ?_
      obtain ⟨hi18, h⟩ := chk_out h
      refine xa_iald cx hG hP 2 rfl hi18 rfl dX8_run_75 ?_
      refine lv_iconst (v := 4) hx hb dX8_run_76 (by decide) ?_
      refine xv_irem hx hb dX8_run_77 (by decide) ?_
      refine lv_icmp_ne (tgt := 87) hx hb dX8_run_78 (by decide) (fun c19 => ?_) (fun c19 => ?_)
      · have h := itn c19 h
        exact w87 _ hk37 t_row t_wide t_lost v2 v3 v4 _ _ hP hD hS _ (lv_sub hl [0, 1, 2, 3] rfl) h
      · have h := itp c19 h
        refine lv_iinc (v := v4 + 1) (lv' := [(4, .int (v4 + 1)), (0, .ref ((a_t 0))), (2, .int v2), (3, .int v3)]) hx hb dX8_run_81 hl (k := 3) rfl rfl (by decide) rfl (fun ls hl => ?_)
        refine lv_goto (tgt := 48) hx hb dX8_run_84 (by decide) ?_
        exact ih t_row t_wide t_lost v2 v3 (v4 + 1) _ _ hP hD hS _ (lv_sub hl [1, 2, 3, 0] rfl) h
  have w37 : ∀ (n : Nat) (t_row : Nat → Int32) (t_wide : Int32) (t_lost : Int32) (v2 : Int32) (v3 : Int32) (H : Heap) (locs : List Loc), va_P g.2.1 vwCl [((a_t 0), .inr (7, [.ref (a_t 1), .ref (a_t 2), .int t_acted, .ref (a_t 4), .ref (a_t 5), .ref (a_t 6), .ref (a_t 7), .ref (a_t 8), .ref (a_t 9), .int t_taped, .int t_faultKind, .int t_faultPlace, .int t_at, .int t_begin, .int t_token, .int t_value, .int t_bad, .ref (a_t 18), .ref (a_t 19), .ref (a_t 20), .int t_wide, .int t_lost, .ref (a_t 23), .long t_det, .ref (a_t 25), .int t_mask, .int t_mode, .int t_wanted, .int t_orders, .int t_foundAt, .long t_foundBy, .ref (a_t 32), .ref (a_t 33), .int t_unlikes, .ref (a_t 35), .ref (a_t 36)])), ((a_t 1), .inl (g.2.2.1 0, 27, .inl t_mem)), ((a_t 20), .inl (g.2.2.1 0, 8, .inl t_row))] H → va_D A [((a_t 0), .inr (7, [.ref (a_t 1), .ref (a_t 2), .int t_acted, .ref (a_t 4), .ref (a_t 5), .ref (a_t 6), .ref (a_t 7), .ref (a_t 8), .ref (a_t 9), .int t_taped, .int t_faultKind, .int t_faultPlace, .int t_at, .int t_begin, .int t_token, .int t_value, .int t_bad, .ref (a_t 18), .ref (a_t 19), .ref (a_t 20), .int t_wide, .int t_lost, .ref (a_t 23), .long t_det, .ref (a_t 25), .int t_mask, .int t_mode, .int t_wanted, .int t_orders, .int t_foundAt, .long t_foundBy, .ref (a_t 32), .ref (a_t 33), .int t_unlikes, .ref (a_t 35), .ref (a_t 36)])), ((a_t 1), .inl (g.2.2.1 0, 27, .inl t_mem)), ((a_t 20), .inl (g.2.2.1 0, 8, .inl t_row))] → va_S A s.heap H locs → ∀ (ls : Array Slot), lv_has ls 5 [(0, .ref ((a_t 0))), (2, .int v2), (3, .int v3)] → fX8_run_37  n t_row t_wide t_lost v2 v3 = some (o, o_t_row, o_t_wide, o_t_lost) → W p l e ⟨2, 0, 0, 49⟩ s m args below meth c H locs 0 0 Q (F0 m 37 ls []) := by
    intro n
    induction n with
    | zero => intro t_row t_wide t_lost v2 v3 H locs hP hD hS ls hl h; cases (fX8_run_37_z  t_row t_wide t_lost v2 v3).symm.trans h
    | succ n ih =>
    intro t_row t_wide t_lost v2 v3 H locs hP hD hS ls hl h
    have h := (fX8_run_37_s  n t_row t_wide t_lost v2 v3).symm.trans h
    have hG := hGk hS
    refine lv_iload_n hx hb dX8_run_37 rfl (lv_at hl 2 rfl) ?_
    refine lv_aload_n hx hb dX8_run_38 rfl (lv_at hl 0 rfl) ?_
    refine xa_get (C := RX8) (T := TX8) (N := 36) cx hG hP 0 rfl rfl uX8 20 (by decide) lf_X8_206 rfl dX8_run_39 ?_
    refine lv_icmp_ge (tgt := 101) hx hb dX8_run_42 (by decide) (fun c15 => ?_) (fun c15 => ?_)
    · have h := itp c15 h
      refine lv_iconst (v := -1) hx hb dX8_run_101 (by decide) ?_
      exact hrt (fun _ => 0) _ _ ((-1)) t_row t_wide t_lost _ _ dX8_run_102 h (hP.sub [0, 1, 2] rfl) (hD.sub [0, 1, 2] (by decide) rfl) hS
    · have h := itn c15 h
      refine lv_iconst (v := 1) hx hb dX8_run_45 (by decide) ?_
      refine lv_istore (lv' := [(4, .int (1)), (0, .ref ((a_t 0))), (2, .int v2), (3, .int v3)]) hx hb dX8_run_46 hl (by decide) rfl (fun ls hl => ?_)
      exact w48 _ ih FU t_row t_wide t_lost v2 v3 1 _ _ hP hD hS _ (lv_sub hl [1, 2, 3, 0] rfl) h
  unfold fX8_run at h
  refine lv_aload_n hx hb dX8_run_0 rfl (lv_at hl 0 rfl) ?_
  obtain ⟨r1, hr2, h⟩ := bnd h
  refine ro_z (runV (As := []) (rest := []) cx hl.1 (ctX8_is l g a_t t_acted t_taped t_faultKind t_faultPlace t_at t_begin t_token t_value t_bad t_wide t_lost t_det t_mask t_mode t_wanted t_orders t_foundAt t_foundBy t_unlikes t_mem r1 hr2) kmX8_is kvX8_is lm_X8_236 ⟨rfl, rfl⟩ ⟨Nat.le_of_ble_eq_true rfl, Nat.le_of_ble_eq_true rfl⟩ (roV (q0 := 0) (ci := 7) hG (hP.sub [0, 1] rfl) hP rfl rfl) rfl rfl (Nat.le_of_ble_eq_true rfl) dX8_run_1 ⟨Nat.le_of_ble_eq_true rfl, Nat.le_of_ble_eq_true rfl⟩) (fun hz3 => ?_)
  refine lv_if_eq (tgt := 17) hx hb dX8_run_4 (by decide) (fun c4 => ?_) (fun c4 => ?_)
  · have h := itp c4 h
    refine lv_bipush (v := -2) hx hb dX8_run_17 (by decide) ?_
    exact hrt (fun _ => 0) _ _ ((-2)) t_row t_wide t_lost _ _ dX8_run_19 h (hP.sub [0, 1, 2] rfl) (hD.sub [0, 1, 2] (by decide) rfl) hS
  · have h := itn c4 h
    refine lv_iload_n hx hb dX8_run_7 rfl (lv_at hl 1 rfl) ?_
    refine lv_i2l (v := v1.toInt64) hx hb dX8_run_8 rfl ?_
    refine lv_lconst (v := 0) hx hb dX8_run_9 (by decide) ?_
    refine lv_lconst (v := 1) hx hb dX8_run_10 (by decide) ?_
    refine ro_z (runS (As := [.long v1.toInt64, .long (0), .long (1)]) (rest := []) cx hl.1 (ctX8_in l g v1.toInt64 (0) (1) (fX8_in v1.toInt64 0 1) rfl) kmX8_in ksX8_in lm_X8_83 ⟨rfl, rfl⟩ ⟨Nat.le_of_ble_eq_true rfl, Nat.le_of_ble_eq_true rfl⟩ (roS hG (hP.sub [] rfl)) rfl rfl (Nat.le_of_ble_eq_true rfl) dX8_run_11 ⟨Nat.le_of_ble_eq_true rfl, Nat.le_of_ble_eq_true rfl⟩) (fun hz5 => ?_)
    refine lv_if_ne (tgt := 20) hx hb dX8_run_14 (by decide) (fun c6 => ?_) (fun c6 => ?_)
    · have h := itn c6 h
      refine lv_aload_n hx hb dX8_run_20 rfl (lv_at hl 0 rfl) ?_
      obtain ⟨w8, w9, w10, hr7, h⟩ := ob3_out h
      refine rw_v (WN := fun u11 => [((a_t 0), .inr (7, [.ref (a_t 1), .ref (a_t 2), .int t_acted, .ref (a_t 4), .ref (a_t 5), .ref (a_t 6), .ref (a_t 7), .ref (a_t 8), .ref (a_t 9), .int t_taped, .int t_faultKind, .int t_faultPlace, .int t_at, .int t_begin, .int t_token, .int t_value, .int t_bad, .ref (a_t 18), .ref (a_t 19), .ref (a_t 20), .int w9, .int w10, .ref (a_t 23), .long t_det, .ref (a_t 25), .int t_mask, .int t_mode, .int t_wanted, .int t_orders, .int t_foundAt, .long t_foundBy, .ref (a_t 32), .ref (a_t 33), .int t_unlikes, .ref (a_t 35), .ref (a_t 36)])), ((a_t 1), .inl (g.2.2.1 0, 27, .inl t_mem)), ((a_t 20), .inl (g.2.2.1 0, 8, .inl w8))]) (wr := []) (runV (As := []) (rest := []) cx hl.1 (ctX8_laysPlate l g s.heap.size a_t t_acted t_taped t_faultKind t_faultPlace t_at t_begin t_token t_value t_bad t_wide t_lost t_det t_mask t_mode t_wanted t_orders t_foundAt t_foundBy t_unlikes t_mem t_row w8 w9 w10 hr7) kmX8_laysPlate kvX8_laysPlate lm_X8_243 ⟨rfl, rfl⟩ ⟨Nat.le_of_ble_eq_true rfl, Nat.le_of_ble_eq_true rfl⟩ (rwV (q0 := 0) (ci := 7) hG (hP.sub [0, 1, 2] rfl) (hD.sub [0, 1, 2] (by decide) rfl) hAb hb0 hS hP rfl rfl) rfl rfl (Nat.le_of_ble_eq_true rfl) dX8_run_21 ⟨Nat.le_of_ble_eq_true rfl, Nat.le_of_ble_eq_true rfl⟩) hP hD hS hA [0, 1, 2] [] rfl rfl (by decide) (by decide) (fun _ => rfl) (fun u11 H locs hP hD hS => ?_)
      have hG := hGk hS
      refine lv_aload_n hx hb dX8_run_24 rfl (lv_at hl 0 rfl) ?_
      obtain ⟨r12, hr13, h⟩ := bnd h
      refine ro_i (runV (As := []) (rest := []) cx hl.1 (ctX8_longestRun l g a_t t_acted t_taped t_faultKind t_faultPlace t_at t_begin t_token t_value t_bad w9 w10 t_det t_mask t_mode t_wanted t_orders t_foundAt t_foundBy t_unlikes w8 r12 hr13) kmX8_longestRun kvX8_longestRun lm_X8_251 ⟨rfl, rfl⟩ ⟨Nat.le_of_ble_eq_true rfl, Nat.le_of_ble_eq_true rfl⟩ (roV (q0 := 0) (ci := 7) hG (hP.sub [0, 2] rfl) hP rfl rfl) rfl rfl (Nat.le_of_ble_eq_true rfl) dX8_run_25 ⟨Nat.le_of_ble_eq_true rfl, Nat.le_of_ble_eq_true rfl⟩) ?_
      refine lv_istore_n (lv' := [(2, .int r12), (0, .ref ((a_t 0))), (1, .int v1)]) hx hb dX8_run_28 rfl hl (by decide) rfl (fun ls hl => ?_)
      refine lv_iload_n hx hb dX8_run_29 rfl (lv_at hl 2 rfl) ?_
      refine lv_if_ne (tgt := 35) hx hb dX8_run_30 (by decide) (fun c14 => ?_) (fun c14 => ?_)
      · have h := itn c14 h
        refine lv_iconst (v := 0) hx hb dX8_run_35 (by decide) ?_
        refine lv_istore_n (lv' := [(3, .int (0)), (2, .int r12), (0, .ref ((a_t 0))), (1, .int v1)]) hx hb dX8_run_36 rfl hl (by decide) rfl (fun ls hl => ?_)
        exact w37 FU w8 w9 w10 r12 0 _ _ hP hD hS _ (lv_sub hl [2, 1, 0] rfl) h
      · have h := itp c14 h
        refine lv_iload_n hx hb dX8_run_33 rfl (lv_at hl 0 rfl) ?_
        exact hrt (fun _ => 0) _ _ r12 w8 w9 w10 _ _ dX8_run_34 h (hP.sub [0, 1, 2] rfl) (hD.sub [0, 1, 2] (by decide) rfl) hS
    · have h := itp c6 h
      refine lv_bipush (v := -2) hx hb dX8_run_17 (by decide) ?_
      exact hrt (fun _ => 0) _ _ ((-2)) t_row t_wide t_lost _ _ dX8_run_19 h (hP.sub [0, 1, 2] rfl) (hD.sub [0, 1, 2] (by decide) rfl) hS
-- X8_likes
theorem dX8_likes_0 : decode cX8_likes 0 = .ok (.aload_n 0, 1) := by decide +kernel
theorem dX8_likes_1 : decode cX8_likes 1 = .ok (.invokevirtual 243, 3) := by decide +kernel
theorem dX8_likes_4 : decode cX8_likes 4 = .ok (.aload_n 0, 1) := by decide +kernel
theorem dX8_likes_5 : decode cX8_likes 5 = .ok (.invokevirtual 236, 3) := by decide +kernel
theorem dX8_likes_8 : decode cX8_likes 8 = .ok (.ifCond .eq 10, 3) := by decide +kernel
theorem dX8_likes_11 : decode cX8_likes 11 = .ok (.aload_n 0, 1) := by decide +kernel
theorem dX8_likes_12 : decode cX8_likes 12 = .ok (.invokevirtual 254, 3) := by decide +kernel
theorem dX8_likes_15 : decode cX8_likes 15 = .ok (.goto 5, 3) := by decide +kernel
theorem dX8_likes_18 : decode cX8_likes 18 = .ok (.bipush (-2), 2) := by decide +kernel
theorem dX8_likes_20 : decode cX8_likes 20 = .ok (.ireturn, 1) := by decide +kernel
noncomputable def fX8_likes  (t_mem : Nat → Int32) (t_row : Nat → Int32) (t_wide : Int32) (t_lost : Int32) : Option (Int32 × (Nat → Int32) × Int32 × Int32) := ob3 (fX8_laysPlate t_mem t_row t_wide t_lost) fun w2 w3 w4 => (fX8_is t_mem).bind fun r6 => (if r6 = 0 then some ((-2), w2, w3, w4) else (fX8_likesHere w2 w3).bind fun r10 => some (r10, w2, w3, w4))
set_option maxHeartbeats 4000000 in
set_option maxRecDepth 100000 in
theorem ctX8_likes (l : Launch) (g : GT) (sz : Nat) (a_t : Nat → Nat) (t_acted : Int32) (t_taped : Int32) (t_faultKind : Int32) (t_faultPlace : Int32) (t_at : Int32) (t_begin : Int32) (t_token : Int32) (t_value : Int32) (t_bad : Int32) (t_wide : Int32) (t_lost : Int32) (t_det : Int64) (t_mask : Int32) (t_mode : Int32) (t_wanted : Int32) (t_orders : Int32) (t_foundAt : Int32) (t_foundBy : Int64) (t_unlikes : Int32) (t_mem : Nat → Int32) (t_row : Nat → Int32) (o : Int32) (o_t_row : Nat → Int32) (o_t_wide : Int32) (o_t_lost : Int32) (h : fX8_likes t_mem t_row t_wide t_lost = some (o, o_t_row, o_t_wide, o_t_lost)) : Met l yX8_likes (Cond.code yX8_likes cX8_likes 1 (some .int) :: Tw) ⟨1, 0, 0, 22⟩ (va_Pc [.ref ((a_t 0))] (rwB g [((a_t 0), .inr (7, [.ref (a_t 1), .ref (a_t 2), .int t_acted, .ref (a_t 4), .ref (a_t 5), .ref (a_t 6), .ref (a_t 7), .ref (a_t 8), .ref (a_t 9), .int t_taped, .int t_faultKind, .int t_faultPlace, .int t_at, .int t_begin, .int t_token, .int t_value, .int t_bad, .ref (a_t 18), .ref (a_t 19), .ref (a_t 20), .int t_wide, .int t_lost, .ref (a_t 23), .long t_det, .ref (a_t 25), .int t_mask, .int t_mode, .int t_wanted, .int t_orders, .int t_foundAt, .long t_foundBy, .ref (a_t 32), .ref (a_t 33), .int t_unlikes, .ref (a_t 35), .ref (a_t 36)])), ((a_t 1), .inl (g.2.2.1 0, 27, .inl t_mem)), ((a_t 20), .inl (g.2.2.1 0, 8, .inl t_row))] sz)) (va_Qi (fun x (_ : Nat → Nat) => x = o) (fun u => rwE g (va_A [((a_t 0), .inr (7, [.ref (a_t 1), .ref (a_t 2), .int t_acted, .ref (a_t 4), .ref (a_t 5), .ref (a_t 6), .ref (a_t 7), .ref (a_t 8), .ref (a_t 9), .int t_taped, .int t_faultKind, .int t_faultPlace, .int t_at, .int t_begin, .int t_token, .int t_value, .int t_bad, .ref (a_t 18), .ref (a_t 19), .ref (a_t 20), .int t_wide, .int t_lost, .ref (a_t 23), .long t_det, .ref (a_t 25), .int t_mask, .int t_mode, .int t_wanted, .int t_orders, .int t_foundAt, .long t_foundBy, .ref (a_t 32), .ref (a_t 33), .int t_unlikes, .ref (a_t 35), .ref (a_t 36)])), ((a_t 1), .inl (g.2.2.1 0, 27, .inl t_mem)), ((a_t 20), .inl (g.2.2.1 0, 8, .inl t_row))] sz) [((a_t 0), .inr (7, [.ref (a_t 1), .ref (a_t 2), .int t_acted, .ref (a_t 4), .ref (a_t 5), .ref (a_t 6), .ref (a_t 7), .ref (a_t 8), .ref (a_t 9), .int t_taped, .int t_faultKind, .int t_faultPlace, .int t_at, .int t_begin, .int t_token, .int t_value, .int t_bad, .ref (a_t 18), .ref (a_t 19), .ref (a_t 20), .int o_t_wide, .int o_t_lost, .ref (a_t 23), .long t_det, .ref (a_t 25), .int t_mask, .int t_mode, .int t_wanted, .int t_orders, .int t_foundAt, .long t_foundBy, .ref (a_t 32), .ref (a_t 33), .int t_unlikes, .ref (a_t 35), .ref (a_t 36)])), ((a_t 1), .inl (g.2.2.1 0, 27, .inl t_mem)), ((a_t 20), .inl (g.2.2.1 0, 8, .inl o_t_row))]) (va_A [((a_t 0), .inr (7, [.ref (a_t 1), .ref (a_t 2), .int t_acted, .ref (a_t 4), .ref (a_t 5), .ref (a_t 6), .ref (a_t 7), .ref (a_t 8), .ref (a_t 9), .int t_taped, .int t_faultKind, .int t_faultPlace, .int t_at, .int t_begin, .int t_token, .int t_value, .int t_bad, .ref (a_t 18), .ref (a_t 19), .ref (a_t 20), .int t_wide, .int t_lost, .ref (a_t 23), .long t_det, .ref (a_t 25), .int t_mask, .int t_mode, .int t_wanted, .int t_orders, .int t_foundAt, .long t_foundBy, .ref (a_t 32), .ref (a_t 33), .int t_unlikes, .ref (a_t 35), .ref (a_t 36)])), ((a_t 1), .inl (g.2.2.1 0, 27, .inl t_mem)), ((a_t 20), .inl (g.2.2.1 0, 8, .inl t_row))] sz)) 0 0 (va_A [((a_t 0), .inr (7, [.ref (a_t 1), .ref (a_t 2), .int t_acted, .ref (a_t 4), .ref (a_t 5), .ref (a_t 6), .ref (a_t 7), .ref (a_t 8), .ref (a_t 9), .int t_taped, .int t_faultKind, .int t_faultPlace, .int t_at, .int t_begin, .int t_token, .int t_value, .int t_bad, .ref (a_t 18), .ref (a_t 19), .ref (a_t 20), .int t_wide, .int t_lost, .ref (a_t 23), .long t_det, .ref (a_t 25), .int t_mask, .int t_mode, .int t_wanted, .int t_orders, .int t_foundAt, .long t_foundBy, .ref (a_t 32), .ref (a_t 33), .int t_unlikes, .ref (a_t 35), .ref (a_t 36)])), ((a_t 1), .inl (g.2.2.1 0, 27, .inl t_mem)), ((a_t 20), .inl (g.2.2.1 0, 8, .inl t_row))] sz) := by
  refine rw_meti (by decide) (Nat.le_of_ble_eq_true rfl) (lv0 := [(0, .ref ((a_t 0)))]) rfl ?_
  intro p e s m args below meth c ls Q A cx hret hG hAb hb0 hA hP hD hl
  have hx := cx.1
  have hb := cx.2.1
  have hG0 := hG
  have hGk : ∀ {H : Heap} {locs : List Loc}, va_S A s.heap H locs → GE g s H := fun hS => hG0.keptS hAb hS
  have hSb : ∀ {H : Heap} {locs : List Loc}, va_S A s.heap H locs → va_S (fun a => g.1 ≤ a) s.heap H locs := fun hS => ⟨hS.1, fun q h1 h2 => hS.2.1 q h1 (fun z => h2 (hAb q z)), fun l hl => hAb _ (hS.2.2 l hl)⟩
  have hS : va_S A s.heap s.heap [] := va_S.rf
  have hrt : ∀ (u : Nat → Nat) (pc : Nat) (ls : Array Slot) (v : Int32) (x_t_row : Nat → Int32) (x_t_wide : Int32) (x_t_lost : Int32) (H : Heap) (locs : List Loc), decode cX8_likes pc = .ok (.ireturn, 1) → some (v, x_t_row, x_t_wide, x_t_lost) = some (o, o_t_row, o_t_wide, o_t_lost) → va_P g.2.1 vwCl [((a_t 0), .inr (7, [.ref (a_t 1), .ref (a_t 2), .int t_acted, .ref (a_t 4), .ref (a_t 5), .ref (a_t 6), .ref (a_t 7), .ref (a_t 8), .ref (a_t 9), .int t_taped, .int t_faultKind, .int t_faultPlace, .int t_at, .int t_begin, .int t_token, .int t_value, .int t_bad, .ref (a_t 18), .ref (a_t 19), .ref (a_t 20), .int x_t_wide, .int x_t_lost, .ref (a_t 23), .long t_det, .ref (a_t 25), .int t_mask, .int t_mode, .int t_wanted, .int t_orders, .int t_foundAt, .long t_foundBy, .ref (a_t 32), .ref (a_t 33), .int t_unlikes, .ref (a_t 35), .ref (a_t 36)])), ((a_t 1), .inl (g.2.2.1 0, 27, .inl t_mem)), ((a_t 20), .inl (g.2.2.1 0, 8, .inl x_t_row))] H → va_D A [((a_t 0), .inr (7, [.ref (a_t 1), .ref (a_t 2), .int t_acted, .ref (a_t 4), .ref (a_t 5), .ref (a_t 6), .ref (a_t 7), .ref (a_t 8), .ref (a_t 9), .int t_taped, .int t_faultKind, .int t_faultPlace, .int t_at, .int t_begin, .int t_token, .int t_value, .int t_bad, .ref (a_t 18), .ref (a_t 19), .ref (a_t 20), .int x_t_wide, .int x_t_lost, .ref (a_t 23), .long t_det, .ref (a_t 25), .int t_mask, .int t_mode, .int t_wanted, .int t_orders, .int t_foundAt, .long t_foundBy, .ref (a_t 32), .ref (a_t 33), .int t_unlikes, .ref (a_t 35), .ref (a_t 36)])), ((a_t 1), .inl (g.2.2.1 0, 27, .inl t_mem)), ((a_t 20), .inl (g.2.2.1 0, 8, .inl x_t_row))] → va_S A s.heap H locs → W p l e ⟨1, 0, 0, 22⟩ s m args below meth c H locs 0 0 Q (F0 m pc ls [.int v]) := by
    intro u pc ls v x_t_row x_t_wide x_t_lost H locs hd h hP hD hS
    cases h
    exact hret u _ _ _ _ _ hd rfl hP hD hS
  unfold fX8_likes at h
  refine lv_aload_n hx hb dX8_likes_0 rfl (lv_at hl 0 rfl) ?_
  obtain ⟨w2, w3, w4, hr1, h⟩ := ob3_out h
  refine rw_v (WN := fun u5 => [((a_t 0), .inr (7, [.ref (a_t 1), .ref (a_t 2), .int t_acted, .ref (a_t 4), .ref (a_t 5), .ref (a_t 6), .ref (a_t 7), .ref (a_t 8), .ref (a_t 9), .int t_taped, .int t_faultKind, .int t_faultPlace, .int t_at, .int t_begin, .int t_token, .int t_value, .int t_bad, .ref (a_t 18), .ref (a_t 19), .ref (a_t 20), .int w3, .int w4, .ref (a_t 23), .long t_det, .ref (a_t 25), .int t_mask, .int t_mode, .int t_wanted, .int t_orders, .int t_foundAt, .long t_foundBy, .ref (a_t 32), .ref (a_t 33), .int t_unlikes, .ref (a_t 35), .ref (a_t 36)])), ((a_t 1), .inl (g.2.2.1 0, 27, .inl t_mem)), ((a_t 20), .inl (g.2.2.1 0, 8, .inl w2))]) (wr := []) (runV (As := []) (rest := []) cx hl.1 (ctX8_laysPlate l g s.heap.size a_t t_acted t_taped t_faultKind t_faultPlace t_at t_begin t_token t_value t_bad t_wide t_lost t_det t_mask t_mode t_wanted t_orders t_foundAt t_foundBy t_unlikes t_mem t_row w2 w3 w4 hr1) kmX8_laysPlate kvX8_laysPlate lm_X8_243 ⟨rfl, rfl⟩ ⟨Nat.le_of_ble_eq_true rfl, Nat.le_of_ble_eq_true rfl⟩ (rwV (q0 := 0) (ci := 7) hG (hP.sub [0, 1, 2] rfl) (hD.sub [0, 1, 2] (by decide) rfl) hAb hb0 hS hP rfl rfl) rfl rfl (Nat.le_of_ble_eq_true rfl) dX8_likes_1 ⟨Nat.le_of_ble_eq_true rfl, Nat.le_of_ble_eq_true rfl⟩) hP hD hS hA [0, 1, 2] [] rfl rfl (by decide) (by decide) (fun _ => rfl) (fun u5 H locs hP hD hS => ?_)
  have hG := hGk hS
  refine lv_aload_n hx hb dX8_likes_4 rfl (lv_at hl 0 rfl) ?_
  obtain ⟨r6, hr7, h⟩ := bnd h
  refine ro_z (runV (As := []) (rest := []) cx hl.1 (ctX8_is l g a_t t_acted t_taped t_faultKind t_faultPlace t_at t_begin t_token t_value t_bad w3 w4 t_det t_mask t_mode t_wanted t_orders t_foundAt t_foundBy t_unlikes t_mem r6 hr7) kmX8_is kvX8_is lm_X8_236 ⟨rfl, rfl⟩ ⟨Nat.le_of_ble_eq_true rfl, Nat.le_of_ble_eq_true rfl⟩ (roV (q0 := 0) (ci := 7) hG (hP.sub [0, 1] rfl) hP rfl rfl) rfl rfl (Nat.le_of_ble_eq_true rfl) dX8_likes_5 ⟨Nat.le_of_ble_eq_true rfl, Nat.le_of_ble_eq_true rfl⟩) (fun hz8 => ?_)
  refine lv_if_eq (tgt := 18) hx hb dX8_likes_8 (by decide) (fun c9 => ?_) (fun c9 => ?_)
  · have h := itp c9 h
    refine lv_bipush (v := -2) hx hb dX8_likes_18 (by decide) ?_
    exact hrt (fun _ => 0) _ _ ((-2)) w2 w3 w4 _ _ dX8_likes_20 h (hP.sub [0, 1, 2] rfl) (hD.sub [0, 1, 2] (by decide) rfl) hS
  · have h := itn c9 h
    refine lv_aload_n hx hb dX8_likes_11 rfl (lv_at hl 0 rfl) ?_
    obtain ⟨r10, hr11, h⟩ := bnd h
    refine ro_i (runV (As := []) (rest := []) cx hl.1 (ctX8_likesHere l g a_t t_acted t_taped t_faultKind t_faultPlace t_at t_begin t_token t_value t_bad w3 w4 t_det t_mask t_mode t_wanted t_orders t_foundAt t_foundBy t_unlikes w2 r10 hr11) kmX8_likesHere kvX8_likesHere lm_X8_254 ⟨rfl, rfl⟩ ⟨Nat.le_of_ble_eq_true rfl, Nat.le_of_ble_eq_true rfl⟩ (roV (q0 := 0) (ci := 7) hG (hP.sub [0, 2] rfl) hP rfl rfl) rfl rfl (Nat.le_of_ble_eq_true rfl) dX8_likes_12 ⟨Nat.le_of_ble_eq_true rfl, Nat.le_of_ble_eq_true rfl⟩) ?_
    refine lv_goto (tgt := 20) hx hb dX8_likes_15 (by decide) ?_
    exact hrt (fun _ => 0) _ _ r10 w2 w3 w4 _ _ dX8_likes_20 h (hP.sub [0, 1, 2] rfl) (hD.sub [0, 1, 2] (by decide) rfl) hS
-- X8_minor
theorem dX8_minor_0 : decode cX8_minor 0 = .ok (.iload_n 2, 1) := by decide +kernel
theorem dX8_minor_1 : decode cX8_minor 1 = .ok (.ifCond .ne 7, 3) := by decide +kernel
theorem dX8_minor_4 : decode cX8_minor 4 = .ok (.iconst 1, 1) := by decide +kernel
theorem dX8_minor_5 : decode cX8_minor 5 = .ok (.goto 4, 3) := by decide +kernel
theorem dX8_minor_8 : decode cX8_minor 8 = .ok (.iconst 0, 1) := by decide +kernel
theorem dX8_minor_9 : decode cX8_minor 9 = .ok (.istore 4, 2) := by decide +kernel
theorem dX8_minor_11 : decode cX8_minor 11 = .ok (.iload_n 2, 1) := by decide +kernel
theorem dX8_minor_12 : decode cX8_minor 12 = .ok (.iconst 2, 1) := by decide +kernel
theorem dX8_minor_13 : decode cX8_minor 13 = .ok (.if_icmp .ne 7, 3) := by decide +kernel
theorem dX8_minor_16 : decode cX8_minor 16 = .ok (.iconst 1, 1) := by decide +kernel
theorem dX8_minor_17 : decode cX8_minor 17 = .ok (.goto 4, 3) := by decide +kernel
theorem dX8_minor_20 : decode cX8_minor 20 = .ok (.iconst 2, 1) := by decide +kernel
theorem dX8_minor_21 : decode cX8_minor 21 = .ok (.istore 5, 2) := by decide +kernel
theorem dX8_minor_23 : decode cX8_minor 23 = .ok (.iload_n 3, 1) := by decide +kernel
theorem dX8_minor_24 : decode cX8_minor 24 = .ok (.ifCond .ne 7, 3) := by decide +kernel
theorem dX8_minor_27 : decode cX8_minor 27 = .ok (.iconst 1, 1) := by decide +kernel
theorem dX8_minor_28 : decode cX8_minor 28 = .ok (.goto 4, 3) := by decide +kernel
theorem dX8_minor_31 : decode cX8_minor 31 = .ok (.iconst 0, 1) := by decide +kernel
theorem dX8_minor_32 : decode cX8_minor 32 = .ok (.istore 6, 2) := by decide +kernel
theorem dX8_minor_34 : decode cX8_minor 34 = .ok (.iload_n 3, 1) := by decide +kernel
theorem dX8_minor_35 : decode cX8_minor 35 = .ok (.iconst 2, 1) := by decide +kernel
theorem dX8_minor_36 : decode cX8_minor 36 = .ok (.if_icmp .ne 7, 3) := by decide +kernel
theorem dX8_minor_39 : decode cX8_minor 39 = .ok (.iconst 1, 1) := by decide +kernel
theorem dX8_minor_40 : decode cX8_minor 40 = .ok (.goto 4, 3) := by decide +kernel
theorem dX8_minor_43 : decode cX8_minor 43 = .ok (.iconst 2, 1) := by decide +kernel
theorem dX8_minor_44 : decode cX8_minor 44 = .ok (.istore 7, 2) := by decide +kernel
theorem dX8_minor_46 : decode cX8_minor 46 = .ok (.aload_n 0, 1) := by decide +kernel
theorem dX8_minor_47 : decode cX8_minor 47 = .ok (.iload_n 1, 1) := by decide +kernel
theorem dX8_minor_48 : decode cX8_minor 48 = .ok (.iload 4, 2) := by decide +kernel
theorem dX8_minor_50 : decode cX8_minor 50 = .ok (.iload 6, 2) := by decide +kernel
theorem dX8_minor_52 : decode cX8_minor 52 = .ok (.invokevirtual 219, 3) := by decide +kernel
theorem dX8_minor_55 : decode cX8_minor 55 = .ok (.aload_n 0, 1) := by decide +kernel
theorem dX8_minor_56 : decode cX8_minor 56 = .ok (.iload_n 1, 1) := by decide +kernel
theorem dX8_minor_57 : decode cX8_minor 57 = .ok (.iload 5, 2) := by decide +kernel
theorem dX8_minor_59 : decode cX8_minor 59 = .ok (.iload 7, 2) := by decide +kernel
theorem dX8_minor_61 : decode cX8_minor 61 = .ok (.invokevirtual 219, 3) := by decide +kernel
theorem dX8_minor_64 : decode cX8_minor 64 = .ok (.lmul, 1) := by decide +kernel
theorem dX8_minor_65 : decode cX8_minor 65 = .ok (.aload_n 0, 1) := by decide +kernel
theorem dX8_minor_66 : decode cX8_minor 66 = .ok (.iload_n 1, 1) := by decide +kernel
theorem dX8_minor_67 : decode cX8_minor 67 = .ok (.iload 4, 2) := by decide +kernel
theorem dX8_minor_69 : decode cX8_minor 69 = .ok (.iload 7, 2) := by decide +kernel
theorem dX8_minor_71 : decode cX8_minor 71 = .ok (.invokevirtual 219, 3) := by decide +kernel
theorem dX8_minor_74 : decode cX8_minor 74 = .ok (.aload_n 0, 1) := by decide +kernel
theorem dX8_minor_75 : decode cX8_minor 75 = .ok (.iload_n 1, 1) := by decide +kernel
theorem dX8_minor_76 : decode cX8_minor 76 = .ok (.iload 5, 2) := by decide +kernel
theorem dX8_minor_78 : decode cX8_minor 78 = .ok (.iload 6, 2) := by decide +kernel
theorem dX8_minor_80 : decode cX8_minor 80 = .ok (.invokevirtual 219, 3) := by decide +kernel
theorem dX8_minor_83 : decode cX8_minor 83 = .ok (.lmul, 1) := by decide +kernel
theorem dX8_minor_84 : decode cX8_minor 84 = .ok (.lsub, 1) := by decide +kernel
theorem dX8_minor_85 : decode cX8_minor 85 = .ok (.lstore 8, 2) := by decide +kernel
theorem dX8_minor_87 : decode cX8_minor 87 = .ok (.iload_n 2, 1) := by decide +kernel
theorem dX8_minor_88 : decode cX8_minor 88 = .ok (.iload_n 3, 1) := by decide +kernel
theorem dX8_minor_89 : decode cX8_minor 89 = .ok (.iadd, 1) := by decide +kernel
theorem dX8_minor_90 : decode cX8_minor 90 = .ok (.iconst 2, 1) := by decide +kernel
theorem dX8_minor_91 : decode cX8_minor 91 = .ok (.irem, 1) := by decide +kernel
theorem dX8_minor_92 : decode cX8_minor 92 = .ok (.ifCond .ne 8, 3) := by decide +kernel
theorem dX8_minor_95 : decode cX8_minor 95 = .ok (.lload 8, 2) := by decide +kernel
theorem dX8_minor_97 : decode cX8_minor 97 = .ok (.goto 6, 3) := by decide +kernel
theorem dX8_minor_100 : decode cX8_minor 100 = .ok (.lload 8, 2) := by decide +kernel
theorem dX8_minor_102 : decode cX8_minor 102 = .ok (.lneg, 1) := by decide +kernel
theorem dX8_minor_103 : decode cX8_minor 103 = .ok (.lreturn, 1) := by decide +kernel
noncomputable def fX8_minor_44  (t_mem : Nat → Int32) (t_row : Nat → Int32) (t_wide : Int32) (t_lost : Int32) (v1 : Int32) (v2 : Int32) (v3 : Int32) (v4 : Int32) (v5 : Int32) (v6 : Int32) (z0 : Int32) : Option (Int64) := (fX8_sum t_mem t_row t_wide t_lost v1 v4 v6).bind fun r5 => (fX8_sum t_mem t_row t_wide t_lost v1 v5 z0).bind fun r7 => (fX8_sum t_mem t_row t_wide t_lost v1 v4 z0).bind fun r9 => (fX8_sum t_mem t_row t_wide t_lost v1 v5 v6).bind fun r11 => (if (irem (v2 + v3) 2) = 0 then some ((r5 * r7) - (r9 * r11)) else some (-((r5 * r7) - (r9 * r11))))
noncomputable def fX8_minor_32  (t_mem : Nat → Int32) (t_row : Nat → Int32) (t_wide : Int32) (t_lost : Int32) (v1 : Int32) (v2 : Int32) (v3 : Int32) (v4 : Int32) (v5 : Int32) (z0 : Int32) : Option (Int64) := (if v3 = 2 then fX8_minor_44 t_mem t_row t_wide t_lost v1 v2 v3 v4 v5 z0 1 else fX8_minor_44 t_mem t_row t_wide t_lost v1 v2 v3 v4 v5 z0 2)
noncomputable def fX8_minor_21  (t_mem : Nat → Int32) (t_row : Nat → Int32) (t_wide : Int32) (t_lost : Int32) (v1 : Int32) (v2 : Int32) (v3 : Int32) (v4 : Int32) (z0 : Int32) : Option (Int64) := (if v3 = 0 then fX8_minor_32 t_mem t_row t_wide t_lost v1 v2 v3 v4 z0 1 else fX8_minor_32 t_mem t_row t_wide t_lost v1 v2 v3 v4 z0 0)
noncomputable def fX8_minor_9  (t_mem : Nat → Int32) (t_row : Nat → Int32) (t_wide : Int32) (t_lost : Int32) (v1 : Int32) (v2 : Int32) (v3 : Int32) (z0 : Int32) : Option (Int64) := (if v2 = 2 then fX8_minor_21 t_mem t_row t_wide t_lost v1 v2 v3 z0 1 else fX8_minor_21 t_mem t_row t_wide t_lost v1 v2 v3 z0 2)
noncomputable def fX8_minor  (t_mem : Nat → Int32) (t_row : Nat → Int32) (t_wide : Int32) (t_lost : Int32) (v1 : Int32) (v2 : Int32) (v3 : Int32) : Option (Int64) := (if v2 = 0 then fX8_minor_9 t_mem t_row t_wide t_lost v1 v2 v3 1 else fX8_minor_9 t_mem t_row t_wide t_lost v1 v2 v3 0)
set_option maxHeartbeats 4000000 in
set_option maxRecDepth 100000 in
theorem ctX8_minor (l : Launch) (g : GT) (a_t : Nat → Nat) (t_acted : Int32) (t_taped : Int32) (t_faultKind : Int32) (t_faultPlace : Int32) (t_at : Int32) (t_begin : Int32) (t_token : Int32) (t_value : Int32) (t_bad : Int32) (t_wide : Int32) (t_lost : Int32) (t_det : Int64) (t_mask : Int32) (t_mode : Int32) (t_wanted : Int32) (t_orders : Int32) (t_foundAt : Int32) (t_foundBy : Int64) (t_unlikes : Int32) (t_mem : Nat → Int32) (t_row : Nat → Int32) (v1 : Int32) (v2 : Int32) (v3 : Int32) (o : Int64) (h : fX8_minor t_mem t_row t_wide t_lost v1 v2 v3 = some o) : Met l yX8_minor (Cond.code yX8_minor cX8_minor 10 (some .long) :: Tw) ⟨2, 0, 0, 56⟩ (va_Pc [.ref ((a_t 0)), .int v1, .int v2, .int v3] (roB g [((a_t 0), .inr (7, [.ref (a_t 1), .ref (a_t 2), .int t_acted, .ref (a_t 4), .ref (a_t 5), .ref (a_t 6), .ref (a_t 7), .ref (a_t 8), .ref (a_t 9), .int t_taped, .int t_faultKind, .int t_faultPlace, .int t_at, .int t_begin, .int t_token, .int t_value, .int t_bad, .ref (a_t 18), .ref (a_t 19), .ref (a_t 20), .int t_wide, .int t_lost, .ref (a_t 23), .long t_det, .ref (a_t 25), .int t_mask, .int t_mode, .int t_wanted, .int t_orders, .int t_foundAt, .long t_foundBy, .ref (a_t 32), .ref (a_t 33), .int t_unlikes, .ref (a_t 35), .ref (a_t 36)])), ((a_t 1), .inl (g.2.2.1 0, 27, .inl t_mem)), ((a_t 20), .inl (g.2.2.1 0, 8, .inl t_row))])) (vp_Sl (fun x => x = o)) 0 0 (fun _ => False) := by
  refine ro_metl (by decide) (Nat.le_of_ble_eq_true rfl) (lv0 := [(0, .ref ((a_t 0))), (1, .int v1), (2, .int v2), (3, .int v3)]) rfl ?_
  intro p e s m args below meth c ls Q cx hret hG hP hl
  have hx := cx.1
  have hb := cx.2.1
  have hG0 := hG
  have w44 : ∀ (v1 : Int32) (v2 : Int32) (v3 : Int32) (v4 : Int32) (v5 : Int32) (v6 : Int32) (z0 : Int32) (ls : Array Slot), lv_has ls 10 [(0, .ref ((a_t 0))), (1, .int v1), (2, .int v2), (3, .int v3), (4, .int v4), (5, .int v5), (6, .int v6)] → fX8_minor_44  t_mem t_row t_wide t_lost v1 v2 v3 v4 v5 v6 z0 = some o → W p l e ⟨2, 0, 0, 56⟩ s m args below meth c s.heap [] 0 0 Q (F0 m 44 ls [.int z0]) := by
    intro v1 v2 v3 v4 v5 v6 z0 ls hl h
    unfold fX8_minor_44 at h
    refine lv_istore (lv' := [(7, .int z0), (0, .ref ((a_t 0))), (1, .int v1), (2, .int v2), (3, .int v3), (4, .int v4), (5, .int v5), (6, .int v6)]) hx hb dX8_minor_44 hl (by decide) rfl (fun ls hl => ?_)
    refine lv_aload_n hx hb dX8_minor_46 rfl (lv_at hl 1 rfl) ?_
    refine lv_iload_n hx hb dX8_minor_47 rfl (lv_at hl 2 rfl) ?_
    refine lv_iload hx hb dX8_minor_48 (lv_at hl 5 rfl) ?_
    refine lv_iload hx hb dX8_minor_50 (lv_at hl 7 rfl) ?_
    obtain ⟨r5, hr6, h⟩ := bnd h
    refine ro_l (runV (As := [.int v1, .int v4, .int v6]) (rest := []) cx hl.1 (ctX8_sum l g a_t t_acted t_taped t_faultKind t_faultPlace t_at t_begin t_token t_value t_bad t_wide t_lost t_det t_mask t_mode t_wanted t_orders t_foundAt t_foundBy t_unlikes t_mem t_row v1 v4 v6 r5 hr6) kmX8_sum kvX8_sum lm_X8_219 ⟨rfl, rfl⟩ ⟨Nat.le_of_ble_eq_true rfl, Nat.le_of_ble_eq_true rfl⟩ (roV (q0 := 0) (ci := 7) hG (hP.sub [0, 1, 2] rfl) hP rfl rfl) rfl rfl (Nat.le_of_ble_eq_true rfl) dX8_minor_52 ⟨Nat.le_of_ble_eq_true rfl, Nat.le_of_ble_eq_true rfl⟩) ?_
    refine lv_aload_n hx hb dX8_minor_55 rfl (lv_at hl 1 rfl) ?_
    refine lv_iload_n hx hb dX8_minor_56 rfl (lv_at hl 2 rfl) ?_
    refine lv_iload hx hb dX8_minor_57 (lv_at hl 6 rfl) ?_
    refine lv_iload hx hb dX8_minor_59 (lv_at hl 0 rfl) ?_
    obtain ⟨r7, hr8, h⟩ := bnd h
    refine ro_l (runV (As := [.int v1, .int v5, .int z0]) (rest := [.long r5]) cx hl.1 (ctX8_sum l g a_t t_acted t_taped t_faultKind t_faultPlace t_at t_begin t_token t_value t_bad t_wide t_lost t_det t_mask t_mode t_wanted t_orders t_foundAt t_foundBy t_unlikes t_mem t_row v1 v5 z0 r7 hr8) kmX8_sum kvX8_sum lm_X8_219 ⟨rfl, rfl⟩ ⟨Nat.le_of_ble_eq_true rfl, Nat.le_of_ble_eq_true rfl⟩ (roV (q0 := 0) (ci := 7) hG (hP.sub [0, 1, 2] rfl) hP rfl rfl) rfl rfl (Nat.le_of_ble_eq_true rfl) dX8_minor_61 ⟨Nat.le_of_ble_eq_true rfl, Nat.le_of_ble_eq_true rfl⟩) ?_
    refine lv_lmul hx hb dX8_minor_64 ?_
    refine lv_aload_n hx hb dX8_minor_65 rfl (lv_at hl 1 rfl) ?_
    refine lv_iload_n hx hb dX8_minor_66 rfl (lv_at hl 2 rfl) ?_
    refine lv_iload hx hb dX8_minor_67 (lv_at hl 5 rfl) ?_
    refine lv_iload hx hb dX8_minor_69 (lv_at hl 0 rfl) ?_
    obtain ⟨r9, hr10, h⟩ := bnd h
    refine ro_l (runV (As := [.int v1, .int v4, .int z0]) (rest := [.long (r5 * r7)]) cx hl.1 (ctX8_sum l g a_t t_acted t_taped t_faultKind t_faultPlace t_at t_begin t_token t_value t_bad t_wide t_lost t_det t_mask t_mode t_wanted t_orders t_foundAt t_foundBy t_unlikes t_mem t_row v1 v4 z0 r9 hr10) kmX8_sum kvX8_sum lm_X8_219 ⟨rfl, rfl⟩ ⟨Nat.le_of_ble_eq_true rfl, Nat.le_of_ble_eq_true rfl⟩ (roV (q0 := 0) (ci := 7) hG (hP.sub [0, 1, 2] rfl) hP rfl rfl) rfl rfl (Nat.le_of_ble_eq_true rfl) dX8_minor_71 ⟨Nat.le_of_ble_eq_true rfl, Nat.le_of_ble_eq_true rfl⟩) ?_
    refine lv_aload_n hx hb dX8_minor_74 rfl (lv_at hl 1 rfl) ?_
    refine lv_iload_n hx hb dX8_minor_75 rfl (lv_at hl 2 rfl) ?_
    refine lv_iload hx hb dX8_minor_76 (lv_at hl 6 rfl) ?_
    refine lv_iload hx hb dX8_minor_78 (lv_at hl 7 rfl) ?_
    obtain ⟨r11, hr12, h⟩ := bnd h
    refine ro_l (runV (As := [.int v1, .int v5, .int v6]) (rest := [.long r9, .long (r5 * r7)]) cx hl.1 (ctX8_sum l g a_t t_acted t_taped t_faultKind t_faultPlace t_at t_begin t_token t_value t_bad t_wide t_lost t_det t_mask t_mode t_wanted t_orders t_foundAt t_foundBy t_unlikes t_mem t_row v1 v5 v6 r11 hr12) kmX8_sum kvX8_sum lm_X8_219 ⟨rfl, rfl⟩ ⟨Nat.le_of_ble_eq_true rfl, Nat.le_of_ble_eq_true rfl⟩ (roV (q0 := 0) (ci := 7) hG (hP.sub [0, 1, 2] rfl) hP rfl rfl) rfl rfl (Nat.le_of_ble_eq_true rfl) dX8_minor_80 ⟨Nat.le_of_ble_eq_true rfl, Nat.le_of_ble_eq_true rfl⟩) ?_
    refine lv_lmul hx hb dX8_minor_83 ?_
    refine lv_lsub hx hb dX8_minor_84 ?_
    refine lv_lstore (lv' := [(8, .long ((r5 * r7) - (r9 * r11))), (7, .int z0), (0, .ref ((a_t 0))), (1, .int v1), (2, .int v2), (3, .int v3), (4, .int v4), (5, .int v5), (6, .int v6)]) hx hb dX8_minor_85 hl (by decide) rfl (fun ls hl => ?_)
    refine lv_iload_n hx hb dX8_minor_87 rfl (lv_at hl 4 rfl) ?_
    refine lv_iload_n hx hb dX8_minor_88 rfl (lv_at hl 5 rfl) ?_
    refine lv_iadd hx hb dX8_minor_89 ?_
    refine lv_iconst (v := 2) hx hb dX8_minor_90 (by decide) ?_
    refine xv_irem hx hb dX8_minor_91 (by decide) ?_
    refine lv_if_ne (tgt := 100) hx hb dX8_minor_92 (by decide) (fun c13 => ?_) (fun c13 => ?_)
    · have h := itn c13 h
      refine lv_lload hx hb dX8_minor_100 (lv_at hl 0 rfl) ?_
      refine lv_lneg hx hb dX8_minor_102 ?_
      exact hret _ _ _ dX8_minor_103 (Option.some.inj h)
    · have h := itp c13 h
      refine lv_lload hx hb dX8_minor_95 (lv_at hl 0 rfl) ?_
      refine lv_goto (tgt := 103) hx hb dX8_minor_97 (by decide) ?_
      exact hret _ _ _ dX8_minor_103 (Option.some.inj h)
  have w32 : ∀ (v1 : Int32) (v2 : Int32) (v3 : Int32) (v4 : Int32) (v5 : Int32) (z0 : Int32) (ls : Array Slot), lv_has ls 10 [(0, .ref ((a_t 0))), (1, .int v1), (2, .int v2), (3, .int v3), (4, .int v4), (5, .int v5)] → fX8_minor_32  t_mem t_row t_wide t_lost v1 v2 v3 v4 v5 z0 = some o → W p l e ⟨2, 0, 0, 56⟩ s m args below meth c s.heap [] 0 0 Q (F0 m 32 ls [.int z0]) := by
    intro v1 v2 v3 v4 v5 z0 ls hl h
    unfold fX8_minor_32 at h
    refine lv_istore (lv' := [(6, .int z0), (0, .ref ((a_t 0))), (1, .int v1), (2, .int v2), (3, .int v3), (4, .int v4), (5, .int v5)]) hx hb dX8_minor_32 hl (by decide) rfl (fun ls hl => ?_)
    refine lv_iload_n hx hb dX8_minor_34 rfl (lv_at hl 4 rfl) ?_
    refine lv_iconst (v := 2) hx hb dX8_minor_35 (by decide) ?_
    refine lv_icmp_ne (tgt := 43) hx hb dX8_minor_36 (by decide) (fun c4 => ?_) (fun c4 => ?_)
    · have h := itn c4 h
      refine lv_iconst (v := 2) hx hb dX8_minor_43 (by decide) ?_
      exact w44 v1 v2 v3 v4 v5 z0 2 _ (lv_sub hl [1, 2, 3, 4, 5, 6, 0] rfl) h
    · have h := itp c4 h
      refine lv_iconst (v := 1) hx hb dX8_minor_39 (by decide) ?_
      refine lv_goto (tgt := 44) hx hb dX8_minor_40 (by decide) ?_
      exact w44 v1 v2 v3 v4 v5 z0 1 _ (lv_sub hl [1, 2, 3, 4, 5, 6, 0] rfl) h
  have w21 : ∀ (v1 : Int32) (v2 : Int32) (v3 : Int32) (v4 : Int32) (z0 : Int32) (ls : Array Slot), lv_has ls 10 [(0, .ref ((a_t 0))), (1, .int v1), (2, .int v2), (3, .int v3), (4, .int v4)] → fX8_minor_21  t_mem t_row t_wide t_lost v1 v2 v3 v4 z0 = some o → W p l e ⟨2, 0, 0, 56⟩ s m args below meth c s.heap [] 0 0 Q (F0 m 21 ls [.int z0]) := by
    intro v1 v2 v3 v4 z0 ls hl h
    unfold fX8_minor_21 at h
    refine lv_istore (lv' := [(5, .int z0), (0, .ref ((a_t 0))), (1, .int v1), (2, .int v2), (3, .int v3), (4, .int v4)]) hx hb dX8_minor_21 hl (by decide) rfl (fun ls hl => ?_)
    refine lv_iload_n hx hb dX8_minor_23 rfl (lv_at hl 4 rfl) ?_
    refine lv_if_ne (tgt := 31) hx hb dX8_minor_24 (by decide) (fun c3 => ?_) (fun c3 => ?_)
    · have h := itn c3 h
      refine lv_iconst (v := 0) hx hb dX8_minor_31 (by decide) ?_
      exact w32 v1 v2 v3 v4 z0 0 _ (lv_sub hl [1, 2, 3, 4, 5, 0] rfl) h
    · have h := itp c3 h
      refine lv_iconst (v := 1) hx hb dX8_minor_27 (by decide) ?_
      refine lv_goto (tgt := 32) hx hb dX8_minor_28 (by decide) ?_
      exact w32 v1 v2 v3 v4 z0 1 _ (lv_sub hl [1, 2, 3, 4, 5, 0] rfl) h
  have w9 : ∀ (v1 : Int32) (v2 : Int32) (v3 : Int32) (z0 : Int32) (ls : Array Slot), lv_has ls 10 [(0, .ref ((a_t 0))), (1, .int v1), (2, .int v2), (3, .int v3)] → fX8_minor_9  t_mem t_row t_wide t_lost v1 v2 v3 z0 = some o → W p l e ⟨2, 0, 0, 56⟩ s m args below meth c s.heap [] 0 0 Q (F0 m 9 ls [.int z0]) := by
    intro v1 v2 v3 z0 ls hl h
    unfold fX8_minor_9 at h
    refine lv_istore (lv' := [(4, .int z0), (0, .ref ((a_t 0))), (1, .int v1), (2, .int v2), (3, .int v3)]) hx hb dX8_minor_9 hl (by decide) rfl (fun ls hl => ?_)
    refine lv_iload_n hx hb dX8_minor_11 rfl (lv_at hl 3 rfl) ?_
    refine lv_iconst (v := 2) hx hb dX8_minor_12 (by decide) ?_
    refine lv_icmp_ne (tgt := 20) hx hb dX8_minor_13 (by decide) (fun c2 => ?_) (fun c2 => ?_)
    · have h := itn c2 h
      refine lv_iconst (v := 2) hx hb dX8_minor_20 (by decide) ?_
      exact w21 v1 v2 v3 z0 2 _ (lv_sub hl [1, 2, 3, 4, 0] rfl) h
    · have h := itp c2 h
      refine lv_iconst (v := 1) hx hb dX8_minor_16 (by decide) ?_
      refine lv_goto (tgt := 21) hx hb dX8_minor_17 (by decide) ?_
      exact w21 v1 v2 v3 z0 1 _ (lv_sub hl [1, 2, 3, 4, 0] rfl) h
  unfold fX8_minor at h
  refine lv_iload_n hx hb dX8_minor_0 rfl (lv_at hl 2 rfl) ?_
  refine lv_if_ne (tgt := 8) hx hb dX8_minor_1 (by decide) (fun c1 => ?_) (fun c1 => ?_)
  · have h := itn c1 h
    refine lv_iconst (v := 0) hx hb dX8_minor_8 (by decide) ?_
    exact w9 v1 v2 v3 0 _ (lv_sub hl [0, 1, 2, 3] rfl) h
  · have h := itp c1 h
    refine lv_iconst (v := 1) hx hb dX8_minor_4 (by decide) ?_
    refine lv_goto (tgt := 9) hx hb dX8_minor_5 (by decide) ?_
    exact w9 v1 v2 v3 1 _ (lv_sub hl [0, 1, 2, 3] rfl) h
-- X8_detOf
theorem dX8_detOf_0 : decode cX8_detOf 0 = .ok (.aload_n 0, 1) := by decide +kernel
theorem dX8_detOf_1 : decode cX8_detOf 1 = .ok (.iload_n 1, 1) := by decide +kernel
theorem dX8_detOf_2 : decode cX8_detOf 2 = .ok (.iconst 0, 1) := by decide +kernel
theorem dX8_detOf_3 : decode cX8_detOf 3 = .ok (.iconst 0, 1) := by decide +kernel
theorem dX8_detOf_4 : decode cX8_detOf 4 = .ok (.invokevirtual 219, 3) := by decide +kernel
theorem dX8_detOf_7 : decode cX8_detOf 7 = .ok (.aload_n 0, 1) := by decide +kernel
theorem dX8_detOf_8 : decode cX8_detOf 8 = .ok (.iload_n 1, 1) := by decide +kernel
theorem dX8_detOf_9 : decode cX8_detOf 9 = .ok (.iconst 0, 1) := by decide +kernel
theorem dX8_detOf_10 : decode cX8_detOf 10 = .ok (.iconst 0, 1) := by decide +kernel
theorem dX8_detOf_11 : decode cX8_detOf 11 = .ok (.invokevirtual 257, 3) := by decide +kernel
theorem dX8_detOf_14 : decode cX8_detOf 14 = .ok (.lmul, 1) := by decide +kernel
theorem dX8_detOf_15 : decode cX8_detOf 15 = .ok (.aload_n 0, 1) := by decide +kernel
theorem dX8_detOf_16 : decode cX8_detOf 16 = .ok (.iload_n 1, 1) := by decide +kernel
theorem dX8_detOf_17 : decode cX8_detOf 17 = .ok (.iconst 0, 1) := by decide +kernel
theorem dX8_detOf_18 : decode cX8_detOf 18 = .ok (.iconst 1, 1) := by decide +kernel
theorem dX8_detOf_19 : decode cX8_detOf 19 = .ok (.invokevirtual 219, 3) := by decide +kernel
theorem dX8_detOf_22 : decode cX8_detOf 22 = .ok (.aload_n 0, 1) := by decide +kernel
theorem dX8_detOf_23 : decode cX8_detOf 23 = .ok (.iload_n 1, 1) := by decide +kernel
theorem dX8_detOf_24 : decode cX8_detOf 24 = .ok (.iconst 0, 1) := by decide +kernel
theorem dX8_detOf_25 : decode cX8_detOf 25 = .ok (.iconst 1, 1) := by decide +kernel
theorem dX8_detOf_26 : decode cX8_detOf 26 = .ok (.invokevirtual 257, 3) := by decide +kernel
theorem dX8_detOf_29 : decode cX8_detOf 29 = .ok (.lmul, 1) := by decide +kernel
theorem dX8_detOf_30 : decode cX8_detOf 30 = .ok (.ladd, 1) := by decide +kernel
theorem dX8_detOf_31 : decode cX8_detOf 31 = .ok (.aload_n 0, 1) := by decide +kernel
theorem dX8_detOf_32 : decode cX8_detOf 32 = .ok (.iload_n 1, 1) := by decide +kernel
theorem dX8_detOf_33 : decode cX8_detOf 33 = .ok (.iconst 0, 1) := by decide +kernel
theorem dX8_detOf_34 : decode cX8_detOf 34 = .ok (.iconst 2, 1) := by decide +kernel
theorem dX8_detOf_35 : decode cX8_detOf 35 = .ok (.invokevirtual 219, 3) := by decide +kernel
theorem dX8_detOf_38 : decode cX8_detOf 38 = .ok (.aload_n 0, 1) := by decide +kernel
theorem dX8_detOf_39 : decode cX8_detOf 39 = .ok (.iload_n 1, 1) := by decide +kernel
theorem dX8_detOf_40 : decode cX8_detOf 40 = .ok (.iconst 0, 1) := by decide +kernel
theorem dX8_detOf_41 : decode cX8_detOf 41 = .ok (.iconst 2, 1) := by decide +kernel
theorem dX8_detOf_42 : decode cX8_detOf 42 = .ok (.invokevirtual 257, 3) := by decide +kernel
theorem dX8_detOf_45 : decode cX8_detOf 45 = .ok (.lmul, 1) := by decide +kernel
theorem dX8_detOf_46 : decode cX8_detOf 46 = .ok (.ladd, 1) := by decide +kernel
theorem dX8_detOf_47 : decode cX8_detOf 47 = .ok (.lreturn, 1) := by decide +kernel
noncomputable def fX8_detOf  (t_mem : Nat → Int32) (t_row : Nat → Int32) (t_wide : Int32) (t_lost : Int32) (v1 : Int32) : Option (Int64) := (fX8_sum t_mem t_row t_wide t_lost v1 0 0).bind fun r1 => (fX8_minor t_mem t_row t_wide t_lost v1 0 0).bind fun r3 => (fX8_sum t_mem t_row t_wide t_lost v1 0 1).bind fun r5 => (fX8_minor t_mem t_row t_wide t_lost v1 0 1).bind fun r7 => (fX8_sum t_mem t_row t_wide t_lost v1 0 2).bind fun r9 => (fX8_minor t_mem t_row t_wide t_lost v1 0 2).bind fun r11 => some (((r1 * r3) + (r5 * r7)) + (r9 * r11))
set_option maxHeartbeats 4000000 in
set_option maxRecDepth 100000 in
theorem ctX8_detOf (l : Launch) (g : GT) (a_t : Nat → Nat) (t_acted : Int32) (t_taped : Int32) (t_faultKind : Int32) (t_faultPlace : Int32) (t_at : Int32) (t_begin : Int32) (t_token : Int32) (t_value : Int32) (t_bad : Int32) (t_wide : Int32) (t_lost : Int32) (t_det : Int64) (t_mask : Int32) (t_mode : Int32) (t_wanted : Int32) (t_orders : Int32) (t_foundAt : Int32) (t_foundBy : Int64) (t_unlikes : Int32) (t_mem : Nat → Int32) (t_row : Nat → Int32) (v1 : Int32) (o : Int64) (h : fX8_detOf t_mem t_row t_wide t_lost v1 = some o) : Met l yX8_detOf (Cond.code yX8_detOf cX8_detOf 2 (some .long) :: Tw) ⟨3, 0, 0, 85⟩ (va_Pc [.ref ((a_t 0)), .int v1] (roB g [((a_t 0), .inr (7, [.ref (a_t 1), .ref (a_t 2), .int t_acted, .ref (a_t 4), .ref (a_t 5), .ref (a_t 6), .ref (a_t 7), .ref (a_t 8), .ref (a_t 9), .int t_taped, .int t_faultKind, .int t_faultPlace, .int t_at, .int t_begin, .int t_token, .int t_value, .int t_bad, .ref (a_t 18), .ref (a_t 19), .ref (a_t 20), .int t_wide, .int t_lost, .ref (a_t 23), .long t_det, .ref (a_t 25), .int t_mask, .int t_mode, .int t_wanted, .int t_orders, .int t_foundAt, .long t_foundBy, .ref (a_t 32), .ref (a_t 33), .int t_unlikes, .ref (a_t 35), .ref (a_t 36)])), ((a_t 1), .inl (g.2.2.1 0, 27, .inl t_mem)), ((a_t 20), .inl (g.2.2.1 0, 8, .inl t_row))])) (vp_Sl (fun x => x = o)) 0 0 (fun _ => False) := by
  refine ro_metl (by decide) (Nat.le_of_ble_eq_true rfl) (lv0 := [(0, .ref ((a_t 0))), (1, .int v1)]) rfl ?_
  intro p e s m args below meth c ls Q cx hret hG hP hl
  have hx := cx.1
  have hb := cx.2.1
  have hG0 := hG
  unfold fX8_detOf at h
  refine lv_aload_n hx hb dX8_detOf_0 rfl (lv_at hl 0 rfl) ?_
  refine lv_iload_n hx hb dX8_detOf_1 rfl (lv_at hl 1 rfl) ?_
  refine lv_iconst (v := 0) hx hb dX8_detOf_2 (by decide) ?_
  refine lv_iconst (v := 0) hx hb dX8_detOf_3 (by decide) ?_
  obtain ⟨r1, hr2, h⟩ := bnd h
  refine ro_l (runV (As := [.int v1, .int (0), .int (0)]) (rest := []) cx hl.1 (ctX8_sum l g a_t t_acted t_taped t_faultKind t_faultPlace t_at t_begin t_token t_value t_bad t_wide t_lost t_det t_mask t_mode t_wanted t_orders t_foundAt t_foundBy t_unlikes t_mem t_row v1 (0) (0) r1 hr2) kmX8_sum kvX8_sum lm_X8_219 ⟨rfl, rfl⟩ ⟨Nat.le_of_ble_eq_true rfl, Nat.le_of_ble_eq_true rfl⟩ (roV (q0 := 0) (ci := 7) hG (hP.sub [0, 1, 2] rfl) hP rfl rfl) rfl rfl (Nat.le_of_ble_eq_true rfl) dX8_detOf_4 ⟨Nat.le_of_ble_eq_true rfl, Nat.le_of_ble_eq_true rfl⟩) ?_
  refine lv_aload_n hx hb dX8_detOf_7 rfl (lv_at hl 0 rfl) ?_
  refine lv_iload_n hx hb dX8_detOf_8 rfl (lv_at hl 1 rfl) ?_
  refine lv_iconst (v := 0) hx hb dX8_detOf_9 (by decide) ?_
  refine lv_iconst (v := 0) hx hb dX8_detOf_10 (by decide) ?_
  obtain ⟨r3, hr4, h⟩ := bnd h
  refine ro_l (runV (As := [.int v1, .int (0), .int (0)]) (rest := [.long r1]) cx hl.1 (ctX8_minor l g a_t t_acted t_taped t_faultKind t_faultPlace t_at t_begin t_token t_value t_bad t_wide t_lost t_det t_mask t_mode t_wanted t_orders t_foundAt t_foundBy t_unlikes t_mem t_row v1 (0) (0) r3 hr4) kmX8_minor kvX8_minor lm_X8_257 ⟨rfl, rfl⟩ ⟨Nat.le_of_ble_eq_true rfl, Nat.le_of_ble_eq_true rfl⟩ (roV (q0 := 0) (ci := 7) hG (hP.sub [0, 1, 2] rfl) hP rfl rfl) rfl rfl (Nat.le_of_ble_eq_true rfl) dX8_detOf_11 ⟨Nat.le_of_ble_eq_true rfl, Nat.le_of_ble_eq_true rfl⟩) ?_
  refine lv_lmul hx hb dX8_detOf_14 ?_
  refine lv_aload_n hx hb dX8_detOf_15 rfl (lv_at hl 0 rfl) ?_
  refine lv_iload_n hx hb dX8_detOf_16 rfl (lv_at hl 1 rfl) ?_
  refine lv_iconst (v := 0) hx hb dX8_detOf_17 (by decide) ?_
  refine lv_iconst (v := 1) hx hb dX8_detOf_18 (by decide) ?_
  obtain ⟨r5, hr6, h⟩ := bnd h
  refine ro_l (runV (As := [.int v1, .int (0), .int (1)]) (rest := [.long (r1 * r3)]) cx hl.1 (ctX8_sum l g a_t t_acted t_taped t_faultKind t_faultPlace t_at t_begin t_token t_value t_bad t_wide t_lost t_det t_mask t_mode t_wanted t_orders t_foundAt t_foundBy t_unlikes t_mem t_row v1 (0) (1) r5 hr6) kmX8_sum kvX8_sum lm_X8_219 ⟨rfl, rfl⟩ ⟨Nat.le_of_ble_eq_true rfl, Nat.le_of_ble_eq_true rfl⟩ (roV (q0 := 0) (ci := 7) hG (hP.sub [0, 1, 2] rfl) hP rfl rfl) rfl rfl (Nat.le_of_ble_eq_true rfl) dX8_detOf_19 ⟨Nat.le_of_ble_eq_true rfl, Nat.le_of_ble_eq_true rfl⟩) ?_
  refine lv_aload_n hx hb dX8_detOf_22 rfl (lv_at hl 0 rfl) ?_
  refine lv_iload_n hx hb dX8_detOf_23 rfl (lv_at hl 1 rfl) ?_
  refine lv_iconst (v := 0) hx hb dX8_detOf_24 (by decide) ?_
  refine lv_iconst (v := 1) hx hb dX8_detOf_25 (by decide) ?_
  obtain ⟨r7, hr8, h⟩ := bnd h
  refine ro_l (runV (As := [.int v1, .int (0), .int (1)]) (rest := [.long r5, .long (r1 * r3)]) cx hl.1 (ctX8_minor l g a_t t_acted t_taped t_faultKind t_faultPlace t_at t_begin t_token t_value t_bad t_wide t_lost t_det t_mask t_mode t_wanted t_orders t_foundAt t_foundBy t_unlikes t_mem t_row v1 (0) (1) r7 hr8) kmX8_minor kvX8_minor lm_X8_257 ⟨rfl, rfl⟩ ⟨Nat.le_of_ble_eq_true rfl, Nat.le_of_ble_eq_true rfl⟩ (roV (q0 := 0) (ci := 7) hG (hP.sub [0, 1, 2] rfl) hP rfl rfl) rfl rfl (Nat.le_of_ble_eq_true rfl) dX8_detOf_26 ⟨Nat.le_of_ble_eq_true rfl, Nat.le_of_ble_eq_true rfl⟩) ?_
  refine lv_lmul hx hb dX8_detOf_29 ?_
  refine lv_ladd hx hb dX8_detOf_30 ?_
  refine lv_aload_n hx hb dX8_detOf_31 rfl (lv_at hl 0 rfl) ?_
  refine lv_iload_n hx hb dX8_detOf_32 rfl (lv_at hl 1 rfl) ?_
  refine lv_iconst (v := 0) hx hb dX8_detOf_33 (by decide) ?_
  refine lv_iconst (v := 2) hx hb dX8_detOf_34 (by decide) ?_
  obtain ⟨r9, hr10, h⟩ := bnd h
  refine ro_l (runV (As := [.int v1, .int (0), .int (2)]) (rest := [.long ((r1 * r3) + (r5 * r7))]) cx hl.1 (ctX8_sum l g a_t t_acted t_taped t_faultKind t_faultPlace t_at t_begin t_token t_value t_bad t_wide t_lost t_det t_mask t_mode t_wanted t_orders t_foundAt t_foundBy t_unlikes t_mem t_row v1 (0) (2) r9 hr10) kmX8_sum kvX8_sum lm_X8_219 ⟨rfl, rfl⟩ ⟨Nat.le_of_ble_eq_true rfl, Nat.le_of_ble_eq_true rfl⟩ (roV (q0 := 0) (ci := 7) hG (hP.sub [0, 1, 2] rfl) hP rfl rfl) rfl rfl (Nat.le_of_ble_eq_true rfl) dX8_detOf_35 ⟨Nat.le_of_ble_eq_true rfl, Nat.le_of_ble_eq_true rfl⟩) ?_
  refine lv_aload_n hx hb dX8_detOf_38 rfl (lv_at hl 0 rfl) ?_
  refine lv_iload_n hx hb dX8_detOf_39 rfl (lv_at hl 1 rfl) ?_
  refine lv_iconst (v := 0) hx hb dX8_detOf_40 (by decide) ?_
  refine lv_iconst (v := 2) hx hb dX8_detOf_41 (by decide) ?_
  obtain ⟨r11, hr12, h⟩ := bnd h
  refine ro_l (runV (As := [.int v1, .int (0), .int (2)]) (rest := [.long r9, .long ((r1 * r3) + (r5 * r7))]) cx hl.1 (ctX8_minor l g a_t t_acted t_taped t_faultKind t_faultPlace t_at t_begin t_token t_value t_bad t_wide t_lost t_det t_mask t_mode t_wanted t_orders t_foundAt t_foundBy t_unlikes t_mem t_row v1 (0) (2) r11 hr12) kmX8_minor kvX8_minor lm_X8_257 ⟨rfl, rfl⟩ ⟨Nat.le_of_ble_eq_true rfl, Nat.le_of_ble_eq_true rfl⟩ (roV (q0 := 0) (ci := 7) hG (hP.sub [0, 1, 2] rfl) hP rfl rfl) rfl rfl (Nat.le_of_ble_eq_true rfl) dX8_detOf_42 ⟨Nat.le_of_ble_eq_true rfl, Nat.le_of_ble_eq_true rfl⟩) ?_
  refine lv_lmul hx hb dX8_detOf_45 ?_
  refine lv_ladd hx hb dX8_detOf_46 ?_
  exact hret _ _ _ dX8_detOf_47 (Option.some.inj h)
-- X8_laysStrains
theorem dX8_laysStrains_0 : decode cX8_laysStrains 0 = .ok (.aload_n 0, 1) := by decide +kernel
theorem dX8_laysStrains_1 : decode cX8_laysStrains 1 = .ok (.aload_n 0, 1) := by decide +kernel
theorem dX8_laysStrains_2 : decode cX8_laysStrains 2 = .ok (.iload_n 1, 1) := by decide +kernel
theorem dX8_laysStrains_3 : decode cX8_laysStrains 3 = .ok (.invokevirtual 260, 3) := by decide +kernel
theorem dX8_laysStrains_6 : decode cX8_laysStrains 6 = .ok (.putfield 264, 3) := by decide +kernel
theorem dX8_laysStrains_9 : decode cX8_laysStrains 9 = .ok (.iconst 0, 1) := by decide +kernel
theorem dX8_laysStrains_10 : decode cX8_laysStrains 10 = .ok (.istore 8, 2) := by decide +kernel
theorem dX8_laysStrains_12 : decode cX8_laysStrains 12 = .ok (.iload 8, 2) := by decide +kernel
theorem dX8_laysStrains_14 : decode cX8_laysStrains 14 = .ok (.iconst 3, 1) := by decide +kernel
theorem dX8_laysStrains_15 : decode cX8_laysStrains 15 = .ok (.if_icmp .ge 50, 3) := by decide +kernel
theorem dX8_laysStrains_18 : decode cX8_laysStrains 18 = .ok (.aload_n 0, 1) := by decide +kernel
theorem dX8_laysStrains_19 : decode cX8_laysStrains 19 = .ok (.getfield 60, 3) := by decide +kernel
theorem dX8_laysStrains_22 : decode cX8_laysStrains 22 = .ok (.iload 8, 2) := by decide +kernel
theorem dX8_laysStrains_24 : decode cX8_laysStrains 24 = .ok (.aload_n 0, 1) := by decide +kernel
theorem dX8_laysStrains_25 : decode cX8_laysStrains 25 = .ok (.iload_n 1, 1) := by decide +kernel
theorem dX8_laysStrains_26 : decode cX8_laysStrains 26 = .ok (.iload 8, 2) := by decide +kernel
theorem dX8_laysStrains_28 : decode cX8_laysStrains 28 = .ok (.iconst 0, 1) := by decide +kernel
theorem dX8_laysStrains_29 : decode cX8_laysStrains 29 = .ok (.invokevirtual 257, 3) := by decide +kernel
theorem dX8_laysStrains_32 : decode cX8_laysStrains 32 = .ok (.lload_n 2, 1) := by decide +kernel
theorem dX8_laysStrains_33 : decode cX8_laysStrains 33 = .ok (.lmul, 1) := by decide +kernel
theorem dX8_laysStrains_34 : decode cX8_laysStrains 34 = .ok (.aload_n 0, 1) := by decide +kernel
theorem dX8_laysStrains_35 : decode cX8_laysStrains 35 = .ok (.iload_n 1, 1) := by decide +kernel
theorem dX8_laysStrains_36 : decode cX8_laysStrains 36 = .ok (.iload 8, 2) := by decide +kernel
theorem dX8_laysStrains_38 : decode cX8_laysStrains 38 = .ok (.iconst 1, 1) := by decide +kernel
theorem dX8_laysStrains_39 : decode cX8_laysStrains 39 = .ok (.invokevirtual 257, 3) := by decide +kernel
theorem dX8_laysStrains_42 : decode cX8_laysStrains 42 = .ok (.lload 4, 2) := by decide +kernel
theorem dX8_laysStrains_44 : decode cX8_laysStrains 44 = .ok (.lmul, 1) := by decide +kernel
theorem dX8_laysStrains_45 : decode cX8_laysStrains 45 = .ok (.ladd, 1) := by decide +kernel
theorem dX8_laysStrains_46 : decode cX8_laysStrains 46 = .ok (.aload_n 0, 1) := by decide +kernel
theorem dX8_laysStrains_47 : decode cX8_laysStrains 47 = .ok (.iload_n 1, 1) := by decide +kernel
theorem dX8_laysStrains_48 : decode cX8_laysStrains 48 = .ok (.iload 8, 2) := by decide +kernel
theorem dX8_laysStrains_50 : decode cX8_laysStrains 50 = .ok (.iconst 2, 1) := by decide +kernel
theorem dX8_laysStrains_51 : decode cX8_laysStrains 51 = .ok (.invokevirtual 257, 3) := by decide +kernel
theorem dX8_laysStrains_54 : decode cX8_laysStrains 54 = .ok (.lload 6, 2) := by decide +kernel
theorem dX8_laysStrains_56 : decode cX8_laysStrains 56 = .ok (.lmul, 1) := by decide +kernel
theorem dX8_laysStrains_57 : decode cX8_laysStrains 57 = .ok (.ladd, 1) := by decide +kernel
theorem dX8_laysStrains_58 : decode cX8_laysStrains 58 = .ok (.lastore, 1) := by decide +kernel
theorem dX8_laysStrains_59 : decode cX8_laysStrains 59 = .ok (.iinc 8 1, 3) := by decide +kernel
theorem dX8_laysStrains_62 : decode cX8_laysStrains 62 = .ok (.goto (-50), 3) := by decide +kernel
theorem dX8_laysStrains_65 : decode cX8_laysStrains 65 = .ok (.return_, 1) := by decide +kernel
noncomputable def fX8_laysStrains_12  : Nat → (Nat → Int32) → (Nat → Int32) → Int32 → Int32 → (Nat → Int64) → Int64 → Int32 → Int64 → Int64 → Int64 → Int32 → Option ((Nat → Int64) × Int64)
  | 0, _, _, _, _, _, _, _, _, _, _, _ => none
  | n + 1, t_mem, t_row, t_wide, t_lost, t_strain, t_det, v1, v2, v4, v6, v8 => (if 3 ≤ v8 then some (t_strain, t_det) else (fX8_minor t_mem t_row t_wide t_lost v1 v8 0).bind fun r4 => (fX8_minor t_mem t_row t_wide t_lost v1 v8 1).bind fun r6 => (fX8_minor t_mem t_row t_wide t_lost v1 v8 2).bind fun r8 => chk 3 v8 (fX8_laysStrains_12 n t_mem t_row t_wide t_lost (vp_updL t_strain v8.toNatClampNeg (((r4 * v2) + (r6 * v4)) + (r8 * v6))) t_det v1 v2 v4 v6 (v8 + 1)))
theorem fX8_laysStrains_12_z  (t_mem : Nat → Int32) (t_row : Nat → Int32) (t_wide : Int32) (t_lost : Int32) (t_strain : Nat → Int64) (t_det : Int64) (v1 : Int32) (v2 : Int64) (v4 : Int64) (v6 : Int64) (v8 : Int32) : fX8_laysStrains_12  0 t_mem t_row t_wide t_lost t_strain t_det v1 v2 v4 v6 v8 = none := rfl
theorem fX8_laysStrains_12_s  (n : Nat) (t_mem : Nat → Int32) (t_row : Nat → Int32) (t_wide : Int32) (t_lost : Int32) (t_strain : Nat → Int64) (t_det : Int64) (v1 : Int32) (v2 : Int64) (v4 : Int64) (v6 : Int64) (v8 : Int32) : fX8_laysStrains_12  (n + 1) t_mem t_row t_wide t_lost t_strain t_det v1 v2 v4 v6 v8 = (if 3 ≤ v8 then some (t_strain, t_det) else (fX8_minor t_mem t_row t_wide t_lost v1 v8 0).bind fun r4 => (fX8_minor t_mem t_row t_wide t_lost v1 v8 1).bind fun r6 => (fX8_minor t_mem t_row t_wide t_lost v1 v8 2).bind fun r8 => chk 3 v8 (fX8_laysStrains_12 n t_mem t_row t_wide t_lost (vp_updL t_strain v8.toNatClampNeg (((r4 * v2) + (r6 * v4)) + (r8 * v6))) t_det v1 v2 v4 v6 (v8 + 1))) := rfl
noncomputable def fX8_laysStrains  (t_mem : Nat → Int32) (t_row : Nat → Int32) (t_wide : Int32) (t_lost : Int32) (t_strain : Nat → Int64) (t_det : Int64) (v1 : Int32) (v2 : Int64) (v4 : Int64) (v6 : Int64) : Option ((Nat → Int64) × Int64) := (fX8_detOf t_mem t_row t_wide t_lost v1).bind fun r1 => fX8_laysStrains_12 FU t_mem t_row t_wide t_lost t_strain r1 v1 v2 v4 v6 0
set_option maxHeartbeats 4000000 in
set_option maxRecDepth 100000 in
theorem ctX8_laysStrains (l : Launch) (g : GT) (sz : Nat) (a_t : Nat → Nat) (t_acted : Int32) (t_taped : Int32) (t_faultKind : Int32) (t_faultPlace : Int32) (t_at : Int32) (t_begin : Int32) (t_token : Int32) (t_value : Int32) (t_bad : Int32) (t_wide : Int32) (t_lost : Int32) (t_det : Int64) (t_mask : Int32) (t_mode : Int32) (t_wanted : Int32) (t_orders : Int32) (t_foundAt : Int32) (t_foundBy : Int64) (t_unlikes : Int32) (t_mem : Nat → Int32) (t_row : Nat → Int32) (t_strain : Nat → Int64) (v1 : Int32) (v2 : Int64) (v4 : Int64) (v6 : Int64) (o_t_strain : Nat → Int64) (o_t_det : Int64) (h : fX8_laysStrains t_mem t_row t_wide t_lost t_strain t_det v1 v2 v4 v6 = some (o_t_strain, o_t_det)) : Met l yX8_laysStrains (Cond.code yX8_laysStrains cX8_laysStrains 9 none :: Tw) ⟨4, 0, 0, 106⟩ (va_Pc [.ref ((a_t 0)), .int v1, .long v2, .long v4, .long v6] (rwB g [((a_t 0), .inr (7, [.ref (a_t 1), .ref (a_t 2), .int t_acted, .ref (a_t 4), .ref (a_t 5), .ref (a_t 6), .ref (a_t 7), .ref (a_t 8), .ref (a_t 9), .int t_taped, .int t_faultKind, .int t_faultPlace, .int t_at, .int t_begin, .int t_token, .int t_value, .int t_bad, .ref (a_t 18), .ref (a_t 19), .ref (a_t 20), .int t_wide, .int t_lost, .ref (a_t 23), .long t_det, .ref (a_t 25), .int t_mask, .int t_mode, .int t_wanted, .int t_orders, .int t_foundAt, .long t_foundBy, .ref (a_t 32), .ref (a_t 33), .int t_unlikes, .ref (a_t 35), .ref (a_t 36)])), ((a_t 1), .inl (g.2.2.1 0, 27, .inl t_mem)), ((a_t 20), .inl (g.2.2.1 0, 8, .inl t_row)), ((a_t 23), .inl (g.2.2.1 1, 3, .inr (.inl t_strain)))] sz)) (va_Qv (fun (_ : Nat → Nat) => True) (fun u => rwE g (va_A [((a_t 0), .inr (7, [.ref (a_t 1), .ref (a_t 2), .int t_acted, .ref (a_t 4), .ref (a_t 5), .ref (a_t 6), .ref (a_t 7), .ref (a_t 8), .ref (a_t 9), .int t_taped, .int t_faultKind, .int t_faultPlace, .int t_at, .int t_begin, .int t_token, .int t_value, .int t_bad, .ref (a_t 18), .ref (a_t 19), .ref (a_t 20), .int t_wide, .int t_lost, .ref (a_t 23), .long t_det, .ref (a_t 25), .int t_mask, .int t_mode, .int t_wanted, .int t_orders, .int t_foundAt, .long t_foundBy, .ref (a_t 32), .ref (a_t 33), .int t_unlikes, .ref (a_t 35), .ref (a_t 36)])), ((a_t 1), .inl (g.2.2.1 0, 27, .inl t_mem)), ((a_t 20), .inl (g.2.2.1 0, 8, .inl t_row)), ((a_t 23), .inl (g.2.2.1 1, 3, .inr (.inl t_strain)))] sz) [((a_t 0), .inr (7, [.ref (a_t 1), .ref (a_t 2), .int t_acted, .ref (a_t 4), .ref (a_t 5), .ref (a_t 6), .ref (a_t 7), .ref (a_t 8), .ref (a_t 9), .int t_taped, .int t_faultKind, .int t_faultPlace, .int t_at, .int t_begin, .int t_token, .int t_value, .int t_bad, .ref (a_t 18), .ref (a_t 19), .ref (a_t 20), .int t_wide, .int t_lost, .ref (a_t 23), .long o_t_det, .ref (a_t 25), .int t_mask, .int t_mode, .int t_wanted, .int t_orders, .int t_foundAt, .long t_foundBy, .ref (a_t 32), .ref (a_t 33), .int t_unlikes, .ref (a_t 35), .ref (a_t 36)])), ((a_t 1), .inl (g.2.2.1 0, 27, .inl t_mem)), ((a_t 20), .inl (g.2.2.1 0, 8, .inl t_row)), ((a_t 23), .inl (g.2.2.1 1, 3, .inr (.inl o_t_strain)))]) (va_A [((a_t 0), .inr (7, [.ref (a_t 1), .ref (a_t 2), .int t_acted, .ref (a_t 4), .ref (a_t 5), .ref (a_t 6), .ref (a_t 7), .ref (a_t 8), .ref (a_t 9), .int t_taped, .int t_faultKind, .int t_faultPlace, .int t_at, .int t_begin, .int t_token, .int t_value, .int t_bad, .ref (a_t 18), .ref (a_t 19), .ref (a_t 20), .int t_wide, .int t_lost, .ref (a_t 23), .long t_det, .ref (a_t 25), .int t_mask, .int t_mode, .int t_wanted, .int t_orders, .int t_foundAt, .long t_foundBy, .ref (a_t 32), .ref (a_t 33), .int t_unlikes, .ref (a_t 35), .ref (a_t 36)])), ((a_t 1), .inl (g.2.2.1 0, 27, .inl t_mem)), ((a_t 20), .inl (g.2.2.1 0, 8, .inl t_row)), ((a_t 23), .inl (g.2.2.1 1, 3, .inr (.inl t_strain)))] sz)) 0 0 (va_A [((a_t 0), .inr (7, [.ref (a_t 1), .ref (a_t 2), .int t_acted, .ref (a_t 4), .ref (a_t 5), .ref (a_t 6), .ref (a_t 7), .ref (a_t 8), .ref (a_t 9), .int t_taped, .int t_faultKind, .int t_faultPlace, .int t_at, .int t_begin, .int t_token, .int t_value, .int t_bad, .ref (a_t 18), .ref (a_t 19), .ref (a_t 20), .int t_wide, .int t_lost, .ref (a_t 23), .long t_det, .ref (a_t 25), .int t_mask, .int t_mode, .int t_wanted, .int t_orders, .int t_foundAt, .long t_foundBy, .ref (a_t 32), .ref (a_t 33), .int t_unlikes, .ref (a_t 35), .ref (a_t 36)])), ((a_t 1), .inl (g.2.2.1 0, 27, .inl t_mem)), ((a_t 20), .inl (g.2.2.1 0, 8, .inl t_row)), ((a_t 23), .inl (g.2.2.1 1, 3, .inr (.inl t_strain)))] sz) := by
  refine rw_metv (by decide) (Nat.le_of_ble_eq_true rfl) (lv0 := [(0, .ref ((a_t 0))), (1, .int v1), (2, .long v2), (4, .long v4), (6, .long v6)]) rfl ?_
  intro p e s m args below meth c ls Q A cx hret hG hAb hb0 hA hP hD hl
  have hx := cx.1
  have hb := cx.2.1
  have hG0 := hG
  have hGk : ∀ {H : Heap} {locs : List Loc}, va_S A s.heap H locs → GE g s H := fun hS => hG0.keptS hAb hS
  have hSb : ∀ {H : Heap} {locs : List Loc}, va_S A s.heap H locs → va_S (fun a => g.1 ≤ a) s.heap H locs := fun hS => ⟨hS.1, fun q h1 h2 => hS.2.1 q h1 (fun z => h2 (hAb q z)), fun l hl => hAb _ (hS.2.2 l hl)⟩
  have hS : va_S A s.heap s.heap [] := va_S.rf
  have hrt : ∀ (u : Nat → Nat) (pc : Nat) (ls : Array Slot) (x_t_strain : Nat → Int64) (x_t_det : Int64) (H : Heap) (locs : List Loc), decode cX8_laysStrains pc = .ok (.return_, 1) → some (x_t_strain, x_t_det) = some (o_t_strain, o_t_det) → va_P g.2.1 vwCl [((a_t 0), .inr (7, [.ref (a_t 1), .ref (a_t 2), .int t_acted, .ref (a_t 4), .ref (a_t 5), .ref (a_t 6), .ref (a_t 7), .ref (a_t 8), .ref (a_t 9), .int t_taped, .int t_faultKind, .int t_faultPlace, .int t_at, .int t_begin, .int t_token, .int t_value, .int t_bad, .ref (a_t 18), .ref (a_t 19), .ref (a_t 20), .int t_wide, .int t_lost, .ref (a_t 23), .long x_t_det, .ref (a_t 25), .int t_mask, .int t_mode, .int t_wanted, .int t_orders, .int t_foundAt, .long t_foundBy, .ref (a_t 32), .ref (a_t 33), .int t_unlikes, .ref (a_t 35), .ref (a_t 36)])), ((a_t 1), .inl (g.2.2.1 0, 27, .inl t_mem)), ((a_t 20), .inl (g.2.2.1 0, 8, .inl t_row)), ((a_t 23), .inl (g.2.2.1 1, 3, .inr (.inl x_t_strain)))] H → va_D A [((a_t 0), .inr (7, [.ref (a_t 1), .ref (a_t 2), .int t_acted, .ref (a_t 4), .ref (a_t 5), .ref (a_t 6), .ref (a_t 7), .ref (a_t 8), .ref (a_t 9), .int t_taped, .int t_faultKind, .int t_faultPlace, .int t_at, .int t_begin, .int t_token, .int t_value, .int t_bad, .ref (a_t 18), .ref (a_t 19), .ref (a_t 20), .int t_wide, .int t_lost, .ref (a_t 23), .long x_t_det, .ref (a_t 25), .int t_mask, .int t_mode, .int t_wanted, .int t_orders, .int t_foundAt, .long t_foundBy, .ref (a_t 32), .ref (a_t 33), .int t_unlikes, .ref (a_t 35), .ref (a_t 36)])), ((a_t 1), .inl (g.2.2.1 0, 27, .inl t_mem)), ((a_t 20), .inl (g.2.2.1 0, 8, .inl t_row)), ((a_t 23), .inl (g.2.2.1 1, 3, .inr (.inl x_t_strain)))] → va_S A s.heap H locs → W p l e ⟨4, 0, 0, 106⟩ s m args below meth c H locs 0 0 Q (F0 m pc ls []) := by
    intro u pc ls x_t_strain x_t_det H locs hd h hP hD hS
    cases h
    exact hret u _ _ _ _ hd hP hD hS
  have w12 : ∀ (n : Nat) (t_strain : Nat → Int64) (t_det : Int64) (v1 : Int32) (v2 : Int64) (v4 : Int64) (v6 : Int64) (v8 : Int32) (H : Heap) (locs : List Loc), va_P g.2.1 vwCl [((a_t 0), .inr (7, [.ref (a_t 1), .ref (a_t 2), .int t_acted, .ref (a_t 4), .ref (a_t 5), .ref (a_t 6), .ref (a_t 7), .ref (a_t 8), .ref (a_t 9), .int t_taped, .int t_faultKind, .int t_faultPlace, .int t_at, .int t_begin, .int t_token, .int t_value, .int t_bad, .ref (a_t 18), .ref (a_t 19), .ref (a_t 20), .int t_wide, .int t_lost, .ref (a_t 23), .long t_det, .ref (a_t 25), .int t_mask, .int t_mode, .int t_wanted, .int t_orders, .int t_foundAt, .long t_foundBy, .ref (a_t 32), .ref (a_t 33), .int t_unlikes, .ref (a_t 35), .ref (a_t 36)])), ((a_t 1), .inl (g.2.2.1 0, 27, .inl t_mem)), ((a_t 20), .inl (g.2.2.1 0, 8, .inl t_row)), ((a_t 23), .inl (g.2.2.1 1, 3, .inr (.inl t_strain)))] H → va_D A [((a_t 0), .inr (7, [.ref (a_t 1), .ref (a_t 2), .int t_acted, .ref (a_t 4), .ref (a_t 5), .ref (a_t 6), .ref (a_t 7), .ref (a_t 8), .ref (a_t 9), .int t_taped, .int t_faultKind, .int t_faultPlace, .int t_at, .int t_begin, .int t_token, .int t_value, .int t_bad, .ref (a_t 18), .ref (a_t 19), .ref (a_t 20), .int t_wide, .int t_lost, .ref (a_t 23), .long t_det, .ref (a_t 25), .int t_mask, .int t_mode, .int t_wanted, .int t_orders, .int t_foundAt, .long t_foundBy, .ref (a_t 32), .ref (a_t 33), .int t_unlikes, .ref (a_t 35), .ref (a_t 36)])), ((a_t 1), .inl (g.2.2.1 0, 27, .inl t_mem)), ((a_t 20), .inl (g.2.2.1 0, 8, .inl t_row)), ((a_t 23), .inl (g.2.2.1 1, 3, .inr (.inl t_strain)))] → va_S A s.heap H locs → ∀ (ls : Array Slot), lv_has ls 9 [(0, .ref ((a_t 0))), (1, .int v1), (2, .long v2), (4, .long v4), (6, .long v6), (8, .int v8)] → fX8_laysStrains_12  n t_mem t_row t_wide t_lost t_strain t_det v1 v2 v4 v6 v8 = some (o_t_strain, o_t_det) → W p l e ⟨4, 0, 0, 106⟩ s m args below meth c H locs 0 0 Q (F0 m 12 ls []) := by
    intro n
    induction n with
    | zero => intro t_strain t_det v1 v2 v4 v6 v8 H locs hP hD hS ls hl h; cases (fX8_laysStrains_12_z  t_mem t_row t_wide t_lost t_strain t_det v1 v2 v4 v6 v8).symm.trans h
    | succ n ih =>
    intro t_strain t_det v1 v2 v4 v6 v8 H locs hP hD hS ls hl h
    have h := (fX8_laysStrains_12_s  n t_mem t_row t_wide t_lost t_strain t_det v1 v2 v4 v6 v8).symm.trans h
    have hG := hGk hS
    refine lv_iload hx hb dX8_laysStrains_12 (lv_at hl 5 rfl) ?_
    refine lv_iconst (v := 3) hx hb dX8_laysStrains_14 (by decide) ?_
    refine lv_icmp_ge (tgt := 65) hx hb dX8_laysStrains_15 (by decide) (fun c3 => ?_) (fun c3 => ?_)
    · have h := itp c3 h
      exact hrt (fun _ => 0) _ _ t_strain t_det _ _ dX8_laysStrains_65 h (hP.sub [0, 1, 2, 3] rfl) (hD.sub [0, 1, 2, 3] (by decide) rfl) hS
    · have h := itn c3 h
      refine lv_aload_n hx hb dX8_laysStrains_18 rfl (lv_at hl 0 rfl) ?_
      refine xa_get (C := RX8) (T := TX8) (N := 36) cx hG hP 0 rfl rfl uX8 22 (by decide) lf_X8_60 rfl dX8_laysStrains_19 ?_
      refine lv_iload hx hb dX8_laysStrains_22 (lv_at hl 5 rfl) ?_
      refine lv_aload_n hx hb dX8_laysStrains_24 rfl (lv_at hl 0 rfl) ?_
      refine lv_iload_n hx hb dX8_laysStrains_25 rfl (lv_at hl 1 rfl) ?_
      refine lv_iload hx hb dX8_laysStrains_26 (lv_at hl 5 rfl) ?_
      refine lv_iconst (v := 0) hx hb dX8_laysStrains_28 (by decide) ?_
      obtain ⟨r4, hr5, h⟩ := bnd h
      refine ro_l (runV (As := [.int v1, .int v8, .int (0)]) (rest := [.int v8, .ref ((a_t 23))]) cx hl.1 (ctX8_minor l g a_t t_acted t_taped t_faultKind t_faultPlace t_at t_begin t_token t_value t_bad t_wide t_lost t_det t_mask t_mode t_wanted t_orders t_foundAt t_foundBy t_unlikes t_mem t_row v1 v8 (0) r4 hr5) kmX8_minor kvX8_minor lm_X8_257 ⟨rfl, rfl⟩ ⟨Nat.le_of_ble_eq_true rfl, Nat.le_of_ble_eq_true rfl⟩ (roV (q0 := 0) (ci := 7) hG (hP.sub [0, 1, 2] rfl) hP rfl rfl) rfl rfl (Nat.le_of_ble_eq_true rfl) dX8_laysStrains_29 ⟨Nat.le_of_ble_eq_true rfl, Nat.le_of_ble_eq_true rfl⟩) ?_
      refine lv_lload_n hx hb dX8_laysStrains_32 rfl (lv_at hl 2 rfl) ?_
      refine lv_lmul hx hb dX8_laysStrains_33 ?_
      refine lv_aload_n hx hb dX8_laysStrains_34 rfl (lv_at hl 0 rfl) ?_
      refine lv_iload_n hx hb dX8_laysStrains_35 rfl (lv_at hl 1 rfl) ?_
      refine lv_iload hx hb dX8_laysStrains_36 (lv_at hl 5 rfl) ?_
      refine lv_iconst (v := 1) hx hb dX8_laysStrains_38 (by decide) ?_
      obtain ⟨r6, hr7, h⟩ := bnd h
      refine ro_l (runV (As := [.int v1, .int v8, .int (1)]) (rest := [.long (r4 * v2), .int v8, .ref ((a_t 23))]) cx hl.1 (ctX8_minor l g a_t t_acted t_taped t_faultKind t_faultPlace t_at t_begin t_token t_value t_bad t_wide t_lost t_det t_mask t_mode t_wanted t_orders t_foundAt t_foundBy t_unlikes t_mem t_row v1 v8 (1) r6 hr7) kmX8_minor kvX8_minor lm_X8_257 ⟨rfl, rfl⟩ ⟨Nat.le_of_ble_eq_true rfl, Nat.le_of_ble_eq_true rfl⟩ (roV (q0 := 0) (ci := 7) hG (hP.sub [0, 1, 2] rfl) hP rfl rfl) rfl rfl (Nat.le_of_ble_eq_true rfl) dX8_laysStrains_39 ⟨Nat.le_of_ble_eq_true rfl, Nat.le_of_ble_eq_true rfl⟩) ?_
      refine lv_lload hx hb dX8_laysStrains_42 (lv_at hl 3 rfl) ?_
      refine lv_lmul hx hb dX8_laysStrains_44 ?_
      refine lv_ladd hx hb dX8_laysStrains_45 ?_
      refine lv_aload_n hx hb dX8_laysStrains_46 rfl (lv_at hl 0 rfl) ?_
      refine lv_iload_n hx hb dX8_laysStrains_47 rfl (lv_at hl 1 rfl) ?_
      refine lv_iload hx hb dX8_laysStrains_48 (lv_at hl 5 rfl) ?_
      refine lv_iconst (v := 2) hx hb dX8_laysStrains_50 (by decide) ?_
      obtain ⟨r8, hr9, h⟩ := bnd h
      refine ro_l (runV (As := [.int v1, .int v8, .int (2)]) (rest := [.long ((r4 * v2) + (r6 * v4)), .int v8, .ref ((a_t 23))]) cx hl.1 (ctX8_minor l g a_t t_acted t_taped t_faultKind t_faultPlace t_at t_begin t_token t_value t_bad t_wide t_lost t_det t_mask t_mode t_wanted t_orders t_foundAt t_foundBy t_unlikes t_mem t_row v1 v8 (2) r8 hr9) kmX8_minor kvX8_minor lm_X8_257 ⟨rfl, rfl⟩ ⟨Nat.le_of_ble_eq_true rfl, Nat.le_of_ble_eq_true rfl⟩ (roV (q0 := 0) (ci := 7) hG (hP.sub [0, 1, 2] rfl) hP rfl rfl) rfl rfl (Nat.le_of_ble_eq_true rfl) dX8_laysStrains_51 ⟨Nat.le_of_ble_eq_true rfl, Nat.le_of_ble_eq_true rfl⟩) ?_
      refine lv_lload hx hb dX8_laysStrains_54 (lv_at hl 4 rfl) ?_
      refine lv_lmul hx hb dX8_laysStrains_56 ?_
      refine lv_ladd hx hb dX8_laysStrains_57 ?_
      obtain ⟨hi10, h⟩ := chk_out h
      refine xw_last (ws' := [((a_t 0), .inr (7, [.ref (a_t 1), .ref (a_t 2), .int t_acted, .ref (a_t 4), .ref (a_t 5), .ref (a_t 6), .ref (a_t 7), .ref (a_t 8), .ref (a_t 9), .int t_taped, .int t_faultKind, .int t_faultPlace, .int t_at, .int t_begin, .int t_token, .int t_value, .int t_bad, .ref (a_t 18), .ref (a_t 19), .ref (a_t 20), .int t_wide, .int t_lost, .ref (a_t 23), .long t_det, .ref (a_t 25), .int t_mask, .int t_mode, .int t_wanted, .int t_orders, .int t_foundAt, .long t_foundBy, .ref (a_t 32), .ref (a_t 33), .int t_unlikes, .ref (a_t 35), .ref (a_t 36)])), ((a_t 1), .inl (g.2.2.1 0, 27, .inl t_mem)), ((a_t 20), .inl (g.2.2.1 0, 8, .inl t_row)), ((a_t 23), .inl (g.2.2.1 1, 3, .inr (.inl (vp_updL t_strain v8.toNatClampNeg (((r4 * v2) + (r6 * v4)) + (r8 * v6))))))]) (k := v8.toNatClampNeg) cx hG hP hD hS 3 rfl hi10 rfl rfl dX8_laysStrains_58 (fun H locs hP hD hS => ?_)
      have hG := hGk hS
      refine lv_iinc (v := v8 + 1) (lv' := [(8, .int (v8 + 1)), (0, .ref ((a_t 0))), (1, .int v1), (2, .long v2), (4, .long v4), (6, .long v6)]) hx hb dX8_laysStrains_59 hl (k := 5) rfl rfl (by decide) rfl (fun ls hl => ?_)
      refine lv_goto (tgt := 12) hx hb dX8_laysStrains_62 (by decide) ?_
      exact ih (vp_updL t_strain v8.toNatClampNeg (((r4 * v2) + (r6 * v4)) + (r8 * v6))) t_det v1 v2 v4 v6 (v8 + 1) _ _ hP hD hS _ (lv_sub hl [1, 2, 3, 4, 5, 0] rfl) h
  unfold fX8_laysStrains at h
  refine lv_aload_n hx hb dX8_laysStrains_0 rfl (lv_at hl 0 rfl) ?_
  refine lv_aload_n hx hb dX8_laysStrains_1 rfl (lv_at hl 0 rfl) ?_
  refine lv_iload_n hx hb dX8_laysStrains_2 rfl (lv_at hl 1 rfl) ?_
  obtain ⟨r1, hr2, h⟩ := bnd h
  refine ro_l (runV (As := [.int v1]) (rest := [.ref ((a_t 0))]) cx hl.1 (ctX8_detOf l g a_t t_acted t_taped t_faultKind t_faultPlace t_at t_begin t_token t_value t_bad t_wide t_lost t_det t_mask t_mode t_wanted t_orders t_foundAt t_foundBy t_unlikes t_mem t_row v1 r1 hr2) kmX8_detOf kvX8_detOf lm_X8_260 ⟨rfl, rfl⟩ ⟨Nat.le_of_ble_eq_true rfl, Nat.le_of_ble_eq_true rfl⟩ (roV (q0 := 0) (ci := 7) hG (hP.sub [0, 1, 2] rfl) hP rfl rfl) rfl rfl (Nat.le_of_ble_eq_true rfl) dX8_laysStrains_3 ⟨Nat.le_of_ble_eq_true rfl, Nat.le_of_ble_eq_true rfl⟩) ?_
  refine xw_put (C := RX8) (T := TX8) (N := 36) (ty := .long) (v := .long r1) (ws' := [((a_t 0), .inr (7, [.ref (a_t 1), .ref (a_t 2), .int t_acted, .ref (a_t 4), .ref (a_t 5), .ref (a_t 6), .ref (a_t 7), .ref (a_t 8), .ref (a_t 9), .int t_taped, .int t_faultKind, .int t_faultPlace, .int t_at, .int t_begin, .int t_token, .int t_value, .int t_bad, .ref (a_t 18), .ref (a_t 19), .ref (a_t 20), .int t_wide, .int t_lost, .ref (a_t 23), .long r1, .ref (a_t 25), .int t_mask, .int t_mode, .int t_wanted, .int t_orders, .int t_foundAt, .long t_foundBy, .ref (a_t 32), .ref (a_t 33), .int t_unlikes, .ref (a_t 35), .ref (a_t 36)])), ((a_t 1), .inl (g.2.2.1 0, 27, .inl t_mem)), ((a_t 20), .inl (g.2.2.1 0, 8, .inl t_row)), ((a_t 23), .inl (g.2.2.1 1, 3, .inr (.inl t_strain)))]) cx hG hP hD hS 0 rfl rfl uX8 tyX8 tyX8_ok nmX8 23 (by decide) lf_X8_264 rfl (by decide +kernel) rfl rfl (Nat.le_of_ble_eq_true rfl) rfl dX8_laysStrains_6 (fun H locs hP hD hS => ?_)
  have hG := hGk hS
  refine lv_iconst (v := 0) hx hb dX8_laysStrains_9 (by decide) ?_
  refine lv_istore (lv' := [(8, .int (0)), (0, .ref ((a_t 0))), (1, .int v1), (2, .long v2), (4, .long v4), (6, .long v6)]) hx hb dX8_laysStrains_10 hl (by decide) rfl (fun ls hl => ?_)
  exact w12 FU t_strain r1 v1 v2 v4 v6 0 _ _ hP hD hS _ (lv_sub hl [1, 2, 3, 4, 5, 0] rfl) h
-- X8_areLoads
theorem dX8_areLoads_0 : decode cX8_areLoads 0 = .ok (.iload_n 0, 1) := by decide +kernel
theorem dX8_areLoads_1 : decode cX8_areLoads 1 = .ok (.i2l, 1) := by decide +kernel
theorem dX8_areLoads_2 : decode cX8_areLoads 2 = .ok (.ldc2_w 268, 3) := by decide +kernel
theorem dX8_areLoads_5 : decode cX8_areLoads 5 = .ok (.ldc2_w 270, 3) := by decide +kernel
theorem dX8_areLoads_8 : decode cX8_areLoads 8 = .ok (.invokestatic 83, 3) := by decide +kernel
theorem dX8_areLoads_11 : decode cX8_areLoads 11 = .ok (.ifCond .eq 35, 3) := by decide +kernel
theorem dX8_areLoads_14 : decode cX8_areLoads 14 = .ok (.iload_n 1, 1) := by decide +kernel
theorem dX8_areLoads_15 : decode cX8_areLoads 15 = .ok (.i2l, 1) := by decide +kernel
theorem dX8_areLoads_16 : decode cX8_areLoads 16 = .ok (.ldc2_w 268, 3) := by decide +kernel
theorem dX8_areLoads_19 : decode cX8_areLoads 19 = .ok (.ldc2_w 270, 3) := by decide +kernel
theorem dX8_areLoads_22 : decode cX8_areLoads 22 = .ok (.invokestatic 83, 3) := by decide +kernel
theorem dX8_areLoads_25 : decode cX8_areLoads 25 = .ok (.ifCond .eq 21, 3) := by decide +kernel
theorem dX8_areLoads_28 : decode cX8_areLoads 28 = .ok (.iload_n 2, 1) := by decide +kernel
theorem dX8_areLoads_29 : decode cX8_areLoads 29 = .ok (.i2l, 1) := by decide +kernel
theorem dX8_areLoads_30 : decode cX8_areLoads 30 = .ok (.ldc2_w 268, 3) := by decide +kernel
theorem dX8_areLoads_33 : decode cX8_areLoads 33 = .ok (.ldc2_w 270, 3) := by decide +kernel
theorem dX8_areLoads_36 : decode cX8_areLoads 36 = .ok (.invokestatic 83, 3) := by decide +kernel
theorem dX8_areLoads_39 : decode cX8_areLoads 39 = .ok (.ifCond .eq 7, 3) := by decide +kernel
theorem dX8_areLoads_42 : decode cX8_areLoads 42 = .ok (.iconst 1, 1) := by decide +kernel
theorem dX8_areLoads_43 : decode cX8_areLoads 43 = .ok (.goto 4, 3) := by decide +kernel
theorem dX8_areLoads_46 : decode cX8_areLoads 46 = .ok (.iconst 0, 1) := by decide +kernel
theorem dX8_areLoads_47 : decode cX8_areLoads 47 = .ok (.ireturn, 1) := by decide +kernel
noncomputable def fX8_areLoads  (v0 : Int32) (v1 : Int32) (v2 : Int32) : Int32 := (if (fX8_in v0.toInt64 (-999) 999) = 0 then (0) else (if (fX8_in v1.toInt64 (-999) 999) = 0 then (0) else (if (fX8_in v2.toInt64 (-999) 999) = 0 then (0) else (1))))
set_option maxHeartbeats 4000000 in
set_option maxRecDepth 100000 in
theorem ctX8_areLoads (l : Launch) (g : GT) (v0 : Int32) (v1 : Int32) (v2 : Int32) (o : Int32) (h : fX8_areLoads v0 v1 v2 = o) : Met l yX8_areLoads (Cond.code yX8_areLoads cX8_areLoads 3 (some .boolean) :: Tw) ⟨1, 0, 0, 25⟩ (va_Pc [.int v0, .int v1, .int v2] (roB g [])) (vp_Si (fun x => x = o ∧ (x = 0 ∨ x = 1))) 0 0 (fun _ => False) := by
  refine ro_metz (by decide) (Nat.le_of_ble_eq_true rfl) (lv0 := [(0, .int v0), (1, .int v1), (2, .int v2)]) rfl ?_
  intro p e s m args below meth c ls Q cx hret hG hP hl
  have hx := cx.1
  have hb := cx.2.1
  have hG0 := hG
  unfold fX8_areLoads at h
  refine lv_iload_n hx hb dX8_areLoads_0 rfl (lv_at hl 0 rfl) ?_
  refine lv_i2l (v := v0.toInt64) hx hb dX8_areLoads_1 rfl ?_
  refine lv_ldc2 (own := RX8) (v := -999) hx hb cx.2.2.2.1 (cx.2.2.2.2 _ cl_X8_268) dX8_areLoads_2 ?_
  refine lv_ldc2 (own := RX8) (v := 999) hx hb cx.2.2.2.1 (cx.2.2.2.2 _ cl_X8_270) dX8_areLoads_5 ?_
  refine ro_z (runS (As := [.long v0.toInt64, .long (-999), .long (999)]) (rest := []) cx hl.1 (ctX8_in l g v0.toInt64 (-999) (999) (fX8_in v0.toInt64 (-999) 999) rfl) kmX8_in ksX8_in lm_X8_83 ⟨rfl, rfl⟩ ⟨Nat.le_of_ble_eq_true rfl, Nat.le_of_ble_eq_true rfl⟩ (roS hG (hP.sub [] rfl)) rfl rfl (Nat.le_of_ble_eq_true rfl) dX8_areLoads_8 ⟨Nat.le_of_ble_eq_true rfl, Nat.le_of_ble_eq_true rfl⟩) (fun hz1 => ?_)
  refine lv_if_eq (tgt := 46) hx hb dX8_areLoads_11 (by decide) (fun c2 => ?_) (fun c2 => ?_)
  · have h := itp c2 h
    refine lv_iconst (v := 0) hx hb dX8_areLoads_46 (by decide) ?_
    exact hret _ _ _ dX8_areLoads_47 (by decide) h
  · have h := itn c2 h
    refine lv_iload_n hx hb dX8_areLoads_14 rfl (lv_at hl 1 rfl) ?_
    refine lv_i2l (v := v1.toInt64) hx hb dX8_areLoads_15 rfl ?_
    refine lv_ldc2 (own := RX8) (v := -999) hx hb cx.2.2.2.1 (cx.2.2.2.2 _ cl_X8_268) dX8_areLoads_16 ?_
    refine lv_ldc2 (own := RX8) (v := 999) hx hb cx.2.2.2.1 (cx.2.2.2.2 _ cl_X8_270) dX8_areLoads_19 ?_
    refine ro_z (runS (As := [.long v1.toInt64, .long (-999), .long (999)]) (rest := []) cx hl.1 (ctX8_in l g v1.toInt64 (-999) (999) (fX8_in v1.toInt64 (-999) 999) rfl) kmX8_in ksX8_in lm_X8_83 ⟨rfl, rfl⟩ ⟨Nat.le_of_ble_eq_true rfl, Nat.le_of_ble_eq_true rfl⟩ (roS hG (hP.sub [] rfl)) rfl rfl (Nat.le_of_ble_eq_true rfl) dX8_areLoads_22 ⟨Nat.le_of_ble_eq_true rfl, Nat.le_of_ble_eq_true rfl⟩) (fun hz3 => ?_)
    refine lv_if_eq (tgt := 46) hx hb dX8_areLoads_25 (by decide) (fun c4 => ?_) (fun c4 => ?_)
    · have h := itp c4 h
      refine lv_iconst (v := 0) hx hb dX8_areLoads_46 (by decide) ?_
      exact hret _ _ _ dX8_areLoads_47 (by decide) h
    · have h := itn c4 h
      refine lv_iload_n hx hb dX8_areLoads_28 rfl (lv_at hl 2 rfl) ?_
      refine lv_i2l (v := v2.toInt64) hx hb dX8_areLoads_29 rfl ?_
      refine lv_ldc2 (own := RX8) (v := -999) hx hb cx.2.2.2.1 (cx.2.2.2.2 _ cl_X8_268) dX8_areLoads_30 ?_
      refine lv_ldc2 (own := RX8) (v := 999) hx hb cx.2.2.2.1 (cx.2.2.2.2 _ cl_X8_270) dX8_areLoads_33 ?_
      refine ro_z (runS (As := [.long v2.toInt64, .long (-999), .long (999)]) (rest := []) cx hl.1 (ctX8_in l g v2.toInt64 (-999) (999) (fX8_in v2.toInt64 (-999) 999) rfl) kmX8_in ksX8_in lm_X8_83 ⟨rfl, rfl⟩ ⟨Nat.le_of_ble_eq_true rfl, Nat.le_of_ble_eq_true rfl⟩ (roS hG (hP.sub [] rfl)) rfl rfl (Nat.le_of_ble_eq_true rfl) dX8_areLoads_36 ⟨Nat.le_of_ble_eq_true rfl, Nat.le_of_ble_eq_true rfl⟩) (fun hz5 => ?_)
      refine lv_if_eq (tgt := 46) hx hb dX8_areLoads_39 (by decide) (fun c6 => ?_) (fun c6 => ?_)
      · have h := itp c6 h
        refine lv_iconst (v := 0) hx hb dX8_areLoads_46 (by decide) ?_
        exact hret _ _ _ dX8_areLoads_47 (by decide) h
      · have h := itn c6 h
        refine lv_iconst (v := 1) hx hb dX8_areLoads_42 (by decide) ?_
        refine lv_goto (tgt := 47) hx hb dX8_areLoads_43 (by decide) ?_
        exact hret _ _ _ dX8_areLoads_47 (by decide) h
-- X8_strained
theorem dX8_strained_0 : decode cX8_strained 0 = .ok (.aload_n 0, 1) := by decide +kernel
theorem dX8_strained_1 : decode cX8_strained 1 = .ok (.invokevirtual 236, 3) := by decide +kernel
theorem dX8_strained_4 : decode cX8_strained 4 = .ok (.ifCond .eq 37, 3) := by decide +kernel
theorem dX8_strained_7 : decode cX8_strained 7 = .ok (.iload_n 2, 1) := by decide +kernel
theorem dX8_strained_8 : decode cX8_strained 8 = .ok (.iload_n 3, 1) := by decide +kernel
theorem dX8_strained_9 : decode cX8_strained 9 = .ok (.iload 4, 2) := by decide +kernel
theorem dX8_strained_11 : decode cX8_strained 11 = .ok (.invokestatic 272, 3) := by decide +kernel
theorem dX8_strained_14 : decode cX8_strained 14 = .ok (.ifCond .eq 27, 3) := by decide +kernel
theorem dX8_strained_17 : decode cX8_strained 17 = .ok (.iload 5, 2) := by decide +kernel
theorem dX8_strained_19 : decode cX8_strained 19 = .ok (.i2l, 1) := by decide +kernel
theorem dX8_strained_20 : decode cX8_strained 20 = .ok (.lconst 0, 1) := by decide +kernel
theorem dX8_strained_21 : decode cX8_strained 21 = .ok (.ldc2_w 239, 3) := by decide +kernel
theorem dX8_strained_24 : decode cX8_strained 24 = .ok (.invokestatic 83, 3) := by decide +kernel
theorem dX8_strained_27 : decode cX8_strained 27 = .ok (.ifCond .eq 14, 3) := by decide +kernel
theorem dX8_strained_30 : decode cX8_strained 30 = .ok (.iload 6, 2) := by decide +kernel
theorem dX8_strained_32 : decode cX8_strained 32 = .ok (.i2l, 1) := by decide +kernel
theorem dX8_strained_33 : decode cX8_strained 33 = .ok (.lconst 0, 1) := by decide +kernel
theorem dX8_strained_34 : decode cX8_strained 34 = .ok (.lconst 1, 1) := by decide +kernel
theorem dX8_strained_35 : decode cX8_strained 35 = .ok (.invokestatic 83, 3) := by decide +kernel
theorem dX8_strained_38 : decode cX8_strained 38 = .ok (.ifCond .ne 7, 3) := by decide +kernel
theorem dX8_strained_41 : decode cX8_strained 41 = .ok (.ldc2_w 241, 3) := by decide +kernel
theorem dX8_strained_44 : decode cX8_strained 44 = .ok (.lreturn, 1) := by decide +kernel
theorem dX8_strained_45 : decode cX8_strained 45 = .ok (.aload_n 0, 1) := by decide +kernel
theorem dX8_strained_46 : decode cX8_strained 46 = .ok (.invokevirtual 243, 3) := by decide +kernel
theorem dX8_strained_49 : decode cX8_strained 49 = .ok (.aload_n 0, 1) := by decide +kernel
theorem dX8_strained_50 : decode cX8_strained 50 = .ok (.iload_n 1, 1) := by decide +kernel
theorem dX8_strained_51 : decode cX8_strained 51 = .ok (.iload_n 2, 1) := by decide +kernel
theorem dX8_strained_52 : decode cX8_strained 52 = .ok (.i2l, 1) := by decide +kernel
theorem dX8_strained_53 : decode cX8_strained 53 = .ok (.iload_n 3, 1) := by decide +kernel
theorem dX8_strained_54 : decode cX8_strained 54 = .ok (.i2l, 1) := by decide +kernel
theorem dX8_strained_55 : decode cX8_strained 55 = .ok (.iload 4, 2) := by decide +kernel
theorem dX8_strained_57 : decode cX8_strained 57 = .ok (.i2l, 1) := by decide +kernel
theorem dX8_strained_58 : decode cX8_strained 58 = .ok (.invokevirtual 276, 3) := by decide +kernel
theorem dX8_strained_61 : decode cX8_strained 61 = .ok (.aload_n 0, 1) := by decide +kernel
theorem dX8_strained_62 : decode cX8_strained 62 = .ok (.getfield 264, 3) := by decide +kernel
theorem dX8_strained_65 : decode cX8_strained 65 = .ok (.lconst 0, 1) := by decide +kernel
theorem dX8_strained_66 : decode cX8_strained 66 = .ok (.lcmp, 1) := by decide +kernel
theorem dX8_strained_67 : decode cX8_strained 67 = .ok (.ifCond .eq 12, 3) := by decide +kernel
theorem dX8_strained_70 : decode cX8_strained 70 = .ok (.aload_n 0, 1) := by decide +kernel
theorem dX8_strained_71 : decode cX8_strained 71 = .ok (.invokevirtual 226, 3) := by decide +kernel
theorem dX8_strained_74 : decode cX8_strained 74 = .ok (.lconst 0, 1) := by decide +kernel
theorem dX8_strained_75 : decode cX8_strained 75 = .ok (.lcmp, 1) := by decide +kernel
theorem dX8_strained_76 : decode cX8_strained 76 = .ok (.ifCond .eq 7, 3) := by decide +kernel
theorem dX8_strained_79 : decode cX8_strained 79 = .ok (.ldc2_w 280, 3) := by decide +kernel
theorem dX8_strained_82 : decode cX8_strained 82 = .ok (.lreturn, 1) := by decide +kernel
theorem dX8_strained_83 : decode cX8_strained 83 = .ok (.ldc2_w 239, 3) := by decide +kernel
theorem dX8_strained_86 : decode cX8_strained 86 = .ok (.aload_n 0, 1) := by decide +kernel
theorem dX8_strained_87 : decode cX8_strained 87 = .ok (.getfield 60, 3) := by decide +kernel
theorem dX8_strained_90 : decode cX8_strained 90 = .ok (.iload 5, 2) := by decide +kernel
theorem dX8_strained_92 : decode cX8_strained 92 = .ok (.laload, 1) := by decide +kernel
theorem dX8_strained_93 : decode cX8_strained 93 = .ok (.lmul, 1) := by decide +kernel
theorem dX8_strained_94 : decode cX8_strained 94 = .ok (.aload_n 0, 1) := by decide +kernel
theorem dX8_strained_95 : decode cX8_strained 95 = .ok (.getfield 264, 3) := by decide +kernel
theorem dX8_strained_98 : decode cX8_strained 98 = .ok (.iload 6, 2) := by decide +kernel
theorem dX8_strained_100 : decode cX8_strained 100 = .ok (.invokestatic 282, 3) := by decide +kernel
theorem dX8_strained_103 : decode cX8_strained 103 = .ok (.lreturn, 1) := by decide +kernel
noncomputable def fX8_strained  (t_mem : Nat → Int32) (t_row : Nat → Int32) (t_wide : Int32) (t_lost : Int32) (t_strain : Nat → Int64) (t_det : Int64) (v1 : Int32) (v2 : Int32) (v3 : Int32) (v4 : Int32) (v5 : Int32) (v6 : Int32) : Option (Int64 × (Nat → Int32) × Int32 × Int32 × (Nat → Int64) × Int64) := (fX8_is t_mem).bind fun r1 => (if r1 = 0 then some ((-9223372036854775808), t_row, t_wide, t_lost, t_strain, t_det) else (if (fX8_areLoads v2 v3 v4) = 0 then some ((-9223372036854775808), t_row, t_wide, t_lost, t_strain, t_det) else (if (fX8_in v5.toInt64 0 2) = 0 then some ((-9223372036854775808), t_row, t_wide, t_lost, t_strain, t_det) else (if (fX8_in v6.toInt64 0 1) = 0 then some ((-9223372036854775808), t_row, t_wide, t_lost, t_strain, t_det) else ob3 (fX8_laysPlate t_mem t_row t_wide t_lost) fun w12 w13 w14 => ob2 (fX8_laysStrains t_mem w12 w13 w14 t_strain t_det v1 v2.toInt64 v3.toInt64 v4.toInt64) fun w17 w18 => (if (lg_cmp w18 0) = 0 then some ((-9223372036854775807), w12, w13, w14, w17, w18) else (fX8_warpHere t_mem w12 w13 w14).bind fun r21 => (if (lg_cmp r21 0) = 0 then chk 3 v5 ((fX8_part (2 * (w17 v5.toNatClampNeg)) w18 v6).bind fun r25 => some (r25, w12, w13, w14, w17, w18)) else some ((-9223372036854775807), w12, w13, w14, w17, w18)))))))
set_option maxHeartbeats 4000000 in
set_option maxRecDepth 100000 in
theorem ctX8_strained (l : Launch) (g : GT) (sz : Nat) (a_t : Nat → Nat) (t_acted : Int32) (t_taped : Int32) (t_faultKind : Int32) (t_faultPlace : Int32) (t_at : Int32) (t_begin : Int32) (t_token : Int32) (t_value : Int32) (t_bad : Int32) (t_wide : Int32) (t_lost : Int32) (t_det : Int64) (t_mask : Int32) (t_mode : Int32) (t_wanted : Int32) (t_orders : Int32) (t_foundAt : Int32) (t_foundBy : Int64) (t_unlikes : Int32) (t_mem : Nat → Int32) (t_row : Nat → Int32) (t_strain : Nat → Int64) (v1 : Int32) (v2 : Int32) (v3 : Int32) (v4 : Int32) (v5 : Int32) (v6 : Int32) (o : Int64) (o_t_row : Nat → Int32) (o_t_wide : Int32) (o_t_lost : Int32) (o_t_strain : Nat → Int64) (o_t_det : Int64) (h : fX8_strained t_mem t_row t_wide t_lost t_strain t_det v1 v2 v3 v4 v5 v6 = some (o, o_t_row, o_t_wide, o_t_lost, o_t_strain, o_t_det)) : Met l yX8_strained (Cond.code yX8_strained cX8_strained 7 (some .long) :: Tw) ⟨5, 0, 0, 134⟩ (va_Pc [.ref ((a_t 0)), .int v1, .int v2, .int v3, .int v4, .int v5, .int v6] (rwB g [((a_t 0), .inr (7, [.ref (a_t 1), .ref (a_t 2), .int t_acted, .ref (a_t 4), .ref (a_t 5), .ref (a_t 6), .ref (a_t 7), .ref (a_t 8), .ref (a_t 9), .int t_taped, .int t_faultKind, .int t_faultPlace, .int t_at, .int t_begin, .int t_token, .int t_value, .int t_bad, .ref (a_t 18), .ref (a_t 19), .ref (a_t 20), .int t_wide, .int t_lost, .ref (a_t 23), .long t_det, .ref (a_t 25), .int t_mask, .int t_mode, .int t_wanted, .int t_orders, .int t_foundAt, .long t_foundBy, .ref (a_t 32), .ref (a_t 33), .int t_unlikes, .ref (a_t 35), .ref (a_t 36)])), ((a_t 1), .inl (g.2.2.1 0, 27, .inl t_mem)), ((a_t 20), .inl (g.2.2.1 0, 8, .inl t_row)), ((a_t 23), .inl (g.2.2.1 1, 3, .inr (.inl t_strain)))] sz)) (va_Ql (fun x (_ : Nat → Nat) => x = o) (fun u => rwE g (va_A [((a_t 0), .inr (7, [.ref (a_t 1), .ref (a_t 2), .int t_acted, .ref (a_t 4), .ref (a_t 5), .ref (a_t 6), .ref (a_t 7), .ref (a_t 8), .ref (a_t 9), .int t_taped, .int t_faultKind, .int t_faultPlace, .int t_at, .int t_begin, .int t_token, .int t_value, .int t_bad, .ref (a_t 18), .ref (a_t 19), .ref (a_t 20), .int t_wide, .int t_lost, .ref (a_t 23), .long t_det, .ref (a_t 25), .int t_mask, .int t_mode, .int t_wanted, .int t_orders, .int t_foundAt, .long t_foundBy, .ref (a_t 32), .ref (a_t 33), .int t_unlikes, .ref (a_t 35), .ref (a_t 36)])), ((a_t 1), .inl (g.2.2.1 0, 27, .inl t_mem)), ((a_t 20), .inl (g.2.2.1 0, 8, .inl t_row)), ((a_t 23), .inl (g.2.2.1 1, 3, .inr (.inl t_strain)))] sz) [((a_t 0), .inr (7, [.ref (a_t 1), .ref (a_t 2), .int t_acted, .ref (a_t 4), .ref (a_t 5), .ref (a_t 6), .ref (a_t 7), .ref (a_t 8), .ref (a_t 9), .int t_taped, .int t_faultKind, .int t_faultPlace, .int t_at, .int t_begin, .int t_token, .int t_value, .int t_bad, .ref (a_t 18), .ref (a_t 19), .ref (a_t 20), .int o_t_wide, .int o_t_lost, .ref (a_t 23), .long o_t_det, .ref (a_t 25), .int t_mask, .int t_mode, .int t_wanted, .int t_orders, .int t_foundAt, .long t_foundBy, .ref (a_t 32), .ref (a_t 33), .int t_unlikes, .ref (a_t 35), .ref (a_t 36)])), ((a_t 1), .inl (g.2.2.1 0, 27, .inl t_mem)), ((a_t 20), .inl (g.2.2.1 0, 8, .inl o_t_row)), ((a_t 23), .inl (g.2.2.1 1, 3, .inr (.inl o_t_strain)))]) (va_A [((a_t 0), .inr (7, [.ref (a_t 1), .ref (a_t 2), .int t_acted, .ref (a_t 4), .ref (a_t 5), .ref (a_t 6), .ref (a_t 7), .ref (a_t 8), .ref (a_t 9), .int t_taped, .int t_faultKind, .int t_faultPlace, .int t_at, .int t_begin, .int t_token, .int t_value, .int t_bad, .ref (a_t 18), .ref (a_t 19), .ref (a_t 20), .int t_wide, .int t_lost, .ref (a_t 23), .long t_det, .ref (a_t 25), .int t_mask, .int t_mode, .int t_wanted, .int t_orders, .int t_foundAt, .long t_foundBy, .ref (a_t 32), .ref (a_t 33), .int t_unlikes, .ref (a_t 35), .ref (a_t 36)])), ((a_t 1), .inl (g.2.2.1 0, 27, .inl t_mem)), ((a_t 20), .inl (g.2.2.1 0, 8, .inl t_row)), ((a_t 23), .inl (g.2.2.1 1, 3, .inr (.inl t_strain)))] sz)) 0 0 (va_A [((a_t 0), .inr (7, [.ref (a_t 1), .ref (a_t 2), .int t_acted, .ref (a_t 4), .ref (a_t 5), .ref (a_t 6), .ref (a_t 7), .ref (a_t 8), .ref (a_t 9), .int t_taped, .int t_faultKind, .int t_faultPlace, .int t_at, .int t_begin, .int t_token, .int t_value, .int t_bad, .ref (a_t 18), .ref (a_t 19), .ref (a_t 20), .int t_wide, .int t_lost, .ref (a_t 23), .long t_det, .ref (a_t 25), .int t_mask, .int t_mode, .int t_wanted, .int t_orders, .int t_foundAt, .long t_foundBy, .ref (a_t 32), .ref (a_t 33), .int t_unlikes, .ref (a_t 35), .ref (a_t 36)])), ((a_t 1), .inl (g.2.2.1 0, 27, .inl t_mem)), ((a_t 20), .inl (g.2.2.1 0, 8, .inl t_row)), ((a_t 23), .inl (g.2.2.1 1, 3, .inr (.inl t_strain)))] sz) := by
  refine rw_metl (by decide) (Nat.le_of_ble_eq_true rfl) (lv0 := [(0, .ref ((a_t 0))), (1, .int v1), (2, .int v2), (3, .int v3), (4, .int v4), (5, .int v5), (6, .int v6)]) rfl ?_
  intro p e s m args below meth c ls Q A cx hret hG hAb hb0 hA hP hD hl
  have hx := cx.1
  have hb := cx.2.1
  have hG0 := hG
  have hGk : ∀ {H : Heap} {locs : List Loc}, va_S A s.heap H locs → GE g s H := fun hS => hG0.keptS hAb hS
  have hSb : ∀ {H : Heap} {locs : List Loc}, va_S A s.heap H locs → va_S (fun a => g.1 ≤ a) s.heap H locs := fun hS => ⟨hS.1, fun q h1 h2 => hS.2.1 q h1 (fun z => h2 (hAb q z)), fun l hl => hAb _ (hS.2.2 l hl)⟩
  have hS : va_S A s.heap s.heap [] := va_S.rf
  have hrt : ∀ (u : Nat → Nat) (pc : Nat) (ls : Array Slot) (v : Int64) (x_t_row : Nat → Int32) (x_t_wide : Int32) (x_t_lost : Int32) (x_t_strain : Nat → Int64) (x_t_det : Int64) (H : Heap) (locs : List Loc), decode cX8_strained pc = .ok (.lreturn, 1) → some (v, x_t_row, x_t_wide, x_t_lost, x_t_strain, x_t_det) = some (o, o_t_row, o_t_wide, o_t_lost, o_t_strain, o_t_det) → va_P g.2.1 vwCl [((a_t 0), .inr (7, [.ref (a_t 1), .ref (a_t 2), .int t_acted, .ref (a_t 4), .ref (a_t 5), .ref (a_t 6), .ref (a_t 7), .ref (a_t 8), .ref (a_t 9), .int t_taped, .int t_faultKind, .int t_faultPlace, .int t_at, .int t_begin, .int t_token, .int t_value, .int t_bad, .ref (a_t 18), .ref (a_t 19), .ref (a_t 20), .int x_t_wide, .int x_t_lost, .ref (a_t 23), .long x_t_det, .ref (a_t 25), .int t_mask, .int t_mode, .int t_wanted, .int t_orders, .int t_foundAt, .long t_foundBy, .ref (a_t 32), .ref (a_t 33), .int t_unlikes, .ref (a_t 35), .ref (a_t 36)])), ((a_t 1), .inl (g.2.2.1 0, 27, .inl t_mem)), ((a_t 20), .inl (g.2.2.1 0, 8, .inl x_t_row)), ((a_t 23), .inl (g.2.2.1 1, 3, .inr (.inl x_t_strain)))] H → va_D A [((a_t 0), .inr (7, [.ref (a_t 1), .ref (a_t 2), .int t_acted, .ref (a_t 4), .ref (a_t 5), .ref (a_t 6), .ref (a_t 7), .ref (a_t 8), .ref (a_t 9), .int t_taped, .int t_faultKind, .int t_faultPlace, .int t_at, .int t_begin, .int t_token, .int t_value, .int t_bad, .ref (a_t 18), .ref (a_t 19), .ref (a_t 20), .int x_t_wide, .int x_t_lost, .ref (a_t 23), .long x_t_det, .ref (a_t 25), .int t_mask, .int t_mode, .int t_wanted, .int t_orders, .int t_foundAt, .long t_foundBy, .ref (a_t 32), .ref (a_t 33), .int t_unlikes, .ref (a_t 35), .ref (a_t 36)])), ((a_t 1), .inl (g.2.2.1 0, 27, .inl t_mem)), ((a_t 20), .inl (g.2.2.1 0, 8, .inl x_t_row)), ((a_t 23), .inl (g.2.2.1 1, 3, .inr (.inl x_t_strain)))] → va_S A s.heap H locs → W p l e ⟨5, 0, 0, 134⟩ s m args below meth c H locs 0 0 Q (F0 m pc ls [.long v]) := by
    intro u pc ls v x_t_row x_t_wide x_t_lost x_t_strain x_t_det H locs hd h hP hD hS
    cases h
    exact hret u _ _ _ _ _ hd rfl hP hD hS
  unfold fX8_strained at h
  refine lv_aload_n hx hb dX8_strained_0 rfl (lv_at hl 0 rfl) ?_
  obtain ⟨r1, hr2, h⟩ := bnd h
  refine ro_z (runV (As := []) (rest := []) cx hl.1 (ctX8_is l g a_t t_acted t_taped t_faultKind t_faultPlace t_at t_begin t_token t_value t_bad t_wide t_lost t_det t_mask t_mode t_wanted t_orders t_foundAt t_foundBy t_unlikes t_mem r1 hr2) kmX8_is kvX8_is lm_X8_236 ⟨rfl, rfl⟩ ⟨Nat.le_of_ble_eq_true rfl, Nat.le_of_ble_eq_true rfl⟩ (roV (q0 := 0) (ci := 7) hG (hP.sub [0, 1] rfl) hP rfl rfl) rfl rfl (Nat.le_of_ble_eq_true rfl) dX8_strained_1 ⟨Nat.le_of_ble_eq_true rfl, Nat.le_of_ble_eq_true rfl⟩) (fun hz3 => ?_)
  refine lv_if_eq (tgt := 41) hx hb dX8_strained_4 (by decide) (fun c4 => ?_) (fun c4 => ?_)
  · have h := itp c4 h
    refine lv_ldc2 (own := RX8) (v := -9223372036854775808) hx hb cx.2.2.2.1 (cx.2.2.2.2 _ cl_X8_241) dX8_strained_41 ?_
    exact hrt (fun _ => 0) _ _ ((-9223372036854775808)) t_row t_wide t_lost t_strain t_det _ _ dX8_strained_44 h (hP.sub [0, 1, 2, 3] rfl) (hD.sub [0, 1, 2, 3] (by decide) rfl) hS
  · have h := itn c4 h
    refine lv_iload_n hx hb dX8_strained_7 rfl (lv_at hl 2 rfl) ?_
    refine lv_iload_n hx hb dX8_strained_8 rfl (lv_at hl 3 rfl) ?_
    refine lv_iload hx hb dX8_strained_9 (lv_at hl 4 rfl) ?_
    refine ro_z (runS (As := [.int v2, .int v3, .int v4]) (rest := []) cx hl.1 (ctX8_areLoads l g v2 v3 v4 (fX8_areLoads v2 v3 v4) rfl) kmX8_areLoads ksX8_areLoads lm_X8_272 ⟨rfl, rfl⟩ ⟨Nat.le_of_ble_eq_true rfl, Nat.le_of_ble_eq_true rfl⟩ (roS hG (hP.sub [] rfl)) rfl rfl (Nat.le_of_ble_eq_true rfl) dX8_strained_11 ⟨Nat.le_of_ble_eq_true rfl, Nat.le_of_ble_eq_true rfl⟩) (fun hz5 => ?_)
    refine lv_if_eq (tgt := 41) hx hb dX8_strained_14 (by decide) (fun c6 => ?_) (fun c6 => ?_)
    · have h := itp c6 h
      refine lv_ldc2 (own := RX8) (v := -9223372036854775808) hx hb cx.2.2.2.1 (cx.2.2.2.2 _ cl_X8_241) dX8_strained_41 ?_
      exact hrt (fun _ => 0) _ _ ((-9223372036854775808)) t_row t_wide t_lost t_strain t_det _ _ dX8_strained_44 h (hP.sub [0, 1, 2, 3] rfl) (hD.sub [0, 1, 2, 3] (by decide) rfl) hS
    · have h := itn c6 h
      refine lv_iload hx hb dX8_strained_17 (lv_at hl 5 rfl) ?_
      refine lv_i2l (v := v5.toInt64) hx hb dX8_strained_19 rfl ?_
      refine lv_lconst (v := 0) hx hb dX8_strained_20 (by decide) ?_
      refine lv_ldc2 (own := RX8) (v := 2) hx hb cx.2.2.2.1 (cx.2.2.2.2 _ cl_X8_239) dX8_strained_21 ?_
      refine ro_z (runS (As := [.long v5.toInt64, .long (0), .long (2)]) (rest := []) cx hl.1 (ctX8_in l g v5.toInt64 (0) (2) (fX8_in v5.toInt64 0 2) rfl) kmX8_in ksX8_in lm_X8_83 ⟨rfl, rfl⟩ ⟨Nat.le_of_ble_eq_true rfl, Nat.le_of_ble_eq_true rfl⟩ (roS hG (hP.sub [] rfl)) rfl rfl (Nat.le_of_ble_eq_true rfl) dX8_strained_24 ⟨Nat.le_of_ble_eq_true rfl, Nat.le_of_ble_eq_true rfl⟩) (fun hz7 => ?_)
      refine lv_if_eq (tgt := 41) hx hb dX8_strained_27 (by decide) (fun c8 => ?_) (fun c8 => ?_)
      · have h := itp c8 h
        refine lv_ldc2 (own := RX8) (v := -9223372036854775808) hx hb cx.2.2.2.1 (cx.2.2.2.2 _ cl_X8_241) dX8_strained_41 ?_
        exact hrt (fun _ => 0) _ _ ((-9223372036854775808)) t_row t_wide t_lost t_strain t_det _ _ dX8_strained_44 h (hP.sub [0, 1, 2, 3] rfl) (hD.sub [0, 1, 2, 3] (by decide) rfl) hS
      · have h := itn c8 h
        refine lv_iload hx hb dX8_strained_30 (lv_at hl 6 rfl) ?_
        refine lv_i2l (v := v6.toInt64) hx hb dX8_strained_32 rfl ?_
        refine lv_lconst (v := 0) hx hb dX8_strained_33 (by decide) ?_
        refine lv_lconst (v := 1) hx hb dX8_strained_34 (by decide) ?_
        refine ro_z (runS (As := [.long v6.toInt64, .long (0), .long (1)]) (rest := []) cx hl.1 (ctX8_in l g v6.toInt64 (0) (1) (fX8_in v6.toInt64 0 1) rfl) kmX8_in ksX8_in lm_X8_83 ⟨rfl, rfl⟩ ⟨Nat.le_of_ble_eq_true rfl, Nat.le_of_ble_eq_true rfl⟩ (roS hG (hP.sub [] rfl)) rfl rfl (Nat.le_of_ble_eq_true rfl) dX8_strained_35 ⟨Nat.le_of_ble_eq_true rfl, Nat.le_of_ble_eq_true rfl⟩) (fun hz9 => ?_)
        refine lv_if_ne (tgt := 45) hx hb dX8_strained_38 (by decide) (fun c10 => ?_) (fun c10 => ?_)
        · have h := itn c10 h
          refine lv_aload_n hx hb dX8_strained_45 rfl (lv_at hl 0 rfl) ?_
          obtain ⟨w12, w13, w14, hr11, h⟩ := ob3_out h
          refine rw_v (WN := fun u15 => [((a_t 23), .inl (g.2.2.1 1, 3, .inr (.inl t_strain))), ((a_t 0), .inr (7, [.ref (a_t 1), .ref (a_t 2), .int t_acted, .ref (a_t 4), .ref (a_t 5), .ref (a_t 6), .ref (a_t 7), .ref (a_t 8), .ref (a_t 9), .int t_taped, .int t_faultKind, .int t_faultPlace, .int t_at, .int t_begin, .int t_token, .int t_value, .int t_bad, .ref (a_t 18), .ref (a_t 19), .ref (a_t 20), .int w13, .int w14, .ref (a_t 23), .long t_det, .ref (a_t 25), .int t_mask, .int t_mode, .int t_wanted, .int t_orders, .int t_foundAt, .long t_foundBy, .ref (a_t 32), .ref (a_t 33), .int t_unlikes, .ref (a_t 35), .ref (a_t 36)])), ((a_t 1), .inl (g.2.2.1 0, 27, .inl t_mem)), ((a_t 20), .inl (g.2.2.1 0, 8, .inl w12))]) (wr := [((a_t 23), .inl (g.2.2.1 1, 3, .inr (.inl t_strain)))]) (runV (As := []) (rest := []) cx hl.1 (ctX8_laysPlate l g s.heap.size a_t t_acted t_taped t_faultKind t_faultPlace t_at t_begin t_token t_value t_bad t_wide t_lost t_det t_mask t_mode t_wanted t_orders t_foundAt t_foundBy t_unlikes t_mem t_row w12 w13 w14 hr11) kmX8_laysPlate kvX8_laysPlate lm_X8_243 ⟨rfl, rfl⟩ ⟨Nat.le_of_ble_eq_true rfl, Nat.le_of_ble_eq_true rfl⟩ (rwV (q0 := 0) (ci := 7) hG (hP.sub [0, 1, 2] rfl) (hD.sub [0, 1, 2] (by decide) rfl) hAb hb0 hS hP rfl rfl) rfl rfl (Nat.le_of_ble_eq_true rfl) dX8_strained_46 ⟨Nat.le_of_ble_eq_true rfl, Nat.le_of_ble_eq_true rfl⟩) hP hD hS hA [0, 1, 2] [3] rfl rfl (by decide) (by decide) (fun _ => rfl) (fun u15 H locs hP hD hS => ?_)
          have hG := hGk hS
          refine lv_aload_n hx hb dX8_strained_49 rfl (lv_at hl 0 rfl) ?_
          refine lv_iload_n hx hb dX8_strained_50 rfl (lv_at hl 1 rfl) ?_
          refine lv_iload_n hx hb dX8_strained_51 rfl (lv_at hl 2 rfl) ?_
          refine lv_i2l (v := v2.toInt64) hx hb dX8_strained_52 rfl ?_
          refine lv_iload_n hx hb dX8_strained_53 rfl (lv_at hl 3 rfl) ?_
          refine lv_i2l (v := v3.toInt64) hx hb dX8_strained_54 rfl ?_
          refine lv_iload hx hb dX8_strained_55 (lv_at hl 4 rfl) ?_
          refine lv_i2l (v := v4.toInt64) hx hb dX8_strained_57 rfl ?_
          obtain ⟨w17, w18, hr16, h⟩ := ob2_out h
          refine rw_v (WN := fun u19 => [((a_t 0), .inr (7, [.ref (a_t 1), .ref (a_t 2), .int t_acted, .ref (a_t 4), .ref (a_t 5), .ref (a_t 6), .ref (a_t 7), .ref (a_t 8), .ref (a_t 9), .int t_taped, .int t_faultKind, .int t_faultPlace, .int t_at, .int t_begin, .int t_token, .int t_value, .int t_bad, .ref (a_t 18), .ref (a_t 19), .ref (a_t 20), .int w13, .int w14, .ref (a_t 23), .long w18, .ref (a_t 25), .int t_mask, .int t_mode, .int t_wanted, .int t_orders, .int t_foundAt, .long t_foundBy, .ref (a_t 32), .ref (a_t 33), .int t_unlikes, .ref (a_t 35), .ref (a_t 36)])), ((a_t 1), .inl (g.2.2.1 0, 27, .inl t_mem)), ((a_t 20), .inl (g.2.2.1 0, 8, .inl w12)), ((a_t 23), .inl (g.2.2.1 1, 3, .inr (.inl w17)))]) (wr := []) (runV (As := [.int v1, .long v2.toInt64, .long v3.toInt64, .long v4.toInt64]) (rest := []) cx hl.1 (ctX8_laysStrains l g H.size a_t t_acted t_taped t_faultKind t_faultPlace t_at t_begin t_token t_value t_bad w13 w14 t_det t_mask t_mode t_wanted t_orders t_foundAt t_foundBy t_unlikes t_mem w12 t_strain v1 v2.toInt64 v3.toInt64 v4.toInt64 w17 w18 hr16) kmX8_laysStrains kvX8_laysStrains lm_X8_276 ⟨rfl, rfl⟩ ⟨Nat.le_of_ble_eq_true rfl, Nat.le_of_ble_eq_true rfl⟩ (rwV (q0 := 1) (ci := 7) hG (hP.sub [1, 2, 3, 0] rfl) (hD.sub [1, 2, 3, 0] (by decide) rfl) hAb hb0 hS hP rfl rfl) rfl rfl (Nat.le_of_ble_eq_true rfl) dX8_strained_58 ⟨Nat.le_of_ble_eq_true rfl, Nat.le_of_ble_eq_true rfl⟩) hP hD hS hA [1, 2, 3, 0] [] rfl rfl (by decide) (by decide) (fun _ => rfl) (fun u19 H locs hP hD hS => ?_)
          have hG := hGk hS
          refine lv_aload_n hx hb dX8_strained_61 rfl (lv_at hl 0 rfl) ?_
          refine xa_get (C := RX8) (T := TX8) (N := 36) cx hG hP 0 rfl rfl uX8 23 (by decide) lf_X8_264 rfl dX8_strained_62 ?_
          refine lv_lconst (v := 0) hx hb dX8_strained_65 (by decide) ?_
          refine W.lcmp hx hb dX8_strained_66 ?_
          refine lv_if_eq (tgt := 79) hx hb dX8_strained_67 (by decide) (fun c20 => ?_) (fun c20 => ?_)
          · have h := itp c20 h
            refine lv_ldc2 (own := RX8) (v := -9223372036854775807) hx hb cx.2.2.2.1 (cx.2.2.2.2 _ cl_X8_280) dX8_strained_79 ?_
            exact hrt (fun _ => 0) _ _ ((-9223372036854775807)) w12 w13 w14 w17 w18 _ _ dX8_strained_82 h (hP.sub [0, 1, 2, 3] rfl) (hD.sub [0, 1, 2, 3] (by decide) rfl) hS
          · have h := itn c20 h
            refine lv_aload_n hx hb dX8_strained_70 rfl (lv_at hl 0 rfl) ?_
            obtain ⟨r21, hr22, h⟩ := bnd h
            refine ro_l (runV (As := []) (rest := []) cx hl.1 (ctX8_warpHere l g a_t t_acted t_taped t_faultKind t_faultPlace t_at t_begin t_token t_value t_bad w13 w14 w18 t_mask t_mode t_wanted t_orders t_foundAt t_foundBy t_unlikes t_mem w12 r21 hr22) kmX8_warpHere kvX8_warpHere lm_X8_226 ⟨rfl, rfl⟩ ⟨Nat.le_of_ble_eq_true rfl, Nat.le_of_ble_eq_true rfl⟩ (roV (q0 := 0) (ci := 7) hG (hP.sub [0, 1, 2] rfl) hP rfl rfl) rfl rfl (Nat.le_of_ble_eq_true rfl) dX8_strained_71 ⟨Nat.le_of_ble_eq_true rfl, Nat.le_of_ble_eq_true rfl⟩) ?_
            refine lv_lconst (v := 0) hx hb dX8_strained_74 (by decide) ?_
            refine W.lcmp hx hb dX8_strained_75 ?_
            refine lv_if_eq (tgt := 83) hx hb dX8_strained_76 (by decide) (fun c23 => ?_) (fun c23 => ?_)
            · have h := itp c23 h
              refine lv_ldc2 (own := RX8) (v := 2) hx hb cx.2.2.2.1 (cx.2.2.2.2 _ cl_X8_239) dX8_strained_83 ?_
              refine lv_aload_n hx hb dX8_strained_86 rfl (lv_at hl 0 rfl) ?_
              refine xa_get (C := RX8) (T := TX8) (N := 36) cx hG hP 0 rfl rfl uX8 22 (by decide) lf_X8_60 rfl dX8_strained_87 ?_
              refine lv_iload hx hb dX8_strained_90 (lv_at hl 5 rfl) ?_
              obtain ⟨hi24, h⟩ := chk_out h
              refine xa_lald cx hG hP 3 rfl hi24 rfl dX8_strained_92 ?_
              refine lv_lmul hx hb dX8_strained_93 ?_
              refine lv_aload_n hx hb dX8_strained_94 rfl (lv_at hl 0 rfl) ?_
              refine xa_get (C := RX8) (T := TX8) (N := 36) cx hG hP 0 rfl rfl uX8 23 (by decide) lf_X8_264 rfl dX8_strained_95 ?_
              refine lv_iload hx hb dX8_strained_98 (lv_at hl 6 rfl) ?_
              obtain ⟨r25, hr26, h⟩ := bnd h
              refine ro_l (runS (As := [.long (2 * (w17 v5.toNatClampNeg)), .long w18, .int v6]) (rest := []) cx hl.1 (ctX8_part l g (2 * (w17 v5.toNatClampNeg)) w18 v6 r25 hr26) kmX8_part ksX8_part lm_X8_282 ⟨rfl, rfl⟩ ⟨Nat.le_of_ble_eq_true rfl, Nat.le_of_ble_eq_true rfl⟩ (roS hG (hP.sub [] rfl)) rfl rfl (Nat.le_of_ble_eq_true rfl) dX8_strained_100 ⟨Nat.le_of_ble_eq_true rfl, Nat.le_of_ble_eq_true rfl⟩) ?_
              exact hrt (fun _ => 0) _ _ r25 w12 w13 w14 w17 w18 _ _ dX8_strained_103 h (hP.sub [0, 1, 2, 3] rfl) (hD.sub [0, 1, 2, 3] (by decide) rfl) hS
            · have h := itn c23 h
              refine lv_ldc2 (own := RX8) (v := -9223372036854775807) hx hb cx.2.2.2.1 (cx.2.2.2.2 _ cl_X8_280) dX8_strained_79 ?_
              exact hrt (fun _ => 0) _ _ ((-9223372036854775807)) w12 w13 w14 w17 w18 _ _ dX8_strained_82 h (hP.sub [0, 1, 2, 3] rfl) (hD.sub [0, 1, 2, 3] (by decide) rfl) hS
        · have h := itp c10 h
          refine lv_ldc2 (own := RX8) (v := -9223372036854775808) hx hb cx.2.2.2.1 (cx.2.2.2.2 _ cl_X8_241) dX8_strained_41 ?_
          exact hrt (fun _ => 0) _ _ ((-9223372036854775808)) t_row t_wide t_lost t_strain t_det _ _ dX8_strained_44 h (hP.sub [0, 1, 2, 3] rfl) (hD.sub [0, 1, 2, 3] (by decide) rfl) hS
-- X8_strain
theorem dX8_strain_0 : decode cX8_strain 0 = .ok (.aload_n 0, 1) := by decide +kernel
theorem dX8_strain_1 : decode cX8_strain 1 = .ok (.iconst 0, 1) := by decide +kernel
theorem dX8_strain_2 : decode cX8_strain 2 = .ok (.iload_n 1, 1) := by decide +kernel
theorem dX8_strain_3 : decode cX8_strain 3 = .ok (.iload_n 2, 1) := by decide +kernel
theorem dX8_strain_4 : decode cX8_strain 4 = .ok (.iload_n 3, 1) := by decide +kernel
theorem dX8_strain_5 : decode cX8_strain 5 = .ok (.iload 4, 2) := by decide +kernel
theorem dX8_strain_7 : decode cX8_strain 7 = .ok (.iload 5, 2) := by decide +kernel
theorem dX8_strain_9 : decode cX8_strain 9 = .ok (.invokevirtual 286, 3) := by decide +kernel
theorem dX8_strain_12 : decode cX8_strain 12 = .ok (.lreturn, 1) := by decide +kernel
noncomputable def fX8_strain  (t_mem : Nat → Int32) (t_row : Nat → Int32) (t_wide : Int32) (t_lost : Int32) (t_strain : Nat → Int64) (t_det : Int64) (v1 : Int32) (v2 : Int32) (v3 : Int32) (v4 : Int32) (v5 : Int32) : Option (Int64 × (Nat → Int32) × Int32 × Int32 × (Nat → Int64) × Int64) := ob6 (fX8_strained t_mem t_row t_wide t_lost t_strain t_det 0 v1 v2 v3 v4 v5) fun r2 w3 w4 w5 w6 w7 => some (r2, w3, w4, w5, w6, w7)
set_option maxHeartbeats 4000000 in
set_option maxRecDepth 100000 in
theorem ctX8_strain (l : Launch) (g : GT) (sz : Nat) (a_t : Nat → Nat) (t_acted : Int32) (t_taped : Int32) (t_faultKind : Int32) (t_faultPlace : Int32) (t_at : Int32) (t_begin : Int32) (t_token : Int32) (t_value : Int32) (t_bad : Int32) (t_wide : Int32) (t_lost : Int32) (t_det : Int64) (t_mask : Int32) (t_mode : Int32) (t_wanted : Int32) (t_orders : Int32) (t_foundAt : Int32) (t_foundBy : Int64) (t_unlikes : Int32) (t_mem : Nat → Int32) (t_row : Nat → Int32) (t_strain : Nat → Int64) (v1 : Int32) (v2 : Int32) (v3 : Int32) (v4 : Int32) (v5 : Int32) (o : Int64) (o_t_row : Nat → Int32) (o_t_wide : Int32) (o_t_lost : Int32) (o_t_strain : Nat → Int64) (o_t_det : Int64) (h : fX8_strain t_mem t_row t_wide t_lost t_strain t_det v1 v2 v3 v4 v5 = some (o, o_t_row, o_t_wide, o_t_lost, o_t_strain, o_t_det)) : Met l yX8_strain (Cond.code yX8_strain cX8_strain 6 (some .long) :: Tw) ⟨6, 0, 0, 160⟩ (va_Pc [.ref ((a_t 0)), .int v1, .int v2, .int v3, .int v4, .int v5] (rwB g [((a_t 0), .inr (7, [.ref (a_t 1), .ref (a_t 2), .int t_acted, .ref (a_t 4), .ref (a_t 5), .ref (a_t 6), .ref (a_t 7), .ref (a_t 8), .ref (a_t 9), .int t_taped, .int t_faultKind, .int t_faultPlace, .int t_at, .int t_begin, .int t_token, .int t_value, .int t_bad, .ref (a_t 18), .ref (a_t 19), .ref (a_t 20), .int t_wide, .int t_lost, .ref (a_t 23), .long t_det, .ref (a_t 25), .int t_mask, .int t_mode, .int t_wanted, .int t_orders, .int t_foundAt, .long t_foundBy, .ref (a_t 32), .ref (a_t 33), .int t_unlikes, .ref (a_t 35), .ref (a_t 36)])), ((a_t 1), .inl (g.2.2.1 0, 27, .inl t_mem)), ((a_t 20), .inl (g.2.2.1 0, 8, .inl t_row)), ((a_t 23), .inl (g.2.2.1 1, 3, .inr (.inl t_strain)))] sz)) (va_Ql (fun x (_ : Nat → Nat) => x = o) (fun u => rwE g (va_A [((a_t 0), .inr (7, [.ref (a_t 1), .ref (a_t 2), .int t_acted, .ref (a_t 4), .ref (a_t 5), .ref (a_t 6), .ref (a_t 7), .ref (a_t 8), .ref (a_t 9), .int t_taped, .int t_faultKind, .int t_faultPlace, .int t_at, .int t_begin, .int t_token, .int t_value, .int t_bad, .ref (a_t 18), .ref (a_t 19), .ref (a_t 20), .int t_wide, .int t_lost, .ref (a_t 23), .long t_det, .ref (a_t 25), .int t_mask, .int t_mode, .int t_wanted, .int t_orders, .int t_foundAt, .long t_foundBy, .ref (a_t 32), .ref (a_t 33), .int t_unlikes, .ref (a_t 35), .ref (a_t 36)])), ((a_t 1), .inl (g.2.2.1 0, 27, .inl t_mem)), ((a_t 20), .inl (g.2.2.1 0, 8, .inl t_row)), ((a_t 23), .inl (g.2.2.1 1, 3, .inr (.inl t_strain)))] sz) [((a_t 0), .inr (7, [.ref (a_t 1), .ref (a_t 2), .int t_acted, .ref (a_t 4), .ref (a_t 5), .ref (a_t 6), .ref (a_t 7), .ref (a_t 8), .ref (a_t 9), .int t_taped, .int t_faultKind, .int t_faultPlace, .int t_at, .int t_begin, .int t_token, .int t_value, .int t_bad, .ref (a_t 18), .ref (a_t 19), .ref (a_t 20), .int o_t_wide, .int o_t_lost, .ref (a_t 23), .long o_t_det, .ref (a_t 25), .int t_mask, .int t_mode, .int t_wanted, .int t_orders, .int t_foundAt, .long t_foundBy, .ref (a_t 32), .ref (a_t 33), .int t_unlikes, .ref (a_t 35), .ref (a_t 36)])), ((a_t 1), .inl (g.2.2.1 0, 27, .inl t_mem)), ((a_t 20), .inl (g.2.2.1 0, 8, .inl o_t_row)), ((a_t 23), .inl (g.2.2.1 1, 3, .inr (.inl o_t_strain)))]) (va_A [((a_t 0), .inr (7, [.ref (a_t 1), .ref (a_t 2), .int t_acted, .ref (a_t 4), .ref (a_t 5), .ref (a_t 6), .ref (a_t 7), .ref (a_t 8), .ref (a_t 9), .int t_taped, .int t_faultKind, .int t_faultPlace, .int t_at, .int t_begin, .int t_token, .int t_value, .int t_bad, .ref (a_t 18), .ref (a_t 19), .ref (a_t 20), .int t_wide, .int t_lost, .ref (a_t 23), .long t_det, .ref (a_t 25), .int t_mask, .int t_mode, .int t_wanted, .int t_orders, .int t_foundAt, .long t_foundBy, .ref (a_t 32), .ref (a_t 33), .int t_unlikes, .ref (a_t 35), .ref (a_t 36)])), ((a_t 1), .inl (g.2.2.1 0, 27, .inl t_mem)), ((a_t 20), .inl (g.2.2.1 0, 8, .inl t_row)), ((a_t 23), .inl (g.2.2.1 1, 3, .inr (.inl t_strain)))] sz)) 0 0 (va_A [((a_t 0), .inr (7, [.ref (a_t 1), .ref (a_t 2), .int t_acted, .ref (a_t 4), .ref (a_t 5), .ref (a_t 6), .ref (a_t 7), .ref (a_t 8), .ref (a_t 9), .int t_taped, .int t_faultKind, .int t_faultPlace, .int t_at, .int t_begin, .int t_token, .int t_value, .int t_bad, .ref (a_t 18), .ref (a_t 19), .ref (a_t 20), .int t_wide, .int t_lost, .ref (a_t 23), .long t_det, .ref (a_t 25), .int t_mask, .int t_mode, .int t_wanted, .int t_orders, .int t_foundAt, .long t_foundBy, .ref (a_t 32), .ref (a_t 33), .int t_unlikes, .ref (a_t 35), .ref (a_t 36)])), ((a_t 1), .inl (g.2.2.1 0, 27, .inl t_mem)), ((a_t 20), .inl (g.2.2.1 0, 8, .inl t_row)), ((a_t 23), .inl (g.2.2.1 1, 3, .inr (.inl t_strain)))] sz) := by
  refine rw_metl (by decide) (Nat.le_of_ble_eq_true rfl) (lv0 := [(0, .ref ((a_t 0))), (1, .int v1), (2, .int v2), (3, .int v3), (4, .int v4), (5, .int v5)]) rfl ?_
  intro p e s m args below meth c ls Q A cx hret hG hAb hb0 hA hP hD hl
  have hx := cx.1
  have hb := cx.2.1
  have hG0 := hG
  have hGk : ∀ {H : Heap} {locs : List Loc}, va_S A s.heap H locs → GE g s H := fun hS => hG0.keptS hAb hS
  have hSb : ∀ {H : Heap} {locs : List Loc}, va_S A s.heap H locs → va_S (fun a => g.1 ≤ a) s.heap H locs := fun hS => ⟨hS.1, fun q h1 h2 => hS.2.1 q h1 (fun z => h2 (hAb q z)), fun l hl => hAb _ (hS.2.2 l hl)⟩
  have hS : va_S A s.heap s.heap [] := va_S.rf
  have hrt : ∀ (u : Nat → Nat) (pc : Nat) (ls : Array Slot) (v : Int64) (x_t_row : Nat → Int32) (x_t_wide : Int32) (x_t_lost : Int32) (x_t_strain : Nat → Int64) (x_t_det : Int64) (H : Heap) (locs : List Loc), decode cX8_strain pc = .ok (.lreturn, 1) → some (v, x_t_row, x_t_wide, x_t_lost, x_t_strain, x_t_det) = some (o, o_t_row, o_t_wide, o_t_lost, o_t_strain, o_t_det) → va_P g.2.1 vwCl [((a_t 0), .inr (7, [.ref (a_t 1), .ref (a_t 2), .int t_acted, .ref (a_t 4), .ref (a_t 5), .ref (a_t 6), .ref (a_t 7), .ref (a_t 8), .ref (a_t 9), .int t_taped, .int t_faultKind, .int t_faultPlace, .int t_at, .int t_begin, .int t_token, .int t_value, .int t_bad, .ref (a_t 18), .ref (a_t 19), .ref (a_t 20), .int x_t_wide, .int x_t_lost, .ref (a_t 23), .long x_t_det, .ref (a_t 25), .int t_mask, .int t_mode, .int t_wanted, .int t_orders, .int t_foundAt, .long t_foundBy, .ref (a_t 32), .ref (a_t 33), .int t_unlikes, .ref (a_t 35), .ref (a_t 36)])), ((a_t 1), .inl (g.2.2.1 0, 27, .inl t_mem)), ((a_t 20), .inl (g.2.2.1 0, 8, .inl x_t_row)), ((a_t 23), .inl (g.2.2.1 1, 3, .inr (.inl x_t_strain)))] H → va_D A [((a_t 0), .inr (7, [.ref (a_t 1), .ref (a_t 2), .int t_acted, .ref (a_t 4), .ref (a_t 5), .ref (a_t 6), .ref (a_t 7), .ref (a_t 8), .ref (a_t 9), .int t_taped, .int t_faultKind, .int t_faultPlace, .int t_at, .int t_begin, .int t_token, .int t_value, .int t_bad, .ref (a_t 18), .ref (a_t 19), .ref (a_t 20), .int x_t_wide, .int x_t_lost, .ref (a_t 23), .long x_t_det, .ref (a_t 25), .int t_mask, .int t_mode, .int t_wanted, .int t_orders, .int t_foundAt, .long t_foundBy, .ref (a_t 32), .ref (a_t 33), .int t_unlikes, .ref (a_t 35), .ref (a_t 36)])), ((a_t 1), .inl (g.2.2.1 0, 27, .inl t_mem)), ((a_t 20), .inl (g.2.2.1 0, 8, .inl x_t_row)), ((a_t 23), .inl (g.2.2.1 1, 3, .inr (.inl x_t_strain)))] → va_S A s.heap H locs → W p l e ⟨6, 0, 0, 160⟩ s m args below meth c H locs 0 0 Q (F0 m pc ls [.long v]) := by
    intro u pc ls v x_t_row x_t_wide x_t_lost x_t_strain x_t_det H locs hd h hP hD hS
    cases h
    exact hret u _ _ _ _ _ hd rfl hP hD hS
  unfold fX8_strain at h
  refine lv_aload_n hx hb dX8_strain_0 rfl (lv_at hl 0 rfl) ?_
  refine lv_iconst (v := 0) hx hb dX8_strain_1 (by decide) ?_
  refine lv_iload_n hx hb dX8_strain_2 rfl (lv_at hl 1 rfl) ?_
  refine lv_iload_n hx hb dX8_strain_3 rfl (lv_at hl 2 rfl) ?_
  refine lv_iload_n hx hb dX8_strain_4 rfl (lv_at hl 3 rfl) ?_
  refine lv_iload hx hb dX8_strain_5 (lv_at hl 4 rfl) ?_
  refine lv_iload hx hb dX8_strain_7 (lv_at hl 5 rfl) ?_
  obtain ⟨r2, w3, w4, w5, w6, w7, hr1, h⟩ := ob6_out h
  refine rw_l (WN := fun u8 => [((a_t 0), .inr (7, [.ref (a_t 1), .ref (a_t 2), .int t_acted, .ref (a_t 4), .ref (a_t 5), .ref (a_t 6), .ref (a_t 7), .ref (a_t 8), .ref (a_t 9), .int t_taped, .int t_faultKind, .int t_faultPlace, .int t_at, .int t_begin, .int t_token, .int t_value, .int t_bad, .ref (a_t 18), .ref (a_t 19), .ref (a_t 20), .int w4, .int w5, .ref (a_t 23), .long w7, .ref (a_t 25), .int t_mask, .int t_mode, .int t_wanted, .int t_orders, .int t_foundAt, .long t_foundBy, .ref (a_t 32), .ref (a_t 33), .int t_unlikes, .ref (a_t 35), .ref (a_t 36)])), ((a_t 1), .inl (g.2.2.1 0, 27, .inl t_mem)), ((a_t 20), .inl (g.2.2.1 0, 8, .inl w3)), ((a_t 23), .inl (g.2.2.1 1, 3, .inr (.inl w6)))]) (wr := []) (runV (As := [.int (0), .int v1, .int v2, .int v3, .int v4, .int v5]) (rest := []) cx hl.1 (ctX8_strained l g s.heap.size a_t t_acted t_taped t_faultKind t_faultPlace t_at t_begin t_token t_value t_bad t_wide t_lost t_det t_mask t_mode t_wanted t_orders t_foundAt t_foundBy t_unlikes t_mem t_row t_strain (0) v1 v2 v3 v4 v5 r2 w3 w4 w5 w6 w7 hr1) kmX8_strained kvX8_strained lm_X8_286 ⟨rfl, rfl⟩ ⟨Nat.le_of_ble_eq_true rfl, Nat.le_of_ble_eq_true rfl⟩ (rwV (q0 := 0) (ci := 7) hG (hP.sub [0, 1, 2, 3] rfl) (hD.sub [0, 1, 2, 3] (by decide) rfl) hAb hb0 hS hP rfl rfl) rfl rfl (Nat.le_of_ble_eq_true rfl) dX8_strain_9 ⟨Nat.le_of_ble_eq_true rfl, Nat.le_of_ble_eq_true rfl⟩) hP hD hS hA [0, 1, 2, 3] [] rfl rfl (by decide) (by decide) (fun _ => rfl) (fun u8 H locs hP hD hS => ?_)
  have hG := hGk hS
  exact hrt (fun _ => 0) _ _ r2 w3 w4 w5 w6 w7 _ _ dX8_strain_12 h (hP.sub [0, 1, 2, 3] rfl) (hD.sub [0, 1, 2, 3] (by decide) rfl) hS
-- X8_bend
theorem dX8_bend_0 : decode cX8_bend 0 = .ok (.aload_n 0, 1) := by decide +kernel
theorem dX8_bend_1 : decode cX8_bend 1 = .ok (.iconst 2, 1) := by decide +kernel
theorem dX8_bend_2 : decode cX8_bend 2 = .ok (.iload_n 1, 1) := by decide +kernel
theorem dX8_bend_3 : decode cX8_bend 3 = .ok (.iload_n 2, 1) := by decide +kernel
theorem dX8_bend_4 : decode cX8_bend 4 = .ok (.iload_n 3, 1) := by decide +kernel
theorem dX8_bend_5 : decode cX8_bend 5 = .ok (.iload 4, 2) := by decide +kernel
theorem dX8_bend_7 : decode cX8_bend 7 = .ok (.iload 5, 2) := by decide +kernel
theorem dX8_bend_9 : decode cX8_bend 9 = .ok (.invokevirtual 286, 3) := by decide +kernel
theorem dX8_bend_12 : decode cX8_bend 12 = .ok (.lreturn, 1) := by decide +kernel
noncomputable def fX8_bend  (t_mem : Nat → Int32) (t_row : Nat → Int32) (t_wide : Int32) (t_lost : Int32) (t_strain : Nat → Int64) (t_det : Int64) (v1 : Int32) (v2 : Int32) (v3 : Int32) (v4 : Int32) (v5 : Int32) : Option (Int64 × (Nat → Int32) × Int32 × Int32 × (Nat → Int64) × Int64) := ob6 (fX8_strained t_mem t_row t_wide t_lost t_strain t_det 2 v1 v2 v3 v4 v5) fun r2 w3 w4 w5 w6 w7 => some (r2, w3, w4, w5, w6, w7)
set_option maxHeartbeats 4000000 in
set_option maxRecDepth 100000 in
theorem ctX8_bend (l : Launch) (g : GT) (sz : Nat) (a_t : Nat → Nat) (t_acted : Int32) (t_taped : Int32) (t_faultKind : Int32) (t_faultPlace : Int32) (t_at : Int32) (t_begin : Int32) (t_token : Int32) (t_value : Int32) (t_bad : Int32) (t_wide : Int32) (t_lost : Int32) (t_det : Int64) (t_mask : Int32) (t_mode : Int32) (t_wanted : Int32) (t_orders : Int32) (t_foundAt : Int32) (t_foundBy : Int64) (t_unlikes : Int32) (t_mem : Nat → Int32) (t_row : Nat → Int32) (t_strain : Nat → Int64) (v1 : Int32) (v2 : Int32) (v3 : Int32) (v4 : Int32) (v5 : Int32) (o : Int64) (o_t_row : Nat → Int32) (o_t_wide : Int32) (o_t_lost : Int32) (o_t_strain : Nat → Int64) (o_t_det : Int64) (h : fX8_bend t_mem t_row t_wide t_lost t_strain t_det v1 v2 v3 v4 v5 = some (o, o_t_row, o_t_wide, o_t_lost, o_t_strain, o_t_det)) : Met l yX8_bend (Cond.code yX8_bend cX8_bend 6 (some .long) :: Tw) ⟨6, 0, 0, 160⟩ (va_Pc [.ref ((a_t 0)), .int v1, .int v2, .int v3, .int v4, .int v5] (rwB g [((a_t 0), .inr (7, [.ref (a_t 1), .ref (a_t 2), .int t_acted, .ref (a_t 4), .ref (a_t 5), .ref (a_t 6), .ref (a_t 7), .ref (a_t 8), .ref (a_t 9), .int t_taped, .int t_faultKind, .int t_faultPlace, .int t_at, .int t_begin, .int t_token, .int t_value, .int t_bad, .ref (a_t 18), .ref (a_t 19), .ref (a_t 20), .int t_wide, .int t_lost, .ref (a_t 23), .long t_det, .ref (a_t 25), .int t_mask, .int t_mode, .int t_wanted, .int t_orders, .int t_foundAt, .long t_foundBy, .ref (a_t 32), .ref (a_t 33), .int t_unlikes, .ref (a_t 35), .ref (a_t 36)])), ((a_t 1), .inl (g.2.2.1 0, 27, .inl t_mem)), ((a_t 20), .inl (g.2.2.1 0, 8, .inl t_row)), ((a_t 23), .inl (g.2.2.1 1, 3, .inr (.inl t_strain)))] sz)) (va_Ql (fun x (_ : Nat → Nat) => x = o) (fun u => rwE g (va_A [((a_t 0), .inr (7, [.ref (a_t 1), .ref (a_t 2), .int t_acted, .ref (a_t 4), .ref (a_t 5), .ref (a_t 6), .ref (a_t 7), .ref (a_t 8), .ref (a_t 9), .int t_taped, .int t_faultKind, .int t_faultPlace, .int t_at, .int t_begin, .int t_token, .int t_value, .int t_bad, .ref (a_t 18), .ref (a_t 19), .ref (a_t 20), .int t_wide, .int t_lost, .ref (a_t 23), .long t_det, .ref (a_t 25), .int t_mask, .int t_mode, .int t_wanted, .int t_orders, .int t_foundAt, .long t_foundBy, .ref (a_t 32), .ref (a_t 33), .int t_unlikes, .ref (a_t 35), .ref (a_t 36)])), ((a_t 1), .inl (g.2.2.1 0, 27, .inl t_mem)), ((a_t 20), .inl (g.2.2.1 0, 8, .inl t_row)), ((a_t 23), .inl (g.2.2.1 1, 3, .inr (.inl t_strain)))] sz) [((a_t 0), .inr (7, [.ref (a_t 1), .ref (a_t 2), .int t_acted, .ref (a_t 4), .ref (a_t 5), .ref (a_t 6), .ref (a_t 7), .ref (a_t 8), .ref (a_t 9), .int t_taped, .int t_faultKind, .int t_faultPlace, .int t_at, .int t_begin, .int t_token, .int t_value, .int t_bad, .ref (a_t 18), .ref (a_t 19), .ref (a_t 20), .int o_t_wide, .int o_t_lost, .ref (a_t 23), .long o_t_det, .ref (a_t 25), .int t_mask, .int t_mode, .int t_wanted, .int t_orders, .int t_foundAt, .long t_foundBy, .ref (a_t 32), .ref (a_t 33), .int t_unlikes, .ref (a_t 35), .ref (a_t 36)])), ((a_t 1), .inl (g.2.2.1 0, 27, .inl t_mem)), ((a_t 20), .inl (g.2.2.1 0, 8, .inl o_t_row)), ((a_t 23), .inl (g.2.2.1 1, 3, .inr (.inl o_t_strain)))]) (va_A [((a_t 0), .inr (7, [.ref (a_t 1), .ref (a_t 2), .int t_acted, .ref (a_t 4), .ref (a_t 5), .ref (a_t 6), .ref (a_t 7), .ref (a_t 8), .ref (a_t 9), .int t_taped, .int t_faultKind, .int t_faultPlace, .int t_at, .int t_begin, .int t_token, .int t_value, .int t_bad, .ref (a_t 18), .ref (a_t 19), .ref (a_t 20), .int t_wide, .int t_lost, .ref (a_t 23), .long t_det, .ref (a_t 25), .int t_mask, .int t_mode, .int t_wanted, .int t_orders, .int t_foundAt, .long t_foundBy, .ref (a_t 32), .ref (a_t 33), .int t_unlikes, .ref (a_t 35), .ref (a_t 36)])), ((a_t 1), .inl (g.2.2.1 0, 27, .inl t_mem)), ((a_t 20), .inl (g.2.2.1 0, 8, .inl t_row)), ((a_t 23), .inl (g.2.2.1 1, 3, .inr (.inl t_strain)))] sz)) 0 0 (va_A [((a_t 0), .inr (7, [.ref (a_t 1), .ref (a_t 2), .int t_acted, .ref (a_t 4), .ref (a_t 5), .ref (a_t 6), .ref (a_t 7), .ref (a_t 8), .ref (a_t 9), .int t_taped, .int t_faultKind, .int t_faultPlace, .int t_at, .int t_begin, .int t_token, .int t_value, .int t_bad, .ref (a_t 18), .ref (a_t 19), .ref (a_t 20), .int t_wide, .int t_lost, .ref (a_t 23), .long t_det, .ref (a_t 25), .int t_mask, .int t_mode, .int t_wanted, .int t_orders, .int t_foundAt, .long t_foundBy, .ref (a_t 32), .ref (a_t 33), .int t_unlikes, .ref (a_t 35), .ref (a_t 36)])), ((a_t 1), .inl (g.2.2.1 0, 27, .inl t_mem)), ((a_t 20), .inl (g.2.2.1 0, 8, .inl t_row)), ((a_t 23), .inl (g.2.2.1 1, 3, .inr (.inl t_strain)))] sz) := by
  refine rw_metl (by decide) (Nat.le_of_ble_eq_true rfl) (lv0 := [(0, .ref ((a_t 0))), (1, .int v1), (2, .int v2), (3, .int v3), (4, .int v4), (5, .int v5)]) rfl ?_
  intro p e s m args below meth c ls Q A cx hret hG hAb hb0 hA hP hD hl
  have hx := cx.1
  have hb := cx.2.1
  have hG0 := hG
  have hGk : ∀ {H : Heap} {locs : List Loc}, va_S A s.heap H locs → GE g s H := fun hS => hG0.keptS hAb hS
  have hSb : ∀ {H : Heap} {locs : List Loc}, va_S A s.heap H locs → va_S (fun a => g.1 ≤ a) s.heap H locs := fun hS => ⟨hS.1, fun q h1 h2 => hS.2.1 q h1 (fun z => h2 (hAb q z)), fun l hl => hAb _ (hS.2.2 l hl)⟩
  have hS : va_S A s.heap s.heap [] := va_S.rf
  have hrt : ∀ (u : Nat → Nat) (pc : Nat) (ls : Array Slot) (v : Int64) (x_t_row : Nat → Int32) (x_t_wide : Int32) (x_t_lost : Int32) (x_t_strain : Nat → Int64) (x_t_det : Int64) (H : Heap) (locs : List Loc), decode cX8_bend pc = .ok (.lreturn, 1) → some (v, x_t_row, x_t_wide, x_t_lost, x_t_strain, x_t_det) = some (o, o_t_row, o_t_wide, o_t_lost, o_t_strain, o_t_det) → va_P g.2.1 vwCl [((a_t 0), .inr (7, [.ref (a_t 1), .ref (a_t 2), .int t_acted, .ref (a_t 4), .ref (a_t 5), .ref (a_t 6), .ref (a_t 7), .ref (a_t 8), .ref (a_t 9), .int t_taped, .int t_faultKind, .int t_faultPlace, .int t_at, .int t_begin, .int t_token, .int t_value, .int t_bad, .ref (a_t 18), .ref (a_t 19), .ref (a_t 20), .int x_t_wide, .int x_t_lost, .ref (a_t 23), .long x_t_det, .ref (a_t 25), .int t_mask, .int t_mode, .int t_wanted, .int t_orders, .int t_foundAt, .long t_foundBy, .ref (a_t 32), .ref (a_t 33), .int t_unlikes, .ref (a_t 35), .ref (a_t 36)])), ((a_t 1), .inl (g.2.2.1 0, 27, .inl t_mem)), ((a_t 20), .inl (g.2.2.1 0, 8, .inl x_t_row)), ((a_t 23), .inl (g.2.2.1 1, 3, .inr (.inl x_t_strain)))] H → va_D A [((a_t 0), .inr (7, [.ref (a_t 1), .ref (a_t 2), .int t_acted, .ref (a_t 4), .ref (a_t 5), .ref (a_t 6), .ref (a_t 7), .ref (a_t 8), .ref (a_t 9), .int t_taped, .int t_faultKind, .int t_faultPlace, .int t_at, .int t_begin, .int t_token, .int t_value, .int t_bad, .ref (a_t 18), .ref (a_t 19), .ref (a_t 20), .int x_t_wide, .int x_t_lost, .ref (a_t 23), .long x_t_det, .ref (a_t 25), .int t_mask, .int t_mode, .int t_wanted, .int t_orders, .int t_foundAt, .long t_foundBy, .ref (a_t 32), .ref (a_t 33), .int t_unlikes, .ref (a_t 35), .ref (a_t 36)])), ((a_t 1), .inl (g.2.2.1 0, 27, .inl t_mem)), ((a_t 20), .inl (g.2.2.1 0, 8, .inl x_t_row)), ((a_t 23), .inl (g.2.2.1 1, 3, .inr (.inl x_t_strain)))] → va_S A s.heap H locs → W p l e ⟨6, 0, 0, 160⟩ s m args below meth c H locs 0 0 Q (F0 m pc ls [.long v]) := by
    intro u pc ls v x_t_row x_t_wide x_t_lost x_t_strain x_t_det H locs hd h hP hD hS
    cases h
    exact hret u _ _ _ _ _ hd rfl hP hD hS
  unfold fX8_bend at h
  refine lv_aload_n hx hb dX8_bend_0 rfl (lv_at hl 0 rfl) ?_
  refine lv_iconst (v := 2) hx hb dX8_bend_1 (by decide) ?_
  refine lv_iload_n hx hb dX8_bend_2 rfl (lv_at hl 1 rfl) ?_
  refine lv_iload_n hx hb dX8_bend_3 rfl (lv_at hl 2 rfl) ?_
  refine lv_iload_n hx hb dX8_bend_4 rfl (lv_at hl 3 rfl) ?_
  refine lv_iload hx hb dX8_bend_5 (lv_at hl 4 rfl) ?_
  refine lv_iload hx hb dX8_bend_7 (lv_at hl 5 rfl) ?_
  obtain ⟨r2, w3, w4, w5, w6, w7, hr1, h⟩ := ob6_out h
  refine rw_l (WN := fun u8 => [((a_t 0), .inr (7, [.ref (a_t 1), .ref (a_t 2), .int t_acted, .ref (a_t 4), .ref (a_t 5), .ref (a_t 6), .ref (a_t 7), .ref (a_t 8), .ref (a_t 9), .int t_taped, .int t_faultKind, .int t_faultPlace, .int t_at, .int t_begin, .int t_token, .int t_value, .int t_bad, .ref (a_t 18), .ref (a_t 19), .ref (a_t 20), .int w4, .int w5, .ref (a_t 23), .long w7, .ref (a_t 25), .int t_mask, .int t_mode, .int t_wanted, .int t_orders, .int t_foundAt, .long t_foundBy, .ref (a_t 32), .ref (a_t 33), .int t_unlikes, .ref (a_t 35), .ref (a_t 36)])), ((a_t 1), .inl (g.2.2.1 0, 27, .inl t_mem)), ((a_t 20), .inl (g.2.2.1 0, 8, .inl w3)), ((a_t 23), .inl (g.2.2.1 1, 3, .inr (.inl w6)))]) (wr := []) (runV (As := [.int (2), .int v1, .int v2, .int v3, .int v4, .int v5]) (rest := []) cx hl.1 (ctX8_strained l g s.heap.size a_t t_acted t_taped t_faultKind t_faultPlace t_at t_begin t_token t_value t_bad t_wide t_lost t_det t_mask t_mode t_wanted t_orders t_foundAt t_foundBy t_unlikes t_mem t_row t_strain (2) v1 v2 v3 v4 v5 r2 w3 w4 w5 w6 w7 hr1) kmX8_strained kvX8_strained lm_X8_286 ⟨rfl, rfl⟩ ⟨Nat.le_of_ble_eq_true rfl, Nat.le_of_ble_eq_true rfl⟩ (rwV (q0 := 0) (ci := 7) hG (hP.sub [0, 1, 2, 3] rfl) (hD.sub [0, 1, 2, 3] (by decide) rfl) hAb hb0 hS hP rfl rfl) rfl rfl (Nat.le_of_ble_eq_true rfl) dX8_bend_9 ⟨Nat.le_of_ble_eq_true rfl, Nat.le_of_ble_eq_true rfl⟩) hP hD hS hA [0, 1, 2, 3] [] rfl rfl (by decide) (by decide) (fun _ => rfl) (fun u8 H locs hP hD hS => ?_)
  have hG := hGk hS
  exact hrt (fun _ => 0) _ _ r2 w3 w4 w5 w6 w7 _ _ dX8_bend_12 h (hP.sub [0, 1, 2, 3] rfl) (hD.sub [0, 1, 2, 3] (by decide) rfl) hS
