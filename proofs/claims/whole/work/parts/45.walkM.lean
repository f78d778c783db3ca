-- X8_goal
theorem dX8_goal_0 : decode cX8_goal 0 = .ok (.iconst (-1), 1) := by decide +kernel
theorem dX8_goal_1 : decode cX8_goal 1 = .ok (.istore_n 1, 1) := by decide +kernel
theorem dX8_goal_2 : decode cX8_goal 2 = .ok (.iconst 0, 1) := by decide +kernel
theorem dX8_goal_3 : decode cX8_goal 3 = .ok (.istore_n 2, 1) := by decide +kernel
theorem dX8_goal_4 : decode cX8_goal 4 = .ok (.iload_n 2, 1) := by decide +kernel
theorem dX8_goal_5 : decode cX8_goal 5 = .ok (.aload_n 0, 1) := by decide +kernel
theorem dX8_goal_6 : decode cX8_goal 6 = .ok (.invokevirtual 389, 3) := by decide +kernel
theorem dX8_goal_9 : decode cX8_goal 9 = .ok (.if_icmp .gt 71, 3) := by decide +kernel
theorem dX8_goal_12 : decode cX8_goal 12 = .ok (.aload_n 0, 1) := by decide +kernel
theorem dX8_goal_13 : decode cX8_goal 13 = .ok (.getfield 74, 3) := by decide +kernel
theorem dX8_goal_16 : decode cX8_goal 16 = .ok (.iload_n 2, 1) := by decide +kernel
theorem dX8_goal_17 : decode cX8_goal 17 = .ok (.iaload, 1) := by decide +kernel
theorem dX8_goal_18 : decode cX8_goal 18 = .ok (.bipush 100, 2) := by decide +kernel
theorem dX8_goal_20 : decode cX8_goal 20 = .ok (.if_icmp .lt 6, 3) := by decide +kernel
theorem dX8_goal_23 : decode cX8_goal 23 = .ok (.goto 51, 3) := by decide +kernel
theorem dX8_goal_26 : decode cX8_goal 26 = .ok (.iload_n 1, 1) := by decide +kernel
theorem dX8_goal_27 : decode cX8_goal 27 = .ok (.iconst (-1), 1) := by decide +kernel
theorem dX8_goal_28 : decode cX8_goal 28 = .ok (.if_icmp .ne 7, 3) := by decide +kernel
theorem dX8_goal_31 : decode cX8_goal 31 = .ok (.iconst (-1), 1) := by decide +kernel
theorem dX8_goal_32 : decode cX8_goal 32 = .ok (.goto 12, 3) := by decide +kernel
theorem dX8_goal_35 : decode cX8_goal 35 = .ok (.iload_n 2, 1) := by decide +kernel
theorem dX8_goal_36 : decode cX8_goal 36 = .ok (.invokestatic 303, 3) := by decide +kernel
theorem dX8_goal_39 : decode cX8_goal 39 = .ok (.iload_n 1, 1) := by decide +kernel
theorem dX8_goal_40 : decode cX8_goal 40 = .ok (.invokestatic 303, 3) := by decide +kernel
theorem dX8_goal_43 : decode cX8_goal 43 = .ok (.isub, 1) := by decide +kernel
theorem dX8_goal_44 : decode cX8_goal 44 = .ok (.istore_n 3, 1) := by decide +kernel
theorem dX8_goal_45 : decode cX8_goal 45 = .ok (.iload_n 3, 1) := by decide +kernel
theorem dX8_goal_46 : decode cX8_goal 46 = .ok (.ifCond .lt 22, 3) := by decide +kernel
theorem dX8_goal_49 : decode cX8_goal 49 = .ok (.iload_n 3, 1) := by decide +kernel
theorem dX8_goal_50 : decode cX8_goal 50 = .ok (.ifCond .ne 22, 3) := by decide +kernel
theorem dX8_goal_53 : decode cX8_goal 53 = .ok (.aload_n 0, 1) := by decide +kernel
theorem dX8_goal_54 : decode cX8_goal 54 = .ok (.getfield 74, 3) := by decide +kernel
theorem dX8_goal_57 : decode cX8_goal 57 = .ok (.iload_n 2, 1) := by decide +kernel
theorem dX8_goal_58 : decode cX8_goal 58 = .ok (.iaload, 1) := by decide +kernel
theorem dX8_goal_59 : decode cX8_goal 59 = .ok (.aload_n 0, 1) := by decide +kernel
theorem dX8_goal_60 : decode cX8_goal 60 = .ok (.getfield 74, 3) := by decide +kernel
theorem dX8_goal_63 : decode cX8_goal 63 = .ok (.iload_n 1, 1) := by decide +kernel
theorem dX8_goal_64 : decode cX8_goal 64 = .ok (.iaload, 1) := by decide +kernel
theorem dX8_goal_65 : decode cX8_goal 65 = .ok (.if_icmp .ge 7, 3) := by decide +kernel
theorem dX8_goal_68 : decode cX8_goal 68 = .ok (.iload_n 2, 1) := by decide +kernel
theorem dX8_goal_69 : decode cX8_goal 69 = .ok (.goto 4, 3) := by decide +kernel
theorem dX8_goal_72 : decode cX8_goal 72 = .ok (.iload_n 1, 1) := by decide +kernel
theorem dX8_goal_73 : decode cX8_goal 73 = .ok (.istore_n 1, 1) := by decide +kernel
theorem dX8_goal_74 : decode cX8_goal 74 = .ok (.iinc 2 1, 3) := by decide +kernel
theorem dX8_goal_77 : decode cX8_goal 77 = .ok (.goto (-73), 3) := by decide +kernel
theorem dX8_goal_80 : decode cX8_goal 80 = .ok (.iload_n 1, 1) := by decide +kernel
theorem dX8_goal_81 : decode cX8_goal 81 = .ok (.ireturn, 1) := by decide +kernel
noncomputable def fX8_goal_74 (k4 : (Nat → Int32) → (Nat → Int32) → Int32 → Int32 → Option (Int32)) (t_mem : Nat → Int32) (t_steps : Nat → Int32) (v1 : Int32) (v2 : Int32) : Option (Int32) := k4 t_mem t_steps v1 (v2 + 1)
noncomputable def fX8_goal_73 (k4 : (Nat → Int32) → (Nat → Int32) → Int32 → Int32 → Option (Int32)) (t_mem : Nat → Int32) (t_steps : Nat → Int32) (v2 : Int32) (z0 : Int32) : Option (Int32) := fX8_goal_74 k4 t_mem t_steps z0 v2
noncomputable def fX8_goal_68 (k4 : (Nat → Int32) → (Nat → Int32) → Int32 → Int32 → Option (Int32)) (t_mem : Nat → Int32) (t_steps : Nat → Int32) (v2 : Int32) : Option (Int32) := fX8_goal_73 k4 t_mem t_steps v2 v2
noncomputable def fX8_goal_72 (k4 : (Nat → Int32) → (Nat → Int32) → Int32 → Int32 → Option (Int32)) (t_mem : Nat → Int32) (t_steps : Nat → Int32) (v1 : Int32) (v2 : Int32) : Option (Int32) := fX8_goal_73 k4 t_mem t_steps v2 v1
noncomputable def fX8_goal_44 (k4 : (Nat → Int32) → (Nat → Int32) → Int32 → Int32 → Option (Int32)) (t_mem : Nat → Int32) (t_steps : Nat → Int32) (v1 : Int32) (v2 : Int32) (z0 : Int32) : Option (Int32) := (if z0 < 0 then fX8_goal_68 k4 t_mem t_steps v2 else (if z0 = 0 then chk 256 v2 (chk 256 v1 ((if (t_steps v1.toNatClampNeg) ≤ (t_steps v2.toNatClampNeg) then fX8_goal_72 k4 t_mem t_steps v1 v2 else fX8_goal_68 k4 t_mem t_steps v2))) else fX8_goal_72 k4 t_mem t_steps v1 v2))
noncomputable def fX8_goal_4  : Nat → (Nat → Int32) → (Nat → Int32) → Int32 → Int32 → Option (Int32)
  | 0, _, _, _, _ => none
  | n + 1, t_mem, t_steps, v1, v2 => (fX8_allBits t_mem).bind fun r1 => (if r1 < v2 then some v1 else chk 256 v2 ((if (t_steps v2.toNatClampNeg) < 100 then (if v1 = (-1) then fX8_goal_44 (fX8_goal_4 n) t_mem t_steps v1 v2 (-1) else fX8_goal_44 (fX8_goal_4 n) t_mem t_steps v1 v2 ((fJ6_bitCount_0f7a4 v2) - (fJ6_bitCount_0f7a4 v1))) else fX8_goal_74 (fX8_goal_4 n) t_mem t_steps v1 v2)))
theorem fX8_goal_4_z  (t_mem : Nat → Int32) (t_steps : Nat → Int32) (v1 : Int32) (v2 : Int32) : fX8_goal_4  0 t_mem t_steps v1 v2 = none := rfl
theorem fX8_goal_4_s  (n : Nat) (t_mem : Nat → Int32) (t_steps : Nat → Int32) (v1 : Int32) (v2 : Int32) : fX8_goal_4  (n + 1) t_mem t_steps v1 v2 = (fX8_allBits t_mem).bind fun r1 => (if r1 < v2 then some v1 else chk 256 v2 ((if (t_steps v2.toNatClampNeg) < 100 then (if v1 = (-1) then fX8_goal_44 (fX8_goal_4 n) t_mem t_steps v1 v2 (-1) else fX8_goal_44 (fX8_goal_4 n) t_mem t_steps v1 v2 ((fJ6_bitCount_0f7a4 v2) - (fJ6_bitCount_0f7a4 v1))) else fX8_goal_74 (fX8_goal_4 n) t_mem t_steps v1 v2))) := rfl
noncomputable def fX8_goal  (t_mem : Nat → Int32) (t_steps : Nat → Int32) : Option (Int32) := fX8_goal_4 FU t_mem t_steps (-1) 0
set_option maxHeartbeats 4000000 in
set_option maxRecDepth 100000 in
theorem ctX8_goal (l : Launch) (g : GT) (a_t : Nat → Nat) (t_acted : Int32) (t_taped : Int32) (t_faultKind : Int32) (t_faultPlace : Int32) (t_at : Int32) (t_begin : Int32) (t_token : Int32) (t_value : Int32) (t_bad : Int32) (t_wide : Int32) (t_lost : Int32) (t_det : Int64) (t_mask : Int32) (t_mode : Int32) (t_wanted : Int32) (t_orders : Int32) (t_foundAt : Int32) (t_foundBy : Int64) (t_unlikes : Int32) (t_mem : Nat → Int32) (t_steps : Nat → Int32) (o : Int32) (h : fX8_goal t_mem t_steps = some o) : Met l yX8_goal (Cond.code yX8_goal cX8_goal 4 (some .int) :: Tw) ⟨1, 0, 0, 20⟩ (va_Pc [.ref ((a_t 0))] (roB g [((a_t 0), .inr (7, [.ref (a_t 1), .ref (a_t 2), .int t_acted, .ref (a_t 4), .ref (a_t 5), .ref (a_t 6), .ref (a_t 7), .ref (a_t 8), .ref (a_t 9), .int t_taped, .int t_faultKind, .int t_faultPlace, .int t_at, .int t_begin, .int t_token, .int t_value, .int t_bad, .ref (a_t 18), .ref (a_t 19), .ref (a_t 20), .int t_wide, .int t_lost, .ref (a_t 23), .long t_det, .ref (a_t 25), .int t_mask, .int t_mode, .int t_wanted, .int t_orders, .int t_foundAt, .long t_foundBy, .ref (a_t 32), .ref (a_t 33), .int t_unlikes, .ref (a_t 35), .ref (a_t 36)])), ((a_t 1), .inl (g.2.2.1 0, 27, .inl t_mem)), ((a_t 35), .inl (g.2.2.1 0, 256, .inl t_steps))])) (vp_Si (fun x => x = o)) 0 0 (fun _ => False) := by
  refine ro_meti (by decide) (Nat.le_of_ble_eq_true rfl) (lv0 := [(0, .ref ((a_t 0)))]) rfl ?_
  intro p e s m args below meth c ls Q cx hret hG hP hl
  have hx := cx.1
  have hb := cx.2.1
  have hG0 := hG
  have w74 : ∀ (k4 : (Nat → Int32) → (Nat → Int32) → Int32 → Int32 → Option (Int32)) (hk4 : ∀ (v1 : Int32) (v2 : Int32) (ls : Array Slot), lv_has ls 4 [(0, .ref ((a_t 0))), (1, .int v1), (2, .int v2)] → k4 t_mem t_steps v1 v2 = some o → W p l e ⟨1, 0, 0, 20⟩ s m args below meth c s.heap [] 0 0 Q (F0 m 4 ls [])) (v1 : Int32) (v2 : Int32) (ls : Array Slot), lv_has ls 4 [(0, .ref ((a_t 0))), (1, .int v1), (2, .int v2)] → fX8_goal_74 k4 t_mem t_steps v1 v2 = some o → W p l e ⟨1, 0, 0, 20⟩ s m args below meth c s.heap [] 0 0 Q (F0 m 74 ls []) := by
    intro k4 hk4 v1 v2 ls hl h
    unfold fX8_goal_74 at h
    refine lv_iinc (v := v2 + 1) (lv' := [(2, .int (v2 + 1)), (0, .ref ((a_t 0))), (1, .int v1)]) hx hb dX8_goal_74 hl (k := 2) rfl rfl (by decide) rfl (fun ls hl => ?_)
    refine lv_goto (tgt := 4) hx hb dX8_goal_77 (by decide) ?_
    exact hk4 v1 (v2 + 1) _ (lv_sub hl [1, 2, 0] rfl) h
  have w73 : ∀ (k4 : (Nat → Int32) → (Nat → Int32) → Int32 → Int32 → Option (Int32)) (hk4 : ∀ (v1 : Int32) (v2 : Int32) (ls : Array Slot), lv_has ls 4 [(0, .ref ((a_t 0))), (1, .int v1), (2, .int v2)] → k4 t_mem t_steps v1 v2 = some o → W p l e ⟨1, 0, 0, 20⟩ s m args below meth c s.heap [] 0 0 Q (F0 m 4 ls [])) (v2 : Int32) (z0 : Int32) (ls : Array Slot), lv_has ls 4 [(0, .ref ((a_t 0))), (2, .int v2)] → fX8_goal_73 k4 t_mem t_steps v2 z0 = some o → W p l e ⟨1, 0, 0, 20⟩ s m args below meth c s.heap [] 0 0 Q (F0 m 73 ls [.int z0]) := by
    intro k4 hk4 v2 z0 ls hl h
    unfold fX8_goal_73 at h
    refine lv_istore_n (lv' := [(1, .int z0), (0, .ref ((a_t 0))), (2, .int v2)]) hx hb dX8_goal_73 rfl hl (by decide) rfl (fun ls hl => ?_)
    exact w74 _ hk4 z0 v2 _ (lv_sub hl [1, 0, 2] rfl) h
  have w68 : ∀ (k4 : (Nat → Int32) → (Nat → Int32) → Int32 → Int32 → Option (Int32)) (hk4 : ∀ (v1 : Int32) (v2 : Int32) (ls : Array Slot), lv_has ls 4 [(0, .ref ((a_t 0))), (1, .int v1), (2, .int v2)] → k4 t_mem t_steps v1 v2 = some o → W p l e ⟨1, 0, 0, 20⟩ s m args below meth c s.heap [] 0 0 Q (F0 m 4 ls [])) (v2 : Int32) (ls : Array Slot), lv_has ls 4 [(0, .ref ((a_t 0))), (2, .int v2)] → fX8_goal_68 k4 t_mem t_steps v2 = some o → W p l e ⟨1, 0, 0, 20⟩ s m args below meth c s.heap [] 0 0 Q (F0 m 68 ls []) := by
    intro k4 hk4 v2 ls hl h
    unfold fX8_goal_68 at h
    refine lv_iload_n hx hb dX8_goal_68 rfl (lv_at hl 1 rfl) ?_
    refine lv_goto (tgt := 73) hx hb dX8_goal_69 (by decide) ?_
    exact w73 _ hk4 v2 v2 _ (lv_sub hl [0, 1] rfl) h
  have w72 : ∀ (k4 : (Nat → Int32) → (Nat → Int32) → Int32 → Int32 → Option (Int32)) (hk4 : ∀ (v1 : Int32) (v2 : Int32) (ls : Array Slot), lv_has ls 4 [(0, .ref ((a_t 0))), (1, .int v1), (2, .int v2)] → k4 t_mem t_steps v1 v2 = some o → W p l e ⟨1, 0, 0, 20⟩ s m args below meth c s.heap [] 0 0 Q (F0 m 4 ls [])) (v1 : Int32) (v2 : Int32) (ls : Array Slot), lv_has ls 4 [(0, .ref ((a_t 0))), (1, .int v1), (2, .int v2)] → fX8_goal_72 k4 t_mem t_steps v1 v2 = some o → W p l e ⟨1, 0, 0, 20⟩ s m args below meth c s.heap [] 0 0 Q (F0 m 72 ls []) := by
    intro k4 hk4 v1 v2 ls hl h
    unfold fX8_goal_72 at h
    refine lv_iload_n hx hb dX8_goal_72 rfl (lv_at hl 1 rfl) ?_
    exact w73 _ hk4 v2 v1 _ (lv_sub hl [0, 2] rfl) h
  have w44 : ∀ (k4 : (Nat → Int32) → (Nat → Int32) → Int32 → Int32 → Option (Int32)) (hk4 : ∀ (v1 : Int32) (v2 : Int32) (ls : Array Slot), lv_has ls 4 [(0, .ref ((a_t 0))), (1, .int v1), (2, .int v2)] → k4 t_mem t_steps v1 v2 = some o → W p l e ⟨1, 0, 0, 20⟩ s m args below meth c s.heap [] 0 0 Q (F0 m 4 ls [])) (v1 : Int32) (v2 : Int32) (z0 : Int32) (ls : Array Slot), lv_has ls 4 [(0, .ref ((a_t 0))), (1, .int v1), (2, .int v2)] → fX8_goal_44 k4 t_mem t_steps v1 v2 z0 = some o → W p l e ⟨1, 0, 0, 20⟩ s m args below meth c s.heap [] 0 0 Q (F0 m 44 ls [.int z0]) := by
    intro k4 hk4 v1 v2 z0 ls hl h
    unfold fX8_goal_44 at h
    refine lv_istore_n (lv' := [(3, .int z0), (0, .ref ((a_t 0))), (1, .int v1), (2, .int v2)]) hx hb dX8_goal_44 rfl hl (by decide) rfl (fun ls hl => ?_)
    refine lv_iload_n hx hb dX8_goal_45 rfl (lv_at hl 0 rfl) ?_
    refine lv_if_lt (tgt := 68) hx hb dX8_goal_46 (by decide) (fun c7 => ?_) (fun c7 => ?_)
    · have h := itp c7 h
      exact w68 _ hk4 v2 _ (lv_sub hl [1, 3] rfl) h
    · have h := itn c7 h
      refine lv_iload_n hx hb dX8_goal_49 rfl (lv_at hl 0 rfl) ?_
      refine lv_if_ne (tgt := 72) hx hb dX8_goal_50 (by decide) (fun c8 => ?_) (fun c8 => ?_)
      · have h := itn c8 h
        exact w72 _ hk4 v1 v2 _ (lv_sub hl [1, 2, 3] rfl) h
      · have h := itp c8 h
        refine lv_aload_n hx hb dX8_goal_53 rfl (lv_at hl 1 rfl) ?_
        refine xa_get (C := RX8) (T := TX8) (N := 36) cx hG hP 0 rfl rfl uX8 34 (by decide) lf_X8_74 rfl dX8_goal_54 ?_
        refine lv_iload_n hx hb dX8_goal_57 rfl (lv_at hl 3 rfl) ?_
        obtain ⟨hi9, h⟩ := chk_out h
        refine xa_iald cx hG hP 2 rfl hi9 rfl dX8_goal_58 ?_
        refine lv_aload_n hx hb dX8_goal_59 rfl (lv_at hl 1 rfl) ?_
        refine xa_get (C := RX8) (T := TX8) (N := 36) cx hG hP 0 rfl rfl uX8 34 (by decide) lf_X8_74 rfl dX8_goal_60 ?_
        refine lv_iload_n hx hb dX8_goal_63 rfl (lv_at hl 2 rfl) ?_
        obtain ⟨hi10, h⟩ := chk_out h
        refine xa_iald cx hG hP 2 rfl hi10 rfl dX8_goal_64 ?_
        refine lv_icmp_ge (tgt := 72) hx hb dX8_goal_65 (by decide) (fun c11 => ?_) (fun c11 => ?_)
        · have h := itp c11 h
          exact w72 _ hk4 v1 v2 _ (lv_sub hl [1, 2, 3] rfl) h
        · have h := itn c11 h
          exact w68 _ hk4 v2 _ (lv_sub hl [1, 3] rfl) h
  have w4 : ∀ (n : Nat) (v1 : Int32) (v2 : Int32) (ls : Array Slot), lv_has ls 4 [(0, .ref ((a_t 0))), (1, .int v1), (2, .int v2)] → fX8_goal_4  n t_mem t_steps v1 v2 = some o → W p l e ⟨1, 0, 0, 20⟩ s m args below meth c s.heap [] 0 0 Q (F0 m 4 ls []) := by
    intro n
    induction n with
    | zero => intro v1 v2 ls hl h; cases (fX8_goal_4_z  t_mem t_steps v1 v2).symm.trans h
    | succ n ih =>
    intro v1 v2 ls hl h
    have h := (fX8_goal_4_s  n t_mem t_steps v1 v2).symm.trans h
    refine lv_iload_n hx hb dX8_goal_4 rfl (lv_at hl 2 rfl) ?_
    refine lv_aload_n hx hb dX8_goal_5 rfl (lv_at hl 0 rfl) ?_
    obtain ⟨r1, hr2, h⟩ := bnd h
    refine ro_i (runV (As := []) (rest := [.int v2]) cx hl.1 (ctX8_allBits l g a_t t_acted t_taped t_faultKind t_faultPlace t_at t_begin t_token t_value t_bad t_wide t_lost t_det t_mask t_mode t_wanted t_orders t_foundAt t_foundBy t_unlikes t_mem r1 hr2) kmX8_allBits kvX8_allBits lm_X8_389 ⟨rfl, rfl⟩ ⟨Nat.le_of_ble_eq_true rfl, Nat.le_of_ble_eq_true rfl⟩ (roV (q0 := 0) (ci := 7) hG (hP.sub [0, 1] rfl) hP rfl rfl) rfl rfl (Nat.le_of_ble_eq_true rfl) dX8_goal_6 ⟨Nat.le_of_ble_eq_true rfl, Nat.le_of_ble_eq_true rfl⟩) ?_
    refine lv_icmp_gt (tgt := 80) hx hb dX8_goal_9 (by decide) (fun c3 => ?_) (fun c3 => ?_)
    · have h := itp c3 h
      refine lv_iload_n hx hb dX8_goal_80 rfl (lv_at hl 1 rfl) ?_
      exact hret _ _ _ dX8_goal_81 (Option.some.inj h)
    · have h := itn c3 h
      refine lv_aload_n hx hb dX8_goal_12 rfl (lv_at hl 0 rfl) ?_
      refine xa_get (C := RX8) (T := TX8) (N := 36) cx hG hP 0 rfl rfl uX8 34 (by decide) lf_X8_74 rfl dX8_goal_13 ?_
      refine lv_iload_n hx hb dX8_goal_16 rfl (lv_at hl 2 rfl) ?_
      obtain ⟨hi4, h⟩ := chk_out h
      refine xa_iald cx hG hP 2 rfl hi4 rfl dX8_goal_17 ?_
      refine lv_bipush (v := 100) hx hb dX8_goal_18 (by decide) ?_
      refine lv_icmp_lt (tgt := 26) hx hb dX8_goal_20 (by decide) (fun c5 => ?_) (fun c5 => ?_)
      · have h := itp c5 h
        refine lv_iload_n hx hb dX8_goal_26 rfl (lv_at hl 1 rfl) ?_
        refine lv_iconst (v := -1) hx hb dX8_goal_27 (by decide) ?_
        refine lv_icmp_ne (tgt := 35) hx hb dX8_goal_28 (by decide) (fun c6 => ?_) (fun c6 => ?_)
        · have h := itn c6 h
          refine lv_iload_n hx hb dX8_goal_35 rfl (lv_at hl 2 rfl) ?_
          refine ro_i (runS (As := [.int v2]) (rest := []) cx hl.1 (ctJ6_bitCount_0f7a4 l g v2 (fJ6_bitCount_0f7a4 v2) rfl) kmJ6_bitCount_0f7a4 ksJ6_bitCount_0f7a4 lm_X8_303 ⟨rfl, rfl⟩ ⟨Nat.le_of_ble_eq_true rfl, Nat.le_of_ble_eq_true rfl⟩ (roS hG (hP.sub [] rfl)) rfl rfl (Nat.le_of_ble_eq_true rfl) dX8_goal_36 ⟨Nat.le_of_ble_eq_true rfl, Nat.le_of_ble_eq_true rfl⟩) ?_
          refine lv_iload_n hx hb dX8_goal_39 rfl (lv_at hl 1 rfl) ?_
          refine ro_i (runS (As := [.int v1]) (rest := [.int (fJ6_bitCount_0f7a4 v2)]) cx hl.1 (ctJ6_bitCount_0f7a4 l g v1 (fJ6_bitCount_0f7a4 v1) rfl) kmJ6_bitCount_0f7a4 ksJ6_bitCount_0f7a4 lm_X8_303 ⟨rfl, rfl⟩ ⟨Nat.le_of_ble_eq_true rfl, Nat.le_of_ble_eq_true rfl⟩ (roS hG (hP.sub [] rfl)) rfl rfl (Nat.le_of_ble_eq_true rfl) dX8_goal_40 ⟨Nat.le_of_ble_eq_true rfl, Nat.le_of_ble_eq_true rfl⟩) ?_
          refine lv_isub hx hb dX8_goal_43 ?_
          exact w44 _ ih v1 v2 ((fJ6_bitCount_0f7a4 v2) - (fJ6_bitCount_0f7a4 v1)) _ (lv_sub hl [0, 1, 2] rfl) h
        · have h := itp c6 h
          refine lv_iconst (v := -1) hx hb dX8_goal_31 (by decide) ?_
          refine lv_goto (tgt := 44) hx hb dX8_goal_32 (by decide) ?_
          exact w44 _ ih v1 v2 (-1) _ (lv_sub hl [0, 1, 2] rfl) h
      · have h := itn c5 h
        refine lv_goto (tgt := 74) hx hb dX8_goal_23 (by decide) ?_
        exact w74 _ ih v1 v2 _ (lv_sub hl [0, 1, 2] rfl) h
  unfold fX8_goal at h
  refine lv_iconst (v := -1) hx hb dX8_goal_0 (by decide) ?_
  refine lv_istore_n (lv' := [(1, .int (-1)), (0, .ref ((a_t 0)))]) hx hb dX8_goal_1 rfl hl (by decide) rfl (fun ls hl => ?_)
  refine lv_iconst (v := 0) hx hb dX8_goal_2 (by decide) ?_
  refine lv_istore_n (lv' := [(2, .int (0)), (1, .int (-1)), (0, .ref ((a_t 0)))]) hx hb dX8_goal_3 rfl hl (by decide) rfl (fun ls hl => ?_)
  exact w4 FU (-1) 0 _ (lv_sub hl [2, 1, 0] rfl) h
-- X8_isWay
theorem dX8_isWay_0 : decode cX8_isWay 0 = .ok (.aload_n 0, 1) := by decide +kernel
theorem dX8_isWay_1 : decode cX8_isWay 1 = .ok (.iload_n 1, 1) := by decide +kernel
theorem dX8_isWay_2 : decode cX8_isWay 2 = .ok (.invokevirtual 361, 3) := by decide +kernel
theorem dX8_isWay_5 : decode cX8_isWay 5 = .ok (.ifCond .eq 19, 3) := by decide +kernel
theorem dX8_isWay_8 : decode cX8_isWay 8 = .ok (.iload_n 2, 1) := by decide +kernel
theorem dX8_isWay_9 : decode cX8_isWay 9 = .ok (.i2l, 1) := by decide +kernel
theorem dX8_isWay_10 : decode cX8_isWay 10 = .ok (.lconst 1, 1) := by decide +kernel
theorem dX8_isWay_11 : decode cX8_isWay 11 = .ok (.ldc2_w 204, 3) := by decide +kernel
theorem dX8_isWay_14 : decode cX8_isWay 14 = .ok (.invokestatic 83, 3) := by decide +kernel
theorem dX8_isWay_17 : decode cX8_isWay 17 = .ok (.ifCond .eq 7, 3) := by decide +kernel
theorem dX8_isWay_20 : decode cX8_isWay 20 = .ok (.iconst 1, 1) := by decide +kernel
theorem dX8_isWay_21 : decode cX8_isWay 21 = .ok (.goto 4, 3) := by decide +kernel
theorem dX8_isWay_24 : decode cX8_isWay 24 = .ok (.iconst 0, 1) := by decide +kernel
theorem dX8_isWay_25 : decode cX8_isWay 25 = .ok (.ireturn, 1) := by decide +kernel
noncomputable def fX8_isWay  (t_mem : Nat → Int32) (v1 : Int32) (v2 : Int32) : Option (Int32) := (fX8_isAsked t_mem v1).bind fun r1 => (if r1 = 0 then some (0) else (if (fX8_in v2.toInt64 1 3) = 0 then some (0) else some (1)))
set_option maxHeartbeats 4000000 in
set_option maxRecDepth 100000 in
theorem ctX8_isWay (l : Launch) (g : GT) (a_t : Nat → Nat) (t_acted : Int32) (t_taped : Int32) (t_faultKind : Int32) (t_faultPlace : Int32) (t_at : Int32) (t_begin : Int32) (t_token : Int32) (t_value : Int32) (t_bad : Int32) (t_wide : Int32) (t_lost : Int32) (t_det : Int64) (t_mask : Int32) (t_mode : Int32) (t_wanted : Int32) (t_orders : Int32) (t_foundAt : Int32) (t_foundBy : Int64) (t_unlikes : Int32) (t_mem : Nat → Int32) (v1 : Int32) (v2 : Int32) (o : Int32) (h : fX8_isWay t_mem v1 v2 = some o) : Met l yX8_isWay (Cond.code yX8_isWay cX8_isWay 3 (some .boolean) :: Tw) ⟨3, 0, 0, 66⟩ (va_Pc [.ref ((a_t 0)), .int v1, .int v2] (roB g [((a_t 0), .inr (7, [.ref (a_t 1), .ref (a_t 2), .int t_acted, .ref (a_t 4), .ref (a_t 5), .ref (a_t 6), .ref (a_t 7), .ref (a_t 8), .ref (a_t 9), .int t_taped, .int t_faultKind, .int t_faultPlace, .int t_at, .int t_begin, .int t_token, .int t_value, .int t_bad, .ref (a_t 18), .ref (a_t 19), .ref (a_t 20), .int t_wide, .int t_lost, .ref (a_t 23), .long t_det, .ref (a_t 25), .int t_mask, .int t_mode, .int t_wanted, .int t_orders, .int t_foundAt, .long t_foundBy, .ref (a_t 32), .ref (a_t 33), .int t_unlikes, .ref (a_t 35), .ref (a_t 36)])), ((a_t 1), .inl (g.2.2.1 0, 27, .inl t_mem))])) (vp_Si (fun x => x = o ∧ (x = 0 ∨ x = 1))) 0 0 (fun _ => False) := by
  refine ro_metz (by decide) (Nat.le_of_ble_eq_true rfl) (lv0 := [(0, .ref ((a_t 0))), (1, .int v1), (2, .int v2)]) rfl ?_
  intro p e s m args below meth c ls Q cx hret hG hP hl
  have hx := cx.1
  have hb := cx.2.1
  have hG0 := hG
  unfold fX8_isWay at h
  refine lv_aload_n hx hb dX8_isWay_0 rfl (lv_at hl 0 rfl) ?_
  refine lv_iload_n hx hb dX8_isWay_1 rfl (lv_at hl 1 rfl) ?_
  obtain ⟨r1, hr2, h⟩ := bnd h
  refine ro_z (runV (As := [.int v1]) (rest := []) cx hl.1 (ctX8_isAsked l g a_t t_acted t_taped t_faultKind t_faultPlace t_at t_begin t_token t_value t_bad t_wide t_lost t_det t_mask t_mode t_wanted t_orders t_foundAt t_foundBy t_unlikes t_mem v1 r1 hr2) kmX8_isAsked kvX8_isAsked lm_X8_361 ⟨rfl, rfl⟩ ⟨Nat.le_of_ble_eq_true rfl, Nat.le_of_ble_eq_true rfl⟩ (roV (q0 := 0) (ci := 7) hG (hP.sub [0, 1] rfl) hP rfl rfl) rfl rfl (Nat.le_of_ble_eq_true rfl) dX8_isWay_2 ⟨Nat.le_of_ble_eq_true rfl, Nat.le_of_ble_eq_true rfl⟩) (fun hz3 => ?_)
  refine lv_if_eq (tgt := 24) hx hb dX8_isWay_5 (by decide) (fun c4 => ?_) (fun c4 => ?_)
  · have h := itp c4 h
    refine lv_iconst (v := 0) hx hb dX8_isWay_24 (by decide) ?_
    exact hret _ _ _ dX8_isWay_25 (by decide) (Option.some.inj h)
  · have h := itn c4 h
    refine lv_iload_n hx hb dX8_isWay_8 rfl (lv_at hl 2 rfl) ?_
    refine lv_i2l (v := v2.toInt64) hx hb dX8_isWay_9 rfl ?_
    refine lv_lconst (v := 1) hx hb dX8_isWay_10 (by decide) ?_
    refine lv_ldc2 (own := RX8) (v := 3) hx hb cx.2.2.2.1 (cx.2.2.2.2 _ cl_X8_204) dX8_isWay_11 ?_
    refine ro_z (runS (As := [.long v2.toInt64, .long (1), .long (3)]) (rest := []) cx hl.1 (ctX8_in l g v2.toInt64 (1) (3) (fX8_in v2.toInt64 1 3) rfl) kmX8_in ksX8_in lm_X8_83 ⟨rfl, rfl⟩ ⟨Nat.le_of_ble_eq_true rfl, Nat.le_of_ble_eq_true rfl⟩ (roS hG (hP.sub [] rfl)) rfl rfl (Nat.le_of_ble_eq_true rfl) dX8_isWay_14 ⟨Nat.le_of_ble_eq_true rfl, Nat.le_of_ble_eq_true rfl⟩) (fun hz5 => ?_)
    refine lv_if_eq (tgt := 24) hx hb dX8_isWay_17 (by decide) (fun c6 => ?_) (fun c6 => ?_)
    · have h := itp c6 h
      refine lv_iconst (v := 0) hx hb dX8_isWay_24 (by decide) ?_
      exact hret _ _ _ dX8_isWay_25 (by decide) (Option.some.inj h)
    · have h := itn c6 h
      refine lv_iconst (v := 1) hx hb dX8_isWay_20 (by decide) ?_
      refine lv_goto (tgt := 25) hx hb dX8_isWay_21 (by decide) ?_
      exact hret _ _ _ dX8_isWay_25 (by decide) (Option.some.inj h)
-- X8_blend
theorem dX8_blend_0 : decode cX8_blend 0 = .ok (.aload_n 0, 1) := by decide +kernel
theorem dX8_blend_1 : decode cX8_blend 1 = .ok (.iload_n 1, 1) := by decide +kernel
theorem dX8_blend_2 : decode cX8_blend 2 = .ok (.iload_n 2, 1) := by decide +kernel
theorem dX8_blend_3 : decode cX8_blend 3 = .ok (.invokevirtual 395, 3) := by decide +kernel
theorem dX8_blend_6 : decode cX8_blend 6 = .ok (.ifCond .ne 6, 3) := by decide +kernel
theorem dX8_blend_9 : decode cX8_blend 9 = .ok (.bipush (-2), 2) := by decide +kernel
theorem dX8_blend_11 : decode cX8_blend 11 = .ok (.ireturn, 1) := by decide +kernel
theorem dX8_blend_12 : decode cX8_blend 12 = .ok (.aload_n 0, 1) := by decide +kernel
theorem dX8_blend_13 : decode cX8_blend 13 = .ok (.iload_n 1, 1) := by decide +kernel
theorem dX8_blend_14 : decode cX8_blend 14 = .ok (.iload_n 2, 1) := by decide +kernel
theorem dX8_blend_15 : decode cX8_blend 15 = .ok (.invokevirtual 398, 3) := by decide +kernel
theorem dX8_blend_18 : decode cX8_blend 18 = .ok (.aload_n 0, 1) := by decide +kernel
theorem dX8_blend_19 : decode cX8_blend 19 = .ok (.invokevirtual 401, 3) := by decide +kernel
theorem dX8_blend_22 : decode cX8_blend 22 = .ok (.iconst (-1), 1) := by decide +kernel
theorem dX8_blend_23 : decode cX8_blend 23 = .ok (.if_icmp .ne 7, 3) := by decide +kernel
theorem dX8_blend_26 : decode cX8_blend 26 = .ok (.iconst (-1), 1) := by decide +kernel
theorem dX8_blend_27 : decode cX8_blend 27 = .ok (.goto 10, 3) := by decide +kernel
theorem dX8_blend_30 : decode cX8_blend 30 = .ok (.aload_n 0, 1) := by decide +kernel
theorem dX8_blend_31 : decode cX8_blend 31 = .ok (.invokevirtual 401, 3) := by decide +kernel
theorem dX8_blend_34 : decode cX8_blend 34 = .ok (.invokestatic 303, 3) := by decide +kernel
theorem dX8_blend_37 : decode cX8_blend 37 = .ok (.ireturn, 1) := by decide +kernel
noncomputable def fX8_blend  (t_mem : Nat → Int32) (t_row : Nat → Int32) (t_wide : Int32) (t_lost : Int32) (t_steps : Nat → Int32) (v1 : Int32) (v2 : Int32) : Option (Int32 × (Nat → Int32) × Int32 × Int32 × (Nat → Int32)) := (fX8_isWay t_mem v1 v2).bind fun r1 => (if r1 = 0 then some ((-2), t_row, t_wide, t_lost, t_steps) else ob4 (fX8_laysSteps t_mem t_row t_wide t_lost t_steps v1 v2) fun w6 w7 w8 w9 => (fX8_goal t_mem w9).bind fun r11 => (if r11 = (-1) then some ((-1), w6, w7, w8, w9) else (fX8_goal t_mem w9).bind fun r14 => some ((fJ6_bitCount_0f7a4 r14), w6, w7, w8, w9)))
set_option maxHeartbeats 4000000 in
set_option maxRecDepth 100000 in
theorem ctX8_blend (l : Launch) (g : GT) (sz : Nat) (a_t : Nat → Nat) (t_acted : Int32) (t_taped : Int32) (t_faultKind : Int32) (t_faultPlace : Int32) (t_at : Int32) (t_begin : Int32) (t_token : Int32) (t_value : Int32) (t_bad : Int32) (t_wide : Int32) (t_lost : Int32) (t_det : Int64) (t_mask : Int32) (t_mode : Int32) (t_wanted : Int32) (t_orders : Int32) (t_foundAt : Int32) (t_foundBy : Int64) (t_unlikes : Int32) (t_mem : Nat → Int32) (t_row : Nat → Int32) (t_steps : Nat → Int32) (v1 : Int32) (v2 : Int32) (o : Int32) (o_t_row : Nat → Int32) (o_t_wide : Int32) (o_t_lost : Int32) (o_t_steps : Nat → Int32) (h : fX8_blend t_mem t_row t_wide t_lost t_steps v1 v2 = some (o, o_t_row, o_t_wide, o_t_lost, o_t_steps)) : Met l yX8_blend (Cond.code yX8_blend cX8_blend 3 (some .int) :: Tw) ⟨6, 0, 0, 148⟩ (va_Pc [.ref ((a_t 0)), .int v1, .int v2] (rwB g [((a_t 0), .inr (7, [.ref (a_t 1), .ref (a_t 2), .int t_acted, .ref (a_t 4), .ref (a_t 5), .ref (a_t 6), .ref (a_t 7), .ref (a_t 8), .ref (a_t 9), .int t_taped, .int t_faultKind, .int t_faultPlace, .int t_at, .int t_begin, .int t_token, .int t_value, .int t_bad, .ref (a_t 18), .ref (a_t 19), .ref (a_t 20), .int t_wide, .int t_lost, .ref (a_t 23), .long t_det, .ref (a_t 25), .int t_mask, .int t_mode, .int t_wanted, .int t_orders, .int t_foundAt, .long t_foundBy, .ref (a_t 32), .ref (a_t 33), .int t_unlikes, .ref (a_t 35), .ref (a_t 36)])), ((a_t 1), .inl (g.2.2.1 0, 27, .inl t_mem)), ((a_t 20), .inl (g.2.2.1 0, 8, .inl t_row)), ((a_t 35), .inl (g.2.2.1 0, 256, .inl t_steps))] sz)) (va_Qi (fun x (_ : Nat → Nat) => x = o) (fun u => rwE g (va_A [((a_t 0), .inr (7, [.ref (a_t 1), .ref (a_t 2), .int t_acted, .ref (a_t 4), .ref (a_t 5), .ref (a_t 6), .ref (a_t 7), .ref (a_t 8), .ref (a_t 9), .int t_taped, .int t_faultKind, .int t_faultPlace, .int t_at, .int t_begin, .int t_token, .int t_value, .int t_bad, .ref (a_t 18), .ref (a_t 19), .ref (a_t 20), .int t_wide, .int t_lost, .ref (a_t 23), .long t_det, .ref (a_t 25), .int t_mask, .int t_mode, .int t_wanted, .int t_orders, .int t_foundAt, .long t_foundBy, .ref (a_t 32), .ref (a_t 33), .int t_unlikes, .ref (a_t 35), .ref (a_t 36)])), ((a_t 1), .inl (g.2.2.1 0, 27, .inl t_mem)), ((a_t 20), .inl (g.2.2.1 0, 8, .inl t_row)), ((a_t 35), .inl (g.2.2.1 0, 256, .inl t_steps))] sz) [((a_t 0), .inr (7, [.ref (a_t 1), .ref (a_t 2), .int t_acted, .ref (a_t 4), .ref (a_t 5), .ref (a_t 6), .ref (a_t 7), .ref (a_t 8), .ref (a_t 9), .int t_taped, .int t_faultKind, .int t_faultPlace, .int t_at, .int t_begin, .int t_token, .int t_value, .int t_bad, .ref (a_t 18), .ref (a_t 19), .ref (a_t 20), .int o_t_wide, .int o_t_lost, .ref (a_t 23), .long t_det, .ref (a_t 25), .int t_mask, .int t_mode, .int t_wanted, .int t_orders, .int t_foundAt, .long t_foundBy, .ref (a_t 32), .ref (a_t 33), .int t_unlikes, .ref (a_t 35), .ref (a_t 36)])), ((a_t 1), .inl (g.2.2.1 0, 27, .inl t_mem)), ((a_t 20), .inl (g.2.2.1 0, 8, .inl o_t_row)), ((a_t 35), .inl (g.2.2.1 0, 256, .inl o_t_steps))]) (va_A [((a_t 0), .inr (7, [.ref (a_t 1), .ref (a_t 2), .int t_acted, .ref (a_t 4), .ref (a_t 5), .ref (a_t 6), .ref (a_t 7), .ref (a_t 8), .ref (a_t 9), .int t_taped, .int t_faultKind, .int t_faultPlace, .int t_at, .int t_begin, .int t_token, .int t_value, .int t_bad, .ref (a_t 18), .ref (a_t 19), .ref (a_t 20), .int t_wide, .int t_lost, .ref (a_t 23), .long t_det, .ref (a_t 25), .int t_mask, .int t_mode, .int t_wanted, .int t_orders, .int t_foundAt, .long t_foundBy, .ref (a_t 32), .ref (a_t 33), .int t_unlikes, .ref (a_t 35), .ref (a_t 36)])), ((a_t 1), .inl (g.2.2.1 0, 27, .inl t_mem)), ((a_t 20), .inl (g.2.2.1 0, 8, .inl t_row)), ((a_t 35), .inl (g.2.2.1 0, 256, .inl t_steps))] sz)) 0 0 (va_A [((a_t 0), .inr (7, [.ref (a_t 1), .ref (a_t 2), .int t_acted, .ref (a_t 4), .ref (a_t 5), .ref (a_t 6), .ref (a_t 7), .ref (a_t 8), .ref (a_t 9), .int t_taped, .int t_faultKind, .int t_faultPlace, .int t_at, .int t_begin, .int t_token, .int t_value, .int t_bad, .ref (a_t 18), .ref (a_t 19), .ref (a_t 20), .int t_wide, .int t_lost, .ref (a_t 23), .long t_det, .ref (a_t 25), .int t_mask, .int t_mode, .int t_wanted, .int t_orders, .int t_foundAt, .long t_foundBy, .ref (a_t 32), .ref (a_t 33), .int t_unlikes, .ref (a_t 35), .ref (a_t 36)])), ((a_t 1), .inl (g.2.2.1 0, 27, .inl t_mem)), ((a_t 20), .inl (g.2.2.1 0, 8, .inl t_row)), ((a_t 35), .inl (g.2.2.1 0, 256, .inl t_steps))] sz) := by
  refine rw_meti (by decide) (Nat.le_of_ble_eq_true rfl) (lv0 := [(0, .ref ((a_t 0))), (1, .int v1), (2, .int v2)]) rfl ?_
  intro p e s m args below meth c ls Q A cx hret hG hAb hb0 hA hP hD hl
  have hx := cx.1
  have hb := cx.2.1
  have hG0 := hG
  have hGk : ∀ {H : Heap} {locs : List Loc}, va_S A s.heap H locs → GE g s H := fun hS => hG0.keptS hAb hS
  have hSb : ∀ {H : Heap} {locs : List Loc}, va_S A s.heap H locs → va_S (fun a => g.1 ≤ a) s.heap H locs := fun hS => ⟨hS.1, fun q h1 h2 => hS.2.1 q h1 (fun z => h2 (hAb q z)), fun l hl => hAb _ (hS.2.2 l hl)⟩
  have hS : va_S A s.heap s.heap [] := va_S.rf
  have hrt : ∀ (u : Nat → Nat) (pc : Nat) (ls : Array Slot) (v : Int32) (x_t_row : Nat → Int32) (x_t_wide : Int32) (x_t_lost : Int32) (x_t_steps : Nat → Int32) (H : Heap) (locs : List Loc), decode cX8_blend pc = .ok (.ireturn, 1) → some (v, x_t_row, x_t_wide, x_t_lost, x_t_steps) = some (o, o_t_row, o_t_wide, o_t_lost, o_t_steps) → va_P g.2.1 vwCl [((a_t 0), .inr (7, [.ref (a_t 1), .ref (a_t 2), .int t_acted, .ref (a_t 4), .ref (a_t 5), .ref (a_t 6), .ref (a_t 7), .ref (a_t 8), .ref (a_t 9), .int t_taped, .int t_faultKind, .int t_faultPlace, .int t_at, .int t_begin, .int t_token, .int t_value, .int t_bad, .ref (a_t 18), .ref (a_t 19), .ref (a_t 20), .int x_t_wide, .int x_t_lost, .ref (a_t 23), .long t_det, .ref (a_t 25), .int t_mask, .int t_mode, .int t_wanted, .int t_orders, .int t_foundAt, .long t_foundBy, .ref (a_t 32), .ref (a_t 33), .int t_unlikes, .ref (a_t 35), .ref (a_t 36)])), ((a_t 1), .inl (g.2.2.1 0, 27, .inl t_mem)), ((a_t 20), .inl (g.2.2.1 0, 8, .inl x_t_row)), ((a_t 35), .inl (g.2.2.1 0, 256, .inl x_t_steps))] H → va_D A [((a_t 0), .inr (7, [.ref (a_t 1), .ref (a_t 2), .int t_acted, .ref (a_t 4), .ref (a_t 5), .ref (a_t 6), .ref (a_t 7), .ref (a_t 8), .ref (a_t 9), .int t_taped, .int t_faultKind, .int t_faultPlace, .int t_at, .int t_begin, .int t_token, .int t_value, .int t_bad, .ref (a_t 18), .ref (a_t 19), .ref (a_t 20), .int x_t_wide, .int x_t_lost, .ref (a_t 23), .long t_det, .ref (a_t 25), .int t_mask, .int t_mode, .int t_wanted, .int t_orders, .int t_foundAt, .long t_foundBy, .ref (a_t 32), .ref (a_t 33), .int t_unlikes, .ref (a_t 35), .ref (a_t 36)])), ((a_t 1), .inl (g.2.2.1 0, 27, .inl t_mem)), ((a_t 20), .inl (g.2.2.1 0, 8, .inl x_t_row)), ((a_t 35), .inl (g.2.2.1 0, 256, .inl x_t_steps))] → va_S A s.heap H locs → W p l e ⟨6, 0, 0, 148⟩ s m args below meth c H locs 0 0 Q (F0 m pc ls [.int v]) := by
    intro u pc ls v x_t_row x_t_wide x_t_lost x_t_steps H locs hd h hP hD hS
    cases h
    exact hret u _ _ _ _ _ hd rfl hP hD hS
  unfold fX8_blend at h
  refine lv_aload_n hx hb dX8_blend_0 rfl (lv_at hl 0 rfl) ?_
  refine lv_iload_n hx hb dX8_blend_1 rfl (lv_at hl 1 rfl) ?_
  refine lv_iload_n hx hb dX8_blend_2 rfl (lv_at hl 2 rfl) ?_
  obtain ⟨r1, hr2, h⟩ := bnd h
  refine ro_z (runV (As := [.int v1, .int v2]) (rest := []) cx hl.1 (ctX8_isWay l g a_t t_acted t_taped t_faultKind t_faultPlace t_at t_begin t_token t_value t_bad t_wide t_lost t_det t_mask t_mode t_wanted t_orders t_foundAt t_foundBy t_unlikes t_mem v1 v2 r1 hr2) kmX8_isWay kvX8_isWay lm_X8_395 ⟨rfl, rfl⟩ ⟨Nat.le_of_ble_eq_true rfl, Nat.le_of_ble_eq_true rfl⟩ (roV (q0 := 0) (ci := 7) hG (hP.sub [0, 1] rfl) hP rfl rfl) rfl rfl (Nat.le_of_ble_eq_true rfl) dX8_blend_3 ⟨Nat.le_of_ble_eq_true rfl, Nat.le_of_ble_eq_true rfl⟩) (fun hz3 => ?_)
  refine lv_if_ne (tgt := 12) hx hb dX8_blend_6 (by decide) (fun c4 => ?_) (fun c4 => ?_)
  · have h := itn c4 h
    refine lv_aload_n hx hb dX8_blend_12 rfl (lv_at hl 0 rfl) ?_
    refine lv_iload_n hx hb dX8_blend_13 rfl (lv_at hl 1 rfl) ?_
    refine lv_iload_n hx hb dX8_blend_14 rfl (lv_at hl 2 rfl) ?_
    obtain ⟨w6, w7, w8, w9, hr5, h⟩ := ob4_out h
    refine rw_v (WN := fun u10 => [((a_t 0), .inr (7, [.ref (a_t 1), .ref (a_t 2), .int t_acted, .ref (a_t 4), .ref (a_t 5), .ref (a_t 6), .ref (a_t 7), .ref (a_t 8), .ref (a_t 9), .int t_taped, .int t_faultKind, .int t_faultPlace, .int t_at, .int t_begin, .int t_token, .int t_value, .int t_bad, .ref (a_t 18), .ref (a_t 19), .ref (a_t 20), .int w7, .int w8, .ref (a_t 23), .long t_det, .ref (a_t 25), .int t_mask, .int t_mode, .int t_wanted, .int t_orders, .int t_foundAt, .long t_foundBy, .ref (a_t 32), .ref (a_t 33), .int t_unlikes, .ref (a_t 35), .ref (a_t 36)])), ((a_t 1), .inl (g.2.2.1 0, 27, .inl t_mem)), ((a_t 20), .inl (g.2.2.1 0, 8, .inl w6)), ((a_t 35), .inl (g.2.2.1 0, 256, .inl w9))]) (wr := []) (runV (As := [.int v1, .int v2]) (rest := []) cx hl.1 (ctX8_laysSteps l g s.heap.size a_t t_acted t_taped t_faultKind t_faultPlace t_at t_begin t_token t_value t_bad t_wide t_lost t_det t_mask t_mode t_wanted t_orders t_foundAt t_foundBy t_unlikes t_mem t_row t_steps v1 v2 w6 w7 w8 w9 hr5) kmX8_laysSteps kvX8_laysSteps lm_X8_398 ⟨rfl, rfl⟩ ⟨Nat.le_of_ble_eq_true rfl, Nat.le_of_ble_eq_true rfl⟩ (rwV (q0 := 0) (ci := 7) hG (hP.sub [0, 1, 2, 3] rfl) (hD.sub [0, 1, 2, 3] (by decide) rfl) hAb hb0 hS hP rfl rfl) rfl rfl (Nat.le_of_ble_eq_true rfl) dX8_blend_15 ⟨Nat.le_of_ble_eq_true rfl, Nat.le_of_ble_eq_true rfl⟩) hP hD hS hA [0, 1, 2, 3] [] rfl rfl (by decide) (by decide) (fun _ => rfl) (fun u10 H locs hP hD hS => ?_)
    have hG := hGk hS
    refine lv_aload_n hx hb dX8_blend_18 rfl (lv_at hl 0 rfl) ?_
    obtain ⟨r11, hr12, h⟩ := bnd h
    refine ro_i (runV (As := []) (rest := []) cx hl.1 (ctX8_goal l g a_t t_acted t_taped t_faultKind t_faultPlace t_at t_begin t_token t_value t_bad w7 w8 t_det t_mask t_mode t_wanted t_orders t_foundAt t_foundBy t_unlikes t_mem w9 r11 hr12) kmX8_goal kvX8_goal lm_X8_401 ⟨rfl, rfl⟩ ⟨Nat.le_of_ble_eq_true rfl, Nat.le_of_ble_eq_true rfl⟩ (roV (q0 := 0) (ci := 7) hG (hP.sub [0, 1, 3] rfl) hP rfl rfl) rfl rfl (Nat.le_of_ble_eq_true rfl) dX8_blend_19 ⟨Nat.le_of_ble_eq_true rfl, Nat.le_of_ble_eq_true rfl⟩) ?_
    refine lv_iconst (v := -1) hx hb dX8_blend_22 (by decide) ?_
    refine lv_icmp_ne (tgt := 30) hx hb dX8_blend_23 (by decide) (fun c13 => ?_) (fun c13 => ?_)
    · have h := itn c13 h
      refine lv_aload_n hx hb dX8_blend_30 rfl (lv_at hl 0 rfl) ?_
      obtain ⟨r14, hr15, h⟩ := bnd h
      refine ro_i (runV (As := []) (rest := []) cx hl.1 (ctX8_goal l g a_t t_acted t_taped t_faultKind t_faultPlace t_at t_begin t_token t_value t_bad w7 w8 t_det t_mask t_mode t_wanted t_orders t_foundAt t_foundBy t_unlikes t_mem w9 r14 hr15) kmX8_goal kvX8_goal lm_X8_401 ⟨rfl, rfl⟩ ⟨Nat.le_of_ble_eq_true rfl, Nat.le_of_ble_eq_true rfl⟩ (roV (q0 := 0) (ci := 7) hG (hP.sub [0, 1, 3] rfl) hP rfl rfl) rfl rfl (Nat.le_of_ble_eq_true rfl) dX8_blend_31 ⟨Nat.le_of_ble_eq_true rfl, Nat.le_of_ble_eq_true rfl⟩) ?_
      refine ro_i (runS (As := [.int r14]) (rest := []) cx hl.1 (ctJ6_bitCount_0f7a4 l g r14 (fJ6_bitCount_0f7a4 r14) rfl) kmJ6_bitCount_0f7a4 ksJ6_bitCount_0f7a4 lm_X8_303 ⟨rfl, rfl⟩ ⟨Nat.le_of_ble_eq_true rfl, Nat.le_of_ble_eq_true rfl⟩ (roS hG (hP.sub [] rfl)) rfl rfl (Nat.le_of_ble_eq_true rfl) dX8_blend_34 ⟨Nat.le_of_ble_eq_true rfl, Nat.le_of_ble_eq_true rfl⟩) ?_
      exact hrt (fun _ => 0) _ _ ((fJ6_bitCount_0f7a4 r14)) w6 w7 w8 w9 _ _ dX8_blend_37 h (hP.sub [0, 1, 2, 3] rfl) (hD.sub [0, 1, 2, 3] (by decide) rfl) hS
    · have h := itp c13 h
      refine lv_iconst (v := -1) hx hb dX8_blend_26 (by decide) ?_
      refine lv_goto (tgt := 37) hx hb dX8_blend_27 (by decide) ?_
      exact hrt (fun _ => 0) _ _ ((-1)) w6 w7 w8 w9 _ _ dX8_blend_37 h (hP.sub [0, 1, 2, 3] rfl) (hD.sub [0, 1, 2, 3] (by decide) rfl) hS
  · have h := itp c4 h
    refine lv_bipush (v := -2) hx hb dX8_blend_9 (by decide) ?_
    exact hrt (fun _ => 0) _ _ ((-2)) t_row t_wide t_lost t_steps _ _ dX8_blend_11 h (hP.sub [0, 1, 2, 3] rfl) (hD.sub [0, 1, 2, 3] (by decide) rfl) hS
-- X8_blends
theorem dX8_blends_0 : decode cX8_blends 0 = .ok (.aload_n 0, 1) := by decide +kernel
theorem dX8_blends_1 : decode cX8_blends 1 = .ok (.iload_n 1, 1) := by decide +kernel
theorem dX8_blends_2 : decode cX8_blends 2 = .ok (.iload_n 2, 1) := by decide +kernel
theorem dX8_blends_3 : decode cX8_blends 3 = .ok (.invokevirtual 395, 3) := by decide +kernel
theorem dX8_blends_6 : decode cX8_blends 6 = .ok (.ifCond .ne 6, 3) := by decide +kernel
theorem dX8_blends_9 : decode cX8_blends 9 = .ok (.bipush (-2), 2) := by decide +kernel
theorem dX8_blends_11 : decode cX8_blends 11 = .ok (.ireturn, 1) := by decide +kernel
theorem dX8_blends_12 : decode cX8_blends 12 = .ok (.aload_n 0, 1) := by decide +kernel
theorem dX8_blends_13 : decode cX8_blends 13 = .ok (.iload_n 1, 1) := by decide +kernel
theorem dX8_blends_14 : decode cX8_blends 14 = .ok (.iload_n 2, 1) := by decide +kernel
theorem dX8_blends_15 : decode cX8_blends 15 = .ok (.invokevirtual 398, 3) := by decide +kernel
theorem dX8_blends_18 : decode cX8_blends 18 = .ok (.aload_n 0, 1) := by decide +kernel
theorem dX8_blends_19 : decode cX8_blends 19 = .ok (.invokevirtual 401, 3) := by decide +kernel
theorem dX8_blends_22 : decode cX8_blends 22 = .ok (.iconst (-1), 1) := by decide +kernel
theorem dX8_blends_23 : decode cX8_blends 23 = .ok (.if_icmp .ne 7, 3) := by decide +kernel
theorem dX8_blends_26 : decode cX8_blends 26 = .ok (.iconst (-1), 1) := by decide +kernel
theorem dX8_blends_27 : decode cX8_blends 27 = .ok (.goto 14, 3) := by decide +kernel
theorem dX8_blends_30 : decode cX8_blends 30 = .ok (.aload_n 0, 1) := by decide +kernel
theorem dX8_blends_31 : decode cX8_blends 31 = .ok (.getfield 74, 3) := by decide +kernel
theorem dX8_blends_34 : decode cX8_blends 34 = .ok (.aload_n 0, 1) := by decide +kernel
theorem dX8_blends_35 : decode cX8_blends 35 = .ok (.invokevirtual 401, 3) := by decide +kernel
theorem dX8_blends_38 : decode cX8_blends 38 = .ok (.iaload, 1) := by decide +kernel
theorem dX8_blends_39 : decode cX8_blends 39 = .ok (.iconst 1, 1) := by decide +kernel
theorem dX8_blends_40 : decode cX8_blends 40 = .ok (.iadd, 1) := by decide +kernel
theorem dX8_blends_41 : decode cX8_blends 41 = .ok (.ireturn, 1) := by decide +kernel
noncomputable def fX8_blends  (t_mem : Nat → Int32) (t_row : Nat → Int32) (t_wide : Int32) (t_lost : Int32) (t_steps : Nat → Int32) (v1 : Int32) (v2 : Int32) : Option (Int32 × (Nat → Int32) × Int32 × Int32 × (Nat → Int32)) := (fX8_isWay t_mem v1 v2).bind fun r1 => (if r1 = 0 then some ((-2), t_row, t_wide, t_lost, t_steps) else ob4 (fX8_laysSteps t_mem t_row t_wide t_lost t_steps v1 v2) fun w6 w7 w8 w9 => (fX8_goal t_mem w9).bind fun r11 => (if r11 = (-1) then some ((-1), w6, w7, w8, w9) else (fX8_goal t_mem w9).bind fun r14 => chk 256 r14 (some (((w9 r14.toNatClampNeg) + 1), w6, w7, w8, w9))))
set_option maxHeartbeats 4000000 in
set_option maxRecDepth 100000 in
theorem ctX8_blends (l : Launch) (g : GT) (sz : Nat) (a_t : Nat → Nat) (t_acted : Int32) (t_taped : Int32) (t_faultKind : Int32) (t_faultPlace : Int32) (t_at : Int32) (t_begin : Int32) (t_token : Int32) (t_value : Int32) (t_bad : Int32) (t_wide : Int32) (t_lost : Int32) (t_det : Int64) (t_mask : Int32) (t_mode : Int32) (t_wanted : Int32) (t_orders : Int32) (t_foundAt : Int32) (t_foundBy : Int64) (t_unlikes : Int32) (t_mem : Nat → Int32) (t_row : Nat → Int32) (t_steps : Nat → Int32) (v1 : Int32) (v2 : Int32) (o : Int32) (o_t_row : Nat → Int32) (o_t_wide : Int32) (o_t_lost : Int32) (o_t_steps : Nat → Int32) (h : fX8_blends t_mem t_row t_wide t_lost t_steps v1 v2 = some (o, o_t_row, o_t_wide, o_t_lost, o_t_steps)) : Met l yX8_blends (Cond.code yX8_blends cX8_blends 3 (some .int) :: Tw) ⟨6, 0, 0, 148⟩ (va_Pc [.ref ((a_t 0)), .int v1, .int v2] (rwB g [((a_t 0), .inr (7, [.ref (a_t 1), .ref (a_t 2), .int t_acted, .ref (a_t 4), .ref (a_t 5), .ref (a_t 6), .ref (a_t 7), .ref (a_t 8), .ref (a_t 9), .int t_taped, .int t_faultKind, .int t_faultPlace, .int t_at, .int t_begin, .int t_token, .int t_value, .int t_bad, .ref (a_t 18), .ref (a_t 19), .ref (a_t 20), .int t_wide, .int t_lost, .ref (a_t 23), .long t_det, .ref (a_t 25), .int t_mask, .int t_mode, .int t_wanted, .int t_orders, .int t_foundAt, .long t_foundBy, .ref (a_t 32), .ref (a_t 33), .int t_unlikes, .ref (a_t 35), .ref (a_t 36)])), ((a_t 1), .inl (g.2.2.1 0, 27, .inl t_mem)), ((a_t 20), .inl (g.2.2.1 0, 8, .inl t_row)), ((a_t 35), .inl (g.2.2.1 0, 256, .inl t_steps))] sz)) (va_Qi (fun x (_ : Nat → Nat) => x = o) (fun u => rwE g (va_A [((a_t 0), .inr (7, [.ref (a_t 1), .ref (a_t 2), .int t_acted, .ref (a_t 4), .ref (a_t 5), .ref (a_t 6), .ref (a_t 7), .ref (a_t 8), .ref (a_t 9), .int t_taped, .int t_faultKind, .int t_faultPlace, .int t_at, .int t_begin, .int t_token, .int t_value, .int t_bad, .ref (a_t 18), .ref (a_t 19), .ref (a_t 20), .int t_wide, .int t_lost, .ref (a_t 23), .long t_det, .ref (a_t 25), .int t_mask, .int t_mode, .int t_wanted, .int t_orders, .int t_foundAt, .long t_foundBy, .ref (a_t 32), .ref (a_t 33), .int t_unlikes, .ref (a_t 35), .ref (a_t 36)])), ((a_t 1), .inl (g.2.2.1 0, 27, .inl t_mem)), ((a_t 20), .inl (g.2.2.1 0, 8, .inl t_row)), ((a_t 35), .inl (g.2.2.1 0, 256, .inl t_steps))] sz) [((a_t 0), .inr (7, [.ref (a_t 1), .ref (a_t 2), .int t_acted, .ref (a_t 4), .ref (a_t 5), .ref (a_t 6), .ref (a_t 7), .ref (a_t 8), .ref (a_t 9), .int t_taped, .int t_faultKind, .int t_faultPlace, .int t_at, .int t_begin, .int t_token, .int t_value, .int t_bad, .ref (a_t 18), .ref (a_t 19), .ref (a_t 20), .int o_t_wide, .int o_t_lost, .ref (a_t 23), .long t_det, .ref (a_t 25), .int t_mask, .int t_mode, .int t_wanted, .int t_orders, .int t_foundAt, .long t_foundBy, .ref (a_t 32), .ref (a_t 33), .int t_unlikes, .ref (a_t 35), .ref (a_t 36)])), ((a_t 1), .inl (g.2.2.1 0, 27, .inl t_mem)), ((a_t 20), .inl (g.2.2.1 0, 8, .inl o_t_row)), ((a_t 35), .inl (g.2.2.1 0, 256, .inl o_t_steps))]) (va_A [((a_t 0), .inr (7, [.ref (a_t 1), .ref (a_t 2), .int t_acted, .ref (a_t 4), .ref (a_t 5), .ref (a_t 6), .ref (a_t 7), .ref (a_t 8), .ref (a_t 9), .int t_taped, .int t_faultKind, .int t_faultPlace, .int t_at, .int t_begin, .int t_token, .int t_value, .int t_bad, .ref (a_t 18), .ref (a_t 19), .ref (a_t 20), .int t_wide, .int t_lost, .ref (a_t 23), .long t_det, .ref (a_t 25), .int t_mask, .int t_mode, .int t_wanted, .int t_orders, .int t_foundAt, .long t_foundBy, .ref (a_t 32), .ref (a_t 33), .int t_unlikes, .ref (a_t 35), .ref (a_t 36)])), ((a_t 1), .inl (g.2.2.1 0, 27, .inl t_mem)), ((a_t 20), .inl (g.2.2.1 0, 8, .inl t_row)), ((a_t 35), .inl (g.2.2.1 0, 256, .inl t_steps))] sz)) 0 0 (va_A [((a_t 0), .inr (7, [.ref (a_t 1), .ref (a_t 2), .int t_acted, .ref (a_t 4), .ref (a_t 5), .ref (a_t 6), .ref (a_t 7), .ref (a_t 8), .ref (a_t 9), .int t_taped, .int t_faultKind, .int t_faultPlace, .int t_at, .int t_begin, .int t_token, .int t_value, .int t_bad, .ref (a_t 18), .ref (a_t 19), .ref (a_t 20), .int t_wide, .int t_lost, .ref (a_t 23), .long t_det, .ref (a_t 25), .int t_mask, .int t_mode, .int t_wanted, .int t_orders, .int t_foundAt, .long t_foundBy, .ref (a_t 32), .ref (a_t 33), .int t_unlikes, .ref (a_t 35), .ref (a_t 36)])), ((a_t 1), .inl (g.2.2.1 0, 27, .inl t_mem)), ((a_t 20), .inl (g.2.2.1 0, 8, .inl t_row)), ((a_t 35), .inl (g.2.2.1 0, 256, .inl t_steps))] sz) := by
  refine rw_meti (by decide) (Nat.le_of_ble_eq_true rfl) (lv0 := [(0, .ref ((a_t 0))), (1, .int v1), (2, .int v2)]) rfl ?_
  intro p e s m args below meth c ls Q A cx hret hG hAb hb0 hA hP hD hl
  have hx := cx.1
  have hb := cx.2.1
  have hG0 := hG
  have hGk : ∀ {H : Heap} {locs : List Loc}, va_S A s.heap H locs → GE g s H := fun hS => hG0.keptS hAb hS
  have hSb : ∀ {H : Heap} {locs : List Loc}, va_S A s.heap H locs → va_S (fun a => g.1 ≤ a) s.heap H locs := fun hS => ⟨hS.1, fun q h1 h2 => hS.2.1 q h1 (fun z => h2 (hAb q z)), fun l hl => hAb _ (hS.2.2 l hl)⟩
  have hS : va_S A s.heap s.heap [] := va_S.rf
  have hrt : ∀ (u : Nat → Nat) (pc : Nat) (ls : Array Slot) (v : Int32) (x_t_row : Nat → Int32) (x_t_wide : Int32) (x_t_lost : Int32) (x_t_steps : Nat → Int32) (H : Heap) (locs : List Loc), decode cX8_blends pc = .ok (.ireturn, 1) → some (v, x_t_row, x_t_wide, x_t_lost, x_t_steps) = some (o, o_t_row, o_t_wide, o_t_lost, o_t_steps) → va_P g.2.1 vwCl [((a_t 0), .inr (7, [.ref (a_t 1), .ref (a_t 2), .int t_acted, .ref (a_t 4), .ref (a_t 5), .ref (a_t 6), .ref (a_t 7), .ref (a_t 8), .ref (a_t 9), .int t_taped, .int t_faultKind, .int t_faultPlace, .int t_at, .int t_begin, .int t_token, .int t_value, .int t_bad, .ref (a_t 18), .ref (a_t 19), .ref (a_t 20), .int x_t_wide, .int x_t_lost, .ref (a_t 23), .long t_det, .ref (a_t 25), .int t_mask, .int t_mode, .int t_wanted, .int t_orders, .int t_foundAt, .long t_foundBy, .ref (a_t 32), .ref (a_t 33), .int t_unlikes, .ref (a_t 35), .ref (a_t 36)])), ((a_t 1), .inl (g.2.2.1 0, 27, .inl t_mem)), ((a_t 20), .inl (g.2.2.1 0, 8, .inl x_t_row)), ((a_t 35), .inl (g.2.2.1 0, 256, .inl x_t_steps))] H → va_D A [((a_t 0), .inr (7, [.ref (a_t 1), .ref (a_t 2), .int t_acted, .ref (a_t 4), .ref (a_t 5), .ref (a_t 6), .ref (a_t 7), .ref (a_t 8), .ref (a_t 9), .int t_taped, .int t_faultKind, .int t_faultPlace, .int t_at, .int t_begin, .int t_token, .int t_value, .int t_bad, .ref (a_t 18), .ref (a_t 19), .ref (a_t 20), .int x_t_wide, .int x_t_lost, .ref (a_t 23), .long t_det, .ref (a_t 25), .int t_mask, .int t_mode, .int t_wanted, .int t_orders, .int t_foundAt, .long t_foundBy, .ref (a_t 32), .ref (a_t 33), .int t_unlikes, .ref (a_t 35), .ref (a_t 36)])), ((a_t 1), .inl (g.2.2.1 0, 27, .inl t_mem)), ((a_t 20), .inl (g.2.2.1 0, 8, .inl x_t_row)), ((a_t 35), .inl (g.2.2.1 0, 256, .inl x_t_steps))] → va_S A s.heap H locs → W p l e ⟨6, 0, 0, 148⟩ s m args below meth c H locs 0 0 Q (F0 m pc ls [.int v]) := by
    intro u pc ls v x_t_row x_t_wide x_t_lost x_t_steps H locs hd h hP hD hS
    cases h
    exact hret u _ _ _ _ _ hd rfl hP hD hS
  unfold fX8_blends at h
  refine lv_aload_n hx hb dX8_blends_0 rfl (lv_at hl 0 rfl) ?_
  refine lv_iload_n hx hb dX8_blends_1 rfl (lv_at hl 1 rfl) ?_
  refine lv_iload_n hx hb dX8_blends_2 rfl (lv_at hl 2 rfl) ?_
  obtain ⟨r1, hr2, h⟩ := bnd h
  refine ro_z (runV (As := [.int v1, .int v2]) (rest := []) cx hl.1 (ctX8_isWay l g a_t t_acted t_taped t_faultKind t_faultPlace t_at t_begin t_token t_value t_bad t_wide t_lost t_det t_mask t_mode t_wanted t_orders t_foundAt t_foundBy t_unlikes t_mem v1 v2 r1 hr2) kmX8_isWay kvX8_isWay lm_X8_395 ⟨rfl, rfl⟩ ⟨Nat.le_of_ble_eq_true rfl, Nat.le_of_ble_eq_true rfl⟩ (roV (q0 := 0) (ci := 7) hG (hP.sub [0, 1] rfl) hP rfl rfl) rfl rfl (Nat.le_of_ble_eq_true rfl) dX8_blends_3 ⟨Nat.le_of_ble_eq_true rfl, Nat.le_of_ble_eq_true rfl⟩) (fun hz3 => ?_)
  refine lv_if_ne (tgt := 12) hx hb dX8_blends_6 (by decide) (fun c4 => ?_) (fun c4 => ?_)
  · have h := itn c4 h
    refine lv_aload_n hx hb dX8_blends_12 rfl (lv_at hl 0 rfl) ?_
    refine lv_iload_n hx hb dX8_blends_13 rfl (lv_at hl 1 rfl) ?_
    refine lv_iload_n hx hb dX8_blends_14 rfl (lv_at hl 2 rfl) ?_
    obtain ⟨w6, w7, w8, w9, hr5, h⟩ := ob4_out h
    refine rw_v (WN := fun u10 => [((a_t 0), .inr (7, [.ref (a_t 1), .ref (a_t 2), .int t_acted, .ref (a_t 4), .ref (a_t 5), .ref (a_t 6), .ref (a_t 7), .ref (a_t 8), .ref (a_t 9), .int t_taped, .int t_faultKind, .int t_faultPlace, .int t_at, .int t_begin, .int t_token, .int t_value, .int t_bad, .ref (a_t 18), .ref (a_t 19), .ref (a_t 20), .int w7, .int w8, .ref (a_t 23), .long t_det, .ref (a_t 25), .int t_mask, .int t_mode, .int t_wanted, .int t_orders, .int t_foundAt, .long t_foundBy, .ref (a_t 32), .ref (a_t 33), .int t_unlikes, .ref (a_t 35), .ref (a_t 36)])), ((a_t 1), .inl (g.2.2.1 0, 27, .inl t_mem)), ((a_t 20), .inl (g.2.2.1 0, 8, .inl w6)), ((a_t 35), .inl (g.2.2.1 0, 256, .inl w9))]) (wr := []) (runV (As := [.int v1, .int v2]) (rest := []) cx hl.1 (ctX8_laysSteps l g s.heap.size a_t t_acted t_taped t_faultKind t_faultPlace t_at t_begin t_token t_value t_bad t_wide t_lost t_det t_mask t_mode t_wanted t_orders t_foundAt t_foundBy t_unlikes t_mem t_row t_steps v1 v2 w6 w7 w8 w9 hr5) kmX8_laysSteps kvX8_laysSteps lm_X8_398 ⟨rfl, rfl⟩ ⟨Nat.le_of_ble_eq_true rfl, Nat.le_of_ble_eq_true rfl⟩ (rwV (q0 := 0) (ci := 7) hG (hP.sub [0, 1, 2, 3] rfl) (hD.sub [0, 1, 2, 3] (by decide) rfl) hAb hb0 hS hP rfl rfl) rfl rfl (Nat.le_of_ble_eq_true rfl) dX8_blends_15 ⟨Nat.le_of_ble_eq_true rfl, Nat.le_of_ble_eq_true rfl⟩) hP hD hS hA [0, 1, 2, 3] [] rfl rfl (by decide) (by decide) (fun _ => rfl) (fun u10 H locs hP hD hS => ?_)
    have hG := hGk hS
    refine lv_aload_n hx hb dX8_blends_18 rfl (lv_at hl 0 rfl) ?_
    obtain ⟨r11, hr12, h⟩ := bnd h
    refine ro_i (runV (As := []) (rest := []) cx hl.1 (ctX8_goal l g a_t t_acted t_taped t_faultKind t_faultPlace t_at t_begin t_token t_value t_bad w7 w8 t_det t_mask t_mode t_wanted t_orders t_foundAt t_foundBy t_unlikes t_mem w9 r11 hr12) kmX8_goal kvX8_goal lm_X8_401 ⟨rfl, rfl⟩ ⟨Nat.le_of_ble_eq_true rfl, Nat.le_of_ble_eq_true rfl⟩ (roV (q0 := 0) (ci := 7) hG (hP.sub [0, 1, 3] rfl) hP rfl rfl) rfl rfl (Nat.le_of_ble_eq_true rfl) dX8_blends_19 ⟨Nat.le_of_ble_eq_true rfl, Nat.le_of_ble_eq_true rfl⟩) ?_
    refine lv_iconst (v := -1) hx hb dX8_blends_22 (by decide) ?_
    refine lv_icmp_ne (tgt := 30) hx hb dX8_blends_23 (by decide) (fun c13 => ?_) (fun c13 => ?_)
    · have h := itn c13 h
      refine lv_aload_n hx hb dX8_blends_30 rfl (lv_at hl 0 rfl) ?_
      refine xa_get (C := RX8) (T := TX8) (N := 36) cx hG hP 0 rfl rfl uX8 34 (by decide) lf_X8_74 rfl dX8_blends_31 ?_
      refine lv_aload_n hx hb dX8_blends_34 rfl (lv_at hl 0 rfl) ?_
      obtain ⟨r14, hr15, h⟩ := bnd h
      refine ro_i (runV (As := []) (rest := [.ref ((a_t 35))]) cx hl.1 (ctX8_goal l g a_t t_acted t_taped t_faultKind t_faultPlace t_at t_begin t_token t_value t_bad w7 w8 t_det t_mask t_mode t_wanted t_orders t_foundAt t_foundBy t_unlikes t_mem w9 r14 hr15) kmX8_goal kvX8_goal lm_X8_401 ⟨rfl, rfl⟩ ⟨Nat.le_of_ble_eq_true rfl, Nat.le_of_ble_eq_true rfl⟩ (roV (q0 := 0) (ci := 7) hG (hP.sub [0, 1, 3] rfl) hP rfl rfl) rfl rfl (Nat.le_of_ble_eq_true rfl) dX8_blends_35 ⟨Nat.le_of_ble_eq_true rfl, Nat.le_of_ble_eq_true rfl⟩) ?_
      obtain ⟨hi16, h⟩ := chk_out h
      refine xa_iald cx hG hP 3 rfl hi16 rfl dX8_blends_38 ?_
      refine lv_iconst (v := 1) hx hb dX8_blends_39 (by decide) ?_
      refine lv_iadd hx hb dX8_blends_40 ?_
      exact hrt (fun _ => 0) _ _ (((w9 r14.toNatClampNeg) + 1)) w6 w7 w8 w9 _ _ dX8_blends_41 h (hP.sub [0, 1, 2, 3] rfl) (hD.sub [0, 1, 2, 3] (by decide) rfl) hS
    · have h := itp c13 h
      refine lv_iconst (v := -1) hx hb dX8_blends_26 (by decide) ?_
      refine lv_goto (tgt := 41) hx hb dX8_blends_27 (by decide) ?_
      exact hrt (fun _ => 0) _ _ ((-1)) w6 w7 w8 w9 _ _ dX8_blends_41 h (hP.sub [0, 1, 2, 3] rfl) (hD.sub [0, 1, 2, 3] (by decide) rfl) hS
  · have h := itp c4 h
    refine lv_bipush (v := -2) hx hb dX8_blends_9 (by decide) ?_
    exact hrt (fun _ => 0) _ _ ((-2)) t_row t_wide t_lost t_steps _ _ dX8_blends_11 h (hP.sub [0, 1, 2, 3] rfl) (hD.sub [0, 1, 2, 3] (by decide) rfl) hS
-- X8_comes
theorem dX8_comes_0 : decode cX8_comes 0 = .ok (.aload_n 0, 1) := by decide +kernel
theorem dX8_comes_1 : decode cX8_comes 1 = .ok (.iload_n 1, 1) := by decide +kernel
theorem dX8_comes_2 : decode cX8_comes 2 = .ok (.iload_n 2, 1) := by decide +kernel
theorem dX8_comes_3 : decode cX8_comes 3 = .ok (.invokevirtual 395, 3) := by decide +kernel
theorem dX8_comes_6 : decode cX8_comes 6 = .ok (.ifCond .eq 17, 3) := by decide +kernel
theorem dX8_comes_9 : decode cX8_comes 9 = .ok (.iload_n 3, 1) := by decide +kernel
theorem dX8_comes_10 : decode cX8_comes 10 = .ok (.i2l, 1) := by decide +kernel
theorem dX8_comes_11 : decode cX8_comes 11 = .ok (.lconst 1, 1) := by decide +kernel
theorem dX8_comes_12 : decode cX8_comes 12 = .ok (.aload_n 0, 1) := by decide +kernel
theorem dX8_comes_13 : decode cX8_comes 13 = .ok (.invokevirtual 389, 3) := by decide +kernel
theorem dX8_comes_16 : decode cX8_comes 16 = .ok (.i2l, 1) := by decide +kernel
theorem dX8_comes_17 : decode cX8_comes 17 = .ok (.invokestatic 83, 3) := by decide +kernel
theorem dX8_comes_20 : decode cX8_comes 20 = .ok (.ifCond .ne 6, 3) := by decide +kernel
theorem dX8_comes_23 : decode cX8_comes 23 = .ok (.bipush (-2), 2) := by decide +kernel
theorem dX8_comes_25 : decode cX8_comes 25 = .ok (.ireturn, 1) := by decide +kernel
theorem dX8_comes_26 : decode cX8_comes 26 = .ok (.aload_n 0, 1) := by decide +kernel
theorem dX8_comes_27 : decode cX8_comes 27 = .ok (.iload_n 1, 1) := by decide +kernel
theorem dX8_comes_28 : decode cX8_comes 28 = .ok (.iload_n 2, 1) := by decide +kernel
theorem dX8_comes_29 : decode cX8_comes 29 = .ok (.invokevirtual 398, 3) := by decide +kernel
theorem dX8_comes_32 : decode cX8_comes 32 = .ok (.aload_n 0, 1) := by decide +kernel
theorem dX8_comes_33 : decode cX8_comes 33 = .ok (.getfield 74, 3) := by decide +kernel
theorem dX8_comes_36 : decode cX8_comes 36 = .ok (.iload_n 3, 1) := by decide +kernel
theorem dX8_comes_37 : decode cX8_comes 37 = .ok (.iaload, 1) := by decide +kernel
theorem dX8_comes_38 : decode cX8_comes 38 = .ok (.bipush 100, 2) := by decide +kernel
theorem dX8_comes_40 : decode cX8_comes 40 = .ok (.if_icmp .ge 7, 3) := by decide +kernel
theorem dX8_comes_43 : decode cX8_comes 43 = .ok (.iconst 1, 1) := by decide +kernel
theorem dX8_comes_44 : decode cX8_comes 44 = .ok (.goto 4, 3) := by decide +kernel
theorem dX8_comes_47 : decode cX8_comes 47 = .ok (.iconst 0, 1) := by decide +kernel
theorem dX8_comes_48 : decode cX8_comes 48 = .ok (.ireturn, 1) := by decide +kernel
noncomputable def fX8_comes  (t_mem : Nat → Int32) (t_row : Nat → Int32) (t_wide : Int32) (t_lost : Int32) (t_steps : Nat → Int32) (v1 : Int32) (v2 : Int32) (v3 : Int32) : Option (Int32 × (Nat → Int32) × Int32 × Int32 × (Nat → Int32)) := (fX8_isWay t_mem v1 v2).bind fun r1 => (if r1 = 0 then some ((-2), t_row, t_wide, t_lost, t_steps) else (fX8_allBits t_mem).bind fun r5 => (if (fX8_in v3.toInt64 1 r5.toInt64) = 0 then some ((-2), t_row, t_wide, t_lost, t_steps) else ob4 (fX8_laysSteps t_mem t_row t_wide t_lost t_steps v1 v2) fun w10 w11 w12 w13 => chk 256 v3 ((if 100 ≤ (w13 v3.toNatClampNeg) then some ((0), w10, w11, w12, w13) else some ((1), w10, w11, w12, w13)))))
set_option maxHeartbeats 4000000 in
set_option maxRecDepth 100000 in
theorem ctX8_comes (l : Launch) (g : GT) (sz : Nat) (a_t : Nat → Nat) (t_acted : Int32) (t_taped : Int32) (t_faultKind : Int32) (t_faultPlace : Int32) (t_at : Int32) (t_begin : Int32) (t_token : Int32) (t_value : Int32) (t_bad : Int32) (t_wide : Int32) (t_lost : Int32) (t_det : Int64) (t_mask : Int32) (t_mode : Int32) (t_wanted : Int32) (t_orders : Int32) (t_foundAt : Int32) (t_foundBy : Int64) (t_unlikes : Int32) (t_mem : Nat → Int32) (t_row : Nat → Int32) (t_steps : Nat → Int32) (v1 : Int32) (v2 : Int32) (v3 : Int32) (o : Int32) (o_t_row : Nat → Int32) (o_t_wide : Int32) (o_t_lost : Int32) (o_t_steps : Nat → Int32) (h : fX8_comes t_mem t_row t_wide t_lost t_steps v1 v2 v3 = some (o, o_t_row, o_t_wide, o_t_lost, o_t_steps)) : Met l yX8_comes (Cond.code yX8_comes cX8_comes 4 (some .int) :: Tw) ⟨6, 0, 0, 148⟩ (va_Pc [.ref ((a_t 0)), .int v1, .int v2, .int v3] (rwB g [((a_t 0), .inr (7, [.ref (a_t 1), .ref (a_t 2), .int t_acted, .ref (a_t 4), .ref (a_t 5), .ref (a_t 6), .ref (a_t 7), .ref (a_t 8), .ref (a_t 9), .int t_taped, .int t_faultKind, .int t_faultPlace, .int t_at, .int t_begin, .int t_token, .int t_value, .int t_bad, .ref (a_t 18), .ref (a_t 19), .ref (a_t 20), .int t_wide, .int t_lost, .ref (a_t 23), .long t_det, .ref (a_t 25), .int t_mask, .int t_mode, .int t_wanted, .int t_orders, .int t_foundAt, .long t_foundBy, .ref (a_t 32), .ref (a_t 33), .int t_unlikes, .ref (a_t 35), .ref (a_t 36)])), ((a_t 1), .inl (g.2.2.1 0, 27, .inl t_mem)), ((a_t 20), .inl (g.2.2.1 0, 8, .inl t_row)), ((a_t 35), .inl (g.2.2.1 0, 256, .inl t_steps))] sz)) (va_Qi (fun x (_ : Nat → Nat) => x = o) (fun u => rwE g (va_A [((a_t 0), .inr (7, [.ref (a_t 1), .ref (a_t 2), .int t_acted, .ref (a_t 4), .ref (a_t 5), .ref (a_t 6), .ref (a_t 7), .ref (a_t 8), .ref (a_t 9), .int t_taped, .int t_faultKind, .int t_faultPlace, .int t_at, .int t_begin, .int t_token, .int t_value, .int t_bad, .ref (a_t 18), .ref (a_t 19), .ref (a_t 20), .int t_wide, .int t_lost, .ref (a_t 23), .long t_det, .ref (a_t 25), .int t_mask, .int t_mode, .int t_wanted, .int t_orders, .int t_foundAt, .long t_foundBy, .ref (a_t 32), .ref (a_t 33), .int t_unlikes, .ref (a_t 35), .ref (a_t 36)])), ((a_t 1), .inl (g.2.2.1 0, 27, .inl t_mem)), ((a_t 20), .inl (g.2.2.1 0, 8, .inl t_row)), ((a_t 35), .inl (g.2.2.1 0, 256, .inl t_steps))] sz) [((a_t 0), .inr (7, [.ref (a_t 1), .ref (a_t 2), .int t_acted, .ref (a_t 4), .ref (a_t 5), .ref (a_t 6), .ref (a_t 7), .ref (a_t 8), .ref (a_t 9), .int t_taped, .int t_faultKind, .int t_faultPlace, .int t_at, .int t_begin, .int t_token, .int t_value, .int t_bad, .ref (a_t 18), .ref (a_t 19), .ref (a_t 20), .int o_t_wide, .int o_t_lost, .ref (a_t 23), .long t_det, .ref (a_t 25), .int t_mask, .int t_mode, .int t_wanted, .int t_orders, .int t_foundAt, .long t_foundBy, .ref (a_t 32), .ref (a_t 33), .int t_unlikes, .ref (a_t 35), .ref (a_t 36)])), ((a_t 1), .inl (g.2.2.1 0, 27, .inl t_mem)), ((a_t 20), .inl (g.2.2.1 0, 8, .inl o_t_row)), ((a_t 35), .inl (g.2.2.1 0, 256, .inl o_t_steps))]) (va_A [((a_t 0), .inr (7, [.ref (a_t 1), .ref (a_t 2), .int t_acted, .ref (a_t 4), .ref (a_t 5), .ref (a_t 6), .ref (a_t 7), .ref (a_t 8), .ref (a_t 9), .int t_taped, .int t_faultKind, .int t_faultPlace, .int t_at, .int t_begin, .int t_token, .int t_value, .int t_bad, .ref (a_t 18), .ref (a_t 19), .ref (a_t 20), .int t_wide, .int t_lost, .ref (a_t 23), .long t_det, .ref (a_t 25), .int t_mask, .int t_mode, .int t_wanted, .int t_orders, .int t_foundAt, .long t_foundBy, .ref (a_t 32), .ref (a_t 33), .int t_unlikes, .ref (a_t 35), .ref (a_t 36)])), ((a_t 1), .inl (g.2.2.1 0, 27, .inl t_mem)), ((a_t 20), .inl (g.2.2.1 0, 8, .inl t_row)), ((a_t 35), .inl (g.2.2.1 0, 256, .inl t_steps))] sz)) 0 0 (va_A [((a_t 0), .inr (7, [.ref (a_t 1), .ref (a_t 2), .int t_acted, .ref (a_t 4), .ref (a_t 5), .ref (a_t 6), .ref (a_t 7), .ref (a_t 8), .ref (a_t 9), .int t_taped, .int t_faultKind, .int t_faultPlace, .int t_at, .int t_begin, .int t_token, .int t_value, .int t_bad, .ref (a_t 18), .ref (a_t 19), .ref (a_t 20), .int t_wide, .int t_lost, .ref (a_t 23), .long t_det, .ref (a_t 25), .int t_mask, .int t_mode, .int t_wanted, .int t_orders, .int t_foundAt, .long t_foundBy, .ref (a_t 32), .ref (a_t 33), .int t_unlikes, .ref (a_t 35), .ref (a_t 36)])), ((a_t 1), .inl (g.2.2.1 0, 27, .inl t_mem)), ((a_t 20), .inl (g.2.2.1 0, 8, .inl t_row)), ((a_t 35), .inl (g.2.2.1 0, 256, .inl t_steps))] sz) := by
  refine rw_meti (by decide) (Nat.le_of_ble_eq_true rfl) (lv0 := [(0, .ref ((a_t 0))), (1, .int v1), (2, .int v2), (3, .int v3)]) rfl ?_
  intro p e s m args below meth c ls Q A cx hret hG hAb hb0 hA hP hD hl
  have hx := cx.1
  have hb := cx.2.1
  have hG0 := hG
  have hGk : ∀ {H : Heap} {locs : List Loc}, va_S A s.heap H locs → GE g s H := fun hS => hG0.keptS hAb hS
  have hSb : ∀ {H : Heap} {locs : List Loc}, va_S A s.heap H locs → va_S (fun a => g.1 ≤ a) s.heap H locs := fun hS => ⟨hS.1, fun q h1 h2 => hS.2.1 q h1 (fun z => h2 (hAb q z)), fun l hl => hAb _ (hS.2.2 l hl)⟩
  have hS : va_S A s.heap s.heap [] := va_S.rf
  have hrt : ∀ (u : Nat → Nat) (pc : Nat) (ls : Array Slot) (v : Int32) (x_t_row : Nat → Int32) (x_t_wide : Int32) (x_t_lost : Int32) (x_t_steps : Nat → Int32) (H : Heap) (locs : List Loc), decode cX8_comes pc = .ok (.ireturn, 1) → some (v, x_t_row, x_t_wide, x_t_lost, x_t_steps) = some (o, o_t_row, o_t_wide, o_t_lost, o_t_steps) → va_P g.2.1 vwCl [((a_t 0), .inr (7, [.ref (a_t 1), .ref (a_t 2), .int t_acted, .ref (a_t 4), .ref (a_t 5), .ref (a_t 6), .ref (a_t 7), .ref (a_t 8), .ref (a_t 9), .int t_taped, .int t_faultKind, .int t_faultPlace, .int t_at, .int t_begin, .int t_token, .int t_value, .int t_bad, .ref (a_t 18), .ref (a_t 19), .ref (a_t 20), .int x_t_wide, .int x_t_lost, .ref (a_t 23), .long t_det, .ref (a_t 25), .int t_mask, .int t_mode, .int t_wanted, .int t_orders, .int t_foundAt, .long t_foundBy, .ref (a_t 32), .ref (a_t 33), .int t_unlikes, .ref (a_t 35), .ref (a_t 36)])), ((a_t 1), .inl (g.2.2.1 0, 27, .inl t_mem)), ((a_t 20), .inl (g.2.2.1 0, 8, .inl x_t_row)), ((a_t 35), .inl (g.2.2.1 0, 256, .inl x_t_steps))] H → va_D A [((a_t 0), .inr (7, [.ref (a_t 1), .ref (a_t 2), .int t_acted, .ref (a_t 4), .ref (a_t 5), .ref (a_t 6), .ref (a_t 7), .ref (a_t 8), .ref (a_t 9), .int t_taped, .int t_faultKind, .int t_faultPlace, .int t_at, .int t_begin, .int t_token, .int t_value, .int t_bad, .ref (a_t 18), .ref (a_t 19), .ref (a_t 20), .int x_t_wide, .int x_t_lost, .ref (a_t 23), .long t_det, .ref (a_t 25), .int t_mask, .int t_mode, .int t_wanted, .int t_orders, .int t_foundAt, .long t_foundBy, .ref (a_t 32), .ref (a_t 33), .int t_unlikes, .ref (a_t 35), .ref (a_t 36)])), ((a_t 1), .inl (g.2.2.1 0, 27, .inl t_mem)), ((a_t 20), .inl (g.2.2.1 0, 8, .inl x_t_row)), ((a_t 35), .inl (g.2.2.1 0, 256, .inl x_t_steps))] → va_S A s.heap H locs → W p l e ⟨6, 0, 0, 148⟩ s m args below meth c H locs 0 0 Q (F0 m pc ls [.int v]) := by
    intro u pc ls v x_t_row x_t_wide x_t_lost x_t_steps H locs hd h hP hD hS
    cases h
    exact hret u _ _ _ _ _ hd rfl hP hD hS
  unfold fX8_comes at h
  refine lv_aload_n hx hb dX8_comes_0 rfl (lv_at hl 0 rfl) ?_
  refine lv_iload_n hx hb dX8_comes_1 rfl (lv_at hl 1 rfl) ?_
  refine lv_iload_n hx hb dX8_comes_2 rfl (lv_at hl 2 rfl) ?_
  obtain ⟨r1, hr2, h⟩ := bnd h
  refine ro_z (runV (As := [.int v1, .int v2]) (rest := []) cx hl.1 (ctX8_isWay l g a_t t_acted t_taped t_faultKind t_faultPlace t_at t_begin t_token t_value t_bad t_wide t_lost t_det t_mask t_mode t_wanted t_orders t_foundAt t_foundBy t_unlikes t_mem v1 v2 r1 hr2) kmX8_isWay kvX8_isWay lm_X8_395 ⟨rfl, rfl⟩ ⟨Nat.le_of_ble_eq_true rfl, Nat.le_of_ble_eq_true rfl⟩ (roV (q0 := 0) (ci := 7) hG (hP.sub [0, 1] rfl) hP rfl rfl) rfl rfl (Nat.le_of_ble_eq_true rfl) dX8_comes_3 ⟨Nat.le_of_ble_eq_true rfl, Nat.le_of_ble_eq_true rfl⟩) (fun hz3 => ?_)
  refine lv_if_eq (tgt := 23) hx hb dX8_comes_6 (by decide) (fun c4 => ?_) (fun c4 => ?_)
  · have h := itp c4 h
    refine lv_bipush (v := -2) hx hb dX8_comes_23 (by decide) ?_
    exact hrt (fun _ => 0) _ _ ((-2)) t_row t_wide t_lost t_steps _ _ dX8_comes_25 h (hP.sub [0, 1, 2, 3] rfl) (hD.sub [0, 1, 2, 3] (by decide) rfl) hS
  · have h := itn c4 h
    refine lv_iload_n hx hb dX8_comes_9 rfl (lv_at hl 3 rfl) ?_
    refine lv_i2l (v := v3.toInt64) hx hb dX8_comes_10 rfl ?_
    refine lv_lconst (v := 1) hx hb dX8_comes_11 (by decide) ?_
    refine lv_aload_n hx hb dX8_comes_12 rfl (lv_at hl 0 rfl) ?_
    obtain ⟨r5, hr6, h⟩ := bnd h
    refine ro_i (runV (As := []) (rest := [.long (1), .long v3.toInt64]) cx hl.1 (ctX8_allBits l g a_t t_acted t_taped t_faultKind t_faultPlace t_at t_begin t_token t_value t_bad t_wide t_lost t_det t_mask t_mode t_wanted t_orders t_foundAt t_foundBy t_unlikes t_mem r5 hr6) kmX8_allBits kvX8_allBits lm_X8_389 ⟨rfl, rfl⟩ ⟨Nat.le_of_ble_eq_true rfl, Nat.le_of_ble_eq_true rfl⟩ (roV (q0 := 0) (ci := 7) hG (hP.sub [0, 1] rfl) hP rfl rfl) rfl rfl (Nat.le_of_ble_eq_true rfl) dX8_comes_13 ⟨Nat.le_of_ble_eq_true rfl, Nat.le_of_ble_eq_true rfl⟩) ?_
    refine lv_i2l (v := r5.toInt64) hx hb dX8_comes_16 rfl ?_
    refine ro_z (runS (As := [.long v3.toInt64, .long (1), .long r5.toInt64]) (rest := []) cx hl.1 (ctX8_in l g v3.toInt64 (1) r5.toInt64 (fX8_in v3.toInt64 1 r5.toInt64) rfl) kmX8_in ksX8_in lm_X8_83 ⟨rfl, rfl⟩ ⟨Nat.le_of_ble_eq_true rfl, Nat.le_of_ble_eq_true rfl⟩ (roS hG (hP.sub [] rfl)) rfl rfl (Nat.le_of_ble_eq_true rfl) dX8_comes_17 ⟨Nat.le_of_ble_eq_true rfl, Nat.le_of_ble_eq_true rfl⟩) (fun hz7 => ?_)
    refine lv_if_ne (tgt := 26) hx hb dX8_comes_20 (by decide) (fun c8 => ?_) (fun c8 => ?_)
    · have h := itn c8 h
      refine lv_aload_n hx hb dX8_comes_26 rfl (lv_at hl 0 rfl) ?_
      refine lv_iload_n hx hb dX8_comes_27 rfl (lv_at hl 1 rfl) ?_
      refine lv_iload_n hx hb dX8_comes_28 rfl (lv_at hl 2 rfl) ?_
      obtain ⟨w10, w11, w12, w13, hr9, h⟩ := ob4_out h
      refine rw_v (WN := fun u14 => [((a_t 0), .inr (7, [.ref (a_t 1), .ref (a_t 2), .int t_acted, .ref (a_t 4), .ref (a_t 5), .ref (a_t 6), .ref (a_t 7), .ref (a_t 8), .ref (a_t 9), .int t_taped, .int t_faultKind, .int t_faultPlace, .int t_at, .int t_begin, .int t_token, .int t_value, .int t_bad, .ref (a_t 18), .ref (a_t 19), .ref (a_t 20), .int w11, .int w12, .ref (a_t 23), .long t_det, .ref (a_t 25), .int t_mask, .int t_mode, .int t_wanted, .int t_orders, .int t_foundAt, .long t_foundBy, .ref (a_t 32), .ref (a_t 33), .int t_unlikes, .ref (a_t 35), .ref (a_t 36)])), ((a_t 1), .inl (g.2.2.1 0, 27, .inl t_mem)), ((a_t 20), .inl (g.2.2.1 0, 8, .inl w10)), ((a_t 35), .inl (g.2.2.1 0, 256, .inl w13))]) (wr := []) (runV (As := [.int v1, .int v2]) (rest := []) cx hl.1 (ctX8_laysSteps l g s.heap.size a_t t_acted t_taped t_faultKind t_faultPlace t_at t_begin t_token t_value t_bad t_wide t_lost t_det t_mask t_mode t_wanted t_orders t_foundAt t_foundBy t_unlikes t_mem t_row t_steps v1 v2 w10 w11 w12 w13 hr9) kmX8_laysSteps kvX8_laysSteps lm_X8_398 ⟨rfl, rfl⟩ ⟨Nat.le_of_ble_eq_true rfl, Nat.le_of_ble_eq_true rfl⟩ (rwV (q0 := 0) (ci := 7) hG (hP.sub [0, 1, 2, 3] rfl) (hD.sub [0, 1, 2, 3] (by decide) rfl) hAb hb0 hS hP rfl rfl) rfl rfl (Nat.le_of_ble_eq_true rfl) dX8_comes_29 ⟨Nat.le_of_ble_eq_true rfl, Nat.le_of_ble_eq_true rfl⟩) hP hD hS hA [0, 1, 2, 3] [] rfl rfl (by decide) (by decide) (fun _ => rfl) (fun u14 H locs hP hD hS => ?_)
      have hG := hGk hS
      refine lv_aload_n hx hb dX8_comes_32 rfl (lv_at hl 0 rfl) ?_
      refine xa_get (C := RX8) (T := TX8) (N := 36) cx hG hP 0 rfl rfl uX8 34 (by decide) lf_X8_74 rfl dX8_comes_33 ?_
      refine lv_iload_n hx hb dX8_comes_36 rfl (lv_at hl 3 rfl) ?_
      obtain ⟨hi15, h⟩ := chk_out h
      refine xa_iald cx hG hP 3 rfl hi15 rfl dX8_comes_37 ?_
      refine lv_bipush (v := 100) hx hb dX8_comes_38 (by decide) ?_
      refine lv_icmp_ge (tgt := 47) hx hb dX8_comes_40 (by decide) (fun c16 => ?_) (fun c16 => ?_)
      · have h := itp c16 h
        refine lv_iconst (v := 0) hx hb dX8_comes_47 (by decide) ?_
        exact hrt (fun _ => 0) _ _ ((0)) w10 w11 w12 w13 _ _ dX8_comes_48 h (hP.sub [0, 1, 2, 3] rfl) (hD.sub [0, 1, 2, 3] (by decide) rfl) hS
      · have h := itn c16 h
        refine lv_iconst (v := 1) hx hb dX8_comes_43 (by decide) ?_
        refine lv_goto (tgt := 48) hx hb dX8_comes_44 (by decide) ?_
        exact hrt (fun _ => 0) _ _ ((1)) w10 w11 w12 w13 _ _ dX8_comes_48 h (hP.sub [0, 1, 2, 3] rfl) (hD.sub [0, 1, 2, 3] (by decide) rfl) hS
    · have h := itp c8 h
      refine lv_bipush (v := -2) hx hb dX8_comes_23 (by decide) ?_
      exact hrt (fun _ => 0) _ _ ((-2)) t_row t_wide t_lost t_steps _ _ dX8_comes_25 h (hP.sub [0, 1, 2, 3] rfl) (hD.sub [0, 1, 2, 3] (by decide) rfl) hS
-- X8_step
theorem dX8_step_0 : decode cX8_step 0 = .ok (.aload_n 0, 1) := by decide +kernel
theorem dX8_step_1 : decode cX8_step 1 = .ok (.iload_n 1, 1) := by decide +kernel
theorem dX8_step_2 : decode cX8_step 2 = .ok (.iload_n 2, 1) := by decide +kernel
theorem dX8_step_3 : decode cX8_step 3 = .ok (.invokevirtual 395, 3) := by decide +kernel
theorem dX8_step_6 : decode cX8_step 6 = .ok (.ifCond .eq 7, 3) := by decide +kernel
theorem dX8_step_9 : decode cX8_step 9 = .ok (.iload_n 3, 1) := by decide +kernel
theorem dX8_step_10 : decode cX8_step 10 = .ok (.ifCond .ge 6, 3) := by decide +kernel
theorem dX8_step_13 : decode cX8_step 13 = .ok (.bipush (-2), 2) := by decide +kernel
theorem dX8_step_15 : decode cX8_step 15 = .ok (.ireturn, 1) := by decide +kernel
theorem dX8_step_16 : decode cX8_step 16 = .ok (.aload_n 0, 1) := by decide +kernel
theorem dX8_step_17 : decode cX8_step 17 = .ok (.iload_n 1, 1) := by decide +kernel
theorem dX8_step_18 : decode cX8_step 18 = .ok (.iload_n 2, 1) := by decide +kernel
theorem dX8_step_19 : decode cX8_step 19 = .ok (.invokevirtual 398, 3) := by decide +kernel
theorem dX8_step_22 : decode cX8_step 22 = .ok (.aload_n 0, 1) := by decide +kernel
theorem dX8_step_23 : decode cX8_step 23 = .ok (.invokevirtual 401, 3) := by decide +kernel
theorem dX8_step_26 : decode cX8_step 26 = .ok (.istore 4, 2) := by decide +kernel
theorem dX8_step_28 : decode cX8_step 28 = .ok (.iload 4, 2) := by decide +kernel
theorem dX8_step_30 : decode cX8_step 30 = .ok (.iconst (-1), 1) := by decide +kernel
theorem dX8_step_31 : decode cX8_step 31 = .ok (.if_icmp .eq 14, 3) := by decide +kernel
theorem dX8_step_34 : decode cX8_step 34 = .ok (.iload_n 3, 1) := by decide +kernel
theorem dX8_step_35 : decode cX8_step 35 = .ok (.aload_n 0, 1) := by decide +kernel
theorem dX8_step_36 : decode cX8_step 36 = .ok (.getfield 74, 3) := by decide +kernel
theorem dX8_step_39 : decode cX8_step 39 = .ok (.iload 4, 2) := by decide +kernel
theorem dX8_step_41 : decode cX8_step 41 = .ok (.iaload, 1) := by decide +kernel
theorem dX8_step_42 : decode cX8_step 42 = .ok (.if_icmp .le 5, 3) := by decide +kernel
theorem dX8_step_45 : decode cX8_step 45 = .ok (.iconst (-1), 1) := by decide +kernel
theorem dX8_step_46 : decode cX8_step 46 = .ok (.ireturn, 1) := by decide +kernel
theorem dX8_step_47 : decode cX8_step 47 = .ok (.aload_n 0, 1) := by decide +kernel
theorem dX8_step_48 : decode cX8_step 48 = .ok (.getfield 74, 3) := by decide +kernel
theorem dX8_step_51 : decode cX8_step 51 = .ok (.iload 4, 2) := by decide +kernel
theorem dX8_step_53 : decode cX8_step 53 = .ok (.iaload, 1) := by decide +kernel
theorem dX8_step_54 : decode cX8_step 54 = .ok (.iload_n 3, 1) := by decide +kernel
theorem dX8_step_55 : decode cX8_step 55 = .ok (.if_icmp .le 53, 3) := by decide +kernel
theorem dX8_step_58 : decode cX8_step 58 = .ok (.iload 4, 2) := by decide +kernel
theorem dX8_step_60 : decode cX8_step 60 = .ok (.iconst 1, 1) := by decide +kernel
theorem dX8_step_61 : decode cX8_step 61 = .ok (.iadd, 1) := by decide +kernel
theorem dX8_step_62 : decode cX8_step 62 = .ok (.istore 5, 2) := by decide +kernel
theorem dX8_step_64 : decode cX8_step 64 = .ok (.aload_n 0, 1) := by decide +kernel
theorem dX8_step_65 : decode cX8_step 65 = .ok (.getfield 74, 3) := by decide +kernel
theorem dX8_step_68 : decode cX8_step 68 = .ok (.iload 5, 2) := by decide +kernel
theorem dX8_step_70 : decode cX8_step 70 = .ok (.iaload, 1) := by decide +kernel
theorem dX8_step_71 : decode cX8_step 71 = .ok (.aload_n 0, 1) := by decide +kernel
theorem dX8_step_72 : decode cX8_step 72 = .ok (.getfield 74, 3) := by decide +kernel
theorem dX8_step_75 : decode cX8_step 75 = .ok (.iload 4, 2) := by decide +kernel
theorem dX8_step_77 : decode cX8_step 77 = .ok (.iaload, 1) := by decide +kernel
theorem dX8_step_78 : decode cX8_step 78 = .ok (.iconst 1, 1) := by decide +kernel
theorem dX8_step_79 : decode cX8_step 79 = .ok (.isub, 1) := by decide +kernel
theorem dX8_step_80 : decode cX8_step 80 = .ok (.if_icmp .ne 15, 3) := by decide +kernel
theorem dX8_step_83 : decode cX8_step 83 = .ok (.aload_n 0, 1) := by decide +kernel
theorem dX8_step_84 : decode cX8_step 84 = .ok (.iload 5, 2) := by decide +kernel
theorem dX8_step_86 : decode cX8_step 86 = .ok (.iload 4, 2) := by decide +kernel
theorem dX8_step_88 : decode cX8_step 88 = .ok (.iload_n 2, 1) := by decide +kernel
theorem dX8_step_89 : decode cX8_step 89 = .ok (.invokevirtual 392, 3) := by decide +kernel
theorem dX8_step_92 : decode cX8_step 92 = .ok (.ifCond .ne 9, 3) := by decide +kernel
theorem dX8_step_95 : decode cX8_step 95 = .ok (.iinc 5 1, 3) := by decide +kernel
theorem dX8_step_98 : decode cX8_step 98 = .ok (.goto (-34), 3) := by decide +kernel
theorem dX8_step_101 : decode cX8_step 101 = .ok (.iload 5, 2) := by decide +kernel
theorem dX8_step_103 : decode cX8_step 103 = .ok (.istore 4, 2) := by decide +kernel
theorem dX8_step_105 : decode cX8_step 105 = .ok (.goto (-58), 3) := by decide +kernel
theorem dX8_step_108 : decode cX8_step 108 = .ok (.iload 4, 2) := by decide +kernel
theorem dX8_step_110 : decode cX8_step 110 = .ok (.ireturn, 1) := by decide +kernel
noncomputable def fX8_step_95 (k47 : (Nat → Int32) → Int32 → Int32 → (Nat → Int32) → Int32 → Int32 → Int32 → Option (Int32 × (Nat → Int32) × Int32 × Int32 × (Nat → Int32))) (k64 : (Nat → Int32) → Int32 → Int32 → (Nat → Int32) → Int32 → Int32 → Int32 → Int32 → Option (Int32 × (Nat → Int32) × Int32 × Int32 × (Nat → Int32))) (t_row : Nat → Int32) (t_wide : Int32) (t_lost : Int32) (t_steps : Nat → Int32) (v2 : Int32) (v3 : Int32) (v4 : Int32) (v5 : Int32) : Option (Int32 × (Nat → Int32) × Int32 × Int32 × (Nat → Int32)) := k64 t_row t_wide t_lost t_steps v2 v3 v4 (v5 + 1)
noncomputable def fX8_step_101 (k47 : (Nat → Int32) → Int32 → Int32 → (Nat → Int32) → Int32 → Int32 → Int32 → Option (Int32 × (Nat → Int32) × Int32 × Int32 × (Nat → Int32))) (t_row : Nat → Int32) (t_wide : Int32) (t_lost : Int32) (t_steps : Nat → Int32) (v2 : Int32) (v3 : Int32) (v5 : Int32) : Option (Int32 × (Nat → Int32) × Int32 × Int32 × (Nat → Int32)) := k47 t_row t_wide t_lost t_steps v2 v3 v5
noncomputable def fX8_step_64 (k47 : (Nat → Int32) → Int32 → Int32 → (Nat → Int32) → Int32 → Int32 → Int32 → Option (Int32 × (Nat → Int32) × Int32 × Int32 × (Nat → Int32))) : Nat → (Nat → Int32) → Int32 → Int32 → (Nat → Int32) → Int32 → Int32 → Int32 → Int32 → Option (Int32 × (Nat → Int32) × Int32 × Int32 × (Nat → Int32))
  | 0, _, _, _, _, _, _, _, _ => none
  | n + 1, t_row, t_wide, t_lost, t_steps, v2, v3, v4, v5 => chk 256 v5 (chk 256 v4 ((if (t_steps v5.toNatClampNeg) = ((t_steps v4.toNatClampNeg) - 1) then (if (fX8_isStep v5 v4 v2) = 0 then fX8_step_95 k47 (fX8_step_64 k47 n) t_row t_wide t_lost t_steps v2 v3 v4 v5 else fX8_step_101 k47 t_row t_wide t_lost t_steps v2 v3 v5) else fX8_step_95 k47 (fX8_step_64 k47 n) t_row t_wide t_lost t_steps v2 v3 v4 v5)))
theorem fX8_step_64_z (k47 : (Nat → Int32) → Int32 → Int32 → (Nat → Int32) → Int32 → Int32 → Int32 → Option (Int32 × (Nat → Int32) × Int32 × Int32 × (Nat → Int32))) (t_row : Nat → Int32) (t_wide : Int32) (t_lost : Int32) (t_steps : Nat → Int32) (v2 : Int32) (v3 : Int32) (v4 : Int32) (v5 : Int32) : fX8_step_64 k47 0 t_row t_wide t_lost t_steps v2 v3 v4 v5 = none := rfl
theorem fX8_step_64_s (k47 : (Nat → Int32) → Int32 → Int32 → (Nat → Int32) → Int32 → Int32 → Int32 → Option (Int32 × (Nat → Int32) × Int32 × Int32 × (Nat → Int32))) (n : Nat) (t_row : Nat → Int32) (t_wide : Int32) (t_lost : Int32) (t_steps : Nat → Int32) (v2 : Int32) (v3 : Int32) (v4 : Int32) (v5 : Int32) : fX8_step_64 k47 (n + 1) t_row t_wide t_lost t_steps v2 v3 v4 v5 = chk 256 v5 (chk 256 v4 ((if (t_steps v5.toNatClampNeg) = ((t_steps v4.toNatClampNeg) - 1) then (if (fX8_isStep v5 v4 v2) = 0 then fX8_step_95 k47 (fX8_step_64 k47 n) t_row t_wide t_lost t_steps v2 v3 v4 v5 else fX8_step_101 k47 t_row t_wide t_lost t_steps v2 v3 v5) else fX8_step_95 k47 (fX8_step_64 k47 n) t_row t_wide t_lost t_steps v2 v3 v4 v5))) := rfl
noncomputable def fX8_step_47  : Nat → (Nat → Int32) → Int32 → Int32 → (Nat → Int32) → Int32 → Int32 → Int32 → Option (Int32 × (Nat → Int32) × Int32 × Int32 × (Nat → Int32))
  | 0, _, _, _, _, _, _, _ => none
  | n + 1, t_row, t_wide, t_lost, t_steps, v2, v3, v4 => chk 256 v4 ((if (t_steps v4.toNatClampNeg) ≤ v3 then some (v4, t_row, t_wide, t_lost, t_steps) else fX8_step_64 (fX8_step_47 n) FU t_row t_wide t_lost t_steps v2 v3 v4 (v4 + 1)))
theorem fX8_step_47_z  (t_row : Nat → Int32) (t_wide : Int32) (t_lost : Int32) (t_steps : Nat → Int32) (v2 : Int32) (v3 : Int32) (v4 : Int32) : fX8_step_47  0 t_row t_wide t_lost t_steps v2 v3 v4 = none := rfl
theorem fX8_step_47_s  (n : Nat) (t_row : Nat → Int32) (t_wide : Int32) (t_lost : Int32) (t_steps : Nat → Int32) (v2 : Int32) (v3 : Int32) (v4 : Int32) : fX8_step_47  (n + 1) t_row t_wide t_lost t_steps v2 v3 v4 = chk 256 v4 ((if (t_steps v4.toNatClampNeg) ≤ v3 then some (v4, t_row, t_wide, t_lost, t_steps) else fX8_step_64 (fX8_step_47 n) FU t_row t_wide t_lost t_steps v2 v3 v4 (v4 + 1))) := rfl
noncomputable def fX8_step  (t_mem : Nat → Int32) (t_row : Nat → Int32) (t_wide : Int32) (t_lost : Int32) (t_steps : Nat → Int32) (v1 : Int32) (v2 : Int32) (v3 : Int32) : Option (Int32 × (Nat → Int32) × Int32 × Int32 × (Nat → Int32)) := (fX8_isWay t_mem v1 v2).bind fun r1 => (if r1 = 0 then some ((-2), t_row, t_wide, t_lost, t_steps) else (if 0 ≤ v3 then ob4 (fX8_laysSteps t_mem t_row t_wide t_lost t_steps v1 v2) fun w7 w8 w9 w10 => (fX8_goal t_mem w10).bind fun r12 => (if r12 = (-1) then some ((-1), w7, w8, w9, w10) else chk 256 r12 ((if v3 ≤ (w10 r12.toNatClampNeg) then fX8_step_47 FU w7 w8 w9 w10 v2 v3 r12 else some ((-1), w7, w8, w9, w10)))) else some ((-2), t_row, t_wide, t_lost, t_steps)))
set_option maxHeartbeats 4000000 in
set_option maxRecDepth 100000 in
theorem ctX8_step (l : Launch) (g : GT) (sz : Nat) (a_t : Nat → Nat) (t_acted : Int32) (t_taped : Int32) (t_faultKind : Int32) (t_faultPlace : Int32) (t_at : Int32) (t_begin : Int32) (t_token : Int32) (t_value : Int32) (t_bad : Int32) (t_wide : Int32) (t_lost : Int32) (t_det : Int64) (t_mask : Int32) (t_mode : Int32) (t_wanted : Int32) (t_orders : Int32) (t_foundAt : Int32) (t_foundBy : Int64) (t_unlikes : Int32) (t_mem : Nat → Int32) (t_row : Nat → Int32) (t_steps : Nat → Int32) (v1 : Int32) (v2 : Int32) (v3 : Int32) (o : Int32) (o_t_row : Nat → Int32) (o_t_wide : Int32) (o_t_lost : Int32) (o_t_steps : Nat → Int32) (h : fX8_step t_mem t_row t_wide t_lost t_steps v1 v2 v3 = some (o, o_t_row, o_t_wide, o_t_lost, o_t_steps)) : Met l yX8_step (Cond.code yX8_step cX8_step 6 (some .int) :: Tw) ⟨6, 0, 0, 148⟩ (va_Pc [.ref ((a_t 0)), .int v1, .int v2, .int v3] (rwB g [((a_t 0), .inr (7, [.ref (a_t 1), .ref (a_t 2), .int t_acted, .ref (a_t 4), .ref (a_t 5), .ref (a_t 6), .ref (a_t 7), .ref (a_t 8), .ref (a_t 9), .int t_taped, .int t_faultKind, .int t_faultPlace, .int t_at, .int t_begin, .int t_token, .int t_value, .int t_bad, .ref (a_t 18), .ref (a_t 19), .ref (a_t 20), .int t_wide, .int t_lost, .ref (a_t 23), .long t_det, .ref (a_t 25), .int t_mask, .int t_mode, .int t_wanted, .int t_orders, .int t_foundAt, .long t_foundBy, .ref (a_t 32), .ref (a_t 33), .int t_unlikes, .ref (a_t 35), .ref (a_t 36)])), ((a_t 1), .inl (g.2.2.1 0, 27, .inl t_mem)), ((a_t 20), .inl (g.2.2.1 0, 8, .inl t_row)), ((a_t 35), .inl (g.2.2.1 0, 256, .inl t_steps))] sz)) (va_Qi (fun x (_ : Nat → Nat) => x = o) (fun u => rwE g (va_A [((a_t 0), .inr (7, [.ref (a_t 1), .ref (a_t 2), .int t_acted, .ref (a_t 4), .ref (a_t 5), .ref (a_t 6), .ref (a_t 7), .ref (a_t 8), .ref (a_t 9), .int t_taped, .int t_faultKind, .int t_faultPlace, .int t_at, .int t_begin, .int t_token, .int t_value, .int t_bad, .ref (a_t 18), .ref (a_t 19), .ref (a_t 20), .int t_wide, .int t_lost, .ref (a_t 23), .long t_det, .ref (a_t 25), .int t_mask, .int t_mode, .int t_wanted, .int t_orders, .int t_foundAt, .long t_foundBy, .ref (a_t 32), .ref (a_t 33), .int t_unlikes, .ref (a_t 35), .ref (a_t 36)])), ((a_t 1), .inl (g.2.2.1 0, 27, .inl t_mem)), ((a_t 20), .inl (g.2.2.1 0, 8, .inl t_row)), ((a_t 35), .inl (g.2.2.1 0, 256, .inl t_steps))] sz) [((a_t 0), .inr (7, [.ref (a_t 1), .ref (a_t 2), .int t_acted, .ref (a_t 4), .ref (a_t 5), .ref (a_t 6), .ref (a_t 7), .ref (a_t 8), .ref (a_t 9), .int t_taped, .int t_faultKind, .int t_faultPlace, .int t_at, .int t_begin, .int t_token, .int t_value, .int t_bad, .ref (a_t 18), .ref (a_t 19), .ref (a_t 20), .int o_t_wide, .int o_t_lost, .ref (a_t 23), .long t_det, .ref (a_t 25), .int t_mask, .int t_mode, .int t_wanted, .int t_orders, .int t_foundAt, .long t_foundBy, .ref (a_t 32), .ref (a_t 33), .int t_unlikes, .ref (a_t 35), .ref (a_t 36)])), ((a_t 1), .inl (g.2.2.1 0, 27, .inl t_mem)), ((a_t 20), .inl (g.2.2.1 0, 8, .inl o_t_row)), ((a_t 35), .inl (g.2.2.1 0, 256, .inl o_t_steps))]) (va_A [((a_t 0), .inr (7, [.ref (a_t 1), .ref (a_t 2), .int t_acted, .ref (a_t 4), .ref (a_t 5), .ref (a_t 6), .ref (a_t 7), .ref (a_t 8), .ref (a_t 9), .int t_taped, .int t_faultKind, .int t_faultPlace, .int t_at, .int t_begin, .int t_token, .int t_value, .int t_bad, .ref (a_t 18), .ref (a_t 19), .ref (a_t 20), .int t_wide, .int t_lost, .ref (a_t 23), .long t_det, .ref (a_t 25), .int t_mask, .int t_mode, .int t_wanted, .int t_orders, .int t_foundAt, .long t_foundBy, .ref (a_t 32), .ref (a_t 33), .int t_unlikes, .ref (a_t 35), .ref (a_t 36)])), ((a_t 1), .inl (g.2.2.1 0, 27, .inl t_mem)), ((a_t 20), .inl (g.2.2.1 0, 8, .inl t_row)), ((a_t 35), .inl (g.2.2.1 0, 256, .inl t_steps))] sz)) 0 0 (va_A [((a_t 0), .inr (7, [.ref (a_t 1), .ref (a_t 2), .int t_acted, .ref (a_t 4), .ref (a_t 5), .ref (a_t 6), .ref (a_t 7), .ref (a_t 8), .ref (a_t 9), .int t_taped, .int t_faultKind, .int t_faultPlace, .int t_at, .int t_begin, .int t_token, .int t_value, .int t_bad, .ref (a_t 18), .ref (a_t 19), .ref (a_t 20), .int t_wide, .int t_lost, .ref (a_t 23), .long t_det, .ref (a_t 25), .int t_mask, .int t_mode, .int t_wanted, .int t_orders, .int t_foundAt, .long t_foundBy, .ref (a_t 32), .ref (a_t 33), .int t_unlikes, .ref (a_t 35), .ref (a_t 36)])), ((a_t 1), .inl (g.2.2.1 0, 27, .inl t_mem)), ((a_t 20), .inl (g.2.2.1 0, 8, .inl t_row)), ((a_t 35), .inl (g.2.2.1 0, 256, .inl t_steps))] sz) := by
  refine rw_meti (by decide) (Nat.le_of_ble_eq_true rfl) (lv0 := [(0, .ref ((a_t 0))), (1, .int v1), (2, .int v2), (3, .int v3)]) rfl ?_
  intro p e s m args below meth c ls Q A cx hret hG hAb hb0 hA hP hD hl
  have hx := cx.1
  have hb := cx.2.1
  have hG0 := hG
  have hGk : ∀ {H : Heap} {locs : List Loc}, va_S A s.heap H locs → GE g s H := fun hS => hG0.keptS hAb hS
  have hSb : ∀ {H : Heap} {locs : List Loc}, va_S A s.heap H locs → va_S (fun a => g.1 ≤ a) s.heap H locs := fun hS => ⟨hS.1, fun q h1 h2 => hS.2.1 q h1 (fun z => h2 (hAb q z)), fun l hl => hAb _ (hS.2.2 l hl)⟩
  have hS : va_S A s.heap s.heap [] := va_S.rf
  have hrt : ∀ (u : Nat → Nat) (pc : Nat) (ls : Array Slot) (v : Int32) (x_t_row : Nat → Int32) (x_t_wide : Int32) (x_t_lost : Int32) (x_t_steps : Nat → Int32) (H : Heap) (locs : List Loc), decode cX8_step pc = .ok (.ireturn, 1) → some (v, x_t_row, x_t_wide, x_t_lost, x_t_steps) = some (o, o_t_row, o_t_wide, o_t_lost, o_t_steps) → va_P g.2.1 vwCl [((a_t 0), .inr (7, [.ref (a_t 1), .ref (a_t 2), .int t_acted, .ref (a_t 4), .ref (a_t 5), .ref (a_t 6), .ref (a_t 7), .ref (a_t 8), .ref (a_t 9), .int t_taped, .int t_faultKind, .int t_faultPlace, .int t_at, .int t_begin, .int t_token, .int t_value, .int t_bad, .ref (a_t 18), .ref (a_t 19), .ref (a_t 20), .int x_t_wide, .int x_t_lost, .ref (a_t 23), .long t_det, .ref (a_t 25), .int t_mask, .int t_mode, .int t_wanted, .int t_orders, .int t_foundAt, .long t_foundBy, .ref (a_t 32), .ref (a_t 33), .int t_unlikes, .ref (a_t 35), .ref (a_t 36)])), ((a_t 1), .inl (g.2.2.1 0, 27, .inl t_mem)), ((a_t 20), .inl (g.2.2.1 0, 8, .inl x_t_row)), ((a_t 35), .inl (g.2.2.1 0, 256, .inl x_t_steps))] H → va_D A [((a_t 0), .inr (7, [.ref (a_t 1), .ref (a_t 2), .int t_acted, .ref (a_t 4), .ref (a_t 5), .ref (a_t 6), .ref (a_t 7), .ref (a_t 8), .ref (a_t 9), .int t_taped, .int t_faultKind, .int t_faultPlace, .int t_at, .int t_begin, .int t_token, .int t_value, .int t_bad, .ref (a_t 18), .ref (a_t 19), .ref (a_t 20), .int x_t_wide, .int x_t_lost, .ref (a_t 23), .long t_det, .ref (a_t 25), .int t_mask, .int t_mode, .int t_wanted, .int t_orders, .int t_foundAt, .long t_foundBy, .ref (a_t 32), .ref (a_t 33), .int t_unlikes, .ref (a_t 35), .ref (a_t 36)])), ((a_t 1), .inl (g.2.2.1 0, 27, .inl t_mem)), ((a_t 20), .inl (g.2.2.1 0, 8, .inl x_t_row)), ((a_t 35), .inl (g.2.2.1 0, 256, .inl x_t_steps))] → va_S A s.heap H locs → W p l e ⟨6, 0, 0, 148⟩ s m args below meth c H locs 0 0 Q (F0 m pc ls [.int v]) := by
    intro u pc ls v x_t_row x_t_wide x_t_lost x_t_steps H locs hd h hP hD hS
    cases h
    exact hret u _ _ _ _ _ hd rfl hP hD hS
  have w95 : ∀ (k47 : (Nat → Int32) → Int32 → Int32 → (Nat → Int32) → Int32 → Int32 → Int32 → Option (Int32 × (Nat → Int32) × Int32 × Int32 × (Nat → Int32))) (hk47 : ∀ (t_row : Nat → Int32) (t_wide : Int32) (t_lost : Int32) (t_steps : Nat → Int32) (v2 : Int32) (v3 : Int32) (v4 : Int32) (H : Heap) (locs : List Loc), va_P g.2.1 vwCl [((a_t 0), .inr (7, [.ref (a_t 1), .ref (a_t 2), .int t_acted, .ref (a_t 4), .ref (a_t 5), .ref (a_t 6), .ref (a_t 7), .ref (a_t 8), .ref (a_t 9), .int t_taped, .int t_faultKind, .int t_faultPlace, .int t_at, .int t_begin, .int t_token, .int t_value, .int t_bad, .ref (a_t 18), .ref (a_t 19), .ref (a_t 20), .int t_wide, .int t_lost, .ref (a_t 23), .long t_det, .ref (a_t 25), .int t_mask, .int t_mode, .int t_wanted, .int t_orders, .int t_foundAt, .long t_foundBy, .ref (a_t 32), .ref (a_t 33), .int t_unlikes, .ref (a_t 35), .ref (a_t 36)])), ((a_t 1), .inl (g.2.2.1 0, 27, .inl t_mem)), ((a_t 20), .inl (g.2.2.1 0, 8, .inl t_row)), ((a_t 35), .inl (g.2.2.1 0, 256, .inl t_steps))] H → va_D A [((a_t 0), .inr (7, [.ref (a_t 1), .ref (a_t 2), .int t_acted, .ref (a_t 4), .ref (a_t 5), .ref (a_t 6), .ref (a_t 7), .ref (a_t 8), .ref (a_t 9), .int t_taped, .int t_faultKind, .int t_faultPlace, .int t_at, .int t_begin, .int t_token, .int t_value, .int t_bad, .ref (a_t 18), .ref (a_t 19), .ref (a_t 20), .int t_wide, .int t_lost, .ref (a_t 23), .long t_det, .ref (a_t 25), .int t_mask, .int t_mode, .int t_wanted, .int t_orders, .int t_foundAt, .long t_foundBy, .ref (a_t 32), .ref (a_t 33), .int t_unlikes, .ref (a_t 35), .ref (a_t 36)])), ((a_t 1), .inl (g.2.2.1 0, 27, .inl t_mem)), ((a_t 20), .inl (g.2.2.1 0, 8, .inl t_row)), ((a_t 35), .inl (g.2.2.1 0, 256, .inl t_steps))] → va_S A s.heap H locs → ∀ (ls : Array Slot), lv_has ls 6 [(0, .ref ((a_t 0))), (2, .int v2), (3, .int v3), (4, .int v4)] → k47 t_row t_wide t_lost t_steps v2 v3 v4 = some (o, o_t_row, o_t_wide, o_t_lost, o_t_steps) → W p l e ⟨6, 0, 0, 148⟩ s m args below meth c H locs 0 0 Q (F0 m 47 ls [])) (k64 : (Nat → Int32) → Int32 → Int32 → (Nat → Int32) → Int32 → Int32 → Int32 → Int32 → Option (Int32 × (Nat → Int32) × Int32 × Int32 × (Nat → Int32))) (hk64 : ∀ (t_row : Nat → Int32) (t_wide : Int32) (t_lost : Int32) (t_steps : Nat → Int32) (v2 : Int32) (v3 : Int32) (v4 : Int32) (v5 : Int32) (H : Heap) (locs : List Loc), va_P g.2.1 vwCl [((a_t 0), .inr (7, [.ref (a_t 1), .ref (a_t 2), .int t_acted, .ref (a_t 4), .ref (a_t 5), .ref (a_t 6), .ref (a_t 7), .ref (a_t 8), .ref (a_t 9), .int t_taped, .int t_faultKind, .int t_faultPlace, .int t_at, .int t_begin, .int t_token, .int t_value, .int t_bad, .ref (a_t 18), .ref (a_t 19), .ref (a_t 20), .int t_wide, .int t_lost, .ref (a_t 23), .long t_det, .ref (a_t 25), .int t_mask, .int t_mode, .int t_wanted, .int t_orders, .int t_foundAt, .long t_foundBy, .ref (a_t 32), .ref (a_t 33), .int t_unlikes, .ref (a_t 35), .ref (a_t 36)])), ((a_t 1), .inl (g.2.2.1 0, 27, .inl t_mem)), ((a_t 20), .inl (g.2.2.1 0, 8, .inl t_row)), ((a_t 35), .inl (g.2.2.1 0, 256, .inl t_steps))] H → va_D A [((a_t 0), .inr (7, [.ref (a_t 1), .ref (a_t 2), .int t_acted, .ref (a_t 4), .ref (a_t 5), .ref (a_t 6), .ref (a_t 7), .ref (a_t 8), .ref (a_t 9), .int t_taped, .int t_faultKind, .int t_faultPlace, .int t_at, .int t_begin, .int t_token, .int t_value, .int t_bad, .ref (a_t 18), .ref (a_t 19), .ref (a_t 20), .int t_wide, .int t_lost, .ref (a_t 23), .long t_det, .ref (a_t 25), .int t_mask, .int t_mode, .int t_wanted, .int t_orders, .int t_foundAt, .long t_foundBy, .ref (a_t 32), .ref (a_t 33), .int t_unlikes, .ref (a_t 35), .ref (a_t 36)])), ((a_t 1), .inl (g.2.2.1 0, 27, .inl t_mem)), ((a_t 20), .inl (g.2.2.1 0, 8, .inl t_row)), ((a_t 35), .inl (g.2.2.1 0, 256, .inl t_steps))] → va_S A s.heap H locs → ∀ (ls : Array Slot), lv_has ls 6 [(0, .ref ((a_t 0))), (2, .int v2), (3, .int v3), (4, .int v4), (5, .int v5)] → k64 t_row t_wide t_lost t_steps v2 v3 v4 v5 = some (o, o_t_row, o_t_wide, o_t_lost, o_t_steps) → W p l e ⟨6, 0, 0, 148⟩ s m args below meth c H locs 0 0 Q (F0 m 64 ls [])) (t_row : Nat → Int32) (t_wide : Int32) (t_lost : Int32) (t_steps : Nat → Int32) (v2 : Int32) (v3 : Int32) (v4 : Int32) (v5 : Int32) (H : Heap) (locs : List Loc), va_P g.2.1 vwCl [((a_t 0), .inr (7, [.ref (a_t 1), .ref (a_t 2), .int t_acted, .ref (a_t 4), .ref (a_t 5), .ref (a_t 6), .ref (a_t 7), .ref (a_t 8), .ref (a_t 9), .int t_taped, .int t_faultKind, .int t_faultPlace, .int t_at, .int t_begin, .int t_token, .int t_value, .int t_bad, .ref (a_t 18), .ref (a_t 19), .ref (a_t 20), .int t_wide, .int t_lost, .ref (a_t 23), .long t_det, .ref (a_t 25), .int t_mask, .int t_mode, .int t_wanted, .int t_orders, .int t_foundAt, .long t_foundBy, .ref (a_t 32), .ref (a_t 33), .int t_unlikes, .ref (a_t 35), .ref (a_t 36)])), ((a_t 1), .inl (g.2.2.1 0, 27, .inl t_mem)), ((a_t 20), .inl (g.2.2.1 0, 8, .inl t_row)), ((a_t 35), .inl (g.2.2.1 0, 256, .inl t_steps))] H → va_D A [((a_t 0), .inr (7, [.ref (a_t 1), .ref (a_t 2), .int t_acted, .ref (a_t 4), .ref (a_t 5), .ref (a_t 6), .ref (a_t 7), .ref (a_t 8), .ref (a_t 9), .int t_taped, .int t_faultKind, .int t_faultPlace, .int t_at, .int t_begin, .int t_token, .int t_value, .int t_bad, .ref (a_t 18), .ref (a_t 19), .ref (a_t 20), .int t_wide, .int t_lost, .ref (a_t 23), .long t_det, .ref (a_t 25), .int t_mask, .int t_mode, .int t_wanted, .int t_orders, .int t_foundAt, .long t_foundBy, .ref (a_t 32), .ref (a_t 33), .int t_unlikes, .ref (a_t 35), .ref (a_t 36)])), ((a_t 1), .inl (g.2.2.1 0, 27, .inl t_mem)), ((a_t 20), .inl (g.2.2.1 0, 8, .inl t_row)), ((a_t 35), .inl (g.2.2.1 0, 256, .inl t_steps))] → va_S A s.heap H locs → ∀ (ls : Array Slot), lv_has ls 6 [(0, .ref ((a_t 0))), (2, .int v2), (3, .int v3), (4, .int v4), (5, .int v5)] → fX8_step_95 k47 k64 t_row t_wide t_lost t_steps v2 v3 v4 v5 = some (o, o_t_row, o_t_wide, o_t_lost, o_t_steps) → W p l e ⟨6, 0, 0, 148⟩ s m args below meth c H locs 0 0 Q (F0 m 95 ls []) := by
    intro k47 hk47 k64 hk64 t_row t_wide t_lost t_steps v2 v3 v4 v5 H locs hP hD hS ls hl h
    unfold fX8_step_95 at h
    have hG := hGk hS
    refine lv_iinc (v := v5 + 1) (lv' := [(5, .int (v5 + 1)), (0, .ref ((a_t 0))), (2, .int v2), (3, .int v3), (4, .int v4)]) hx hb dX8_step_95 hl (k := 4) rfl rfl (by decide) rfl (fun ls hl => ?_)
    refine lv_goto (tgt := 64) hx hb dX8_step_98 (by decide) ?_
    exact hk64 t_row t_wide t_lost t_steps v2 v3 v4 (v5 + 1) _ _ hP hD hS _ (lv_sub hl [1, 2, 3, 4, 0] rfl) h
  have w101 : ∀ (k47 : (Nat → Int32) → Int32 → Int32 → (Nat → Int32) → Int32 → Int32 → Int32 → Option (Int32 × (Nat → Int32) × Int32 × Int32 × (Nat → Int32))) (hk47 : ∀ (t_row : Nat → Int32) (t_wide : Int32) (t_lost : Int32) (t_steps : Nat → Int32) (v2 : Int32) (v3 : Int32) (v4 : Int32) (H : Heap) (locs : List Loc), va_P g.2.1 vwCl [((a_t 0), .inr (7, [.ref (a_t 1), .ref (a_t 2), .int t_acted, .ref (a_t 4), .ref (a_t 5), .ref (a_t 6), .ref (a_t 7), .ref (a_t 8), .ref (a_t 9), .int t_taped, .int t_faultKind, .int t_faultPlace, .int t_at, .int t_begin, .int t_token, .int t_value, .int t_bad, .ref (a_t 18), .ref (a_t 19), .ref (a_t 20), .int t_wide, .int t_lost, .ref (a_t 23), .long t_det, .ref (a_t 25), .int t_mask, .int t_mode, .int t_wanted, .int t_orders, .int t_foundAt, .long t_foundBy, .ref (a_t 32), .ref (a_t 33), .int t_unlikes, .ref (a_t 35), .ref (a_t 36)])), ((a_t 1), .inl (g.2.2.1 0, 27, .inl t_mem)), ((a_t 20), .inl (g.2.2.1 0, 8, .inl t_row)), ((a_t 35), .inl (g.2.2.1 0, 256, .inl t_steps))] H → va_D A [((a_t 0), .inr (7, [.ref (a_t 1), .ref (a_t 2), .int t_acted, .ref (a_t 4), .ref (a_t 5), .ref (a_t 6), .ref (a_t 7), .ref (a_t 8), .ref (a_t 9), .int t_taped, .int t_faultKind, .int t_faultPlace, .int t_at, .int t_begin, .int t_token, .int t_value, .int t_bad, .ref (a_t 18), .ref (a_t 19), .ref (a_t 20), .int t_wide, .int t_lost, .ref (a_t 23), .long t_det, .ref (a_t 25), .int t_mask, .int t_mode, .int t_wanted, .int t_orders, .int t_foundAt, .long t_foundBy, .ref (a_t 32), .ref (a_t 33), .int t_unlikes, .ref (a_t 35), .ref (a_t 36)])), ((a_t 1), .inl (g.2.2.1 0, 27, .inl t_mem)), ((a_t 20), .inl (g.2.2.1 0, 8, .inl t_row)), ((a_t 35), .inl (g.2.2.1 0, 256, .inl t_steps))] → va_S A s.heap H locs → ∀ (ls : Array Slot), lv_has ls 6 [(0, .ref ((a_t 0))), (2, .int v2), (3, .int v3), (4, .int v4)] → k47 t_row t_wide t_lost t_steps v2 v3 v4 = some (o, o_t_row, o_t_wide, o_t_lost, o_t_steps) → W p l e ⟨6, 0, 0, 148⟩ s m args below meth c H locs 0 0 Q (F0 m 47 ls [])) (t_row : Nat → Int32) (t_wide : Int32) (t_lost : Int32) (t_steps : Nat → Int32) (v2 : Int32) (v3 : Int32) (v5 : Int32) (H : Heap) (locs : List Loc), va_P g.2.1 vwCl [((a_t 0), .inr (7, [.ref (a_t 1), .ref (a_t 2), .int t_acted, .ref (a_t 4), .ref (a_t 5), .ref (a_t 6), .ref (a_t 7), .ref (a_t 8), .ref (a_t 9), .int t_taped, .int t_faultKind, .int t_faultPlace, .int t_at, .int t_begin, .int t_token, .int t_value, .int t_bad, .ref (a_t 18), .ref (a_t 19), .ref (a_t 20), .int t_wide, .int t_lost, .ref (a_t 23), .long t_det, .ref (a_t 25), .int t_mask, .int t_mode, .int t_wanted, .int t_orders, .int t_foundAt, .long t_foundBy, .ref (a_t 32), .ref (a_t 33), .int t_unlikes, .ref (a_t 35), .ref (a_t 36)])), ((a_t 1), .inl (g.2.2.1 0, 27, .inl t_mem)), ((a_t 20), .inl (g.2.2.1 0, 8, .inl t_row)), ((a_t 35), .inl (g.2.2.1 0, 256, .inl t_steps))] H → va_D A [((a_t 0), .inr (7, [.ref (a_t 1), .ref (a_t 2), .int t_acted, .ref (a_t 4), .ref (a_t 5), .ref (a_t 6), .ref (a_t 7), .ref (a_t 8), .ref (a_t 9), .int t_taped, .int t_faultKind, .int t_faultPlace, .int t_at, .int t_begin, .int t_token, .int t_value, .int t_bad, .ref (a_t 18), .ref (a_t 19), .ref (a_t 20), .int t_wide, .int t_lost, .ref (a_t 23), .long t_det, .ref (a_t 25), .int t_mask, .int t_mode, .int t_wanted, .int t_orders, .int t_foundAt, .long t_foundBy, .ref (a_t 32), .ref (a_t 33), .int t_unlikes, .ref (a_t 35), .ref (a_t 36)])), ((a_t 1), .inl (g.2.2.1 0, 27, .inl t_mem)), ((a_t 20), .inl (g.2.2.1 0, 8, .inl t_row)), ((a_t 35), .inl (g.2.2.1 0, 256, .inl t_steps))] → va_S A s.heap H locs → ∀ (ls : Array Slot), lv_has ls 6 [(0, .ref ((a_t 0))), (2, .int v2), (3, .int v3), (5, .int v5)] → fX8_step_101 k47 t_row t_wide t_lost t_steps v2 v3 v5 = some (o, o_t_row, o_t_wide, o_t_lost, o_t_steps) → W p l e ⟨6, 0, 0, 148⟩ s m args below meth c H locs 0 0 Q (F0 m 101 ls []) := by
    intro k47 hk47 t_row t_wide t_lost t_steps v2 v3 v5 H locs hP hD hS ls hl h
    unfold fX8_step_101 at h
    have hG := hGk hS
    refine lv_iload hx hb dX8_step_101 (lv_at hl 3 rfl) ?_
    refine lv_istore (lv' := [(4, .int v5), (0, .ref ((a_t 0))), (2, .int v2), (3, .int v3), (5, .int v5)]) hx hb dX8_step_103 hl (by decide) rfl (fun ls hl => ?_)
    refine lv_goto (tgt := 47) hx hb dX8_step_105 (by decide) ?_
    exact hk47 t_row t_wide t_lost t_steps v2 v3 v5 _ _ hP hD hS _ (lv_sub hl [1, 2, 3, 0] rfl) h
  have w64 : ∀ (k47 : (Nat → Int32) → Int32 → Int32 → (Nat → Int32) → Int32 → Int32 → Int32 → Option (Int32 × (Nat → Int32) × Int32 × Int32 × (Nat → Int32))) (hk47 : ∀ (t_row : Nat → Int32) (t_wide : Int32) (t_lost : Int32) (t_steps : Nat → Int32) (v2 : Int32) (v3 : Int32) (v4 : Int32) (H : Heap) (locs : List Loc), va_P g.2.1 vwCl [((a_t 0), .inr (7, [.ref (a_t 1), .ref (a_t 2), .int t_acted, .ref (a_t 4), .ref (a_t 5), .ref (a_t 6), .ref (a_t 7), .ref (a_t 8), .ref (a_t 9), .int t_taped, .int t_faultKind, .int t_faultPlace, .int t_at, .int t_begin, .int t_token, .int t_value, .int t_bad, .ref (a_t 18), .ref (a_t 19), .ref (a_t 20), .int t_wide, .int t_lost, .ref (a_t 23), .long t_det, .ref (a_t 25), .int t_mask, .int t_mode, .int t_wanted, .int t_orders, .int t_foundAt, .long t_foundBy, .ref (a_t 32), .ref (a_t 33), .int t_unlikes, .ref (a_t 35), .ref (a_t 36)])), ((a_t 1), .inl (g.2.2.1 0, 27, .inl t_mem)), ((a_t 20), .inl (g.2.2.1 0, 8, .inl t_row)), ((a_t 35), .inl (g.2.2.1 0, 256, .inl t_steps))] H → va_D A [((a_t 0), .inr (7, [.ref (a_t 1), .ref (a_t 2), .int t_acted, .ref (a_t 4), .ref (a_t 5), .ref (a_t 6), .ref (a_t 7), .ref (a_t 8), .ref (a_t 9), .int t_taped, .int t_faultKind, .int t_faultPlace, .int t_at, .int t_begin, .int t_token, .int t_value, .int t_bad, .ref (a_t 18), .ref (a_t 19), .ref (a_t 20), .int t_wide, .int t_lost, .ref (a_t 23), .long t_det, .ref (a_t 25), .int t_mask, .int t_mode, .int t_wanted, .int t_orders, .int t_foundAt, .long t_foundBy, .ref (a_t 32), .ref (a_t 33), .int t_unlikes, .ref (a_t 35), .ref (a_t 36)])), ((a_t 1), .inl (g.2.2.1 0, 27, .inl t_mem)), ((a_t 20), .inl (g.2.2.1 0, 8, .inl t_row)), ((a_t 35), .inl (g.2.2.1 0, 256, .inl t_steps))] → va_S A s.heap H locs → ∀ (ls : Array Slot), lv_has ls 6 [(0, .ref ((a_t 0))), (2, .int v2), (3, .int v3), (4, .int v4)] → k47 t_row t_wide t_lost t_steps v2 v3 v4 = some (o, o_t_row, o_t_wide, o_t_lost, o_t_steps) → W p l e ⟨6, 0, 0, 148⟩ s m args below meth c H locs 0 0 Q (F0 m 47 ls [])) (n : Nat) (t_row : Nat → Int32) (t_wide : Int32) (t_lost : Int32) (t_steps : Nat → Int32) (v2 : Int32) (v3 : Int32) (v4 : Int32) (v5 : Int32) (H : Heap) (locs : List Loc), va_P g.2.1 vwCl [((a_t 0), .inr (7, [.ref (a_t 1), .ref (a_t 2), .int t_acted, .ref (a_t 4), .ref (a_t 5), .ref (a_t 6), .ref (a_t 7), .ref (a_t 8), .ref (a_t 9), .int t_taped, .int t_faultKind, .int t_faultPlace, .int t_at, .int t_begin, .int t_token, .int t_value, .int t_bad, .ref (a_t 18), .ref (a_t 19), .ref (a_t 20), .int t_wide, .int t_lost, .ref (a_t 23), .long t_det, .ref (a_t 25), .int t_mask, .int t_mode, .int t_wanted, .int t_orders, .int t_foundAt, .long t_foundBy, .ref (a_t 32), .ref (a_t 33), .int t_unlikes, .ref (a_t 35), .ref (a_t 36)])), ((a_t 1), .inl (g.2.2.1 0, 27, .inl t_mem)), ((a_t 20), .inl (g.2.2.1 0, 8, .inl t_row)), ((a_t 35), .inl (g.2.2.1 0, 256, .inl t_steps))] H → va_D A [((a_t 0), .inr (7, [.ref (a_t 1), .ref (a_t 2), .int t_acted, .ref (a_t 4), .ref (a_t 5), .ref (a_t 6), .ref (a_t 7), .ref (a_t 8), .ref (a_t 9), .int t_taped, .int t_faultKind, .int t_faultPlace, .int t_at, .int t_begin, .int t_token, .int t_value, .int t_bad, .ref (a_t 18), .ref (a_t 19), .ref (a_t 20), .int t_wide, .int t_lost, .ref (a_t 23), .long t_det, .ref (a_t 25), .int t_mask, .int t_mode, .int t_wanted, .int t_orders, .int t_foundAt, .long t_foundBy, .ref (a_t 32), .ref (a_t 33), .int t_unlikes, .ref (a_t 35), .ref (a_t 36)])), ((a_t 1), .inl (g.2.2.1 0, 27, .inl t_mem)), ((a_t 20), .inl (g.2.2.1 0, 8, .inl t_row)), ((a_t 35), .inl (g.2.2.1 0, 256, .inl t_steps))] → va_S A s.heap H locs → ∀ (ls : Array Slot), lv_has ls 6 [(0, .ref ((a_t 0))), (2, .int v2), (3, .int v3), (4, .int v4), (5, .int v5)] → fX8_step_64 k47 n t_row t_wide t_lost t_steps v2 v3 v4 v5 = some (o, o_t_row, o_t_wide, o_t_lost, o_t_steps) → W p l e ⟨6, 0, 0, 148⟩ s m args below meth c H locs 0 0 Q (F0 m 64 ls []) := by
    intro k47 hk47 n
    induction n with
    | zero => intro t_row t_wide t_lost t_steps v2 v3 v4 v5 H locs hP hD hS ls hl h; cases (fX8_step_64_z k47 t_row t_wide t_lost t_steps v2 v3 v4 v5).symm.trans h
    | succ n ih =>
    intro t_row t_wide t_lost t_steps v2 v3 v4 v5 H locs hP hD hS ls hl h
    have h := (fX8_step_64_s k47 n t_row t_wide t_lost t_steps v2 v3 v4 v5).symm.trans h
    have hG := hGk hS
    refine lv_aload_n hx hb dX8_step_64 rfl (lv_at hl 0 rfl) ?_
    refine xa_get (C := RX8) (T := TX8) (N := 36) cx hG hP 0 rfl rfl uX8 34 (by decide) lf_X8_74 rfl dX8_step_65 ?_
    refine lv_iload hx hb dX8_step_68 (lv_at hl 4 rfl) ?_
    obtain ⟨hi19, h⟩ := chk_out h
    refine xa_iald cx hG hP 3 rfl hi19 rfl dX8_step_70 ?_
    refine lv_aload_n hx hb dX8_step_71 rfl (lv_at hl 0 rfl) ?_
    refine xa_get (C := RX8) (T := TX8) (N := 36) cx hG hP 0 rfl rfl uX8 34 (by decide) lf_X8_74 rfl dX8_step_72 ?_
    refine lv_iload hx hb dX8_step_75 (lv_at hl 3 rfl) ?_
    obtain ⟨hi20, h⟩ := chk_out h
    refine xa_iald cx hG hP 3 rfl hi20 rfl dX8_step_77 ?_
    refine lv_iconst (v := 1) hx hb dX8_step_78 (by decide) ?_
    refine lv_isub hx hb dX8_step_79 ?_
    refine lv_icmp_ne (tgt := 95) hx hb dX8_step_80 (by decide) (fun c21 => ?_) (fun c21 => ?_)
    · have h := itn c21 h
      exact w95 _ hk47 _ ih t_row t_wide t_lost t_steps v2 v3 v4 v5 _ _ hP hD hS _ (lv_sub hl [0, 1, 2, 3, 4] rfl) h
    · have h := itp c21 h
      refine lv_aload_n hx hb dX8_step_83 rfl (lv_at hl 0 rfl) ?_
      refine lv_iload hx hb dX8_step_84 (lv_at hl 4 rfl) ?_
      refine lv_iload hx hb dX8_step_86 (lv_at hl 3 rfl) ?_
      refine lv_iload_n hx hb dX8_step_88 rfl (lv_at hl 1 rfl) ?_
      refine ro_z (runV (As := [.int v5, .int v4, .int v2]) (rest := []) cx hl.1 (ctX8_isStep l g a_t v5 v4 v2 (fX8_isStep v5 v4 v2) rfl) kmX8_isStep kvX8_isStep lm_X8_392 ⟨rfl, rfl⟩ ⟨Nat.le_of_ble_eq_true rfl, Nat.le_of_ble_eq_true rfl⟩ (roV (q0 := 0) (ci := 7) hG (hP.sub [] rfl) hP rfl rfl) rfl rfl (Nat.le_of_ble_eq_true rfl) dX8_step_89 ⟨Nat.le_of_ble_eq_true rfl, Nat.le_of_ble_eq_true rfl⟩) (fun hz22 => ?_)
      refine lv_if_ne (tgt := 101) hx hb dX8_step_92 (by decide) (fun c23 => ?_) (fun c23 => ?_)
      · have h := itn c23 h
        exact w101 _ hk47 t_row t_wide t_lost t_steps v2 v3 v5 _ _ hP hD hS _ (lv_sub hl [0, 1, 2, 4] rfl) h
      · have h := itp c23 h
        exact w95 _ hk47 _ ih t_row t_wide t_lost t_steps v2 v3 v4 v5 _ _ hP hD hS _ (lv_sub hl [0, 1, 2, 3, 4] rfl) h
  have w47 : ∀ (n : Nat) (t_row : Nat → Int32) (t_wide : Int32) (t_lost : Int32) (t_steps : Nat → Int32) (v2 : Int32) (v3 : Int32) (v4 : Int32) (H : Heap) (locs : List Loc), va_P g.2.1 vwCl [((a_t 0), .inr (7, [.ref (a_t 1), .ref (a_t 2), .int t_acted, .ref (a_t 4), .ref (a_t 5), .ref (a_t 6), .ref (a_t 7), .ref (a_t 8), .ref (a_t 9), .int t_taped, .int t_faultKind, .int t_faultPlace, .int t_at, .int t_begin, .int t_token, .int t_value, .int t_bad, .ref (a_t 18), .ref (a_t 19), .ref (a_t 20), .int t_wide, .int t_lost, .ref (a_t 23), .long t_det, .ref (a_t 25), .int t_mask, .int t_mode, .int t_wanted, .int t_orders, .int t_foundAt, .long t_foundBy, .ref (a_t 32), .ref (a_t 33), .int t_unlikes, .ref (a_t 35), .ref (a_t 36)])), ((a_t 1), .inl (g.2.2.1 0, 27, .inl t_mem)), ((a_t 20), .inl (g.2.2.1 0, 8, .inl t_row)), ((a_t 35), .inl (g.2.2.1 0, 256, .inl t_steps))] H → va_D A [((a_t 0), .inr (7, [.ref (a_t 1), .ref (a_t 2), .int t_acted, .ref (a_t 4), .ref (a_t 5), .ref (a_t 6), .ref (a_t 7), .ref (a_t 8), .ref (a_t 9), .int t_taped, .int t_faultKind, .int t_faultPlace, .int t_at, .int t_begin, .int t_token, .int t_value, .int t_bad, .ref (a_t 18), .ref (a_t 19), .ref (a_t 20), .int t_wide, .int t_lost, .ref (a_t 23), .long t_det, .ref (a_t 25), .int t_mask, .int t_mode, .int t_wanted, .int t_orders, .int t_foundAt, .long t_foundBy, .ref (a_t 32), .ref (a_t 33), .int t_unlikes, .ref (a_t 35), .ref (a_t 36)])), ((a_t 1), .inl (g.2.2.1 0, 27, .inl t_mem)), ((a_t 20), .inl (g.2.2.1 0, 8, .inl t_row)), ((a_t 35), .inl (g.2.2.1 0, 256, .inl t_steps))] → va_S A s.heap H locs → ∀ (ls : Array Slot), lv_has ls 6 [(0, .ref ((a_t 0))), (2, .int v2), (3, .int v3), (4, .int v4)] → fX8_step_47  n t_row t_wide t_lost t_steps v2 v3 v4 = some (o, o_t_row, o_t_wide, o_t_lost, o_t_steps) → W p l e ⟨6, 0, 0, 148⟩ s m args below meth c H locs 0 0 Q (F0 m 47 ls []) := by
    intro n
    induction n with
    | zero => intro t_row t_wide t_lost t_steps v2 v3 v4 H locs hP hD hS ls hl h; cases (fX8_step_47_z  t_row t_wide t_lost t_steps v2 v3 v4).symm.trans h
    | succ n ih =>
    intro t_row t_wide t_lost t_steps v2 v3 v4 H locs hP hD hS ls hl h
    have h := (fX8_step_47_s  n t_row t_wide t_lost t_steps v2 v3 v4).symm.trans h
    have hG := hGk hS
    refine lv_aload_n hx hb dX8_step_47 rfl (lv_at hl 0 rfl) ?_
    refine xa_get (C := RX8) (T := TX8) (N := 36) cx hG hP 0 rfl rfl uX8 34 (by decide) lf_X8_74 rfl dX8_step_48 ?_
    refine lv_iload hx hb dX8_step_51 (lv_at hl 3 rfl) ?_
    obtain ⟨hi17, h⟩ := chk_out h
    refine xa_iald cx hG hP 3 rfl hi17 rfl dX8_step_53 ?_
    refine lv_iload_n hx hb dX8_step_54 rfl (lv_at hl 2 rfl) ?_
    refine lv_icmp_le (tgt := 108) hx hb dX8_step_55 (by decide) (fun c18 => ?_) (fun c18 => ?_)
    · have h := itp c18 h
      refine lv_iload hx hb dX8_step_108 (lv_at hl 3 rfl) ?_
      exact hrt (fun _ => 0) _ _ v4 t_row t_wide t_lost t_steps _ _ dX8_step_110 h (hP.sub [0, 1, 2, 3] rfl) (hD.sub [0, 1, 2, 3] (by decide) rfl) hS
    · have h := itn c18 h
      refine lv_iload hx hb dX8_step_58 (lv_at hl 3 rfl) ?_
      refine lv_iconst (v := 1) hx hb dX8_step_60 (by decide) ?_
      refine lv_iadd hx hb dX8_step_61 ?_
      refine lv_istore (lv' := [(5, .int (v4 + 1)), (0, .ref ((a_t 0))), (2, .int v2), (3, .int v3), (4, .int v4)]) hx hb dX8_step_62 hl (by decide) rfl (fun ls hl => ?_)
      exact w64 _ ih FU t_row t_wide t_lost t_steps v2 v3 v4 (v4 + 1) _ _ hP hD hS _ (lv_sub hl [1, 2, 3, 4, 0] rfl) h
  unfold fX8_step at h
  refine lv_aload_n hx hb dX8_step_0 rfl (lv_at hl 0 rfl) ?_
  refine lv_iload_n hx hb dX8_step_1 rfl (lv_at hl 1 rfl) ?_
  refine lv_iload_n hx hb dX8_step_2 rfl (lv_at hl 2 rfl) ?_
  obtain ⟨r1, hr2, h⟩ := bnd h
  refine ro_z (runV (As := [.int v1, .int v2]) (rest := []) cx hl.1 (ctX8_isWay l g a_t t_acted t_taped t_faultKind t_faultPlace t_at t_begin t_token t_value t_bad t_wide t_lost t_det t_mask t_mode t_wanted t_orders t_foundAt t_foundBy t_unlikes t_mem v1 v2 r1 hr2) kmX8_isWay kvX8_isWay lm_X8_395 ⟨rfl, rfl⟩ ⟨Nat.le_of_ble_eq_true rfl, Nat.le_of_ble_eq_true rfl⟩ (roV (q0 := 0) (ci := 7) hG (hP.sub [0, 1] rfl) hP rfl rfl) rfl rfl (Nat.le_of_ble_eq_true rfl) dX8_step_3 ⟨Nat.le_of_ble_eq_true rfl, Nat.le_of_ble_eq_true rfl⟩) (fun hz3 => ?_)
  refine lv_if_eq (tgt := 13) hx hb dX8_step_6 (by decide) (fun c4 => ?_) (fun c4 => ?_)
  · have h := itp c4 h
    refine lv_bipush (v := -2) hx hb dX8_step_13 (by decide) ?_
    exact hrt (fun _ => 0) _ _ ((-2)) t_row t_wide t_lost t_steps _ _ dX8_step_15 h (hP.sub [0, 1, 2, 3] rfl) (hD.sub [0, 1, 2, 3] (by decide) rfl) hS
  · have h := itn c4 h
    refine lv_iload_n hx hb dX8_step_9 rfl (lv_at hl 3 rfl) ?_
    refine lv_if_ge (tgt := 16) hx hb dX8_step_10 (by decide) (fun c5 => ?_) (fun c5 => ?_)
    · have h := itp c5 h
      refine lv_aload_n hx hb dX8_step_16 rfl (lv_at hl 0 rfl) ?_
      refine lv_iload_n hx hb dX8_step_17 rfl (lv_at hl 1 rfl) ?_
      refine lv_iload_n hx hb dX8_step_18 rfl (lv_at hl 2 rfl) ?_
      obtain ⟨w7, w8, w9, w10, hr6, h⟩ := ob4_out h
      refine rw_v (WN := fun u11 => [((a_t 0), .inr (7, [.ref (a_t 1), .ref (a_t 2), .int t_acted, .ref (a_t 4), .ref (a_t 5), .ref (a_t 6), .ref (a_t 7), .ref (a_t 8), .ref (a_t 9), .int t_taped, .int t_faultKind, .int t_faultPlace, .int t_at, .int t_begin, .int t_token, .int t_value, .int t_bad, .ref (a_t 18), .ref (a_t 19), .ref (a_t 20), .int w8, .int w9, .ref (a_t 23), .long t_det, .ref (a_t 25), .int t_mask, .int t_mode, .int t_wanted, .int t_orders, .int t_foundAt, .long t_foundBy, .ref (a_t 32), .ref (a_t 33), .int t_unlikes, .ref (a_t 35), .ref (a_t 36)])), ((a_t 1), .inl (g.2.2.1 0, 27, .inl t_mem)), ((a_t 20), .inl (g.2.2.1 0, 8, .inl w7)), ((a_t 35), .inl (g.2.2.1 0, 256, .inl w10))]) (wr := []) (runV (As := [.int v1, .int v2]) (rest := []) cx hl.1 (ctX8_laysSteps l g s.heap.size a_t t_acted t_taped t_faultKind t_faultPlace t_at t_begin t_token t_value t_bad t_wide t_lost t_det t_mask t_mode t_wanted t_orders t_foundAt t_foundBy t_unlikes t_mem t_row t_steps v1 v2 w7 w8 w9 w10 hr6) kmX8_laysSteps kvX8_laysSteps lm_X8_398 ⟨rfl, rfl⟩ ⟨Nat.le_of_ble_eq_true rfl, Nat.le_of_ble_eq_true rfl⟩ (rwV (q0 := 0) (ci := 7) hG (hP.sub [0, 1, 2, 3] rfl) (hD.sub [0, 1, 2, 3] (by decide) rfl) hAb hb0 hS hP rfl rfl) rfl rfl (Nat.le_of_ble_eq_true rfl) dX8_step_19 ⟨Nat.le_of_ble_eq_true rfl, Nat.le_of_ble_eq_true rfl⟩) hP hD hS hA [0, 1, 2, 3] [] rfl rfl (by decide) (by decide) (fun _ => rfl) (fun u11 H locs hP hD hS => ?_)
      have hG := hGk hS
      refine lv_aload_n hx hb dX8_step_22 rfl (lv_at hl 0 rfl) ?_
      obtain ⟨r12, hr13, h⟩ := bnd h
      refine ro_i (runV (As := []) (rest := []) cx hl.1 (ctX8_goal l g a_t t_acted t_taped t_faultKind t_faultPlace t_at t_begin t_token t_value t_bad w8 w9 t_det t_mask t_mode t_wanted t_orders t_foundAt t_foundBy t_unlikes t_mem w10 r12 hr13) kmX8_goal kvX8_goal lm_X8_401 ⟨rfl, rfl⟩ ⟨Nat.le_of_ble_eq_true rfl, Nat.le_of_ble_eq_true rfl⟩ (roV (q0 := 0) (ci := 7) hG (hP.sub [0, 1, 3] rfl) hP rfl rfl) rfl rfl (Nat.le_of_ble_eq_true rfl) dX8_step_23 ⟨Nat.le_of_ble_eq_true rfl, Nat.le_of_ble_eq_true rfl⟩) ?_
      refine lv_istore (lv' := [(4, .int r12), (0, .ref ((a_t 0))), (1, .int v1), (2, .int v2), (3, .int v3)]) hx hb dX8_step_26 hl (by decide) rfl (fun ls hl => ?_)
      refine lv_iload hx hb dX8_step_28 (lv_at hl 0 rfl) ?_
      refine lv_iconst (v := -1) hx hb dX8_step_30 (by decide) ?_
      refine lv_icmp_eq (tgt := 45) hx hb dX8_step_31 (by decide) (fun c14 => ?_) (fun c14 => ?_)
      · have h := itp c14 h
        refine lv_iconst (v := -1) hx hb dX8_step_45 (by decide) ?_
        exact hrt (fun _ => 0) _ _ ((-1)) w7 w8 w9 w10 _ _ dX8_step_46 h (hP.sub [0, 1, 2, 3] rfl) (hD.sub [0, 1, 2, 3] (by decide) rfl) hS
      · have h := itn c14 h
        refine lv_iload_n hx hb dX8_step_34 rfl (lv_at hl 4 rfl) ?_
        refine lv_aload_n hx hb dX8_step_35 rfl (lv_at hl 1 rfl) ?_
        refine xa_get (C := RX8) (T := TX8) (N := 36) cx hG hP 0 rfl rfl uX8 34 (by decide) lf_X8_74 rfl dX8_step_36 ?_
        refine lv_iload hx hb dX8_step_39 (lv_at hl 0 rfl) ?_
        obtain ⟨hi15, h⟩ := chk_out h
        refine xa_iald cx hG hP 3 rfl hi15 rfl dX8_step_41 ?_
        refine lv_icmp_le (tgt := 47) hx hb dX8_step_42 (by decide) (fun c16 => ?_) (fun c16 => ?_)
        · have h := itp c16 h
          exact w47 FU w7 w8 w9 w10 v2 v3 r12 _ _ hP hD hS _ (lv_sub hl [1, 3, 4, 0] rfl) h
        · have h := itn c16 h
          refine lv_iconst (v := -1) hx hb dX8_step_45 (by decide) ?_
          exact hrt (fun _ => 0) _ _ ((-1)) w7 w8 w9 w10 _ _ dX8_step_46 h (hP.sub [0, 1, 2, 3] rfl) (hD.sub [0, 1, 2, 3] (by decide) rfl) hS
    · have h := itn c5 h
      refine lv_bipush (v := -2) hx hb dX8_step_13 (by decide) ?_
      exact hrt (fun _ => 0) _ _ ((-2)) t_row t_wide t_lost t_steps _ _ dX8_step_15 h (hP.sub [0, 1, 2, 3] rfl) (hD.sub [0, 1, 2, 3] (by decide) rfl) hS
-- X8_isImage
theorem dX8_isImage_0 : decode cX8_isImage 0 = .ok (.iload_n 0, 1) := by decide +kernel
theorem dX8_isImage_1 : decode cX8_isImage 1 = .ok (.i2l, 1) := by decide +kernel
theorem dX8_isImage_2 : decode cX8_isImage 2 = .ok (.lconst 0, 1) := by decide +kernel
theorem dX8_isImage_3 : decode cX8_isImage 3 = .ok (.ldc2_w 239, 3) := by decide +kernel
theorem dX8_isImage_6 : decode cX8_isImage 6 = .ok (.invokestatic 83, 3) := by decide +kernel
theorem dX8_isImage_9 : decode cX8_isImage 9 = .ok (.ireturn, 1) := by decide +kernel
noncomputable def fX8_isImage  (v0 : Int32) : Int32 := (fX8_in v0.toInt64 0 2)
set_option maxHeartbeats 4000000 in
set_option maxRecDepth 100000 in
theorem ctX8_isImage (l : Launch) (g : GT) (v0 : Int32) (o : Int32) (h : fX8_isImage v0 = o) : Met l yX8_isImage (Cond.code yX8_isImage cX8_isImage 1 (some .boolean) :: Tw) ⟨1, 0, 0, 25⟩ (va_Pc [.int v0] (roB g [])) (vp_Si (fun x => x = o ∧ (x = 0 ∨ x = 1))) 0 0 (fun _ => False) := by
  refine ro_metz (by decide) (Nat.le_of_ble_eq_true rfl) (lv0 := [(0, .int v0)]) rfl ?_
  intro p e s m args below meth c ls Q cx hret hG hP hl
  have hx := cx.1
  have hb := cx.2.1
  have hG0 := hG
  unfold fX8_isImage at h
  refine lv_iload_n hx hb dX8_isImage_0 rfl (lv_at hl 0 rfl) ?_
  refine lv_i2l (v := v0.toInt64) hx hb dX8_isImage_1 rfl ?_
  refine lv_lconst (v := 0) hx hb dX8_isImage_2 (by decide) ?_
  refine lv_ldc2 (own := RX8) (v := 2) hx hb cx.2.2.2.1 (cx.2.2.2.2 _ cl_X8_239) dX8_isImage_3 ?_
  refine ro_z (runS (As := [.long v0.toInt64, .long (0), .long (2)]) (rest := []) cx hl.1 (ctX8_in l g v0.toInt64 (0) (2) (fX8_in v0.toInt64 0 2) rfl) kmX8_in ksX8_in lm_X8_83 ⟨rfl, rfl⟩ ⟨Nat.le_of_ble_eq_true rfl, Nat.le_of_ble_eq_true rfl⟩ (roS hG (hP.sub [] rfl)) rfl rfl (Nat.le_of_ble_eq_true rfl) dX8_isImage_6 ⟨Nat.le_of_ble_eq_true rfl, Nat.le_of_ble_eq_true rfl⟩) (fun hz1 => ?_)
  exact hret _ _ _ dX8_isImage_9 hz1 h
-- X8_why
theorem dX8_why_0 : decode cX8_why 0 = .ok (.iload_n 1, 1) := by decide +kernel
theorem dX8_why_1 : decode cX8_why 1 = .ok (.invokestatic 404, 3) := by decide +kernel
theorem dX8_why_4 : decode cX8_why 4 = .ok (.ifCond .eq 10, 3) := by decide +kernel
theorem dX8_why_7 : decode cX8_why 7 = .ok (.iload_n 2, 1) := by decide +kernel
theorem dX8_why_8 : decode cX8_why 8 = .ok (.invokestatic 404, 3) := by decide +kernel
theorem dX8_why_11 : decode cX8_why 11 = .ok (.ifCond .ne 8, 3) := by decide +kernel
theorem dX8_why_14 : decode cX8_why 14 = .ok (.bipush (-2), 2) := by decide +kernel
theorem dX8_why_16 : decode cX8_why 16 = .ok (.goto 27, 3) := by decide +kernel
theorem dX8_why_19 : decode cX8_why 19 = .ok (.aload_n 0, 1) := by decide +kernel
theorem dX8_why_20 : decode cX8_why 20 = .ok (.getfield 40, 3) := by decide +kernel
theorem dX8_why_23 : decode cX8_why 23 = .ok (.iload_n 1, 1) := by decide +kernel
theorem dX8_why_24 : decode cX8_why 24 = .ok (.baload, 1) := by decide +kernel
theorem dX8_why_25 : decode cX8_why 25 = .ok (.ifCond .eq 16, 3) := by decide +kernel
theorem dX8_why_28 : decode cX8_why 28 = .ok (.aload_n 0, 1) := by decide +kernel
theorem dX8_why_29 : decode cX8_why 29 = .ok (.getfield 40, 3) := by decide +kernel
theorem dX8_why_32 : decode cX8_why 32 = .ok (.iload_n 2, 1) := by decide +kernel
theorem dX8_why_33 : decode cX8_why 33 = .ok (.baload, 1) := by decide +kernel
theorem dX8_why_34 : decode cX8_why 34 = .ok (.ifCond .eq 7, 3) := by decide +kernel
theorem dX8_why_37 : decode cX8_why 37 = .ok (.iconst 0, 1) := by decide +kernel
theorem dX8_why_38 : decode cX8_why 38 = .ok (.goto 5, 3) := by decide +kernel
theorem dX8_why_41 : decode cX8_why 41 = .ok (.bipush (-6), 2) := by decide +kernel
theorem dX8_why_43 : decode cX8_why 43 = .ok (.ireturn, 1) := by decide +kernel
noncomputable def fX8_why  (t_hasImage : Nat → Int32) (v1 : Int32) (v2 : Int32) : Option (Int32) := (if (fX8_isImage v1) = 0 then some (-2) else (if (fX8_isImage v2) = 0 then some (-2) else chk 3 v1 ((if (t_hasImage v1.toNatClampNeg) = 0 then some (-6) else chk 3 v2 ((if (t_hasImage v2.toNatClampNeg) = 0 then some (-6) else some (0)))))))
set_option maxHeartbeats 4000000 in
set_option maxRecDepth 100000 in
theorem ctX8_why (l : Launch) (g : GT) (a_t : Nat → Nat) (t_acted : Int32) (t_taped : Int32) (t_faultKind : Int32) (t_faultPlace : Int32) (t_at : Int32) (t_begin : Int32) (t_token : Int32) (t_value : Int32) (t_bad : Int32) (t_wide : Int32) (t_lost : Int32) (t_det : Int64) (t_mask : Int32) (t_mode : Int32) (t_wanted : Int32) (t_orders : Int32) (t_foundAt : Int32) (t_foundBy : Int64) (t_unlikes : Int32) (t_hasImage : Nat → Int32) (v1 : Int32) (v2 : Int32) (o : Int32) (h : fX8_why t_hasImage v1 v2 = some o) : Met l yX8_why (Cond.code yX8_why cX8_why 3 (some .int) :: Tw) ⟨2, 0, 0, 45⟩ (va_Pc [.ref ((a_t 0)), .int v1, .int v2] (roB g [((a_t 0), .inr (7, [.ref (a_t 1), .ref (a_t 2), .int t_acted, .ref (a_t 4), .ref (a_t 5), .ref (a_t 6), .ref (a_t 7), .ref (a_t 8), .ref (a_t 9), .int t_taped, .int t_faultKind, .int t_faultPlace, .int t_at, .int t_begin, .int t_token, .int t_value, .int t_bad, .ref (a_t 18), .ref (a_t 19), .ref (a_t 20), .int t_wide, .int t_lost, .ref (a_t 23), .long t_det, .ref (a_t 25), .int t_mask, .int t_mode, .int t_wanted, .int t_orders, .int t_foundAt, .long t_foundBy, .ref (a_t 32), .ref (a_t 33), .int t_unlikes, .ref (a_t 35), .ref (a_t 36)])), ((a_t 8), .inl (g.2.2.1 3, 3, .inl t_hasImage))])) (vp_Si (fun x => x = o)) 0 0 (fun _ => False) := by
  refine ro_meti (by decide) (Nat.le_of_ble_eq_true rfl) (lv0 := [(0, .ref ((a_t 0))), (1, .int v1), (2, .int v2)]) rfl ?_
  intro p e s m args below meth c ls Q cx hret hG hP hl
  have hx := cx.1
  have hb := cx.2.1
  have hG0 := hG
  unfold fX8_why at h
  refine lv_iload_n hx hb dX8_why_0 rfl (lv_at hl 1 rfl) ?_
  refine ro_z (runS (As := [.int v1]) (rest := []) cx hl.1 (ctX8_isImage l g v1 (fX8_isImage v1) rfl) kmX8_isImage ksX8_isImage lm_X8_404 ⟨rfl, rfl⟩ ⟨Nat.le_of_ble_eq_true rfl, Nat.le_of_ble_eq_true rfl⟩ (roS hG (hP.sub [] rfl)) rfl rfl (Nat.le_of_ble_eq_true rfl) dX8_why_1 ⟨Nat.le_of_ble_eq_true rfl, Nat.le_of_ble_eq_true rfl⟩) (fun hz1 => ?_)
  refine lv_if_eq (tgt := 14) hx hb dX8_why_4 (by decide) (fun c2 => ?_) (fun c2 => ?_)
  · have h := itp c2 h
    refine lv_bipush (v := -2) hx hb dX8_why_14 (by decide) ?_
    refine lv_goto (tgt := 43) hx hb dX8_why_16 (by decide) ?_
    exact hret _ _ _ dX8_why_43 (Option.some.inj h)
  · have h := itn c2 h
    refine lv_iload_n hx hb dX8_why_7 rfl (lv_at hl 2 rfl) ?_
    refine ro_z (runS (As := [.int v2]) (rest := []) cx hl.1 (ctX8_isImage l g v2 (fX8_isImage v2) rfl) kmX8_isImage ksX8_isImage lm_X8_404 ⟨rfl, rfl⟩ ⟨Nat.le_of_ble_eq_true rfl, Nat.le_of_ble_eq_true rfl⟩ (roS hG (hP.sub [] rfl)) rfl rfl (Nat.le_of_ble_eq_true rfl) dX8_why_8 ⟨Nat.le_of_ble_eq_true rfl, Nat.le_of_ble_eq_true rfl⟩) (fun hz3 => ?_)
    refine lv_if_ne (tgt := 19) hx hb dX8_why_11 (by decide) (fun c4 => ?_) (fun c4 => ?_)
    · have h := itn c4 h
      refine lv_aload_n hx hb dX8_why_19 rfl (lv_at hl 0 rfl) ?_
      refine xa_get (C := RX8) (T := TX8) (N := 36) cx hG hP 0 rfl rfl uX8 7 (by decide) lf_X8_40 rfl dX8_why_20 ?_
      refine lv_iload_n hx hb dX8_why_23 rfl (lv_at hl 1 rfl) ?_
      obtain ⟨hi5, h⟩ := chk_out h
      refine xa_zald cx hG hP 1 rfl hi5 rfl dX8_why_24 ?_
      refine lv_if_eq (tgt := 41) hx hb dX8_why_25 (by decide) (fun c6 => ?_) (fun c6 => ?_)
      · have h := itp c6 h
        refine lv_bipush (v := -6) hx hb dX8_why_41 (by decide) ?_
        exact hret _ _ _ dX8_why_43 (Option.some.inj h)
      · have h := itn c6 h
        refine lv_aload_n hx hb dX8_why_28 rfl (lv_at hl 0 rfl) ?_
        refine xa_get (C := RX8) (T := TX8) (N := 36) cx hG hP 0 rfl rfl uX8 7 (by decide) lf_X8_40 rfl dX8_why_29 ?_
        refine lv_iload_n hx hb dX8_why_32 rfl (lv_at hl 2 rfl) ?_
        obtain ⟨hi7, h⟩ := chk_out h
        refine xa_zald cx hG hP 1 rfl hi7 rfl dX8_why_33 ?_
        refine lv_if_eq (tgt := 41) hx hb dX8_why_34 (by decide) (fun c8 => ?_) (fun c8 => ?_)
        · have h := itp c8 h
          refine lv_bipush (v := -6) hx hb dX8_why_41 (by decide) ?_
          exact hret _ _ _ dX8_why_43 (Option.some.inj h)
        · have h := itn c8 h
          refine lv_iconst (v := 0) hx hb dX8_why_37 (by decide) ?_
          refine lv_goto (tgt := 43) hx hb dX8_why_38 (by decide) ?_
          exact hret _ _ _ dX8_why_43 (Option.some.inj h)
    · have h := itp c4 h
      refine lv_bipush (v := -2) hx hb dX8_why_14 (by decide) ?_
      refine lv_goto (tgt := 43) hx hb dX8_why_16 (by decide) ?_
      exact hret _ _ _ dX8_why_43 (Option.some.inj h)
-- X8_manyIn
theorem dX8_manyIn_0 : decode cX8_manyIn 0 = .ok (.aload_n 0, 1) := by decide +kernel
theorem dX8_manyIn_1 : decode cX8_manyIn 1 = .ok (.getfield 31, 3) := by decide +kernel
theorem dX8_manyIn_4 : decode cX8_manyIn 4 = .ok (.bipush 27, 2) := by decide +kernel
theorem dX8_manyIn_6 : decode cX8_manyIn 6 = .ok (.iload_n 1, 1) := by decide +kernel
theorem dX8_manyIn_7 : decode cX8_manyIn 7 = .ok (.imul, 1) := by decide +kernel
theorem dX8_manyIn_8 : decode cX8_manyIn 8 = .ok (.iconst 2, 1) := by decide +kernel
theorem dX8_manyIn_9 : decode cX8_manyIn 9 = .ok (.iadd, 1) := by decide +kernel
theorem dX8_manyIn_10 : decode cX8_manyIn 10 = .ok (.iaload, 1) := by decide +kernel
theorem dX8_manyIn_11 : decode cX8_manyIn 11 = .ok (.ireturn, 1) := by decide +kernel
noncomputable def fX8_manyIn  (t_images : Nat → Int32) (v1 : Int32) : Option (Int32) := chk 81 ((27 * v1) + 2) (some (t_images ((27 * v1) + 2).toNatClampNeg))
set_option maxHeartbeats 4000000 in
set_option maxRecDepth 100000 in
theorem ctX8_manyIn (l : Launch) (g : GT) (a_t : Nat → Nat) (t_acted : Int32) (t_taped : Int32) (t_faultKind : Int32) (t_faultPlace : Int32) (t_at : Int32) (t_begin : Int32) (t_token : Int32) (t_value : Int32) (t_bad : Int32) (t_wide : Int32) (t_lost : Int32) (t_det : Int64) (t_mask : Int32) (t_mode : Int32) (t_wanted : Int32) (t_orders : Int32) (t_foundAt : Int32) (t_foundBy : Int64) (t_unlikes : Int32) (t_images : Nat → Int32) (v1 : Int32) (o : Int32) (h : fX8_manyIn t_images v1 = some o) : Met l yX8_manyIn (Cond.code yX8_manyIn cX8_manyIn 2 (some .int) :: Tw) ⟨0, 0, 0, 0⟩ (va_Pc [.ref ((a_t 0)), .int v1] (roB g [((a_t 0), .inr (7, [.ref (a_t 1), .ref (a_t 2), .int t_acted, .ref (a_t 4), .ref (a_t 5), .ref (a_t 6), .ref (a_t 7), .ref (a_t 8), .ref (a_t 9), .int t_taped, .int t_faultKind, .int t_faultPlace, .int t_at, .int t_begin, .int t_token, .int t_value, .int t_bad, .ref (a_t 18), .ref (a_t 19), .ref (a_t 20), .int t_wide, .int t_lost, .ref (a_t 23), .long t_det, .ref (a_t 25), .int t_mask, .int t_mode, .int t_wanted, .int t_orders, .int t_foundAt, .long t_foundBy, .ref (a_t 32), .ref (a_t 33), .int t_unlikes, .ref (a_t 35), .ref (a_t 36)])), ((a_t 5), .inl (g.2.2.1 0, 81, .inl t_images))])) (vp_Si (fun x => x = o)) 0 0 (fun _ => False) := by
  refine ro_meti (by decide) (Nat.le_of_ble_eq_true rfl) (lv0 := [(0, .ref ((a_t 0))), (1, .int v1)]) rfl ?_
  intro p e s m args below meth c ls Q cx hret hG hP hl
  have hx := cx.1
  have hb := cx.2.1
  have hG0 := hG
  unfold fX8_manyIn at h
  refine lv_aload_n hx hb dX8_manyIn_0 rfl (lv_at hl 0 rfl) ?_
  refine xa_get (C := RX8) (T := TX8) (N := 36) cx hG hP 0 rfl rfl uX8 4 (by decide) lf_X8_31 rfl dX8_manyIn_1 ?_
  refine lv_bipush (v := 27) hx hb dX8_manyIn_4 (by decide) ?_
  refine lv_iload_n hx hb dX8_manyIn_6 rfl (lv_at hl 1 rfl) ?_
  refine lv_imul hx hb dX8_manyIn_7 ?_
  refine lv_iconst (v := 2) hx hb dX8_manyIn_8 (by decide) ?_
  refine lv_iadd hx hb dX8_manyIn_9 ?_
  obtain ⟨hi1, h⟩ := chk_out h
  refine xa_iald cx hG hP 1 rfl hi1 rfl dX8_manyIn_10 ?_
  exact hret _ _ _ dX8_manyIn_11 (Option.some.inj h)
-- X8_typeIn
theorem dX8_typeIn_0 : decode cX8_typeIn 0 = .ok (.aload_n 0, 1) := by decide +kernel
theorem dX8_typeIn_1 : decode cX8_typeIn 1 = .ok (.getfield 31, 3) := by decide +kernel
theorem dX8_typeIn_4 : decode cX8_typeIn 4 = .ok (.bipush 27, 2) := by decide +kernel
theorem dX8_typeIn_6 : decode cX8_typeIn 6 = .ok (.iload_n 1, 1) := by decide +kernel
theorem dX8_typeIn_7 : decode cX8_typeIn 7 = .ok (.imul, 1) := by decide +kernel
theorem dX8_typeIn_8 : decode cX8_typeIn 8 = .ok (.bipush 19, 2) := by decide +kernel
theorem dX8_typeIn_10 : decode cX8_typeIn 10 = .ok (.iadd, 1) := by decide +kernel
theorem dX8_typeIn_11 : decode cX8_typeIn 11 = .ok (.iload_n 2, 1) := by decide +kernel
theorem dX8_typeIn_12 : decode cX8_typeIn 12 = .ok (.iadd, 1) := by decide +kernel
theorem dX8_typeIn_13 : decode cX8_typeIn 13 = .ok (.iaload, 1) := by decide +kernel
theorem dX8_typeIn_14 : decode cX8_typeIn 14 = .ok (.ireturn, 1) := by decide +kernel
noncomputable def fX8_typeIn  (t_images : Nat → Int32) (v1 : Int32) (v2 : Int32) : Option (Int32) := chk 81 (((27 * v1) + 19) + v2) (some (t_images (((27 * v1) + 19) + v2).toNatClampNeg))
set_option maxHeartbeats 4000000 in
set_option maxRecDepth 100000 in
theorem ctX8_typeIn (l : Launch) (g : GT) (a_t : Nat → Nat) (t_acted : Int32) (t_taped : Int32) (t_faultKind : Int32) (t_faultPlace : Int32) (t_at : Int32) (t_begin : Int32) (t_token : Int32) (t_value : Int32) (t_bad : Int32) (t_wide : Int32) (t_lost : Int32) (t_det : Int64) (t_mask : Int32) (t_mode : Int32) (t_wanted : Int32) (t_orders : Int32) (t_foundAt : Int32) (t_foundBy : Int64) (t_unlikes : Int32) (t_images : Nat → Int32) (v1 : Int32) (v2 : Int32) (o : Int32) (h : fX8_typeIn t_images v1 v2 = some o) : Met l yX8_typeIn (Cond.code yX8_typeIn cX8_typeIn 3 (some .int) :: Tw) ⟨0, 0, 0, 0⟩ (va_Pc [.ref ((a_t 0)), .int v1, .int v2] (roB g [((a_t 0), .inr (7, [.ref (a_t 1), .ref (a_t 2), .int t_acted, .ref (a_t 4), .ref (a_t 5), .ref (a_t 6), .ref (a_t 7), .ref (a_t 8), .ref (a_t 9), .int t_taped, .int t_faultKind, .int t_faultPlace, .int t_at, .int t_begin, .int t_token, .int t_value, .int t_bad, .ref (a_t 18), .ref (a_t 19), .ref (a_t 20), .int t_wide, .int t_lost, .ref (a_t 23), .long t_det, .ref (a_t 25), .int t_mask, .int t_mode, .int t_wanted, .int t_orders, .int t_foundAt, .long t_foundBy, .ref (a_t 32), .ref (a_t 33), .int t_unlikes, .ref (a_t 35), .ref (a_t 36)])), ((a_t 5), .inl (g.2.2.1 0, 81, .inl t_images))])) (vp_Si (fun x => x = o)) 0 0 (fun _ => False) := by
  refine ro_meti (by decide) (Nat.le_of_ble_eq_true rfl) (lv0 := [(0, .ref ((a_t 0))), (1, .int v1), (2, .int v2)]) rfl ?_
  intro p e s m args below meth c ls Q cx hret hG hP hl
  have hx := cx.1
  have hb := cx.2.1
  have hG0 := hG
  unfold fX8_typeIn at h
  refine lv_aload_n hx hb dX8_typeIn_0 rfl (lv_at hl 0 rfl) ?_
  refine xa_get (C := RX8) (T := TX8) (N := 36) cx hG hP 0 rfl rfl uX8 4 (by decide) lf_X8_31 rfl dX8_typeIn_1 ?_
  refine lv_bipush (v := 27) hx hb dX8_typeIn_4 (by decide) ?_
  refine lv_iload_n hx hb dX8_typeIn_6 rfl (lv_at hl 1 rfl) ?_
  refine lv_imul hx hb dX8_typeIn_7 ?_
  refine lv_bipush (v := 19) hx hb dX8_typeIn_8 (by decide) ?_
  refine lv_iadd hx hb dX8_typeIn_10 ?_
  refine lv_iload_n hx hb dX8_typeIn_11 rfl (lv_at hl 2 rfl) ?_
  refine lv_iadd hx hb dX8_typeIn_12 ?_
  obtain ⟨hi1, h⟩ := chk_out h
  refine xa_iald cx hG hP 1 rfl hi1 rfl dX8_typeIn_13 ?_
  exact hret _ _ _ dX8_typeIn_14 (Option.some.inj h)
-- X8_commonOf
theorem dX8_commonOf_0 : decode cX8_commonOf 0 = .ok (.iconst 0, 1) := by decide +kernel
theorem dX8_commonOf_1 : decode cX8_commonOf 1 = .ok (.istore_n 3, 1) := by decide +kernel
theorem dX8_commonOf_2 : decode cX8_commonOf 2 = .ok (.iload_n 3, 1) := by decide +kernel
theorem dX8_commonOf_3 : decode cX8_commonOf 3 = .ok (.aload_n 0, 1) := by decide +kernel
theorem dX8_commonOf_4 : decode cX8_commonOf 4 = .ok (.iload_n 1, 1) := by decide +kernel
theorem dX8_commonOf_5 : decode cX8_commonOf 5 = .ok (.invokevirtual 407, 3) := by decide +kernel
theorem dX8_commonOf_8 : decode cX8_commonOf 8 = .ok (.if_icmp .gt 137, 3) := by decide +kernel
theorem dX8_commonOf_11 : decode cX8_commonOf 11 = .ok (.iconst 0, 1) := by decide +kernel
theorem dX8_commonOf_12 : decode cX8_commonOf 12 = .ok (.istore 4, 2) := by decide +kernel
theorem dX8_commonOf_14 : decode cX8_commonOf 14 = .ok (.iload 4, 2) := by decide +kernel
theorem dX8_commonOf_16 : decode cX8_commonOf 16 = .ok (.aload_n 0, 1) := by decide +kernel
theorem dX8_commonOf_17 : decode cX8_commonOf 17 = .ok (.iload_n 2, 1) := by decide +kernel
theorem dX8_commonOf_18 : decode cX8_commonOf 18 = .ok (.invokevirtual 407, 3) := by decide +kernel
theorem dX8_commonOf_21 : decode cX8_commonOf 21 = .ok (.if_icmp .gt 118, 3) := by decide +kernel
theorem dX8_commonOf_24 : decode cX8_commonOf 24 = .ok (.iconst 0, 1) := by decide +kernel
theorem dX8_commonOf_25 : decode cX8_commonOf 25 = .ok (.istore 5, 2) := by decide +kernel
theorem dX8_commonOf_27 : decode cX8_commonOf 27 = .ok (.iload_n 3, 1) := by decide +kernel
theorem dX8_commonOf_28 : decode cX8_commonOf 28 = .ok (.ifCond .le 91, 3) := by decide +kernel
theorem dX8_commonOf_31 : decode cX8_commonOf 31 = .ok (.iload 4, 2) := by decide +kernel
theorem dX8_commonOf_33 : decode cX8_commonOf 33 = .ok (.ifCond .le 86, 3) := by decide +kernel
theorem dX8_commonOf_36 : decode cX8_commonOf 36 = .ok (.aload_n 0, 1) := by decide +kernel
theorem dX8_commonOf_37 : decode cX8_commonOf 37 = .ok (.getfield 77, 3) := by decide +kernel
theorem dX8_commonOf_40 : decode cX8_commonOf 40 = .ok (.bipush 9, 2) := by decide +kernel
theorem dX8_commonOf_42 : decode cX8_commonOf 42 = .ok (.iload_n 3, 1) := by decide +kernel
theorem dX8_commonOf_43 : decode cX8_commonOf 43 = .ok (.imul, 1) := by decide +kernel
theorem dX8_commonOf_44 : decode cX8_commonOf 44 = .ok (.bipush 9, 2) := by decide +kernel
theorem dX8_commonOf_46 : decode cX8_commonOf 46 = .ok (.isub, 1) := by decide +kernel
theorem dX8_commonOf_47 : decode cX8_commonOf 47 = .ok (.iload 4, 2) := by decide +kernel
theorem dX8_commonOf_49 : decode cX8_commonOf 49 = .ok (.iadd, 1) := by decide +kernel
theorem dX8_commonOf_50 : decode cX8_commonOf 50 = .ok (.iaload, 1) := by decide +kernel
theorem dX8_commonOf_51 : decode cX8_commonOf 51 = .ok (.aload_n 0, 1) := by decide +kernel
theorem dX8_commonOf_52 : decode cX8_commonOf 52 = .ok (.getfield 77, 3) := by decide +kernel
theorem dX8_commonOf_55 : decode cX8_commonOf 55 = .ok (.bipush 9, 2) := by decide +kernel
theorem dX8_commonOf_57 : decode cX8_commonOf 57 = .ok (.iload_n 3, 1) := by decide +kernel
theorem dX8_commonOf_58 : decode cX8_commonOf 58 = .ok (.imul, 1) := by decide +kernel
theorem dX8_commonOf_59 : decode cX8_commonOf 59 = .ok (.iload 4, 2) := by decide +kernel
theorem dX8_commonOf_61 : decode cX8_commonOf 61 = .ok (.iadd, 1) := by decide +kernel
theorem dX8_commonOf_62 : decode cX8_commonOf 62 = .ok (.iconst 1, 1) := by decide +kernel
theorem dX8_commonOf_63 : decode cX8_commonOf 63 = .ok (.isub, 1) := by decide +kernel
theorem dX8_commonOf_64 : decode cX8_commonOf 64 = .ok (.iaload, 1) := by decide +kernel
theorem dX8_commonOf_65 : decode cX8_commonOf 65 = .ok (.invokestatic 233, 3) := by decide +kernel
theorem dX8_commonOf_68 : decode cX8_commonOf 68 = .ok (.istore 5, 2) := by decide +kernel
theorem dX8_commonOf_70 : decode cX8_commonOf 70 = .ok (.aload_n 0, 1) := by decide +kernel
theorem dX8_commonOf_71 : decode cX8_commonOf 71 = .ok (.iload_n 1, 1) := by decide +kernel
theorem dX8_commonOf_72 : decode cX8_commonOf 72 = .ok (.iload_n 3, 1) := by decide +kernel
theorem dX8_commonOf_73 : decode cX8_commonOf 73 = .ok (.iconst 1, 1) := by decide +kernel
theorem dX8_commonOf_74 : decode cX8_commonOf 74 = .ok (.isub, 1) := by decide +kernel
theorem dX8_commonOf_75 : decode cX8_commonOf 75 = .ok (.invokevirtual 410, 3) := by decide +kernel
theorem dX8_commonOf_78 : decode cX8_commonOf 78 = .ok (.aload_n 0, 1) := by decide +kernel
theorem dX8_commonOf_79 : decode cX8_commonOf 79 = .ok (.iload_n 2, 1) := by decide +kernel
theorem dX8_commonOf_80 : decode cX8_commonOf 80 = .ok (.iload 4, 2) := by decide +kernel
theorem dX8_commonOf_82 : decode cX8_commonOf 82 = .ok (.iconst 1, 1) := by decide +kernel
theorem dX8_commonOf_83 : decode cX8_commonOf 83 = .ok (.isub, 1) := by decide +kernel
theorem dX8_commonOf_84 : decode cX8_commonOf 84 = .ok (.invokevirtual 410, 3) := by decide +kernel
theorem dX8_commonOf_87 : decode cX8_commonOf 87 = .ok (.if_icmp .ne 28, 3) := by decide +kernel
theorem dX8_commonOf_90 : decode cX8_commonOf 90 = .ok (.iload 5, 2) := by decide +kernel
theorem dX8_commonOf_92 : decode cX8_commonOf 92 = .ok (.aload_n 0, 1) := by decide +kernel
theorem dX8_commonOf_93 : decode cX8_commonOf 93 = .ok (.getfield 77, 3) := by decide +kernel
theorem dX8_commonOf_96 : decode cX8_commonOf 96 = .ok (.bipush 9, 2) := by decide +kernel
theorem dX8_commonOf_98 : decode cX8_commonOf 98 = .ok (.iload_n 3, 1) := by decide +kernel
theorem dX8_commonOf_99 : decode cX8_commonOf 99 = .ok (.imul, 1) := by decide +kernel
theorem dX8_commonOf_100 : decode cX8_commonOf 100 = .ok (.bipush 10, 2) := by decide +kernel
theorem dX8_commonOf_102 : decode cX8_commonOf 102 = .ok (.isub, 1) := by decide +kernel
theorem dX8_commonOf_103 : decode cX8_commonOf 103 = .ok (.iload 4, 2) := by decide +kernel
theorem dX8_commonOf_105 : decode cX8_commonOf 105 = .ok (.iadd, 1) := by decide +kernel
theorem dX8_commonOf_106 : decode cX8_commonOf 106 = .ok (.iaload, 1) := by decide +kernel
theorem dX8_commonOf_107 : decode cX8_commonOf 107 = .ok (.iconst 1, 1) := by decide +kernel
theorem dX8_commonOf_108 : decode cX8_commonOf 108 = .ok (.iadd, 1) := by decide +kernel
theorem dX8_commonOf_109 : decode cX8_commonOf 109 = .ok (.invokestatic 233, 3) := by decide +kernel
theorem dX8_commonOf_112 : decode cX8_commonOf 112 = .ok (.goto 5, 3) := by decide +kernel
theorem dX8_commonOf_115 : decode cX8_commonOf 115 = .ok (.iload 5, 2) := by decide +kernel
theorem dX8_commonOf_117 : decode cX8_commonOf 117 = .ok (.istore 5, 2) := by decide +kernel
theorem dX8_commonOf_119 : decode cX8_commonOf 119 = .ok (.aload_n 0, 1) := by decide +kernel
theorem dX8_commonOf_120 : decode cX8_commonOf 120 = .ok (.getfield 77, 3) := by decide +kernel
theorem dX8_commonOf_123 : decode cX8_commonOf 123 = .ok (.bipush 9, 2) := by decide +kernel
theorem dX8_commonOf_125 : decode cX8_commonOf 125 = .ok (.iload_n 3, 1) := by decide +kernel
theorem dX8_commonOf_126 : decode cX8_commonOf 126 = .ok (.imul, 1) := by decide +kernel
theorem dX8_commonOf_127 : decode cX8_commonOf 127 = .ok (.iload 4, 2) := by decide +kernel
theorem dX8_commonOf_129 : decode cX8_commonOf 129 = .ok (.iadd, 1) := by decide +kernel
theorem dX8_commonOf_130 : decode cX8_commonOf 130 = .ok (.iload 5, 2) := by decide +kernel
theorem dX8_commonOf_132 : decode cX8_commonOf 132 = .ok (.iastore, 1) := by decide +kernel
theorem dX8_commonOf_133 : decode cX8_commonOf 133 = .ok (.iinc 4 1, 3) := by decide +kernel
theorem dX8_commonOf_136 : decode cX8_commonOf 136 = .ok (.goto (-122), 3) := by decide +kernel
theorem dX8_commonOf_139 : decode cX8_commonOf 139 = .ok (.iinc 3 1, 3) := by decide +kernel
theorem dX8_commonOf_142 : decode cX8_commonOf 142 = .ok (.goto (-140), 3) := by decide +kernel
theorem dX8_commonOf_145 : decode cX8_commonOf 145 = .ok (.aload_n 0, 1) := by decide +kernel
theorem dX8_commonOf_146 : decode cX8_commonOf 146 = .ok (.getfield 77, 3) := by decide +kernel
theorem dX8_commonOf_149 : decode cX8_commonOf 149 = .ok (.bipush 9, 2) := by decide +kernel
theorem dX8_commonOf_151 : decode cX8_commonOf 151 = .ok (.aload_n 0, 1) := by decide +kernel
theorem dX8_commonOf_152 : decode cX8_commonOf 152 = .ok (.iload_n 1, 1) := by decide +kernel
theorem dX8_commonOf_153 : decode cX8_commonOf 153 = .ok (.invokevirtual 407, 3) := by decide +kernel
theorem dX8_commonOf_156 : decode cX8_commonOf 156 = .ok (.imul, 1) := by decide +kernel
theorem dX8_commonOf_157 : decode cX8_commonOf 157 = .ok (.aload_n 0, 1) := by decide +kernel
theorem dX8_commonOf_158 : decode cX8_commonOf 158 = .ok (.iload_n 2, 1) := by decide +kernel
theorem dX8_commonOf_159 : decode cX8_commonOf 159 = .ok (.invokevirtual 407, 3) := by decide +kernel
theorem dX8_commonOf_162 : decode cX8_commonOf 162 = .ok (.iadd, 1) := by decide +kernel
theorem dX8_commonOf_163 : decode cX8_commonOf 163 = .ok (.iaload, 1) := by decide +kernel
theorem dX8_commonOf_164 : decode cX8_commonOf 164 = .ok (.ireturn, 1) := by decide +kernel
noncomputable def fX8_commonOf_119 (k2 : (Nat → Int32) → (Nat → Int32) → Int32 → Int32 → Int32 → Option (Int32 × (Nat → Int32))) (k14 : (Nat → Int32) → (Nat → Int32) → Int32 → Int32 → Int32 → Int32 → Option (Int32 × (Nat → Int32))) (t_images : Nat → Int32) (t_rows : Nat → Int32) (v1 : Int32) (v2 : Int32) (v3 : Int32) (v4 : Int32) (v5 : Int32) : Option (Int32 × (Nat → Int32)) := chk 81 ((9 * v3) + v4) (k14 t_images (upd t_rows (((9 * v3) + v4).toNatClampNeg) v5) v1 v2 v3 (v4 + 1))
noncomputable def fX8_commonOf_117 (k2 : (Nat → Int32) → (Nat → Int32) → Int32 → Int32 → Int32 → Option (Int32 × (Nat → Int32))) (k14 : (Nat → Int32) → (Nat → Int32) → Int32 → Int32 → Int32 → Int32 → Option (Int32 × (Nat → Int32))) (t_images : Nat → Int32) (t_rows : Nat → Int32) (v1 : Int32) (v2 : Int32) (v3 : Int32) (v4 : Int32) (z0 : Int32) : Option (Int32 × (Nat → Int32)) := fX8_commonOf_119 k2 k14 t_images t_rows v1 v2 v3 v4 z0
noncomputable def fX8_commonOf_139 (k2 : (Nat → Int32) → (Nat → Int32) → Int32 → Int32 → Int32 → Option (Int32 × (Nat → Int32))) (t_images : Nat → Int32) (t_rows : Nat → Int32) (v1 : Int32) (v2 : Int32) (v3 : Int32) : Option (Int32 × (Nat → Int32)) := k2 t_images t_rows v1 v2 (v3 + 1)
noncomputable def fX8_commonOf_14 (k2 : (Nat → Int32) → (Nat → Int32) → Int32 → Int32 → Int32 → Option (Int32 × (Nat → Int32))) : Nat → (Nat → Int32) → (Nat → Int32) → Int32 → Int32 → Int32 → Int32 → Option (Int32 × (Nat → Int32))
  | 0, _, _, _, _, _, _ => none
  | n + 1, t_images, t_rows, v1, v2, v3, v4 => (fX8_manyIn t_images v2).bind fun r4 => (if r4 < v4 then fX8_commonOf_139 k2 t_images t_rows v1 v2 v3 else (if v3 ≤ 0 then fX8_commonOf_119 k2 (fX8_commonOf_14 k2 n) t_images t_rows v1 v2 v3 v4 0 else (if v4 ≤ 0 then fX8_commonOf_119 k2 (fX8_commonOf_14 k2 n) t_images t_rows v1 v2 v3 v4 0 else chk 81 (((9 * v3) - 9) + v4) (chk 81 (((9 * v3) + v4) - 1) ((fX8_typeIn t_images v1 (v3 - 1)).bind fun r11 => (fX8_typeIn t_images v2 (v4 - 1)).bind fun r13 => (if r11 = r13 then chk 81 (((9 * v3) - 10) + v4) (fX8_commonOf_117 k2 (fX8_commonOf_14 k2 n) t_images t_rows v1 v2 v3 v4 (imax (imax (t_rows (((9 * v3) - 9) + v4).toNatClampNeg) (t_rows (((9 * v3) + v4) - 1).toNatClampNeg)) ((t_rows (((9 * v3) - 10) + v4).toNatClampNeg) + 1))) else fX8_commonOf_117 k2 (fX8_commonOf_14 k2 n) t_images t_rows v1 v2 v3 v4 (imax (t_rows (((9 * v3) - 9) + v4).toNatClampNeg) (t_rows (((9 * v3) + v4) - 1).toNatClampNeg))))))))
theorem fX8_commonOf_14_z (k2 : (Nat → Int32) → (Nat → Int32) → Int32 → Int32 → Int32 → Option (Int32 × (Nat → Int32))) (t_images : Nat → Int32) (t_rows : Nat → Int32) (v1 : Int32) (v2 : Int32) (v3 : Int32) (v4 : Int32) : fX8_commonOf_14 k2 0 t_images t_rows v1 v2 v3 v4 = none := rfl
theorem fX8_commonOf_14_s (k2 : (Nat → Int32) → (Nat → Int32) → Int32 → Int32 → Int32 → Option (Int32 × (Nat → Int32))) (n : Nat) (t_images : Nat → Int32) (t_rows : Nat → Int32) (v1 : Int32) (v2 : Int32) (v3 : Int32) (v4 : Int32) : fX8_commonOf_14 k2 (n + 1) t_images t_rows v1 v2 v3 v4 = (fX8_manyIn t_images v2).bind fun r4 => (if r4 < v4 then fX8_commonOf_139 k2 t_images t_rows v1 v2 v3 else (if v3 ≤ 0 then fX8_commonOf_119 k2 (fX8_commonOf_14 k2 n) t_images t_rows v1 v2 v3 v4 0 else (if v4 ≤ 0 then fX8_commonOf_119 k2 (fX8_commonOf_14 k2 n) t_images t_rows v1 v2 v3 v4 0 else chk 81 (((9 * v3) - 9) + v4) (chk 81 (((9 * v3) + v4) - 1) ((fX8_typeIn t_images v1 (v3 - 1)).bind fun r11 => (fX8_typeIn t_images v2 (v4 - 1)).bind fun r13 => (if r11 = r13 then chk 81 (((9 * v3) - 10) + v4) (fX8_commonOf_117 k2 (fX8_commonOf_14 k2 n) t_images t_rows v1 v2 v3 v4 (imax (imax (t_rows (((9 * v3) - 9) + v4).toNatClampNeg) (t_rows (((9 * v3) + v4) - 1).toNatClampNeg)) ((t_rows (((9 * v3) - 10) + v4).toNatClampNeg) + 1))) else fX8_commonOf_117 k2 (fX8_commonOf_14 k2 n) t_images t_rows v1 v2 v3 v4 (imax (t_rows (((9 * v3) - 9) + v4).toNatClampNeg) (t_rows (((9 * v3) + v4) - 1).toNatClampNeg)))))))) := rfl
noncomputable def fX8_commonOf_145  (t_images : Nat → Int32) (t_rows : Nat → Int32) (v1 : Int32) (v2 : Int32) : Option (Int32 × (Nat → Int32)) := (fX8_manyIn t_images v1).bind fun r18 => (fX8_manyIn t_images v2).bind fun r20 => chk 81 ((9 * r18) + r20) (some ((t_rows ((9 * r18) + r20).toNatClampNeg), t_rows))
noncomputable def fX8_commonOf_2  : Nat → (Nat → Int32) → (Nat → Int32) → Int32 → Int32 → Int32 → Option (Int32 × (Nat → Int32))
  | 0, _, _, _, _, _ => none
  | n + 1, t_images, t_rows, v1, v2, v3 => (fX8_manyIn t_images v1).bind fun r1 => (if r1 < v3 then fX8_commonOf_145 t_images t_rows v1 v2 else fX8_commonOf_14 (fX8_commonOf_2 n) FU t_images t_rows v1 v2 v3 0)
theorem fX8_commonOf_2_z  (t_images : Nat → Int32) (t_rows : Nat → Int32) (v1 : Int32) (v2 : Int32) (v3 : Int32) : fX8_commonOf_2  0 t_images t_rows v1 v2 v3 = none := rfl
theorem fX8_commonOf_2_s  (n : Nat) (t_images : Nat → Int32) (t_rows : Nat → Int32) (v1 : Int32) (v2 : Int32) (v3 : Int32) : fX8_commonOf_2  (n + 1) t_images t_rows v1 v2 v3 = (fX8_manyIn t_images v1).bind fun r1 => (if r1 < v3 then fX8_commonOf_145 t_images t_rows v1 v2 else fX8_commonOf_14 (fX8_commonOf_2 n) FU t_images t_rows v1 v2 v3 0) := rfl
noncomputable def fX8_commonOf  (t_images : Nat → Int32) (t_rows : Nat → Int32) (v1 : Int32) (v2 : Int32) : Option (Int32 × (Nat → Int32)) := fX8_commonOf_2 FU t_images t_rows v1 v2 0
set_option maxHeartbeats 4000000 in
set_option maxRecDepth 100000 in
theorem ctX8_commonOf (l : Launch) (g : GT) (sz : Nat) (a_t : Nat → Nat) (t_acted : Int32) (t_taped : Int32) (t_faultKind : Int32) (t_faultPlace : Int32) (t_at : Int32) (t_begin : Int32) (t_token : Int32) (t_value : Int32) (t_bad : Int32) (t_wide : Int32) (t_lost : Int32) (t_det : Int64) (t_mask : Int32) (t_mode : Int32) (t_wanted : Int32) (t_orders : Int32) (t_foundAt : Int32) (t_foundBy : Int64) (t_unlikes : Int32) (t_images : Nat → Int32) (t_rows : Nat → Int32) (v1 : Int32) (v2 : Int32) (o : Int32) (o_t_rows : Nat → Int32) (h : fX8_commonOf t_images t_rows v1 v2 = some (o, o_t_rows)) : Met l yX8_commonOf (Cond.code yX8_commonOf cX8_commonOf 6 (some .int) :: Tw) ⟨1, 0, 0, 26⟩ (va_Pc [.ref ((a_t 0)), .int v1, .int v2] (rwB g [((a_t 0), .inr (7, [.ref (a_t 1), .ref (a_t 2), .int t_acted, .ref (a_t 4), .ref (a_t 5), .ref (a_t 6), .ref (a_t 7), .ref (a_t 8), .ref (a_t 9), .int t_taped, .int t_faultKind, .int t_faultPlace, .int t_at, .int t_begin, .int t_token, .int t_value, .int t_bad, .ref (a_t 18), .ref (a_t 19), .ref (a_t 20), .int t_wide, .int t_lost, .ref (a_t 23), .long t_det, .ref (a_t 25), .int t_mask, .int t_mode, .int t_wanted, .int t_orders, .int t_foundAt, .long t_foundBy, .ref (a_t 32), .ref (a_t 33), .int t_unlikes, .ref (a_t 35), .ref (a_t 36)])), ((a_t 5), .inl (g.2.2.1 0, 81, .inl t_images)), ((a_t 36), .inl (g.2.2.1 0, 81, .inl t_rows))] sz)) (va_Qi (fun x (_ : Nat → Nat) => x = o) (fun u => rwE g (va_A [((a_t 0), .inr (7, [.ref (a_t 1), .ref (a_t 2), .int t_acted, .ref (a_t 4), .ref (a_t 5), .ref (a_t 6), .ref (a_t 7), .ref (a_t 8), .ref (a_t 9), .int t_taped, .int t_faultKind, .int t_faultPlace, .int t_at, .int t_begin, .int t_token, .int t_value, .int t_bad, .ref (a_t 18), .ref (a_t 19), .ref (a_t 20), .int t_wide, .int t_lost, .ref (a_t 23), .long t_det, .ref (a_t 25), .int t_mask, .int t_mode, .int t_wanted, .int t_orders, .int t_foundAt, .long t_foundBy, .ref (a_t 32), .ref (a_t 33), .int t_unlikes, .ref (a_t 35), .ref (a_t 36)])), ((a_t 5), .inl (g.2.2.1 0, 81, .inl t_images)), ((a_t 36), .inl (g.2.2.1 0, 81, .inl t_rows))] sz) [((a_t 0), .inr (7, [.ref (a_t 1), .ref (a_t 2), .int t_acted, .ref (a_t 4), .ref (a_t 5), .ref (a_t 6), .ref (a_t 7), .ref (a_t 8), .ref (a_t 9), .int t_taped, .int t_faultKind, .int t_faultPlace, .int t_at, .int t_begin, .int t_token, .int t_value, .int t_bad, .ref (a_t 18), .ref (a_t 19), .ref (a_t 20), .int t_wide, .int t_lost, .ref (a_t 23), .long t_det, .ref (a_t 25), .int t_mask, .int t_mode, .int t_wanted, .int t_orders, .int t_foundAt, .long t_foundBy, .ref (a_t 32), .ref (a_t 33), .int t_unlikes, .ref (a_t 35), .ref (a_t 36)])), ((a_t 5), .inl (g.2.2.1 0, 81, .inl t_images)), ((a_t 36), .inl (g.2.2.1 0, 81, .inl o_t_rows))]) (va_A [((a_t 0), .inr (7, [.ref (a_t 1), .ref (a_t 2), .int t_acted, .ref (a_t 4), .ref (a_t 5), .ref (a_t 6), .ref (a_t 7), .ref (a_t 8), .ref (a_t 9), .int t_taped, .int t_faultKind, .int t_faultPlace, .int t_at, .int t_begin, .int t_token, .int t_value, .int t_bad, .ref (a_t 18), .ref (a_t 19), .ref (a_t 20), .int t_wide, .int t_lost, .ref (a_t 23), .long t_det, .ref (a_t 25), .int t_mask, .int t_mode, .int t_wanted, .int t_orders, .int t_foundAt, .long t_foundBy, .ref (a_t 32), .ref (a_t 33), .int t_unlikes, .ref (a_t 35), .ref (a_t 36)])), ((a_t 5), .inl (g.2.2.1 0, 81, .inl t_images)), ((a_t 36), .inl (g.2.2.1 0, 81, .inl t_rows))] sz)) 0 0 (va_A [((a_t 0), .inr (7, [.ref (a_t 1), .ref (a_t 2), .int t_acted, .ref (a_t 4), .ref (a_t 5), .ref (a_t 6), .ref (a_t 7), .ref (a_t 8), .ref (a_t 9), .int t_taped, .int t_faultKind, .int t_faultPlace, .int t_at, .int t_begin, .int t_token, .int t_value, .int t_bad, .ref (a_t 18), .ref (a_t 19), .ref (a_t 20), .int t_wide, .int t_lost, .ref (a_t 23), .long t_det, .ref (a_t 25), .int t_mask, .int t_mode, .int t_wanted, .int t_orders, .int t_foundAt, .long t_foundBy, .ref (a_t 32), .ref (a_t 33), .int t_unlikes, .ref (a_t 35), .ref (a_t 36)])), ((a_t 5), .inl (g.2.2.1 0, 81, .inl t_images)), ((a_t 36), .inl (g.2.2.1 0, 81, .inl t_rows))] sz) := by
  refine rw_meti (by decide) (Nat.le_of_ble_eq_true rfl) (lv0 := [(0, .ref ((a_t 0))), (1, .int v1), (2, .int v2)]) rfl ?_
  intro p e s m args below meth c ls Q A cx hret hG hAb hb0 hA hP hD hl
  have hx := cx.1
  have hb := cx.2.1
  have hG0 := hG
  have hGk : ∀ {H : Heap} {locs : List Loc}, va_S A s.heap H locs → GE g s H := fun hS => hG0.keptS hAb hS
  have hSb : ∀ {H : Heap} {locs : List Loc}, va_S A s.heap H locs → va_S (fun a => g.1 ≤ a) s.heap H locs := fun hS => ⟨hS.1, fun q h1 h2 => hS.2.1 q h1 (fun z => h2 (hAb q z)), fun l hl => hAb _ (hS.2.2 l hl)⟩
  have hS : va_S A s.heap s.heap [] := va_S.rf
  have hrt : ∀ (u : Nat → Nat) (pc : Nat) (ls : Array Slot) (v : Int32) (x_t_rows : Nat → Int32) (H : Heap) (locs : List Loc), decode cX8_commonOf pc = .ok (.ireturn, 1) → some (v, x_t_rows) = some (o, o_t_rows) → va_P g.2.1 vwCl [((a_t 0), .inr (7, [.ref (a_t 1), .ref (a_t 2), .int t_acted, .ref (a_t 4), .ref (a_t 5), .ref (a_t 6), .ref (a_t 7), .ref (a_t 8), .ref (a_t 9), .int t_taped, .int t_faultKind, .int t_faultPlace, .int t_at, .int t_begin, .int t_token, .int t_value, .int t_bad, .ref (a_t 18), .ref (a_t 19), .ref (a_t 20), .int t_wide, .int t_lost, .ref (a_t 23), .long t_det, .ref (a_t 25), .int t_mask, .int t_mode, .int t_wanted, .int t_orders, .int t_foundAt, .long t_foundBy, .ref (a_t 32), .ref (a_t 33), .int t_unlikes, .ref (a_t 35), .ref (a_t 36)])), ((a_t 5), .inl (g.2.2.1 0, 81, .inl t_images)), ((a_t 36), .inl (g.2.2.1 0, 81, .inl x_t_rows))] H → va_D A [((a_t 0), .inr (7, [.ref (a_t 1), .ref (a_t 2), .int t_acted, .ref (a_t 4), .ref (a_t 5), .ref (a_t 6), .ref (a_t 7), .ref (a_t 8), .ref (a_t 9), .int t_taped, .int t_faultKind, .int t_faultPlace, .int t_at, .int t_begin, .int t_token, .int t_value, .int t_bad, .ref (a_t 18), .ref (a_t 19), .ref (a_t 20), .int t_wide, .int t_lost, .ref (a_t 23), .long t_det, .ref (a_t 25), .int t_mask, .int t_mode, .int t_wanted, .int t_orders, .int t_foundAt, .long t_foundBy, .ref (a_t 32), .ref (a_t 33), .int t_unlikes, .ref (a_t 35), .ref (a_t 36)])), ((a_t 5), .inl (g.2.2.1 0, 81, .inl t_images)), ((a_t 36), .inl (g.2.2.1 0, 81, .inl x_t_rows))] → va_S A s.heap H locs → W p l e ⟨1, 0, 0, 26⟩ s m args below meth c H locs 0 0 Q (F0 m pc ls [.int v]) := by
    intro u pc ls v x_t_rows H locs hd h hP hD hS
    cases h
    exact hret u _ _ _ _ _ hd rfl hP hD hS
  have w119 : ∀ (k2 : (Nat → Int32) → (Nat → Int32) → Int32 → Int32 → Int32 → Option (Int32 × (Nat → Int32))) (hk2 : ∀ (t_rows : Nat → Int32) (v1 : Int32) (v2 : Int32) (v3 : Int32) (H : Heap) (locs : List Loc), va_P g.2.1 vwCl [((a_t 0), .inr (7, [.ref (a_t 1), .ref (a_t 2), .int t_acted, .ref (a_t 4), .ref (a_t 5), .ref (a_t 6), .ref (a_t 7), .ref (a_t 8), .ref (a_t 9), .int t_taped, .int t_faultKind, .int t_faultPlace, .int t_at, .int t_begin, .int t_token, .int t_value, .int t_bad, .ref (a_t 18), .ref (a_t 19), .ref (a_t 20), .int t_wide, .int t_lost, .ref (a_t 23), .long t_det, .ref (a_t 25), .int t_mask, .int t_mode, .int t_wanted, .int t_orders, .int t_foundAt, .long t_foundBy, .ref (a_t 32), .ref (a_t 33), .int t_unlikes, .ref (a_t 35), .ref (a_t 36)])), ((a_t 5), .inl (g.2.2.1 0, 81, .inl t_images)), ((a_t 36), .inl (g.2.2.1 0, 81, .inl t_rows))] H → va_D A [((a_t 0), .inr (7, [.ref (a_t 1), .ref (a_t 2), .int t_acted, .ref (a_t 4), .ref (a_t 5), .ref (a_t 6), .ref (a_t 7), .ref (a_t 8), .ref (a_t 9), .int t_taped, .int t_faultKind, .int t_faultPlace, .int t_at, .int t_begin, .int t_token, .int t_value, .int t_bad, .ref (a_t 18), .ref (a_t 19), .ref (a_t 20), .int t_wide, .int t_lost, .ref (a_t 23), .long t_det, .ref (a_t 25), .int t_mask, .int t_mode, .int t_wanted, .int t_orders, .int t_foundAt, .long t_foundBy, .ref (a_t 32), .ref (a_t 33), .int t_unlikes, .ref (a_t 35), .ref (a_t 36)])), ((a_t 5), .inl (g.2.2.1 0, 81, .inl t_images)), ((a_t 36), .inl (g.2.2.1 0, 81, .inl t_rows))] → va_S A s.heap H locs → ∀ (ls : Array Slot), lv_has ls 6 [(0, .ref ((a_t 0))), (1, .int v1), (2, .int v2), (3, .int v3)] → k2 t_images t_rows v1 v2 v3 = some (o, o_t_rows) → W p l e ⟨1, 0, 0, 26⟩ s m args below meth c H locs 0 0 Q (F0 m 2 ls [])) (k14 : (Nat → Int32) → (Nat → Int32) → Int32 → Int32 → Int32 → Int32 → Option (Int32 × (Nat → Int32))) (hk14 : ∀ (t_rows : Nat → Int32) (v1 : Int32) (v2 : Int32) (v3 : Int32) (v4 : Int32) (H : Heap) (locs : List Loc), va_P g.2.1 vwCl [((a_t 0), .inr (7, [.ref (a_t 1), .ref (a_t 2), .int t_acted, .ref (a_t 4), .ref (a_t 5), .ref (a_t 6), .ref (a_t 7), .ref (a_t 8), .ref (a_t 9), .int t_taped, .int t_faultKind, .int t_faultPlace, .int t_at, .int t_begin, .int t_token, .int t_value, .int t_bad, .ref (a_t 18), .ref (a_t 19), .ref (a_t 20), .int t_wide, .int t_lost, .ref (a_t 23), .long t_det, .ref (a_t 25), .int t_mask, .int t_mode, .int t_wanted, .int t_orders, .int t_foundAt, .long t_foundBy, .ref (a_t 32), .ref (a_t 33), .int t_unlikes, .ref (a_t 35), .ref (a_t 36)])), ((a_t 5), .inl (g.2.2.1 0, 81, .inl t_images)), ((a_t 36), .inl (g.2.2.1 0, 81, .inl t_rows))] H → va_D A [((a_t 0), .inr (7, [.ref (a_t 1), .ref (a_t 2), .int t_acted, .ref (a_t 4), .ref (a_t 5), .ref (a_t 6), .ref (a_t 7), .ref (a_t 8), .ref (a_t 9), .int t_taped, .int t_faultKind, .int t_faultPlace, .int t_at, .int t_begin, .int t_token, .int t_value, .int t_bad, .ref (a_t 18), .ref (a_t 19), .ref (a_t 20), .int t_wide, .int t_lost, .ref (a_t 23), .long t_det, .ref (a_t 25), .int t_mask, .int t_mode, .int t_wanted, .int t_orders, .int t_foundAt, .long t_foundBy, .ref (a_t 32), .ref (a_t 33), .int t_unlikes, .ref (a_t 35), .ref (a_t 36)])), ((a_t 5), .inl (g.2.2.1 0, 81, .inl t_images)), ((a_t 36), .inl (g.2.2.1 0, 81, .inl t_rows))] → va_S A s.heap H locs → ∀ (ls : Array Slot), lv_has ls 6 [(0, .ref ((a_t 0))), (1, .int v1), (2, .int v2), (3, .int v3), (4, .int v4)] → k14 t_images t_rows v1 v2 v3 v4 = some (o, o_t_rows) → W p l e ⟨1, 0, 0, 26⟩ s m args below meth c H locs 0 0 Q (F0 m 14 ls [])) (t_rows : Nat → Int32) (v1 : Int32) (v2 : Int32) (v3 : Int32) (v4 : Int32) (v5 : Int32) (H : Heap) (locs : List Loc), va_P g.2.1 vwCl [((a_t 0), .inr (7, [.ref (a_t 1), .ref (a_t 2), .int t_acted, .ref (a_t 4), .ref (a_t 5), .ref (a_t 6), .ref (a_t 7), .ref (a_t 8), .ref (a_t 9), .int t_taped, .int t_faultKind, .int t_faultPlace, .int t_at, .int t_begin, .int t_token, .int t_value, .int t_bad, .ref (a_t 18), .ref (a_t 19), .ref (a_t 20), .int t_wide, .int t_lost, .ref (a_t 23), .long t_det, .ref (a_t 25), .int t_mask, .int t_mode, .int t_wanted, .int t_orders, .int t_foundAt, .long t_foundBy, .ref (a_t 32), .ref (a_t 33), .int t_unlikes, .ref (a_t 35), .ref (a_t 36)])), ((a_t 5), .inl (g.2.2.1 0, 81, .inl t_images)), ((a_t 36), .inl (g.2.2.1 0, 81, .inl t_rows))] H → va_D A [((a_t 0), .inr (7, [.ref (a_t 1), .ref (a_t 2), .int t_acted, .ref (a_t 4), .ref (a_t 5), .ref (a_t 6), .ref (a_t 7), .ref (a_t 8), .ref (a_t 9), .int t_taped, .int t_faultKind, .int t_faultPlace, .int t_at, .int t_begin, .int t_token, .int t_value, .int t_bad, .ref (a_t 18), .ref (a_t 19), .ref (a_t 20), .int t_wide, .int t_lost, .ref (a_t 23), .long t_det, .ref (a_t 25), .int t_mask, .int t_mode, .int t_wanted, .int t_orders, .int t_foundAt, .long t_foundBy, .ref (a_t 32), .ref (a_t 33), .int t_unlikes, .ref (a_t 35), .ref (a_t 36)])), ((a_t 5), .inl (g.2.2.1 0, 81, .inl t_images)), ((a_t 36), .inl (g.2.2.1 0, 81, .inl t_rows))] → va_S A s.heap H locs → ∀ (ls : Array Slot), lv_has ls 6 [(0, .ref ((a_t 0))), (1, .int v1), (2, .int v2), (3, .int v3), (4, .int v4), (5, .int v5)] → fX8_commonOf_119 k2 k14 t_images t_rows v1 v2 v3 v4 v5 = some (o, o_t_rows) → W p l e ⟨1, 0, 0, 26⟩ s m args below meth c H locs 0 0 Q (F0 m 119 ls []) := by
    intro k2 hk2 k14 hk14 t_rows v1 v2 v3 v4 v5 H locs hP hD hS ls hl h
    unfold fX8_commonOf_119 at h
    have hG := hGk hS
    refine lv_aload_n hx hb dX8_commonOf_119 rfl (lv_at hl 0 rfl) ?_
    refine xa_get (C := RX8) (T := TX8) (N := 36) cx hG hP 0 rfl rfl uX8 35 (by decide) lf_X8_77 rfl dX8_commonOf_120 ?_
    refine lv_bipush (v := 9) hx hb dX8_commonOf_123 (by decide) ?_
    refine lv_iload_n hx hb dX8_commonOf_125 rfl (lv_at hl 3 rfl) ?_
    refine lv_imul hx hb dX8_commonOf_126 ?_
    refine lv_iload hx hb dX8_commonOf_127 (lv_at hl 4 rfl) ?_
    refine lv_iadd hx hb dX8_commonOf_129 ?_
    refine lv_iload hx hb dX8_commonOf_130 (lv_at hl 5 rfl) ?_
    obtain ⟨hi17, h⟩ := chk_out h
    refine xw_iast (ws' := [((a_t 0), .inr (7, [.ref (a_t 1), .ref (a_t 2), .int t_acted, .ref (a_t 4), .ref (a_t 5), .ref (a_t 6), .ref (a_t 7), .ref (a_t 8), .ref (a_t 9), .int t_taped, .int t_faultKind, .int t_faultPlace, .int t_at, .int t_begin, .int t_token, .int t_value, .int t_bad, .ref (a_t 18), .ref (a_t 19), .ref (a_t 20), .int t_wide, .int t_lost, .ref (a_t 23), .long t_det, .ref (a_t 25), .int t_mask, .int t_mode, .int t_wanted, .int t_orders, .int t_foundAt, .long t_foundBy, .ref (a_t 32), .ref (a_t 33), .int t_unlikes, .ref (a_t 35), .ref (a_t 36)])), ((a_t 5), .inl (g.2.2.1 0, 81, .inl t_images)), ((a_t 36), .inl (g.2.2.1 0, 81, .inl (upd t_rows (((9 * v3) + v4).toNatClampNeg) v5)))]) (k := (((9 * v3) + v4).toNatClampNeg)) cx hG hP hD hS 2 rfl hi17 rfl rfl dX8_commonOf_132 (fun H locs hP hD hS => ?_)
    have hG := hGk hS
    refine lv_iinc (v := v4 + 1) (lv' := [(4, .int (v4 + 1)), (0, .ref ((a_t 0))), (1, .int v1), (2, .int v2), (3, .int v3), (5, .int v5)]) hx hb dX8_commonOf_133 hl (k := 4) rfl rfl (by decide) rfl (fun ls hl => ?_)
    refine lv_goto (tgt := 14) hx hb dX8_commonOf_136 (by decide) ?_
    exact hk14 (upd t_rows (((9 * v3) + v4).toNatClampNeg) v5) v1 v2 v3 (v4 + 1) _ _ hP hD hS _ (lv_sub hl [1, 2, 3, 4, 0] rfl) h
  have w117 : ∀ (k2 : (Nat → Int32) → (Nat → Int32) → Int32 → Int32 → Int32 → Option (Int32 × (Nat → Int32))) (hk2 : ∀ (t_rows : Nat → Int32) (v1 : Int32) (v2 : Int32) (v3 : Int32) (H : Heap) (locs : List Loc), va_P g.2.1 vwCl [((a_t 0), .inr (7, [.ref (a_t 1), .ref (a_t 2), .int t_acted, .ref (a_t 4), .ref (a_t 5), .ref (a_t 6), .ref (a_t 7), .ref (a_t 8), .ref (a_t 9), .int t_taped, .int t_faultKind, .int t_faultPlace, .int t_at, .int t_begin, .int t_token, .int t_value, .int t_bad, .ref (a_t 18), .ref (a_t 19), .ref (a_t 20), .int t_wide, .int t_lost, .ref (a_t 23), .long t_det, .ref (a_t 25), .int t_mask, .int t_mode, .int t_wanted, .int t_orders, .int t_foundAt, .long t_foundBy, .ref (a_t 32), .ref (a_t 33), .int t_unlikes, .ref (a_t 35), .ref (a_t 36)])), ((a_t 5), .inl (g.2.2.1 0, 81, .inl t_images)), ((a_t 36), .inl (g.2.2.1 0, 81, .inl t_rows))] H → va_D A [((a_t 0), .inr (7, [.ref (a_t 1), .ref (a_t 2), .int t_acted, .ref (a_t 4), .ref (a_t 5), .ref (a_t 6), .ref (a_t 7), .ref (a_t 8), .ref (a_t 9), .int t_taped, .int t_faultKind, .int t_faultPlace, .int t_at, .int t_begin, .int t_token, .int t_value, .int t_bad, .ref (a_t 18), .ref (a_t 19), .ref (a_t 20), .int t_wide, .int t_lost, .ref (a_t 23), .long t_det, .ref (a_t 25), .int t_mask, .int t_mode, .int t_wanted, .int t_orders, .int t_foundAt, .long t_foundBy, .ref (a_t 32), .ref (a_t 33), .int t_unlikes, .ref (a_t 35), .ref (a_t 36)])), ((a_t 5), .inl (g.2.2.1 0, 81, .inl t_images)), ((a_t 36), .inl (g.2.2.1 0, 81, .inl t_rows))] → va_S A s.heap H locs → ∀ (ls : Array Slot), lv_has ls 6 [(0, .ref ((a_t 0))), (1, .int v1), (2, .int v2), (3, .int v3)] → k2 t_images t_rows v1 v2 v3 = some (o, o_t_rows) → W p l e ⟨1, 0, 0, 26⟩ s m args below meth c H locs 0 0 Q (F0 m 2 ls [])) (k14 : (Nat → Int32) → (Nat → Int32) → Int32 → Int32 → Int32 → Int32 → Option (Int32 × (Nat → Int32))) (hk14 : ∀ (t_rows : Nat → Int32) (v1 : Int32) (v2 : Int32) (v3 : Int32) (v4 : Int32) (H : Heap) (locs : List Loc), va_P g.2.1 vwCl [((a_t 0), .inr (7, [.ref (a_t 1), .ref (a_t 2), .int t_acted, .ref (a_t 4), .ref (a_t 5), .ref (a_t 6), .ref (a_t 7), .ref (a_t 8), .ref (a_t 9), .int t_taped, .int t_faultKind, .int t_faultPlace, .int t_at, .int t_begin, .int t_token, .int t_value, .int t_bad, .ref (a_t 18), .ref (a_t 19), .ref (a_t 20), .int t_wide, .int t_lost, .ref (a_t 23), .long t_det, .ref (a_t 25), .int t_mask, .int t_mode, .int t_wanted, .int t_orders, .int t_foundAt, .long t_foundBy, .ref (a_t 32), .ref (a_t 33), .int t_unlikes, .ref (a_t 35), .ref (a_t 36)])), ((a_t 5), .inl (g.2.2.1 0, 81, .inl t_images)), ((a_t 36), .inl (g.2.2.1 0, 81, .inl t_rows))] H → va_D A [((a_t 0), .inr (7, [.ref (a_t 1), .ref (a_t 2), .int t_acted, .ref (a_t 4), .ref (a_t 5), .ref (a_t 6), .ref (a_t 7), .ref (a_t 8), .ref (a_t 9), .int t_taped, .int t_faultKind, .int t_faultPlace, .int t_at, .int t_begin, .int t_token, .int t_value, .int t_bad, .ref (a_t 18), .ref (a_t 19), .ref (a_t 20), .int t_wide, .int t_lost, .ref (a_t 23), .long t_det, .ref (a_t 25), .int t_mask, .int t_mode, .int t_wanted, .int t_orders, .int t_foundAt, .long t_foundBy, .ref (a_t 32), .ref (a_t 33), .int t_unlikes, .ref (a_t 35), .ref (a_t 36)])), ((a_t 5), .inl (g.2.2.1 0, 81, .inl t_images)), ((a_t 36), .inl (g.2.2.1 0, 81, .inl t_rows))] → va_S A s.heap H locs → ∀ (ls : Array Slot), lv_has ls 6 [(0, .ref ((a_t 0))), (1, .int v1), (2, .int v2), (3, .int v3), (4, .int v4)] → k14 t_images t_rows v1 v2 v3 v4 = some (o, o_t_rows) → W p l e ⟨1, 0, 0, 26⟩ s m args below meth c H locs 0 0 Q (F0 m 14 ls [])) (t_rows : Nat → Int32) (v1 : Int32) (v2 : Int32) (v3 : Int32) (v4 : Int32) (z0 : Int32) (H : Heap) (locs : List Loc), va_P g.2.1 vwCl [((a_t 0), .inr (7, [.ref (a_t 1), .ref (a_t 2), .int t_acted, .ref (a_t 4), .ref (a_t 5), .ref (a_t 6), .ref (a_t 7), .ref (a_t 8), .ref (a_t 9), .int t_taped, .int t_faultKind, .int t_faultPlace, .int t_at, .int t_begin, .int t_token, .int t_value, .int t_bad, .ref (a_t 18), .ref (a_t 19), .ref (a_t 20), .int t_wide, .int t_lost, .ref (a_t 23), .long t_det, .ref (a_t 25), .int t_mask, .int t_mode, .int t_wanted, .int t_orders, .int t_foundAt, .long t_foundBy, .ref (a_t 32), .ref (a_t 33), .int t_unlikes, .ref (a_t 35), .ref (a_t 36)])), ((a_t 5), .inl (g.2.2.1 0, 81, .inl t_images)), ((a_t 36), .inl (g.2.2.1 0, 81, .inl t_rows))] H → va_D A [((a_t 0), .inr (7, [.ref (a_t 1), .ref (a_t 2), .int t_acted, .ref (a_t 4), .ref (a_t 5), .ref (a_t 6), .ref (a_t 7), .ref (a_t 8), .ref (a_t 9), .int t_taped, .int t_faultKind, .int t_faultPlace, .int t_at, .int t_begin, .int t_token, .int t_value, .int t_bad, .ref (a_t 18), .ref (a_t 19), .ref (a_t 20), .int t_wide, .int t_lost, .ref (a_t 23), .long t_det, .ref (a_t 25), .int t_mask, .int t_mode, .int t_wanted, .int t_orders, .int t_foundAt, .long t_foundBy, .ref (a_t 32), .ref (a_t 33), .int t_unlikes, .ref (a_t 35), .ref (a_t 36)])), ((a_t 5), .inl (g.2.2.1 0, 81, .inl t_images)), ((a_t 36), .inl (g.2.2.1 0, 81, .inl t_rows))] → va_S A s.heap H locs → ∀ (ls : Array Slot), lv_has ls 6 [(0, .ref ((a_t 0))), (1, .int v1), (2, .int v2), (3, .int v3), (4, .int v4)] → fX8_commonOf_117 k2 k14 t_images t_rows v1 v2 v3 v4 z0 = some (o, o_t_rows) → W p l e ⟨1, 0, 0, 26⟩ s m args below meth c H locs 0 0 Q (F0 m 117 ls [.int z0]) := by
    intro k2 hk2 k14 hk14 t_rows v1 v2 v3 v4 z0 H locs hP hD hS ls hl h
    unfold fX8_commonOf_117 at h
    have hG := hGk hS
    refine lv_istore (lv' := [(5, .int z0), (0, .ref ((a_t 0))), (1, .int v1), (2, .int v2), (3, .int v3), (4, .int v4)]) hx hb dX8_commonOf_117 hl (by decide) rfl (fun ls hl => ?_)
    exact w119 _ hk2 _ hk14 t_rows v1 v2 v3 v4 z0 _ _ hP hD hS _ (lv_sub hl [1, 2, 3, 4, 5, 0] rfl) h
  have w139 : ∀ (k2 : (Nat → Int32) → (Nat → Int32) → Int32 → Int32 → Int32 → Option (Int32 × (Nat → Int32))) (hk2 : ∀ (t_rows : Nat → Int32) (v1 : Int32) (v2 : Int32) (v3 : Int32) (H : Heap) (locs : List Loc), va_P g.2.1 vwCl [((a_t 0), .inr (7, [.ref (a_t 1), .ref (a_t 2), .int t_acted, .ref (a_t 4), .ref (a_t 5), .ref (a_t 6), .ref (a_t 7), .ref (a_t 8), .ref (a_t 9), .int t_taped, .int t_faultKind, .int t_faultPlace, .int t_at, .int t_begin, .int t_token, .int t_value, .int t_bad, .ref (a_t 18), .ref (a_t 19), .ref (a_t 20), .int t_wide, .int t_lost, .ref (a_t 23), .long t_det, .ref (a_t 25), .int t_mask, .int t_mode, .int t_wanted, .int t_orders, .int t_foundAt, .long t_foundBy, .ref (a_t 32), .ref (a_t 33), .int t_unlikes, .ref (a_t 35), .ref (a_t 36)])), ((a_t 5), .inl (g.2.2.1 0, 81, .inl t_images)), ((a_t 36), .inl (g.2.2.1 0, 81, .inl t_rows))] H → va_D A [((a_t 0), .inr (7, [.ref (a_t 1), .ref (a_t 2), .int t_acted, .ref (a_t 4), .ref (a_t 5), .ref (a_t 6), .ref (a_t 7), .ref (a_t 8), .ref (a_t 9), .int t_taped, .int t_faultKind, .int t_faultPlace, .int t_at, .int t_begin, .int t_token, .int t_value, .int t_bad, .ref (a_t 18), .ref (a_t 19), .ref (a_t 20), .int t_wide, .int t_lost, .ref (a_t 23), .long t_det, .ref (a_t 25), .int t_mask, .int t_mode, .int t_wanted, .int t_orders, .int t_foundAt, .long t_foundBy, .ref (a_t 32), .ref (a_t 33), .int t_unlikes, .ref (a_t 35), .ref (a_t 36)])), ((a_t 5), .inl (g.2.2.1 0, 81, .inl t_images)), ((a_t 36), .inl (g.2.2.1 0, 81, .inl t_rows))] → va_S A s.heap H locs → ∀ (ls : Array Slot), lv_has ls 6 [(0, .ref ((a_t 0))), (1, .int v1), (2, .int v2), (3, .int v3)] → k2 t_images t_rows v1 v2 v3 = some (o, o_t_rows) → W p l e ⟨1, 0, 0, 26⟩ s m args below meth c H locs 0 0 Q (F0 m 2 ls [])) (t_rows : Nat → Int32) (v1 : Int32) (v2 : Int32) (v3 : Int32) (H : Heap) (locs : List Loc), va_P g.2.1 vwCl [((a_t 0), .inr (7, [.ref (a_t 1), .ref (a_t 2), .int t_acted, .ref (a_t 4), .ref (a_t 5), .ref (a_t 6), .ref (a_t 7), .ref (a_t 8), .ref (a_t 9), .int t_taped, .int t_faultKind, .int t_faultPlace, .int t_at, .int t_begin, .int t_token, .int t_value, .int t_bad, .ref (a_t 18), .ref (a_t 19), .ref (a_t 20), .int t_wide, .int t_lost, .ref (a_t 23), .long t_det, .ref (a_t 25), .int t_mask, .int t_mode, .int t_wanted, .int t_orders, .int t_foundAt, .long t_foundBy, .ref (a_t 32), .ref (a_t 33), .int t_unlikes, .ref (a_t 35), .ref (a_t 36)])), ((a_t 5), .inl (g.2.2.1 0, 81, .inl t_images)), ((a_t 36), .inl (g.2.2.1 0, 81, .inl t_rows))] H → va_D A [((a_t 0), .inr (7, [.ref (a_t 1), .ref (a_t 2), .int t_acted, .ref (a_t 4), .ref (a_t 5), .ref (a_t 6), .ref (a_t 7), .ref (a_t 8), .ref (a_t 9), .int t_taped, .int t_faultKind, .int t_faultPlace, .int t_at, .int t_begin, .int t_token, .int t_value, .int t_bad, .ref (a_t 18), .ref (a_t 19), .ref (a_t 20), .int t_wide, .int t_lost, .ref (a_t 23), .long t_det, .ref (a_t 25), .int t_mask, .int t_mode, .int t_wanted, .int t_orders, .int t_foundAt, .long t_foundBy, .ref (a_t 32), .ref (a_t 33), .int t_unlikes, .ref (a_t 35), .ref (a_t 36)])), ((a_t 5), .inl (g.2.2.1 0, 81, .inl t_images)), ((a_t 36), .inl (g.2.2.1 0, 81, .inl t_rows))] → va_S A s.heap H locs → ∀ (ls : Array Slot), lv_has ls 6 [(0, .ref ((a_t 0))), (1, .int v1), (2, .int v2), (3, .int v3)] → fX8_commonOf_139 k2 t_images t_rows v1 v2 v3 = some (o, o_t_rows) → W p l e ⟨1, 0, 0, 26⟩ s m args below meth c H locs 0 0 Q (F0 m 139 ls []) := by
    intro k2 hk2 t_rows v1 v2 v3 H locs hP hD hS ls hl h
    unfold fX8_commonOf_139 at h
    have hG := hGk hS
    refine lv_iinc (v := v3 + 1) (lv' := [(3, .int (v3 + 1)), (0, .ref ((a_t 0))), (1, .int v1), (2, .int v2)]) hx hb dX8_commonOf_139 hl (k := 3) rfl rfl (by decide) rfl (fun ls hl => ?_)
    refine lv_goto (tgt := 2) hx hb dX8_commonOf_142 (by decide) ?_
    exact hk2 t_rows v1 v2 (v3 + 1) _ _ hP hD hS _ (lv_sub hl [1, 2, 3, 0] rfl) h
  have w14 : ∀ (k2 : (Nat → Int32) → (Nat → Int32) → Int32 → Int32 → Int32 → Option (Int32 × (Nat → Int32))) (hk2 : ∀ (t_rows : Nat → Int32) (v1 : Int32) (v2 : Int32) (v3 : Int32) (H : Heap) (locs : List Loc), va_P g.2.1 vwCl [((a_t 0), .inr (7, [.ref (a_t 1), .ref (a_t 2), .int t_acted, .ref (a_t 4), .ref (a_t 5), .ref (a_t 6), .ref (a_t 7), .ref (a_t 8), .ref (a_t 9), .int t_taped, .int t_faultKind, .int t_faultPlace, .int t_at, .int t_begin, .int t_token, .int t_value, .int t_bad, .ref (a_t 18), .ref (a_t 19), .ref (a_t 20), .int t_wide, .int t_lost, .ref (a_t 23), .long t_det, .ref (a_t 25), .int t_mask, .int t_mode, .int t_wanted, .int t_orders, .int t_foundAt, .long t_foundBy, .ref (a_t 32), .ref (a_t 33), .int t_unlikes, .ref (a_t 35), .ref (a_t 36)])), ((a_t 5), .inl (g.2.2.1 0, 81, .inl t_images)), ((a_t 36), .inl (g.2.2.1 0, 81, .inl t_rows))] H → va_D A [((a_t 0), .inr (7, [.ref (a_t 1), .ref (a_t 2), .int t_acted, .ref (a_t 4), .ref (a_t 5), .ref (a_t 6), .ref (a_t 7), .ref (a_t 8), .ref (a_t 9), .int t_taped, .int t_faultKind, .int t_faultPlace, .int t_at, .int t_begin, .int t_token, .int t_value, .int t_bad, .ref (a_t 18), .ref (a_t 19), .ref (a_t 20), .int t_wide, .int t_lost, .ref (a_t 23), .long t_det, .ref (a_t 25), .int t_mask, .int t_mode, .int t_wanted, .int t_orders, .int t_foundAt, .long t_foundBy, .ref (a_t 32), .ref (a_t 33), .int t_unlikes, .ref (a_t 35), .ref (a_t 36)])), ((a_t 5), .inl (g.2.2.1 0, 81, .inl t_images)), ((a_t 36), .inl (g.2.2.1 0, 81, .inl t_rows))] → va_S A s.heap H locs → ∀ (ls : Array Slot), lv_has ls 6 [(0, .ref ((a_t 0))), (1, .int v1), (2, .int v2), (3, .int v3)] → k2 t_images t_rows v1 v2 v3 = some (o, o_t_rows) → W p l e ⟨1, 0, 0, 26⟩ s m args below meth c H locs 0 0 Q (F0 m 2 ls [])) (n : Nat) (t_rows : Nat → Int32) (v1 : Int32) (v2 : Int32) (v3 : Int32) (v4 : Int32) (H : Heap) (locs : List Loc), va_P g.2.1 vwCl [((a_t 0), .inr (7, [.ref (a_t 1), .ref (a_t 2), .int t_acted, .ref (a_t 4), .ref (a_t 5), .ref (a_t 6), .ref (a_t 7), .ref (a_t 8), .ref (a_t 9), .int t_taped, .int t_faultKind, .int t_faultPlace, .int t_at, .int t_begin, .int t_token, .int t_value, .int t_bad, .ref (a_t 18), .ref (a_t 19), .ref (a_t 20), .int t_wide, .int t_lost, .ref (a_t 23), .long t_det, .ref (a_t 25), .int t_mask, .int t_mode, .int t_wanted, .int t_orders, .int t_foundAt, .long t_foundBy, .ref (a_t 32), .ref (a_t 33), .int t_unlikes, .ref (a_t 35), .ref (a_t 36)])), ((a_t 5), .inl (g.2.2.1 0, 81, .inl t_images)), ((a_t 36), .inl (g.2.2.1 0, 81, .inl t_rows))] H → va_D A [((a_t 0), .inr (7, [.ref (a_t 1), .ref (a_t 2), .int t_acted, .ref (a_t 4), .ref (a_t 5), .ref (a_t 6), .ref (a_t 7), .ref (a_t 8), .ref (a_t 9), .int t_taped, .int t_faultKind, .int t_faultPlace, .int t_at, .int t_begin, .int t_token, .int t_value, .int t_bad, .ref (a_t 18), .ref (a_t 19), .ref (a_t 20), .int t_wide, .int t_lost, .ref (a_t 23), .long t_det, .ref (a_t 25), .int t_mask, .int t_mode, .int t_wanted, .int t_orders, .int t_foundAt, .long t_foundBy, .ref (a_t 32), .ref (a_t 33), .int t_unlikes, .ref (a_t 35), .ref (a_t 36)])), ((a_t 5), .inl (g.2.2.1 0, 81, .inl t_images)), ((a_t 36), .inl (g.2.2.1 0, 81, .inl t_rows))] → va_S A s.heap H locs → ∀ (ls : Array Slot), lv_has ls 6 [(0, .ref ((a_t 0))), (1, .int v1), (2, .int v2), (3, .int v3), (4, .int v4)] → fX8_commonOf_14 k2 n t_images t_rows v1 v2 v3 v4 = some (o, o_t_rows) → W p l e ⟨1, 0, 0, 26⟩ s m args below meth c H locs 0 0 Q (F0 m 14 ls []) := by
    intro k2 hk2 n
    induction n with
    | zero => intro t_rows v1 v2 v3 v4 H locs hP hD hS ls hl h; cases (fX8_commonOf_14_z k2 t_images t_rows v1 v2 v3 v4).symm.trans h
    | succ n ih =>
    intro t_rows v1 v2 v3 v4 H locs hP hD hS ls hl h
    have h := (fX8_commonOf_14_s k2 n t_images t_rows v1 v2 v3 v4).symm.trans h
    have hG := hGk hS
    refine lv_iload hx hb dX8_commonOf_14 (lv_at hl 4 rfl) ?_
    refine lv_aload_n hx hb dX8_commonOf_16 rfl (lv_at hl 0 rfl) ?_
    refine lv_iload_n hx hb dX8_commonOf_17 rfl (lv_at hl 2 rfl) ?_
    obtain ⟨r4, hr5, h⟩ := bnd h
    refine ro_i (runV (As := [.int v2]) (rest := [.int v4]) cx hl.1 (ctX8_manyIn l g a_t t_acted t_taped t_faultKind t_faultPlace t_at t_begin t_token t_value t_bad t_wide t_lost t_det t_mask t_mode t_wanted t_orders t_foundAt t_foundBy t_unlikes t_images v2 r4 hr5) kmX8_manyIn kvX8_manyIn lm_X8_407 ⟨rfl, rfl⟩ ⟨Nat.le_of_ble_eq_true rfl, Nat.le_of_ble_eq_true rfl⟩ (roV (q0 := 0) (ci := 7) hG (hP.sub [0, 1] rfl) hP rfl rfl) rfl rfl (Nat.le_of_ble_eq_true rfl) dX8_commonOf_18 ⟨Nat.le_of_ble_eq_true rfl, Nat.le_of_ble_eq_true rfl⟩) ?_
    refine lv_icmp_gt (tgt := 139) hx hb dX8_commonOf_21 (by decide) (fun c6 => ?_) (fun c6 => ?_)
    · have h := itp c6 h
      exact w139 _ hk2 t_rows v1 v2 v3 _ _ hP hD hS _ (lv_sub hl [0, 1, 2, 3] rfl) h
    · have h := itn c6 h
      refine lv_iconst (v := 0) hx hb dX8_commonOf_24 (by decide) ?_
      refine lv_istore (lv' := [(5, .int (0)), (0, .ref ((a_t 0))), (1, .int v1), (2, .int v2), (3, .int v3), (4, .int v4)]) hx hb dX8_commonOf_25 hl (by decide) rfl (fun ls hl => ?_)
      refine lv_iload_n hx hb dX8_commonOf_27 rfl (lv_at hl 4 rfl) ?_
      refine lv_if_le (tgt := 119) hx hb dX8_commonOf_28 (by decide) (fun c7 => ?_) (fun c7 => ?_)
      · have h := itp c7 h
        exact w119 _ hk2 _ ih t_rows v1 v2 v3 v4 0 _ _ hP hD hS _ (lv_sub hl [1, 2, 3, 4, 5, 0] rfl) h
      · have h := itn c7 h
        refine lv_iload hx hb dX8_commonOf_31 (lv_at hl 5 rfl) ?_
        refine lv_if_le (tgt := 119) hx hb dX8_commonOf_33 (by decide) (fun c8 => ?_) (fun c8 => ?_)
        · have h := itp c8 h
          exact w119 _ hk2 _ ih t_rows v1 v2 v3 v4 0 _ _ hP hD hS _ (lv_sub hl [1, 2, 3, 4, 5, 0] rfl) h
        · have h := itn c8 h
          refine lv_aload_n hx hb dX8_commonOf_36 rfl (lv_at hl 1 rfl) ?_
          refine xa_get (C := RX8) (T := TX8) (N := 36) cx hG hP 0 rfl rfl uX8 35 (by decide) lf_X8_77 rfl dX8_commonOf_37 ?_
          refine lv_bipush (v := 9) hx hb dX8_commonOf_40 (by decide) ?_
          refine lv_iload_n hx hb dX8_commonOf_42 rfl (lv_at hl 4 rfl) ?_
          refine lv_imul hx hb dX8_commonOf_43 ?_
          refine lv_bipush (v := 9) hx hb dX8_commonOf_44 (by decide) ?_
          refine lv_isub hx hb dX8_commonOf_46 ?_
          refine lv_iload hx hb dX8_commonOf_47 (lv_at hl 5 rfl) ?_
          refine lv_iadd hx hb dX8_commonOf_49 ?_
          obtain ⟨hi9, h⟩ := chk_out h
          refine xa_iald cx hG hP 2 rfl hi9 rfl dX8_commonOf_50 ?_
          refine lv_aload_n hx hb dX8_commonOf_51 rfl (lv_at hl 1 rfl) ?_
          refine xa_get (C := RX8) (T := TX8) (N := 36) cx hG hP 0 rfl rfl uX8 35 (by decide) lf_X8_77 rfl dX8_commonOf_52 ?_
          refine lv_bipush (v := 9) hx hb dX8_commonOf_55 (by decide) ?_
          refine lv_iload_n hx hb dX8_commonOf_57 rfl (lv_at hl 4 rfl) ?_
          refine lv_imul hx hb dX8_commonOf_58 ?_
          refine lv_iload hx hb dX8_commonOf_59 (lv_at hl 5 rfl) ?_
          refine lv_iadd hx hb dX8_commonOf_61 ?_
          refine lv_iconst (v := 1) hx hb dX8_commonOf_62 (by decide) ?_
          refine lv_isub hx hb dX8_commonOf_63 ?_
          obtain ⟨hi10, h⟩ := chk_out h
          refine xa_iald cx hG hP 2 rfl hi10 rfl dX8_commonOf_64 ?_
          refine xm_imax cx hl.1 lm_X8_233 ⟨ksJ9_max_7cf53, kmJ9_max_7cf53.2.1, kmJ9_max_7cf53.1⟩ (Nat.le_of_ble_eq_true rfl) (Nat.le_of_ble_eq_true rfl) (Nat.le_of_ble_eq_true rfl) (Nat.le_of_ble_eq_true rfl) dX8_commonOf_65 ?_
          refine lv_istore (lv' := [(5, .int (imax (t_rows (((9 * v3) - 9) + v4).toNatClampNeg) (t_rows (((9 * v3) + v4) - 1).toNatClampNeg))), (0, .ref ((a_t 0))), (1, .int v1), (2, .int v2), (3, .int v3), (4, .int v4)]) hx hb dX8_commonOf_68 hl (by decide) rfl (fun ls hl => ?_)
          refine lv_aload_n hx hb dX8_commonOf_70 rfl (lv_at hl 1 rfl) ?_
          refine lv_iload_n hx hb dX8_commonOf_71 rfl (lv_at hl 2 rfl) ?_
          refine lv_iload_n hx hb dX8_commonOf_72 rfl (lv_at hl 4 rfl) ?_
          refine lv_iconst (v := 1) hx hb dX8_commonOf_73 (by decide) ?_
          refine lv_isub hx hb dX8_commonOf_74 ?_
          obtain ⟨r11, hr12, h⟩ := bnd h
          refine ro_i (runV (As := [.int v1, .int (v3 - 1)]) (rest := []) cx hl.1 (ctX8_typeIn l g a_t t_acted t_taped t_faultKind t_faultPlace t_at t_begin t_token t_value t_bad t_wide t_lost t_det t_mask t_mode t_wanted t_orders t_foundAt t_foundBy t_unlikes t_images v1 (v3 - 1) r11 hr12) kmX8_typeIn kvX8_typeIn lm_X8_410 ⟨rfl, rfl⟩ ⟨Nat.le_of_ble_eq_true rfl, Nat.le_of_ble_eq_true rfl⟩ (roV (q0 := 0) (ci := 7) hG (hP.sub [0, 1] rfl) hP rfl rfl) rfl rfl (Nat.le_of_ble_eq_true rfl) dX8_commonOf_75 ⟨Nat.le_of_ble_eq_true rfl, Nat.le_of_ble_eq_true rfl⟩) ?_
          refine lv_aload_n hx hb dX8_commonOf_78 rfl (lv_at hl 1 rfl) ?_
          refine lv_iload_n hx hb dX8_commonOf_79 rfl (lv_at hl 3 rfl) ?_
          refine lv_iload hx hb dX8_commonOf_80 (lv_at hl 5 rfl) ?_
          refine lv_iconst (v := 1) hx hb dX8_commonOf_82 (by decide) ?_
          refine lv_isub hx hb dX8_commonOf_83 ?_
          obtain ⟨r13, hr14, h⟩ := bnd h
          refine ro_i (runV (As := [.int v2, .int (v4 - 1)]) (rest := [.int r11]) cx hl.1 (ctX8_typeIn l g a_t t_acted t_taped t_faultKind t_faultPlace t_at t_begin t_token t_value t_bad t_wide t_lost t_det t_mask t_mode t_wanted t_orders t_foundAt t_foundBy t_unlikes t_images v2 (v4 - 1) r13 hr14) kmX8_typeIn kvX8_typeIn lm_X8_410 ⟨rfl, rfl⟩ ⟨Nat.le_of_ble_eq_true rfl, Nat.le_of_ble_eq_true rfl⟩ (roV (q0 := 0) (ci := 7) hG (hP.sub [0, 1] rfl) hP rfl rfl) rfl rfl (Nat.le_of_ble_eq_true rfl) dX8_commonOf_84 ⟨Nat.le_of_ble_eq_true rfl, Nat.le_of_ble_eq_true rfl⟩) ?_
          refine lv_icmp_ne (tgt := 115) hx hb dX8_commonOf_87 (by decide) (fun c15 => ?_) (fun c15 => ?_)
          · have h := itn c15 h
            refine lv_iload hx hb dX8_commonOf_115 (lv_at hl 0 rfl) ?_
            exact w117 _ hk2 _ ih t_rows v1 v2 v3 v4 (imax (t_rows (((9 * v3) - 9) + v4).toNatClampNeg) (t_rows (((9 * v3) + v4) - 1).toNatClampNeg)) _ _ hP hD hS _ (lv_sub hl [1, 2, 3, 4, 5] rfl) h
          · have h := itp c15 h
            refine lv_iload hx hb dX8_commonOf_90 (lv_at hl 0 rfl) ?_
            refine lv_aload_n hx hb dX8_commonOf_92 rfl (lv_at hl 1 rfl) ?_
            refine xa_get (C := RX8) (T := TX8) (N := 36) cx hG hP 0 rfl rfl uX8 35 (by decide) lf_X8_77 rfl dX8_commonOf_93 ?_
            refine lv_bipush (v := 9) hx hb dX8_commonOf_96 (by decide) ?_
            refine lv_iload_n hx hb dX8_commonOf_98 rfl (lv_at hl 4 rfl) ?_
            refine lv_imul hx hb dX8_commonOf_99 ?_
            refine lv_bipush (v := 10) hx hb dX8_commonOf_100 (by decide) ?_
            refine lv_isub hx hb dX8_commonOf_102 ?_
            refine lv_iload hx hb dX8_commonOf_103 (lv_at hl 5 rfl) ?_
            refine lv_iadd hx hb dX8_commonOf_105 ?_
            obtain ⟨hi16, h⟩ := chk_out h
            refine xa_iald cx hG hP 2 rfl hi16 rfl dX8_commonOf_106 ?_
            refine lv_iconst (v := 1) hx hb dX8_commonOf_107 (by decide) ?_
            refine lv_iadd hx hb dX8_commonOf_108 ?_
            refine xm_imax cx hl.1 lm_X8_233 ⟨ksJ9_max_7cf53, kmJ9_max_7cf53.2.1, kmJ9_max_7cf53.1⟩ (Nat.le_of_ble_eq_true rfl) (Nat.le_of_ble_eq_true rfl) (Nat.le_of_ble_eq_true rfl) (Nat.le_of_ble_eq_true rfl) dX8_commonOf_109 ?_
            refine lv_goto (tgt := 117) hx hb dX8_commonOf_112 (by decide) ?_
            exact w117 _ hk2 _ ih t_rows v1 v2 v3 v4 (imax (imax (t_rows (((9 * v3) - 9) + v4).toNatClampNeg) (t_rows (((9 * v3) + v4) - 1).toNatClampNeg)) ((t_rows (((9 * v3) - 10) + v4).toNatClampNeg) + 1)) _ _ hP hD hS _ (lv_sub hl [1, 2, 3, 4, 5] rfl) h
  have w145 : ∀ (t_rows : Nat → Int32) (v1 : Int32) (v2 : Int32) (H : Heap) (locs : List Loc), va_P g.2.1 vwCl [((a_t 0), .inr (7, [.ref (a_t 1), .ref (a_t 2), .int t_acted, .ref (a_t 4), .ref (a_t 5), .ref (a_t 6), .ref (a_t 7), .ref (a_t 8), .ref (a_t 9), .int t_taped, .int t_faultKind, .int t_faultPlace, .int t_at, .int t_begin, .int t_token, .int t_value, .int t_bad, .ref (a_t 18), .ref (a_t 19), .ref (a_t 20), .int t_wide, .int t_lost, .ref (a_t 23), .long t_det, .ref (a_t 25), .int t_mask, .int t_mode, .int t_wanted, .int t_orders, .int t_foundAt, .long t_foundBy, .ref (a_t 32), .ref (a_t 33), .int t_unlikes, .ref (a_t 35), .ref (a_t 36)])), ((a_t 5), .inl (g.2.2.1 0, 81, .inl t_images)), ((a_t 36), .inl (g.2.2.1 0, 81, .inl t_rows))] H → va_D A [((a_t 0), .inr (7, [.ref (a_t 1), .ref (a_t 2), .int t_acted, .ref (a_t 4), .ref (a_t 5), .ref (a_t 6), .ref (a_t 7), .ref (a_t 8), .ref (a_t 9), .int t_taped, .int t_faultKind, .int t_faultPlace, .int t_at, .int t_begin, .int t_token, .int t_value, .int t_bad, .ref (a_t 18), .ref (a_t 19), .ref (a_t 20), .int t_wide, .int t_lost, .ref (a_t 23), .long t_det, .ref (a_t 25), .int t_mask, .int t_mode, .int t_wanted, .int t_orders, .int t_foundAt, .long t_foundBy, .ref (a_t 32), .ref (a_t 33), .int t_unlikes, .ref (a_t 35), .ref (a_t 36)])), ((a_t 5), .inl (g.2.2.1 0, 81, .inl t_images)), ((a_t 36), .inl (g.2.2.1 0, 81, .inl t_rows))] → va_S A s.heap H locs → ∀ (ls : Array Slot), lv_has ls 6 [(0, .ref ((a_t 0))), (1, .int v1), (2, .int v2)] → fX8_commonOf_145  t_images t_rows v1 v2 = some (o, o_t_rows) → W p l e ⟨1, 0, 0, 26⟩ s m args below meth c H locs 0 0 Q (F0 m 145 ls []) := by
    intro t_rows v1 v2 H locs hP hD hS ls hl h
    unfold fX8_commonOf_145 at h
    have hG := hGk hS
    refine lv_aload_n hx hb dX8_commonOf_145 rfl (lv_at hl 0 rfl) ?_
    refine xa_get (C := RX8) (T := TX8) (N := 36) cx hG hP 0 rfl rfl uX8 35 (by decide) lf_X8_77 rfl dX8_commonOf_146 ?_
    refine lv_bipush (v := 9) hx hb dX8_commonOf_149 (by decide) ?_
    refine lv_aload_n hx hb dX8_commonOf_151 rfl (lv_at hl 0 rfl) ?_
    refine lv_iload_n hx hb dX8_commonOf_152 rfl (lv_at hl 1 rfl) ?_
    obtain ⟨r18, hr19, h⟩ := bnd h
    refine ro_i (runV (As := [.int v1]) (rest := [.int (9), .ref ((a_t 36))]) cx hl.1 (ctX8_manyIn l g a_t t_acted t_taped t_faultKind t_faultPlace t_at t_begin t_token t_value t_bad t_wide t_lost t_det t_mask t_mode t_wanted t_orders t_foundAt t_foundBy t_unlikes t_images v1 r18 hr19) kmX8_manyIn kvX8_manyIn lm_X8_407 ⟨rfl, rfl⟩ ⟨Nat.le_of_ble_eq_true rfl, Nat.le_of_ble_eq_true rfl⟩ (roV (q0 := 0) (ci := 7) hG (hP.sub [0, 1] rfl) hP rfl rfl) rfl rfl (Nat.le_of_ble_eq_true rfl) dX8_commonOf_153 ⟨Nat.le_of_ble_eq_true rfl, Nat.le_of_ble_eq_true rfl⟩) ?_
    refine lv_imul hx hb dX8_commonOf_156 ?_
    refine lv_aload_n hx hb dX8_commonOf_157 rfl (lv_at hl 0 rfl) ?_
    refine lv_iload_n hx hb dX8_commonOf_158 rfl (lv_at hl 2 rfl) ?_
    obtain ⟨r20, hr21, h⟩ := bnd h
    refine ro_i (runV (As := [.int v2]) (rest := [.int (9 * r18), .ref ((a_t 36))]) cx hl.1 (ctX8_manyIn l g a_t t_acted t_taped t_faultKind t_faultPlace t_at t_begin t_token t_value t_bad t_wide t_lost t_det t_mask t_mode t_wanted t_orders t_foundAt t_foundBy t_unlikes t_images v2 r20 hr21) kmX8_manyIn kvX8_manyIn lm_X8_407 ⟨rfl, rfl⟩ ⟨Nat.le_of_ble_eq_true rfl, Nat.le_of_ble_eq_true rfl⟩ (roV (q0 := 0) (ci := 7) hG (hP.sub [0, 1] rfl) hP rfl rfl) rfl rfl (Nat.le_of_ble_eq_true rfl) dX8_commonOf_159 ⟨Nat.le_of_ble_eq_true rfl, Nat.le_of_ble_eq_true rfl⟩) ?_
    refine lv_iadd hx hb dX8_commonOf_162 ?_
    obtain ⟨hi22, h⟩ := chk_out h
    refine xa_iald cx hG hP 2 rfl hi22 rfl dX8_commonOf_163 ?_
    exact hrt (fun _ => 0) _ _ ((t_rows ((9 * r18) + r20).toNatClampNeg)) t_rows _ _ dX8_commonOf_164 h (hP.sub [0, 1, 2] rfl) (hD.sub [0, 1, 2] (by decide) rfl) hS
  have w2 : ∀ (n : Nat) (t_rows : Nat → Int32) (v1 : Int32) (v2 : Int32) (v3 : Int32) (H : Heap) (locs : List Loc), va_P g.2.1 vwCl [((a_t 0), .inr (7, [.ref (a_t 1), .ref (a_t 2), .int t_acted, .ref (a_t 4), .ref (a_t 5), .ref (a_t 6), .ref (a_t 7), .ref (a_t 8), .ref (a_t 9), .int t_taped, .int t_faultKind, .int t_faultPlace, .int t_at, .int t_begin, .int t_token, .int t_value, .int t_bad, .ref (a_t 18), .ref (a_t 19), .ref (a_t 20), .int t_wide, .int t_lost, .ref (a_t 23), .long t_det, .ref (a_t 25), .int t_mask, .int t_mode, .int t_wanted, .int t_orders, .int t_foundAt, .long t_foundBy, .ref (a_t 32), .ref (a_t 33), .int t_unlikes, .ref (a_t 35), .ref (a_t 36)])), ((a_t 5), .inl (g.2.2.1 0, 81, .inl t_images)), ((a_t 36), .inl (g.2.2.1 0, 81, .inl t_rows))] H → va_D A [((a_t 0), .inr (7, [.ref (a_t 1), .ref (a_t 2), .int t_acted, .ref (a_t 4), .ref (a_t 5), .ref (a_t 6), .ref (a_t 7), .ref (a_t 8), .ref (a_t 9), .int t_taped, .int t_faultKind, .int t_faultPlace, .int t_at, .int t_begin, .int t_token, .int t_value, .int t_bad, .ref (a_t 18), .ref (a_t 19), .ref (a_t 20), .int t_wide, .int t_lost, .ref (a_t 23), .long t_det, .ref (a_t 25), .int t_mask, .int t_mode, .int t_wanted, .int t_orders, .int t_foundAt, .long t_foundBy, .ref (a_t 32), .ref (a_t 33), .int t_unlikes, .ref (a_t 35), .ref (a_t 36)])), ((a_t 5), .inl (g.2.2.1 0, 81, .inl t_images)), ((a_t 36), .inl (g.2.2.1 0, 81, .inl t_rows))] → va_S A s.heap H locs → ∀ (ls : Array Slot), lv_has ls 6 [(0, .ref ((a_t 0))), (1, .int v1), (2, .int v2), (3, .int v3)] → fX8_commonOf_2  n t_images t_rows v1 v2 v3 = some (o, o_t_rows) → W p l e ⟨1, 0, 0, 26⟩ s m args below meth c H locs 0 0 Q (F0 m 2 ls []) := by
    intro n
    induction n with
    | zero => intro t_rows v1 v2 v3 H locs hP hD hS ls hl h; cases (fX8_commonOf_2_z  t_images t_rows v1 v2 v3).symm.trans h
    | succ n ih =>
    intro t_rows v1 v2 v3 H locs hP hD hS ls hl h
    have h := (fX8_commonOf_2_s  n t_images t_rows v1 v2 v3).symm.trans h
    have hG := hGk hS
    refine lv_iload_n hx hb dX8_commonOf_2 rfl (lv_at hl 3 rfl) ?_
    refine lv_aload_n hx hb dX8_commonOf_3 rfl (lv_at hl 0 rfl) ?_
    refine lv_iload_n hx hb dX8_commonOf_4 rfl (lv_at hl 1 rfl) ?_
    obtain ⟨r1, hr2, h⟩ := bnd h
    refine ro_i (runV (As := [.int v1]) (rest := [.int v3]) cx hl.1 (ctX8_manyIn l g a_t t_acted t_taped t_faultKind t_faultPlace t_at t_begin t_token t_value t_bad t_wide t_lost t_det t_mask t_mode t_wanted t_orders t_foundAt t_foundBy t_unlikes t_images v1 r1 hr2) kmX8_manyIn kvX8_manyIn lm_X8_407 ⟨rfl, rfl⟩ ⟨Nat.le_of_ble_eq_true rfl, Nat.le_of_ble_eq_true rfl⟩ (roV (q0 := 0) (ci := 7) hG (hP.sub [0, 1] rfl) hP rfl rfl) rfl rfl (Nat.le_of_ble_eq_true rfl) dX8_commonOf_5 ⟨Nat.le_of_ble_eq_true rfl, Nat.le_of_ble_eq_true rfl⟩) ?_
    refine lv_icmp_gt (tgt := 145) hx hb dX8_commonOf_8 (by decide) (fun c3 => ?_) (fun c3 => ?_)
    · have h := itp c3 h
      exact w145 t_rows v1 v2 _ _ hP hD hS _ (lv_sub hl [0, 1, 2] rfl) h
    · have h := itn c3 h
      refine lv_iconst (v := 0) hx hb dX8_commonOf_11 (by decide) ?_
      refine lv_istore (lv' := [(4, .int (0)), (0, .ref ((a_t 0))), (1, .int v1), (2, .int v2), (3, .int v3)]) hx hb dX8_commonOf_12 hl (by decide) rfl (fun ls hl => ?_)
      exact w14 _ ih FU t_rows v1 v2 v3 0 _ _ hP hD hS _ (lv_sub hl [1, 2, 3, 4, 0] rfl) h
  unfold fX8_commonOf at h
  refine lv_iconst (v := 0) hx hb dX8_commonOf_0 (by decide) ?_
  refine lv_istore_n (lv' := [(3, .int (0)), (0, .ref ((a_t 0))), (1, .int v1), (2, .int v2)]) hx hb dX8_commonOf_1 rfl hl (by decide) rfl (fun ls hl => ?_)
  exact w2 FU t_rows v1 v2 0 _ _ hP hD hS _ (lv_sub hl [1, 2, 3, 0] rfl) h
-- X8_partOf
theorem dX8_partOf_0 : decode cX8_partOf 0 = .ok (.aload_n 0, 1) := by decide +kernel
theorem dX8_partOf_1 : decode cX8_partOf 1 = .ok (.iload_n 1, 1) := by decide +kernel
theorem dX8_partOf_2 : decode cX8_partOf 2 = .ok (.iload_n 2, 1) := by decide +kernel
theorem dX8_partOf_3 : decode cX8_partOf 3 = .ok (.invokevirtual 413, 3) := by decide +kernel
theorem dX8_partOf_6 : decode cX8_partOf 6 = .ok (.istore_n 3, 1) := by decide +kernel
theorem dX8_partOf_7 : decode cX8_partOf 7 = .ok (.iload_n 3, 1) := by decide +kernel
theorem dX8_partOf_8 : decode cX8_partOf 8 = .ok (.ifCond .ge 7, 3) := by decide +kernel
theorem dX8_partOf_11 : decode cX8_partOf 11 = .ok (.iload_n 3, 1) := by decide +kernel
theorem dX8_partOf_12 : decode cX8_partOf 12 = .ok (.goto 22, 3) := by decide +kernel
theorem dX8_partOf_15 : decode cX8_partOf 15 = .ok (.aload_n 0, 1) := by decide +kernel
theorem dX8_partOf_16 : decode cX8_partOf 16 = .ok (.iload_n 1, 1) := by decide +kernel
theorem dX8_partOf_17 : decode cX8_partOf 17 = .ok (.iload_n 2, 1) := by decide +kernel
theorem dX8_partOf_18 : decode cX8_partOf 18 = .ok (.invokevirtual 416, 3) := by decide +kernel
theorem dX8_partOf_21 : decode cX8_partOf 21 = .ok (.aload_n 0, 1) := by decide +kernel
theorem dX8_partOf_22 : decode cX8_partOf 22 = .ok (.iload_n 1, 1) := by decide +kernel
theorem dX8_partOf_23 : decode cX8_partOf 23 = .ok (.invokevirtual 407, 3) := by decide +kernel
theorem dX8_partOf_26 : decode cX8_partOf 26 = .ok (.if_icmp .ne 7, 3) := by decide +kernel
theorem dX8_partOf_29 : decode cX8_partOf 29 = .ok (.iconst 1, 1) := by decide +kernel
theorem dX8_partOf_30 : decode cX8_partOf 30 = .ok (.goto 4, 3) := by decide +kernel
theorem dX8_partOf_33 : decode cX8_partOf 33 = .ok (.iconst 0, 1) := by decide +kernel
theorem dX8_partOf_34 : decode cX8_partOf 34 = .ok (.ireturn, 1) := by decide +kernel
noncomputable def fX8_partOf  (t_images : Nat → Int32) (t_hasImage : Nat → Int32) (t_rows : Nat → Int32) (v1 : Int32) (v2 : Int32) : Option (Int32 × (Nat → Int32)) := (fX8_why t_hasImage v1 v2).bind fun r1 => (if 0 ≤ r1 then ob2 (fX8_commonOf t_images t_rows v1 v2) fun r5 w6 => (fX8_manyIn t_images v1).bind fun r8 => (if r5 = r8 then some ((1), w6) else some ((0), w6)) else some (r1, t_rows))
set_option maxHeartbeats 4000000 in
set_option maxRecDepth 100000 in
theorem ctX8_partOf (l : Launch) (g : GT) (sz : Nat) (a_t : Nat → Nat) (t_acted : Int32) (t_taped : Int32) (t_faultKind : Int32) (t_faultPlace : Int32) (t_at : Int32) (t_begin : Int32) (t_token : Int32) (t_value : Int32) (t_bad : Int32) (t_wide : Int32) (t_lost : Int32) (t_det : Int64) (t_mask : Int32) (t_mode : Int32) (t_wanted : Int32) (t_orders : Int32) (t_foundAt : Int32) (t_foundBy : Int64) (t_unlikes : Int32) (t_images : Nat → Int32) (t_hasImage : Nat → Int32) (t_rows : Nat → Int32) (v1 : Int32) (v2 : Int32) (o : Int32) (o_t_rows : Nat → Int32) (h : fX8_partOf t_images t_hasImage t_rows v1 v2 = some (o, o_t_rows)) : Met l yX8_partOf (Cond.code yX8_partOf cX8_partOf 4 (some .int) :: Tw) ⟨3, 0, 0, 67⟩ (va_Pc [.ref ((a_t 0)), .int v1, .int v2] (rwB g [((a_t 0), .inr (7, [.ref (a_t 1), .ref (a_t 2), .int t_acted, .ref (a_t 4), .ref (a_t 5), .ref (a_t 6), .ref (a_t 7), .ref (a_t 8), .ref (a_t 9), .int t_taped, .int t_faultKind, .int t_faultPlace, .int t_at, .int t_begin, .int t_token, .int t_value, .int t_bad, .ref (a_t 18), .ref (a_t 19), .ref (a_t 20), .int t_wide, .int t_lost, .ref (a_t 23), .long t_det, .ref (a_t 25), .int t_mask, .int t_mode, .int t_wanted, .int t_orders, .int t_foundAt, .long t_foundBy, .ref (a_t 32), .ref (a_t 33), .int t_unlikes, .ref (a_t 35), .ref (a_t 36)])), ((a_t 5), .inl (g.2.2.1 0, 81, .inl t_images)), ((a_t 8), .inl (g.2.2.1 3, 3, .inl t_hasImage)), ((a_t 36), .inl (g.2.2.1 0, 81, .inl t_rows))] sz)) (va_Qi (fun x (_ : Nat → Nat) => x = o) (fun u => rwE g (va_A [((a_t 0), .inr (7, [.ref (a_t 1), .ref (a_t 2), .int t_acted, .ref (a_t 4), .ref (a_t 5), .ref (a_t 6), .ref (a_t 7), .ref (a_t 8), .ref (a_t 9), .int t_taped, .int t_faultKind, .int t_faultPlace, .int t_at, .int t_begin, .int t_token, .int t_value, .int t_bad, .ref (a_t 18), .ref (a_t 19), .ref (a_t 20), .int t_wide, .int t_lost, .ref (a_t 23), .long t_det, .ref (a_t 25), .int t_mask, .int t_mode, .int t_wanted, .int t_orders, .int t_foundAt, .long t_foundBy, .ref (a_t 32), .ref (a_t 33), .int t_unlikes, .ref (a_t 35), .ref (a_t 36)])), ((a_t 5), .inl (g.2.2.1 0, 81, .inl t_images)), ((a_t 8), .inl (g.2.2.1 3, 3, .inl t_hasImage)), ((a_t 36), .inl (g.2.2.1 0, 81, .inl t_rows))] sz) [((a_t 0), .inr (7, [.ref (a_t 1), .ref (a_t 2), .int t_acted, .ref (a_t 4), .ref (a_t 5), .ref (a_t 6), .ref (a_t 7), .ref (a_t 8), .ref (a_t 9), .int t_taped, .int t_faultKind, .int t_faultPlace, .int t_at, .int t_begin, .int t_token, .int t_value, .int t_bad, .ref (a_t 18), .ref (a_t 19), .ref (a_t 20), .int t_wide, .int t_lost, .ref (a_t 23), .long t_det, .ref (a_t 25), .int t_mask, .int t_mode, .int t_wanted, .int t_orders, .int t_foundAt, .long t_foundBy, .ref (a_t 32), .ref (a_t 33), .int t_unlikes, .ref (a_t 35), .ref (a_t 36)])), ((a_t 5), .inl (g.2.2.1 0, 81, .inl t_images)), ((a_t 8), .inl (g.2.2.1 3, 3, .inl t_hasImage)), ((a_t 36), .inl (g.2.2.1 0, 81, .inl o_t_rows))]) (va_A [((a_t 0), .inr (7, [.ref (a_t 1), .ref (a_t 2), .int t_acted, .ref (a_t 4), .ref (a_t 5), .ref (a_t 6), .ref (a_t 7), .ref (a_t 8), .ref (a_t 9), .int t_taped, .int t_faultKind, .int t_faultPlace, .int t_at, .int t_begin, .int t_token, .int t_value, .int t_bad, .ref (a_t 18), .ref (a_t 19), .ref (a_t 20), .int t_wide, .int t_lost, .ref (a_t 23), .long t_det, .ref (a_t 25), .int t_mask, .int t_mode, .int t_wanted, .int t_orders, .int t_foundAt, .long t_foundBy, .ref (a_t 32), .ref (a_t 33), .int t_unlikes, .ref (a_t 35), .ref (a_t 36)])), ((a_t 5), .inl (g.2.2.1 0, 81, .inl t_images)), ((a_t 8), .inl (g.2.2.1 3, 3, .inl t_hasImage)), ((a_t 36), .inl (g.2.2.1 0, 81, .inl t_rows))] sz)) 0 0 (va_A [((a_t 0), .inr (7, [.ref (a_t 1), .ref (a_t 2), .int t_acted, .ref (a_t 4), .ref (a_t 5), .ref (a_t 6), .ref (a_t 7), .ref (a_t 8), .ref (a_t 9), .int t_taped, .int t_faultKind, .int t_faultPlace, .int t_at, .int t_begin, .int t_token, .int t_value, .int t_bad, .ref (a_t 18), .ref (a_t 19), .ref (a_t 20), .int t_wide, .int t_lost, .ref (a_t 23), .long t_det, .ref (a_t 25), .int t_mask, .int t_mode, .int t_wanted, .int t_orders, .int t_foundAt, .long t_foundBy, .ref (a_t 32), .ref (a_t 33), .int t_unlikes, .ref (a_t 35), .ref (a_t 36)])), ((a_t 5), .inl (g.2.2.1 0, 81, .inl t_images)), ((a_t 8), .inl (g.2.2.1 3, 3, .inl t_hasImage)), ((a_t 36), .inl (g.2.2.1 0, 81, .inl t_rows))] sz) := by
  refine rw_meti (by decide) (Nat.le_of_ble_eq_true rfl) (lv0 := [(0, .ref ((a_t 0))), (1, .int v1), (2, .int v2)]) rfl ?_
  intro p e s m args below meth c ls Q A cx hret hG hAb hb0 hA hP hD hl
  have hx := cx.1
  have hb := cx.2.1
  have hG0 := hG
  have hGk : ∀ {H : Heap} {locs : List Loc}, va_S A s.heap H locs → GE g s H := fun hS => hG0.keptS hAb hS
  have hSb : ∀ {H : Heap} {locs : List Loc}, va_S A s.heap H locs → va_S (fun a => g.1 ≤ a) s.heap H locs := fun hS => ⟨hS.1, fun q h1 h2 => hS.2.1 q h1 (fun z => h2 (hAb q z)), fun l hl => hAb _ (hS.2.2 l hl)⟩
  have hS : va_S A s.heap s.heap [] := va_S.rf
  have hrt : ∀ (u : Nat → Nat) (pc : Nat) (ls : Array Slot) (v : Int32) (x_t_rows : Nat → Int32) (H : Heap) (locs : List Loc), decode cX8_partOf pc = .ok (.ireturn, 1) → some (v, x_t_rows) = some (o, o_t_rows) → va_P g.2.1 vwCl [((a_t 0), .inr (7, [.ref (a_t 1), .ref (a_t 2), .int t_acted, .ref (a_t 4), .ref (a_t 5), .ref (a_t 6), .ref (a_t 7), .ref (a_t 8), .ref (a_t 9), .int t_taped, .int t_faultKind, .int t_faultPlace, .int t_at, .int t_begin, .int t_token, .int t_value, .int t_bad, .ref (a_t 18), .ref (a_t 19), .ref (a_t 20), .int t_wide, .int t_lost, .ref (a_t 23), .long t_det, .ref (a_t 25), .int t_mask, .int t_mode, .int t_wanted, .int t_orders, .int t_foundAt, .long t_foundBy, .ref (a_t 32), .ref (a_t 33), .int t_unlikes, .ref (a_t 35), .ref (a_t 36)])), ((a_t 5), .inl (g.2.2.1 0, 81, .inl t_images)), ((a_t 8), .inl (g.2.2.1 3, 3, .inl t_hasImage)), ((a_t 36), .inl (g.2.2.1 0, 81, .inl x_t_rows))] H → va_D A [((a_t 0), .inr (7, [.ref (a_t 1), .ref (a_t 2), .int t_acted, .ref (a_t 4), .ref (a_t 5), .ref (a_t 6), .ref (a_t 7), .ref (a_t 8), .ref (a_t 9), .int t_taped, .int t_faultKind, .int t_faultPlace, .int t_at, .int t_begin, .int t_token, .int t_value, .int t_bad, .ref (a_t 18), .ref (a_t 19), .ref (a_t 20), .int t_wide, .int t_lost, .ref (a_t 23), .long t_det, .ref (a_t 25), .int t_mask, .int t_mode, .int t_wanted, .int t_orders, .int t_foundAt, .long t_foundBy, .ref (a_t 32), .ref (a_t 33), .int t_unlikes, .ref (a_t 35), .ref (a_t 36)])), ((a_t 5), .inl (g.2.2.1 0, 81, .inl t_images)), ((a_t 8), .inl (g.2.2.1 3, 3, .inl t_hasImage)), ((a_t 36), .inl (g.2.2.1 0, 81, .inl x_t_rows))] → va_S A s.heap H locs → W p l e ⟨3, 0, 0, 67⟩ s m args below meth c H locs 0 0 Q (F0 m pc ls [.int v]) := by
    intro u pc ls v x_t_rows H locs hd h hP hD hS
    cases h
    exact hret u _ _ _ _ _ hd rfl hP hD hS
  unfold fX8_partOf at h
  refine lv_aload_n hx hb dX8_partOf_0 rfl (lv_at hl 0 rfl) ?_
  refine lv_iload_n hx hb dX8_partOf_1 rfl (lv_at hl 1 rfl) ?_
  refine lv_iload_n hx hb dX8_partOf_2 rfl (lv_at hl 2 rfl) ?_
  obtain ⟨r1, hr2, h⟩ := bnd h
  refine ro_i (runV (As := [.int v1, .int v2]) (rest := []) cx hl.1 (ctX8_why l g a_t t_acted t_taped t_faultKind t_faultPlace t_at t_begin t_token t_value t_bad t_wide t_lost t_det t_mask t_mode t_wanted t_orders t_foundAt t_foundBy t_unlikes t_hasImage v1 v2 r1 hr2) kmX8_why kvX8_why lm_X8_413 ⟨rfl, rfl⟩ ⟨Nat.le_of_ble_eq_true rfl, Nat.le_of_ble_eq_true rfl⟩ (roV (q0 := 0) (ci := 7) hG (hP.sub [0, 2] rfl) hP rfl rfl) rfl rfl (Nat.le_of_ble_eq_true rfl) dX8_partOf_3 ⟨Nat.le_of_ble_eq_true rfl, Nat.le_of_ble_eq_true rfl⟩) ?_
  refine lv_istore_n (lv' := [(3, .int r1), (0, .ref ((a_t 0))), (1, .int v1), (2, .int v2)]) hx hb dX8_partOf_6 rfl hl (by decide) rfl (fun ls hl => ?_)
  refine lv_iload_n hx hb dX8_partOf_7 rfl (lv_at hl 0 rfl) ?_
  refine lv_if_ge (tgt := 15) hx hb dX8_partOf_8 (by decide) (fun c3 => ?_) (fun c3 => ?_)
  · have h := itp c3 h
    refine lv_aload_n hx hb dX8_partOf_15 rfl (lv_at hl 1 rfl) ?_
    refine lv_iload_n hx hb dX8_partOf_16 rfl (lv_at hl 2 rfl) ?_
    refine lv_iload_n hx hb dX8_partOf_17 rfl (lv_at hl 3 rfl) ?_
    obtain ⟨r5, w6, hr4, h⟩ := ob2_out h
    refine rw_i (WN := fun u7 => [((a_t 8), .inl (g.2.2.1 3, 3, .inl t_hasImage)), ((a_t 0), .inr (7, [.ref (a_t 1), .ref (a_t 2), .int t_acted, .ref (a_t 4), .ref (a_t 5), .ref (a_t 6), .ref (a_t 7), .ref (a_t 8), .ref (a_t 9), .int t_taped, .int t_faultKind, .int t_faultPlace, .int t_at, .int t_begin, .int t_token, .int t_value, .int t_bad, .ref (a_t 18), .ref (a_t 19), .ref (a_t 20), .int t_wide, .int t_lost, .ref (a_t 23), .long t_det, .ref (a_t 25), .int t_mask, .int t_mode, .int t_wanted, .int t_orders, .int t_foundAt, .long t_foundBy, .ref (a_t 32), .ref (a_t 33), .int t_unlikes, .ref (a_t 35), .ref (a_t 36)])), ((a_t 5), .inl (g.2.2.1 0, 81, .inl t_images)), ((a_t 36), .inl (g.2.2.1 0, 81, .inl w6))]) (wr := [((a_t 8), .inl (g.2.2.1 3, 3, .inl t_hasImage))]) (runV (As := [.int v1, .int v2]) (rest := []) cx hl.1 (ctX8_commonOf l g s.heap.size a_t t_acted t_taped t_faultKind t_faultPlace t_at t_begin t_token t_value t_bad t_wide t_lost t_det t_mask t_mode t_wanted t_orders t_foundAt t_foundBy t_unlikes t_images t_rows v1 v2 r5 w6 hr4) kmX8_commonOf kvX8_commonOf lm_X8_416 ⟨rfl, rfl⟩ ⟨Nat.le_of_ble_eq_true rfl, Nat.le_of_ble_eq_true rfl⟩ (rwV (q0 := 0) (ci := 7) hG (hP.sub [0, 1, 3] rfl) (hD.sub [0, 1, 3] (by decide) rfl) hAb hb0 hS hP rfl rfl) rfl rfl (Nat.le_of_ble_eq_true rfl) dX8_partOf_18 ⟨Nat.le_of_ble_eq_true rfl, Nat.le_of_ble_eq_true rfl⟩) hP hD hS hA [0, 1, 3] [2] rfl rfl (by decide) (by decide) (fun _ => rfl) (fun u7 H locs hP hD hS => ?_)
    have hG := hGk hS
    refine lv_aload_n hx hb dX8_partOf_21 rfl (lv_at hl 1 rfl) ?_
    refine lv_iload_n hx hb dX8_partOf_22 rfl (lv_at hl 2 rfl) ?_
    obtain ⟨r8, hr9, h⟩ := bnd h
    refine ro_i (runV (As := [.int v1]) (rest := [.int r5]) cx hl.1 (ctX8_manyIn l g a_t t_acted t_taped t_faultKind t_faultPlace t_at t_begin t_token t_value t_bad t_wide t_lost t_det t_mask t_mode t_wanted t_orders t_foundAt t_foundBy t_unlikes t_images v1 r8 hr9) kmX8_manyIn kvX8_manyIn lm_X8_407 ⟨rfl, rfl⟩ ⟨Nat.le_of_ble_eq_true rfl, Nat.le_of_ble_eq_true rfl⟩ (roV (q0 := 1) (ci := 7) hG (hP.sub [1, 2] rfl) hP rfl rfl) rfl rfl (Nat.le_of_ble_eq_true rfl) dX8_partOf_23 ⟨Nat.le_of_ble_eq_true rfl, Nat.le_of_ble_eq_true rfl⟩) ?_
    refine lv_icmp_ne (tgt := 33) hx hb dX8_partOf_26 (by decide) (fun c10 => ?_) (fun c10 => ?_)
    · have h := itn c10 h
      refine lv_iconst (v := 0) hx hb dX8_partOf_33 (by decide) ?_
      exact hrt (fun _ => 0) _ _ ((0)) w6 _ _ dX8_partOf_34 h (hP.sub [1, 2, 0, 3] rfl) (hD.sub [1, 2, 0, 3] (by decide) rfl) hS
    · have h := itp c10 h
      refine lv_iconst (v := 1) hx hb dX8_partOf_29 (by decide) ?_
      refine lv_goto (tgt := 34) hx hb dX8_partOf_30 (by decide) ?_
      exact hrt (fun _ => 0) _ _ ((1)) w6 _ _ dX8_partOf_34 h (hP.sub [1, 2, 0, 3] rfl) (hD.sub [1, 2, 0, 3] (by decide) rfl) hS
  · have h := itn c3 h
    refine lv_iload_n hx hb dX8_partOf_11 rfl (lv_at hl 0 rfl) ?_
    refine lv_goto (tgt := 34) hx hb dX8_partOf_12 (by decide) ?_
    exact hrt (fun _ => 0) _ _ r1 t_rows _ _ dX8_partOf_34 h (hP.sub [0, 1, 2, 3] rfl) (hD.sub [0, 1, 2, 3] (by decide) rfl) hS
-- X8_common_
theorem dX8_common__0 : decode cX8_common_ 0 = .ok (.aload_n 0, 1) := by decide +kernel
theorem dX8_common__1 : decode cX8_common_ 1 = .ok (.iload_n 1, 1) := by decide +kernel
theorem dX8_common__2 : decode cX8_common_ 2 = .ok (.iload_n 2, 1) := by decide +kernel
theorem dX8_common__3 : decode cX8_common_ 3 = .ok (.invokevirtual 413, 3) := by decide +kernel
theorem dX8_common__6 : decode cX8_common_ 6 = .ok (.istore_n 3, 1) := by decide +kernel
theorem dX8_common__7 : decode cX8_common_ 7 = .ok (.iload_n 3, 1) := by decide +kernel
theorem dX8_common__8 : decode cX8_common_ 8 = .ok (.ifCond .ge 7, 3) := by decide +kernel
theorem dX8_common__11 : decode cX8_common_ 11 = .ok (.iload_n 3, 1) := by decide +kernel
theorem dX8_common__12 : decode cX8_common_ 12 = .ok (.goto 9, 3) := by decide +kernel
theorem dX8_common__15 : decode cX8_common_ 15 = .ok (.aload_n 0, 1) := by decide +kernel
theorem dX8_common__16 : decode cX8_common_ 16 = .ok (.iload_n 1, 1) := by decide +kernel
theorem dX8_common__17 : decode cX8_common_ 17 = .ok (.iload_n 2, 1) := by decide +kernel
theorem dX8_common__18 : decode cX8_common_ 18 = .ok (.invokevirtual 416, 3) := by decide +kernel
theorem dX8_common__21 : decode cX8_common_ 21 = .ok (.ireturn, 1) := by decide +kernel
noncomputable def fX8_common_  (t_images : Nat → Int32) (t_hasImage : Nat → Int32) (t_rows : Nat → Int32) (v1 : Int32) (v2 : Int32) : Option (Int32 × (Nat → Int32)) := (fX8_why t_hasImage v1 v2).bind fun r1 => (if 0 ≤ r1 then ob2 (fX8_commonOf t_images t_rows v1 v2) fun r5 w6 => some (r5, w6) else some (r1, t_rows))
set_option maxHeartbeats 4000000 in
set_option maxRecDepth 100000 in
theorem ctX8_common_ (l : Launch) (g : GT) (sz : Nat) (a_t : Nat → Nat) (t_acted : Int32) (t_taped : Int32) (t_faultKind : Int32) (t_faultPlace : Int32) (t_at : Int32) (t_begin : Int32) (t_token : Int32) (t_value : Int32) (t_bad : Int32) (t_wide : Int32) (t_lost : Int32) (t_det : Int64) (t_mask : Int32) (t_mode : Int32) (t_wanted : Int32) (t_orders : Int32) (t_foundAt : Int32) (t_foundBy : Int64) (t_unlikes : Int32) (t_images : Nat → Int32) (t_hasImage : Nat → Int32) (t_rows : Nat → Int32) (v1 : Int32) (v2 : Int32) (o : Int32) (o_t_rows : Nat → Int32) (h : fX8_common_ t_images t_hasImage t_rows v1 v2 = some (o, o_t_rows)) : Met l yX8_common_ (Cond.code yX8_common_ cX8_common_ 4 (some .int) :: Tw) ⟨3, 0, 0, 67⟩ (va_Pc [.ref ((a_t 0)), .int v1, .int v2] (rwB g [((a_t 0), .inr (7, [.ref (a_t 1), .ref (a_t 2), .int t_acted, .ref (a_t 4), .ref (a_t 5), .ref (a_t 6), .ref (a_t 7), .ref (a_t 8), .ref (a_t 9), .int t_taped, .int t_faultKind, .int t_faultPlace, .int t_at, .int t_begin, .int t_token, .int t_value, .int t_bad, .ref (a_t 18), .ref (a_t 19), .ref (a_t 20), .int t_wide, .int t_lost, .ref (a_t 23), .long t_det, .ref (a_t 25), .int t_mask, .int t_mode, .int t_wanted, .int t_orders, .int t_foundAt, .long t_foundBy, .ref (a_t 32), .ref (a_t 33), .int t_unlikes, .ref (a_t 35), .ref (a_t 36)])), ((a_t 5), .inl (g.2.2.1 0, 81, .inl t_images)), ((a_t 8), .inl (g.2.2.1 3, 3, .inl t_hasImage)), ((a_t 36), .inl (g.2.2.1 0, 81, .inl t_rows))] sz)) (va_Qi (fun x (_ : Nat → Nat) => x = o) (fun u => rwE g (va_A [((a_t 0), .inr (7, [.ref (a_t 1), .ref (a_t 2), .int t_acted, .ref (a_t 4), .ref (a_t 5), .ref (a_t 6), .ref (a_t 7), .ref (a_t 8), .ref (a_t 9), .int t_taped, .int t_faultKind, .int t_faultPlace, .int t_at, .int t_begin, .int t_token, .int t_value, .int t_bad, .ref (a_t 18), .ref (a_t 19), .ref (a_t 20), .int t_wide, .int t_lost, .ref (a_t 23), .long t_det, .ref (a_t 25), .int t_mask, .int t_mode, .int t_wanted, .int t_orders, .int t_foundAt, .long t_foundBy, .ref (a_t 32), .ref (a_t 33), .int t_unlikes, .ref (a_t 35), .ref (a_t 36)])), ((a_t 5), .inl (g.2.2.1 0, 81, .inl t_images)), ((a_t 8), .inl (g.2.2.1 3, 3, .inl t_hasImage)), ((a_t 36), .inl (g.2.2.1 0, 81, .inl t_rows))] sz) [((a_t 0), .inr (7, [.ref (a_t 1), .ref (a_t 2), .int t_acted, .ref (a_t 4), .ref (a_t 5), .ref (a_t 6), .ref (a_t 7), .ref (a_t 8), .ref (a_t 9), .int t_taped, .int t_faultKind, .int t_faultPlace, .int t_at, .int t_begin, .int t_token, .int t_value, .int t_bad, .ref (a_t 18), .ref (a_t 19), .ref (a_t 20), .int t_wide, .int t_lost, .ref (a_t 23), .long t_det, .ref (a_t 25), .int t_mask, .int t_mode, .int t_wanted, .int t_orders, .int t_foundAt, .long t_foundBy, .ref (a_t 32), .ref (a_t 33), .int t_unlikes, .ref (a_t 35), .ref (a_t 36)])), ((a_t 5), .inl (g.2.2.1 0, 81, .inl t_images)), ((a_t 8), .inl (g.2.2.1 3, 3, .inl t_hasImage)), ((a_t 36), .inl (g.2.2.1 0, 81, .inl o_t_rows))]) (va_A [((a_t 0), .inr (7, [.ref (a_t 1), .ref (a_t 2), .int t_acted, .ref (a_t 4), .ref (a_t 5), .ref (a_t 6), .ref (a_t 7), .ref (a_t 8), .ref (a_t 9), .int t_taped, .int t_faultKind, .int t_faultPlace, .int t_at, .int t_begin, .int t_token, .int t_value, .int t_bad, .ref (a_t 18), .ref (a_t 19), .ref (a_t 20), .int t_wide, .int t_lost, .ref (a_t 23), .long t_det, .ref (a_t 25), .int t_mask, .int t_mode, .int t_wanted, .int t_orders, .int t_foundAt, .long t_foundBy, .ref (a_t 32), .ref (a_t 33), .int t_unlikes, .ref (a_t 35), .ref (a_t 36)])), ((a_t 5), .inl (g.2.2.1 0, 81, .inl t_images)), ((a_t 8), .inl (g.2.2.1 3, 3, .inl t_hasImage)), ((a_t 36), .inl (g.2.2.1 0, 81, .inl t_rows))] sz)) 0 0 (va_A [((a_t 0), .inr (7, [.ref (a_t 1), .ref (a_t 2), .int t_acted, .ref (a_t 4), .ref (a_t 5), .ref (a_t 6), .ref (a_t 7), .ref (a_t 8), .ref (a_t 9), .int t_taped, .int t_faultKind, .int t_faultPlace, .int t_at, .int t_begin, .int t_token, .int t_value, .int t_bad, .ref (a_t 18), .ref (a_t 19), .ref (a_t 20), .int t_wide, .int t_lost, .ref (a_t 23), .long t_det, .ref (a_t 25), .int t_mask, .int t_mode, .int t_wanted, .int t_orders, .int t_foundAt, .long t_foundBy, .ref (a_t 32), .ref (a_t 33), .int t_unlikes, .ref (a_t 35), .ref (a_t 36)])), ((a_t 5), .inl (g.2.2.1 0, 81, .inl t_images)), ((a_t 8), .inl (g.2.2.1 3, 3, .inl t_hasImage)), ((a_t 36), .inl (g.2.2.1 0, 81, .inl t_rows))] sz) := by
  refine rw_meti (by decide) (Nat.le_of_ble_eq_true rfl) (lv0 := [(0, .ref ((a_t 0))), (1, .int v1), (2, .int v2)]) rfl ?_
  intro p e s m args below meth c ls Q A cx hret hG hAb hb0 hA hP hD hl
  have hx := cx.1
  have hb := cx.2.1
  have hG0 := hG
  have hGk : ∀ {H : Heap} {locs : List Loc}, va_S A s.heap H locs → GE g s H := fun hS => hG0.keptS hAb hS
  have hSb : ∀ {H : Heap} {locs : List Loc}, va_S A s.heap H locs → va_S (fun a => g.1 ≤ a) s.heap H locs := fun hS => ⟨hS.1, fun q h1 h2 => hS.2.1 q h1 (fun z => h2 (hAb q z)), fun l hl => hAb _ (hS.2.2 l hl)⟩
  have hS : va_S A s.heap s.heap [] := va_S.rf
  have hrt : ∀ (u : Nat → Nat) (pc : Nat) (ls : Array Slot) (v : Int32) (x_t_rows : Nat → Int32) (H : Heap) (locs : List Loc), decode cX8_common_ pc = .ok (.ireturn, 1) → some (v, x_t_rows) = some (o, o_t_rows) → va_P g.2.1 vwCl [((a_t 0), .inr (7, [.ref (a_t 1), .ref (a_t 2), .int t_acted, .ref (a_t 4), .ref (a_t 5), .ref (a_t 6), .ref (a_t 7), .ref (a_t 8), .ref (a_t 9), .int t_taped, .int t_faultKind, .int t_faultPlace, .int t_at, .int t_begin, .int t_token, .int t_value, .int t_bad, .ref (a_t 18), .ref (a_t 19), .ref (a_t 20), .int t_wide, .int t_lost, .ref (a_t 23), .long t_det, .ref (a_t 25), .int t_mask, .int t_mode, .int t_wanted, .int t_orders, .int t_foundAt, .long t_foundBy, .ref (a_t 32), .ref (a_t 33), .int t_unlikes, .ref (a_t 35), .ref (a_t 36)])), ((a_t 5), .inl (g.2.2.1 0, 81, .inl t_images)), ((a_t 8), .inl (g.2.2.1 3, 3, .inl t_hasImage)), ((a_t 36), .inl (g.2.2.1 0, 81, .inl x_t_rows))] H → va_D A [((a_t 0), .inr (7, [.ref (a_t 1), .ref (a_t 2), .int t_acted, .ref (a_t 4), .ref (a_t 5), .ref (a_t 6), .ref (a_t 7), .ref (a_t 8), .ref (a_t 9), .int t_taped, .int t_faultKind, .int t_faultPlace, .int t_at, .int t_begin, .int t_token, .int t_value, .int t_bad, .ref (a_t 18), .ref (a_t 19), .ref (a_t 20), .int t_wide, .int t_lost, .ref (a_t 23), .long t_det, .ref (a_t 25), .int t_mask, .int t_mode, .int t_wanted, .int t_orders, .int t_foundAt, .long t_foundBy, .ref (a_t 32), .ref (a_t 33), .int t_unlikes, .ref (a_t 35), .ref (a_t 36)])), ((a_t 5), .inl (g.2.2.1 0, 81, .inl t_images)), ((a_t 8), .inl (g.2.2.1 3, 3, .inl t_hasImage)), ((a_t 36), .inl (g.2.2.1 0, 81, .inl x_t_rows))] → va_S A s.heap H locs → W p l e ⟨3, 0, 0, 67⟩ s m args below meth c H locs 0 0 Q (F0 m pc ls [.int v]) := by
    intro u pc ls v x_t_rows H locs hd h hP hD hS
    cases h
    exact hret u _ _ _ _ _ hd rfl hP hD hS
  unfold fX8_common_ at h
  refine lv_aload_n hx hb dX8_common__0 rfl (lv_at hl 0 rfl) ?_
  refine lv_iload_n hx hb dX8_common__1 rfl (lv_at hl 1 rfl) ?_
  refine lv_iload_n hx hb dX8_common__2 rfl (lv_at hl 2 rfl) ?_
  obtain ⟨r1, hr2, h⟩ := bnd h
  refine ro_i (runV (As := [.int v1, .int v2]) (rest := []) cx hl.1 (ctX8_why l g a_t t_acted t_taped t_faultKind t_faultPlace t_at t_begin t_token t_value t_bad t_wide t_lost t_det t_mask t_mode t_wanted t_orders t_foundAt t_foundBy t_unlikes t_hasImage v1 v2 r1 hr2) kmX8_why kvX8_why lm_X8_413 ⟨rfl, rfl⟩ ⟨Nat.le_of_ble_eq_true rfl, Nat.le_of_ble_eq_true rfl⟩ (roV (q0 := 0) (ci := 7) hG (hP.sub [0, 2] rfl) hP rfl rfl) rfl rfl (Nat.le_of_ble_eq_true rfl) dX8_common__3 ⟨Nat.le_of_ble_eq_true rfl, Nat.le_of_ble_eq_true rfl⟩) ?_
  refine lv_istore_n (lv' := [(3, .int r1), (0, .ref ((a_t 0))), (1, .int v1), (2, .int v2)]) hx hb dX8_common__6 rfl hl (by decide) rfl (fun ls hl => ?_)
  refine lv_iload_n hx hb dX8_common__7 rfl (lv_at hl 0 rfl) ?_
  refine lv_if_ge (tgt := 15) hx hb dX8_common__8 (by decide) (fun c3 => ?_) (fun c3 => ?_)
  · have h := itp c3 h
    refine lv_aload_n hx hb dX8_common__15 rfl (lv_at hl 1 rfl) ?_
    refine lv_iload_n hx hb dX8_common__16 rfl (lv_at hl 2 rfl) ?_
    refine lv_iload_n hx hb dX8_common__17 rfl (lv_at hl 3 rfl) ?_
    obtain ⟨r5, w6, hr4, h⟩ := ob2_out h
    refine rw_i (WN := fun u7 => [((a_t 8), .inl (g.2.2.1 3, 3, .inl t_hasImage)), ((a_t 0), .inr (7, [.ref (a_t 1), .ref (a_t 2), .int t_acted, .ref (a_t 4), .ref (a_t 5), .ref (a_t 6), .ref (a_t 7), .ref (a_t 8), .ref (a_t 9), .int t_taped, .int t_faultKind, .int t_faultPlace, .int t_at, .int t_begin, .int t_token, .int t_value, .int t_bad, .ref (a_t 18), .ref (a_t 19), .ref (a_t 20), .int t_wide, .int t_lost, .ref (a_t 23), .long t_det, .ref (a_t 25), .int t_mask, .int t_mode, .int t_wanted, .int t_orders, .int t_foundAt, .long t_foundBy, .ref (a_t 32), .ref (a_t 33), .int t_unlikes, .ref (a_t 35), .ref (a_t 36)])), ((a_t 5), .inl (g.2.2.1 0, 81, .inl t_images)), ((a_t 36), .inl (g.2.2.1 0, 81, .inl w6))]) (wr := [((a_t 8), .inl (g.2.2.1 3, 3, .inl t_hasImage))]) (runV (As := [.int v1, .int v2]) (rest := []) cx hl.1 (ctX8_commonOf l g s.heap.size a_t t_acted t_taped t_faultKind t_faultPlace t_at t_begin t_token t_value t_bad t_wide t_lost t_det t_mask t_mode t_wanted t_orders t_foundAt t_foundBy t_unlikes t_images t_rows v1 v2 r5 w6 hr4) kmX8_commonOf kvX8_commonOf lm_X8_416 ⟨rfl, rfl⟩ ⟨Nat.le_of_ble_eq_true rfl, Nat.le_of_ble_eq_true rfl⟩ (rwV (q0 := 0) (ci := 7) hG (hP.sub [0, 1, 3] rfl) (hD.sub [0, 1, 3] (by decide) rfl) hAb hb0 hS hP rfl rfl) rfl rfl (Nat.le_of_ble_eq_true rfl) dX8_common__18 ⟨Nat.le_of_ble_eq_true rfl, Nat.le_of_ble_eq_true rfl⟩) hP hD hS hA [0, 1, 3] [2] rfl rfl (by decide) (by decide) (fun _ => rfl) (fun u7 H locs hP hD hS => ?_)
    have hG := hGk hS
    exact hrt (fun _ => 0) _ _ r5 w6 _ _ dX8_common__21 h (hP.sub [1, 2, 0, 3] rfl) (hD.sub [1, 2, 0, 3] (by decide) rfl) hS
  · have h := itn c3 h
    refine lv_iload_n hx hb dX8_common__11 rfl (lv_at hl 0 rfl) ?_
    refine lv_goto (tgt := 21) hx hb dX8_common__12 (by decide) ?_
    exact hrt (fun _ => 0) _ _ r1 t_rows _ _ dX8_common__21 h (hP.sub [0, 1, 2, 3] rfl) (hD.sub [0, 1, 2, 3] (by decide) rfl) hS
-- X8_alike
theorem dX8_alike_0 : decode cX8_alike 0 = .ok (.aload_n 0, 1) := by decide +kernel
theorem dX8_alike_1 : decode cX8_alike 1 = .ok (.iload_n 1, 1) := by decide +kernel
theorem dX8_alike_2 : decode cX8_alike 2 = .ok (.iload_n 2, 1) := by decide +kernel
theorem dX8_alike_3 : decode cX8_alike 3 = .ok (.invokevirtual 413, 3) := by decide +kernel
theorem dX8_alike_6 : decode cX8_alike 6 = .ok (.istore_n 3, 1) := by decide +kernel
theorem dX8_alike_7 : decode cX8_alike 7 = .ok (.iload_n 3, 1) := by decide +kernel
theorem dX8_alike_8 : decode cX8_alike 8 = .ok (.ifCond .ge 5, 3) := by decide +kernel
theorem dX8_alike_11 : decode cX8_alike 11 = .ok (.iload_n 3, 1) := by decide +kernel
theorem dX8_alike_12 : decode cX8_alike 12 = .ok (.ireturn, 1) := by decide +kernel
theorem dX8_alike_13 : decode cX8_alike 13 = .ok (.iconst 0, 1) := by decide +kernel
theorem dX8_alike_14 : decode cX8_alike 14 = .ok (.istore 4, 2) := by decide +kernel
theorem dX8_alike_16 : decode cX8_alike 16 = .ok (.iload 4, 2) := by decide +kernel
theorem dX8_alike_18 : decode cX8_alike 18 = .ok (.bipush 12, 2) := by decide +kernel
theorem dX8_alike_20 : decode cX8_alike 20 = .ok (.if_icmp .ge 99, 3) := by decide +kernel
theorem dX8_alike_23 : decode cX8_alike 23 = .ok (.iconst 0, 1) := by decide +kernel
theorem dX8_alike_24 : decode cX8_alike 24 = .ok (.istore 5, 2) := by decide +kernel
theorem dX8_alike_26 : decode cX8_alike 26 = .ok (.iconst 0, 1) := by decide +kernel
theorem dX8_alike_27 : decode cX8_alike 27 = .ok (.istore 6, 2) := by decide +kernel
theorem dX8_alike_29 : decode cX8_alike 29 = .ok (.iload 6, 2) := by decide +kernel
theorem dX8_alike_31 : decode cX8_alike 31 = .ok (.bipush 8, 2) := by decide +kernel
theorem dX8_alike_33 : decode cX8_alike 33 = .ok (.if_icmp .ge 73, 3) := by decide +kernel
theorem dX8_alike_36 : decode cX8_alike 36 = .ok (.iload 5, 2) := by decide +kernel
theorem dX8_alike_38 : decode cX8_alike 38 = .ok (.iload 6, 2) := by decide +kernel
theorem dX8_alike_40 : decode cX8_alike 40 = .ok (.aload_n 0, 1) := by decide +kernel
theorem dX8_alike_41 : decode cX8_alike 41 = .ok (.iload_n 1, 1) := by decide +kernel
theorem dX8_alike_42 : decode cX8_alike 42 = .ok (.invokevirtual 407, 3) := by decide +kernel
theorem dX8_alike_45 : decode cX8_alike 45 = .ok (.if_icmp .ge 19, 3) := by decide +kernel
theorem dX8_alike_48 : decode cX8_alike 48 = .ok (.aload_n 0, 1) := by decide +kernel
theorem dX8_alike_49 : decode cX8_alike 49 = .ok (.iload_n 1, 1) := by decide +kernel
theorem dX8_alike_50 : decode cX8_alike 50 = .ok (.iload 6, 2) := by decide +kernel
theorem dX8_alike_52 : decode cX8_alike 52 = .ok (.invokevirtual 410, 3) := by decide +kernel
theorem dX8_alike_55 : decode cX8_alike 55 = .ok (.iload 4, 2) := by decide +kernel
theorem dX8_alike_57 : decode cX8_alike 57 = .ok (.if_icmp .ne 7, 3) := by decide +kernel
theorem dX8_alike_60 : decode cX8_alike 60 = .ok (.iconst 1, 1) := by decide +kernel
theorem dX8_alike_61 : decode cX8_alike 61 = .ok (.goto 4, 3) := by decide +kernel
theorem dX8_alike_64 : decode cX8_alike 64 = .ok (.iconst 0, 1) := by decide +kernel
theorem dX8_alike_65 : decode cX8_alike 65 = .ok (.iadd, 1) := by decide +kernel
theorem dX8_alike_66 : decode cX8_alike 66 = .ok (.istore 5, 2) := by decide +kernel
theorem dX8_alike_68 : decode cX8_alike 68 = .ok (.iload 5, 2) := by decide +kernel
theorem dX8_alike_70 : decode cX8_alike 70 = .ok (.iload 6, 2) := by decide +kernel
theorem dX8_alike_72 : decode cX8_alike 72 = .ok (.aload_n 0, 1) := by decide +kernel
theorem dX8_alike_73 : decode cX8_alike 73 = .ok (.iload_n 2, 1) := by decide +kernel
theorem dX8_alike_74 : decode cX8_alike 74 = .ok (.invokevirtual 407, 3) := by decide +kernel
theorem dX8_alike_77 : decode cX8_alike 77 = .ok (.if_icmp .ge 19, 3) := by decide +kernel
theorem dX8_alike_80 : decode cX8_alike 80 = .ok (.aload_n 0, 1) := by decide +kernel
theorem dX8_alike_81 : decode cX8_alike 81 = .ok (.iload_n 2, 1) := by decide +kernel
theorem dX8_alike_82 : decode cX8_alike 82 = .ok (.iload 6, 2) := by decide +kernel
theorem dX8_alike_84 : decode cX8_alike 84 = .ok (.invokevirtual 410, 3) := by decide +kernel
theorem dX8_alike_87 : decode cX8_alike 87 = .ok (.iload 4, 2) := by decide +kernel
theorem dX8_alike_89 : decode cX8_alike 89 = .ok (.if_icmp .ne 7, 3) := by decide +kernel
theorem dX8_alike_92 : decode cX8_alike 92 = .ok (.iconst 1, 1) := by decide +kernel
theorem dX8_alike_93 : decode cX8_alike 93 = .ok (.goto 4, 3) := by decide +kernel
theorem dX8_alike_96 : decode cX8_alike 96 = .ok (.iconst 0, 1) := by decide +kernel
theorem dX8_alike_97 : decode cX8_alike 97 = .ok (.isub, 1) := by decide +kernel
theorem dX8_alike_98 : decode cX8_alike 98 = .ok (.istore 5, 2) := by decide +kernel
theorem dX8_alike_100 : decode cX8_alike 100 = .ok (.iinc 6 1, 3) := by decide +kernel
theorem dX8_alike_103 : decode cX8_alike 103 = .ok (.goto (-74), 3) := by decide +kernel
theorem dX8_alike_106 : decode cX8_alike 106 = .ok (.iload 5, 2) := by decide +kernel
theorem dX8_alike_108 : decode cX8_alike 108 = .ok (.ifCond .eq 5, 3) := by decide +kernel
theorem dX8_alike_111 : decode cX8_alike 111 = .ok (.iconst 0, 1) := by decide +kernel
theorem dX8_alike_112 : decode cX8_alike 112 = .ok (.ireturn, 1) := by decide +kernel
theorem dX8_alike_113 : decode cX8_alike 113 = .ok (.iinc 4 1, 3) := by decide +kernel
theorem dX8_alike_116 : decode cX8_alike 116 = .ok (.goto (-100), 3) := by decide +kernel
theorem dX8_alike_119 : decode cX8_alike 119 = .ok (.iconst 1, 1) := by decide +kernel
theorem dX8_alike_120 : decode cX8_alike 120 = .ok (.ireturn, 1) := by decide +kernel
noncomputable def fX8_alike_97 (k16 : (Nat → Int32) → Int32 → Int32 → Int32 → Option (Int32)) (k29 : (Nat → Int32) → Int32 → Int32 → Int32 → Int32 → Int32 → Option (Int32)) (t_images : Nat → Int32) (v1 : Int32) (v2 : Int32) (v4 : Int32) (v6 : Int32) (z0 : Int32) (z1 : Int32) : Option (Int32) := k29 t_images v1 v2 v4 (z0 - z1) (v6 + 1)
noncomputable def fX8_alike_96 (k16 : (Nat → Int32) → Int32 → Int32 → Int32 → Option (Int32)) (k29 : (Nat → Int32) → Int32 → Int32 → Int32 → Int32 → Int32 → Option (Int32)) (t_images : Nat → Int32) (v1 : Int32) (v2 : Int32) (v4 : Int32) (v6 : Int32) (z0 : Int32) : Option (Int32) := fX8_alike_97 k16 k29 t_images v1 v2 v4 v6 z0 0
noncomputable def fX8_alike_65 (k16 : (Nat → Int32) → Int32 → Int32 → Int32 → Option (Int32)) (k29 : (Nat → Int32) → Int32 → Int32 → Int32 → Int32 → Int32 → Option (Int32)) (t_images : Nat → Int32) (v1 : Int32) (v2 : Int32) (v4 : Int32) (v6 : Int32) (z0 : Int32) (z1 : Int32) : Option (Int32) := (fX8_manyIn t_images v2).bind fun r12 => (if r12 ≤ v6 then fX8_alike_96 k16 k29 t_images v1 v2 v4 v6 (z0 + z1) else (fX8_typeIn t_images v2 v6).bind fun r15 => (if r15 = v4 then fX8_alike_97 k16 k29 t_images v1 v2 v4 v6 (z0 + z1) 1 else fX8_alike_96 k16 k29 t_images v1 v2 v4 v6 (z0 + z1)))
noncomputable def fX8_alike_64 (k16 : (Nat → Int32) → Int32 → Int32 → Int32 → Option (Int32)) (k29 : (Nat → Int32) → Int32 → Int32 → Int32 → Int32 → Int32 → Option (Int32)) (t_images : Nat → Int32) (v1 : Int32) (v2 : Int32) (v4 : Int32) (v6 : Int32) (z0 : Int32) : Option (Int32) := fX8_alike_65 k16 k29 t_images v1 v2 v4 v6 z0 0
noncomputable def fX8_alike_106 (k16 : (Nat → Int32) → Int32 → Int32 → Int32 → Option (Int32)) (t_images : Nat → Int32) (v1 : Int32) (v2 : Int32) (v4 : Int32) (v5 : Int32) : Option (Int32) := (if v5 = 0 then k16 t_images v1 v2 (v4 + 1) else some (0))
noncomputable def fX8_alike_29 (k16 : (Nat → Int32) → Int32 → Int32 → Int32 → Option (Int32)) : Nat → (Nat → Int32) → Int32 → Int32 → Int32 → Int32 → Int32 → Option (Int32)
  | 0, _, _, _, _, _, _ => none
  | n + 1, t_images, v1, v2, v4, v5, v6 => (if 8 ≤ v6 then fX8_alike_106 k16 t_images v1 v2 v4 v5 else (fX8_manyIn t_images v1).bind fun r6 => (if r6 ≤ v6 then fX8_alike_64 k16 (fX8_alike_29 k16 n) t_images v1 v2 v4 v6 v5 else (fX8_typeIn t_images v1 v6).bind fun r9 => (if r9 = v4 then fX8_alike_65 k16 (fX8_alike_29 k16 n) t_images v1 v2 v4 v6 v5 1 else fX8_alike_64 k16 (fX8_alike_29 k16 n) t_images v1 v2 v4 v6 v5)))
theorem fX8_alike_29_z (k16 : (Nat → Int32) → Int32 → Int32 → Int32 → Option (Int32)) (t_images : Nat → Int32) (v1 : Int32) (v2 : Int32) (v4 : Int32) (v5 : Int32) (v6 : Int32) : fX8_alike_29 k16 0 t_images v1 v2 v4 v5 v6 = none := rfl
theorem fX8_alike_29_s (k16 : (Nat → Int32) → Int32 → Int32 → Int32 → Option (Int32)) (n : Nat) (t_images : Nat → Int32) (v1 : Int32) (v2 : Int32) (v4 : Int32) (v5 : Int32) (v6 : Int32) : fX8_alike_29 k16 (n + 1) t_images v1 v2 v4 v5 v6 = (if 8 ≤ v6 then fX8_alike_106 k16 t_images v1 v2 v4 v5 else (fX8_manyIn t_images v1).bind fun r6 => (if r6 ≤ v6 then fX8_alike_64 k16 (fX8_alike_29 k16 n) t_images v1 v2 v4 v6 v5 else (fX8_typeIn t_images v1 v6).bind fun r9 => (if r9 = v4 then fX8_alike_65 k16 (fX8_alike_29 k16 n) t_images v1 v2 v4 v6 v5 1 else fX8_alike_64 k16 (fX8_alike_29 k16 n) t_images v1 v2 v4 v6 v5))) := rfl
noncomputable def fX8_alike_16  : Nat → (Nat → Int32) → Int32 → Int32 → Int32 → Option (Int32)
  | 0, _, _, _, _ => none
  | n + 1, t_images, v1, v2, v4 => (if 12 ≤ v4 then some (1) else fX8_alike_29 (fX8_alike_16 n) FU t_images v1 v2 v4 0 0)
theorem fX8_alike_16_z  (t_images : Nat → Int32) (v1 : Int32) (v2 : Int32) (v4 : Int32) : fX8_alike_16  0 t_images v1 v2 v4 = none := rfl
theorem fX8_alike_16_s  (n : Nat) (t_images : Nat → Int32) (v1 : Int32) (v2 : Int32) (v4 : Int32) : fX8_alike_16  (n + 1) t_images v1 v2 v4 = (if 12 ≤ v4 then some (1) else fX8_alike_29 (fX8_alike_16 n) FU t_images v1 v2 v4 0 0) := rfl
noncomputable def fX8_alike  (t_images : Nat → Int32) (t_hasImage : Nat → Int32) (v1 : Int32) (v2 : Int32) : Option (Int32) := (fX8_why t_hasImage v1 v2).bind fun r1 => (if 0 ≤ r1 then fX8_alike_16 FU t_images v1 v2 0 else some r1)
set_option maxHeartbeats 4000000 in
set_option maxRecDepth 100000 in
theorem ctX8_alike (l : Launch) (g : GT) (a_t : Nat → Nat) (t_acted : Int32) (t_taped : Int32) (t_faultKind : Int32) (t_faultPlace : Int32) (t_at : Int32) (t_begin : Int32) (t_token : Int32) (t_value : Int32) (t_bad : Int32) (t_wide : Int32) (t_lost : Int32) (t_det : Int64) (t_mask : Int32) (t_mode : Int32) (t_wanted : Int32) (t_orders : Int32) (t_foundAt : Int32) (t_foundBy : Int64) (t_unlikes : Int32) (t_images : Nat → Int32) (t_hasImage : Nat → Int32) (v1 : Int32) (v2 : Int32) (o : Int32) (h : fX8_alike t_images t_hasImage v1 v2 = some o) : Met l yX8_alike (Cond.code yX8_alike cX8_alike 7 (some .int) :: Tw) ⟨3, 0, 0, 67⟩ (va_Pc [.ref ((a_t 0)), .int v1, .int v2] (roB g [((a_t 0), .inr (7, [.ref (a_t 1), .ref (a_t 2), .int t_acted, .ref (a_t 4), .ref (a_t 5), .ref (a_t 6), .ref (a_t 7), .ref (a_t 8), .ref (a_t 9), .int t_taped, .int t_faultKind, .int t_faultPlace, .int t_at, .int t_begin, .int t_token, .int t_value, .int t_bad, .ref (a_t 18), .ref (a_t 19), .ref (a_t 20), .int t_wide, .int t_lost, .ref (a_t 23), .long t_det, .ref (a_t 25), .int t_mask, .int t_mode, .int t_wanted, .int t_orders, .int t_foundAt, .long t_foundBy, .ref (a_t 32), .ref (a_t 33), .int t_unlikes, .ref (a_t 35), .ref (a_t 36)])), ((a_t 5), .inl (g.2.2.1 0, 81, .inl t_images)), ((a_t 8), .inl (g.2.2.1 3, 3, .inl t_hasImage))])) (vp_Si (fun x => x = o)) 0 0 (fun _ => False) := by
  refine ro_meti (by decide) (Nat.le_of_ble_eq_true rfl) (lv0 := [(0, .ref ((a_t 0))), (1, .int v1), (2, .int v2)]) rfl ?_
  intro p e s m args below meth c ls Q cx hret hG hP hl
  have hx := cx.1
  have hb := cx.2.1
  have hG0 := hG
  have w97 : ∀ (k16 : (Nat → Int32) → Int32 → Int32 → Int32 → Option (Int32)) (hk16 : ∀ (v1 : Int32) (v2 : Int32) (v4 : Int32) (ls : Array Slot), lv_has ls 7 [(0, .ref ((a_t 0))), (1, .int v1), (2, .int v2), (4, .int v4)] → k16 t_images v1 v2 v4 = some o → W p l e ⟨3, 0, 0, 67⟩ s m args below meth c s.heap [] 0 0 Q (F0 m 16 ls [])) (k29 : (Nat → Int32) → Int32 → Int32 → Int32 → Int32 → Int32 → Option (Int32)) (hk29 : ∀ (v1 : Int32) (v2 : Int32) (v4 : Int32) (v5 : Int32) (v6 : Int32) (ls : Array Slot), lv_has ls 7 [(0, .ref ((a_t 0))), (1, .int v1), (2, .int v2), (4, .int v4), (5, .int v5), (6, .int v6)] → k29 t_images v1 v2 v4 v5 v6 = some o → W p l e ⟨3, 0, 0, 67⟩ s m args below meth c s.heap [] 0 0 Q (F0 m 29 ls [])) (v1 : Int32) (v2 : Int32) (v4 : Int32) (v6 : Int32) (z0 : Int32) (z1 : Int32) (ls : Array Slot), lv_has ls 7 [(0, .ref ((a_t 0))), (1, .int v1), (2, .int v2), (4, .int v4), (6, .int v6)] → fX8_alike_97 k16 k29 t_images v1 v2 v4 v6 z0 z1 = some o → W p l e ⟨3, 0, 0, 67⟩ s m args below meth c s.heap [] 0 0 Q (F0 m 97 ls [.int z1, .int z0]) := by
    intro k16 hk16 k29 hk29 v1 v2 v4 v6 z0 z1 ls hl h
    unfold fX8_alike_97 at h
    refine lv_isub hx hb dX8_alike_97 ?_
    refine lv_istore (lv' := [(5, .int (z0 - z1)), (0, .ref ((a_t 0))), (1, .int v1), (2, .int v2), (4, .int v4), (6, .int v6)]) hx hb dX8_alike_98 hl (by decide) rfl (fun ls hl => ?_)
    refine lv_iinc (v := v6 + 1) (lv' := [(6, .int (v6 + 1)), (5, .int (z0 - z1)), (0, .ref ((a_t 0))), (1, .int v1), (2, .int v2), (4, .int v4)]) hx hb dX8_alike_100 hl (k := 5) rfl rfl (by decide) rfl (fun ls hl => ?_)
    refine lv_goto (tgt := 29) hx hb dX8_alike_103 (by decide) ?_
    exact hk29 v1 v2 v4 (z0 - z1) (v6 + 1) _ (lv_sub hl [2, 3, 4, 5, 1, 0] rfl) h
  have w96 : ∀ (k16 : (Nat → Int32) → Int32 → Int32 → Int32 → Option (Int32)) (hk16 : ∀ (v1 : Int32) (v2 : Int32) (v4 : Int32) (ls : Array Slot), lv_has ls 7 [(0, .ref ((a_t 0))), (1, .int v1), (2, .int v2), (4, .int v4)] → k16 t_images v1 v2 v4 = some o → W p l e ⟨3, 0, 0, 67⟩ s m args below meth c s.heap [] 0 0 Q (F0 m 16 ls [])) (k29 : (Nat → Int32) → Int32 → Int32 → Int32 → Int32 → Int32 → Option (Int32)) (hk29 : ∀ (v1 : Int32) (v2 : Int32) (v4 : Int32) (v5 : Int32) (v6 : Int32) (ls : Array Slot), lv_has ls 7 [(0, .ref ((a_t 0))), (1, .int v1), (2, .int v2), (4, .int v4), (5, .int v5), (6, .int v6)] → k29 t_images v1 v2 v4 v5 v6 = some o → W p l e ⟨3, 0, 0, 67⟩ s m args below meth c s.heap [] 0 0 Q (F0 m 29 ls [])) (v1 : Int32) (v2 : Int32) (v4 : Int32) (v6 : Int32) (z0 : Int32) (ls : Array Slot), lv_has ls 7 [(0, .ref ((a_t 0))), (1, .int v1), (2, .int v2), (4, .int v4), (6, .int v6)] → fX8_alike_96 k16 k29 t_images v1 v2 v4 v6 z0 = some o → W p l e ⟨3, 0, 0, 67⟩ s m args below meth c s.heap [] 0 0 Q (F0 m 96 ls [.int z0]) := by
    intro k16 hk16 k29 hk29 v1 v2 v4 v6 z0 ls hl h
    unfold fX8_alike_96 at h
    refine lv_iconst (v := 0) hx hb dX8_alike_96 (by decide) ?_
    exact w97 _ hk16 _ hk29 v1 v2 v4 v6 z0 0 _ (lv_sub hl [0, 1, 2, 3, 4] rfl) h
  have w65 : ∀ (k16 : (Nat → Int32) → Int32 → Int32 → Int32 → Option (Int32)) (hk16 : ∀ (v1 : Int32) (v2 : Int32) (v4 : Int32) (ls : Array Slot), lv_has ls 7 [(0, .ref ((a_t 0))), (1, .int v1), (2, .int v2), (4, .int v4)] → k16 t_images v1 v2 v4 = some o → W p l e ⟨3, 0, 0, 67⟩ s m args below meth c s.heap [] 0 0 Q (F0 m 16 ls [])) (k29 : (Nat → Int32) → Int32 → Int32 → Int32 → Int32 → Int32 → Option (Int32)) (hk29 : ∀ (v1 : Int32) (v2 : Int32) (v4 : Int32) (v5 : Int32) (v6 : Int32) (ls : Array Slot), lv_has ls 7 [(0, .ref ((a_t 0))), (1, .int v1), (2, .int v2), (4, .int v4), (5, .int v5), (6, .int v6)] → k29 t_images v1 v2 v4 v5 v6 = some o → W p l e ⟨3, 0, 0, 67⟩ s m args below meth c s.heap [] 0 0 Q (F0 m 29 ls [])) (v1 : Int32) (v2 : Int32) (v4 : Int32) (v6 : Int32) (z0 : Int32) (z1 : Int32) (ls : Array Slot), lv_has ls 7 [(0, .ref ((a_t 0))), (1, .int v1), (2, .int v2), (4, .int v4), (6, .int v6)] → fX8_alike_65 k16 k29 t_images v1 v2 v4 v6 z0 z1 = some o → W p l e ⟨3, 0, 0, 67⟩ s m args below meth c s.heap [] 0 0 Q (F0 m 65 ls [.int z1, .int z0]) := by
    intro k16 hk16 k29 hk29 v1 v2 v4 v6 z0 z1 ls hl h
    unfold fX8_alike_65 at h
    refine lv_iadd hx hb dX8_alike_65 ?_
    refine lv_istore (lv' := [(5, .int (z0 + z1)), (0, .ref ((a_t 0))), (1, .int v1), (2, .int v2), (4, .int v4), (6, .int v6)]) hx hb dX8_alike_66 hl (by decide) rfl (fun ls hl => ?_)
    refine lv_iload hx hb dX8_alike_68 (lv_at hl 0 rfl) ?_
    refine lv_iload hx hb dX8_alike_70 (lv_at hl 5 rfl) ?_
    refine lv_aload_n hx hb dX8_alike_72 rfl (lv_at hl 1 rfl) ?_
    refine lv_iload_n hx hb dX8_alike_73 rfl (lv_at hl 3 rfl) ?_
    obtain ⟨r12, hr13, h⟩ := bnd h
    refine ro_i (runV (As := [.int v2]) (rest := [.int v6, .int (z0 + z1)]) cx hl.1 (ctX8_manyIn l g a_t t_acted t_taped t_faultKind t_faultPlace t_at t_begin t_token t_value t_bad t_wide t_lost t_det t_mask t_mode t_wanted t_orders t_foundAt t_foundBy t_unlikes t_images v2 r12 hr13) kmX8_manyIn kvX8_manyIn lm_X8_407 ⟨rfl, rfl⟩ ⟨Nat.le_of_ble_eq_true rfl, Nat.le_of_ble_eq_true rfl⟩ (roV (q0 := 0) (ci := 7) hG (hP.sub [0, 1] rfl) hP rfl rfl) rfl rfl (Nat.le_of_ble_eq_true rfl) dX8_alike_74 ⟨Nat.le_of_ble_eq_true rfl, Nat.le_of_ble_eq_true rfl⟩) ?_
    refine lv_icmp_ge (tgt := 96) hx hb dX8_alike_77 (by decide) (fun c14 => ?_) (fun c14 => ?_)
    · have h := itp c14 h
      exact w96 _ hk16 _ hk29 v1 v2 v4 v6 (z0 + z1) _ (lv_sub hl [1, 2, 3, 4, 5] rfl) h
    · have h := itn c14 h
      refine lv_aload_n hx hb dX8_alike_80 rfl (lv_at hl 1 rfl) ?_
      refine lv_iload_n hx hb dX8_alike_81 rfl (lv_at hl 3 rfl) ?_
      refine lv_iload hx hb dX8_alike_82 (lv_at hl 5 rfl) ?_
      obtain ⟨r15, hr16, h⟩ := bnd h
      refine ro_i (runV (As := [.int v2, .int v6]) (rest := [.int (z0 + z1)]) cx hl.1 (ctX8_typeIn l g a_t t_acted t_taped t_faultKind t_faultPlace t_at t_begin t_token t_value t_bad t_wide t_lost t_det t_mask t_mode t_wanted t_orders t_foundAt t_foundBy t_unlikes t_images v2 v6 r15 hr16) kmX8_typeIn kvX8_typeIn lm_X8_410 ⟨rfl, rfl⟩ ⟨Nat.le_of_ble_eq_true rfl, Nat.le_of_ble_eq_true rfl⟩ (roV (q0 := 0) (ci := 7) hG (hP.sub [0, 1] rfl) hP rfl rfl) rfl rfl (Nat.le_of_ble_eq_true rfl) dX8_alike_84 ⟨Nat.le_of_ble_eq_true rfl, Nat.le_of_ble_eq_true rfl⟩) ?_
      refine lv_iload hx hb dX8_alike_87 (lv_at hl 4 rfl) ?_
      refine lv_icmp_ne (tgt := 96) hx hb dX8_alike_89 (by decide) (fun c17 => ?_) (fun c17 => ?_)
      · have h := itn c17 h
        exact w96 _ hk16 _ hk29 v1 v2 v4 v6 (z0 + z1) _ (lv_sub hl [1, 2, 3, 4, 5] rfl) h
      · have h := itp c17 h
        refine lv_iconst (v := 1) hx hb dX8_alike_92 (by decide) ?_
        refine lv_goto (tgt := 97) hx hb dX8_alike_93 (by decide) ?_
        exact w97 _ hk16 _ hk29 v1 v2 v4 v6 (z0 + z1) 1 _ (lv_sub hl [1, 2, 3, 4, 5] rfl) h
  have w64 : ∀ (k16 : (Nat → Int32) → Int32 → Int32 → Int32 → Option (Int32)) (hk16 : ∀ (v1 : Int32) (v2 : Int32) (v4 : Int32) (ls : Array Slot), lv_has ls 7 [(0, .ref ((a_t 0))), (1, .int v1), (2, .int v2), (4, .int v4)] → k16 t_images v1 v2 v4 = some o → W p l e ⟨3, 0, 0, 67⟩ s m args below meth c s.heap [] 0 0 Q (F0 m 16 ls [])) (k29 : (Nat → Int32) → Int32 → Int32 → Int32 → Int32 → Int32 → Option (Int32)) (hk29 : ∀ (v1 : Int32) (v2 : Int32) (v4 : Int32) (v5 : Int32) (v6 : Int32) (ls : Array Slot), lv_has ls 7 [(0, .ref ((a_t 0))), (1, .int v1), (2, .int v2), (4, .int v4), (5, .int v5), (6, .int v6)] → k29 t_images v1 v2 v4 v5 v6 = some o → W p l e ⟨3, 0, 0, 67⟩ s m args below meth c s.heap [] 0 0 Q (F0 m 29 ls [])) (v1 : Int32) (v2 : Int32) (v4 : Int32) (v6 : Int32) (z0 : Int32) (ls : Array Slot), lv_has ls 7 [(0, .ref ((a_t 0))), (1, .int v1), (2, .int v2), (4, .int v4), (6, .int v6)] → fX8_alike_64 k16 k29 t_images v1 v2 v4 v6 z0 = some o → W p l e ⟨3, 0, 0, 67⟩ s m args below meth c s.heap [] 0 0 Q (F0 m 64 ls [.int z0]) := by
    intro k16 hk16 k29 hk29 v1 v2 v4 v6 z0 ls hl h
    unfold fX8_alike_64 at h
    refine lv_iconst (v := 0) hx hb dX8_alike_64 (by decide) ?_
    exact w65 _ hk16 _ hk29 v1 v2 v4 v6 z0 0 _ (lv_sub hl [0, 1, 2, 3, 4] rfl) h
  have w106 : ∀ (k16 : (Nat → Int32) → Int32 → Int32 → Int32 → Option (Int32)) (hk16 : ∀ (v1 : Int32) (v2 : Int32) (v4 : Int32) (ls : Array Slot), lv_has ls 7 [(0, .ref ((a_t 0))), (1, .int v1), (2, .int v2), (4, .int v4)] → k16 t_images v1 v2 v4 = some o → W p l e ⟨3, 0, 0, 67⟩ s m args below meth c s.heap [] 0 0 Q (F0 m 16 ls [])) (v1 : Int32) (v2 : Int32) (v4 : Int32) (v5 : Int32) (ls : Array Slot), lv_has ls 7 [(0, .ref ((a_t 0))), (1, .int v1), (2, .int v2), (4, .int v4), (5, .int v5)] → fX8_alike_106 k16 t_images v1 v2 v4 v5 = some o → W p l e ⟨3, 0, 0, 67⟩ s m args below meth c s.heap [] 0 0 Q (F0 m 106 ls []) := by
    intro k16 hk16 v1 v2 v4 v5 ls hl h
    unfold fX8_alike_106 at h
    refine lv_iload hx hb dX8_alike_106 (lv_at hl 4 rfl) ?_
    refine lv_if_eq (tgt := 113) hx hb dX8_alike_108 (by decide) (fun c18 => ?_) (fun c18 => ?_)
    · have h := itp c18 h
      refine lv_iinc (v := v4 + 1) (lv' := [(4, .int (v4 + 1)), (0, .ref ((a_t 0))), (1, .int v1), (2, .int v2), (5, .int v5)]) hx hb dX8_alike_113 hl (k := 3) rfl rfl (by decide) rfl (fun ls hl => ?_)
      refine lv_goto (tgt := 16) hx hb dX8_alike_116 (by decide) ?_
      exact hk16 v1 v2 (v4 + 1) _ (lv_sub hl [1, 2, 3, 0] rfl) h
    · have h := itn c18 h
      refine lv_iconst (v := 0) hx hb dX8_alike_111 (by decide) ?_
      exact hret _ _ _ dX8_alike_112 (Option.some.inj h)
  have w29 : ∀ (k16 : (Nat → Int32) → Int32 → Int32 → Int32 → Option (Int32)) (hk16 : ∀ (v1 : Int32) (v2 : Int32) (v4 : Int32) (ls : Array Slot), lv_has ls 7 [(0, .ref ((a_t 0))), (1, .int v1), (2, .int v2), (4, .int v4)] → k16 t_images v1 v2 v4 = some o → W p l e ⟨3, 0, 0, 67⟩ s m args below meth c s.heap [] 0 0 Q (F0 m 16 ls [])) (n : Nat) (v1 : Int32) (v2 : Int32) (v4 : Int32) (v5 : Int32) (v6 : Int32) (ls : Array Slot), lv_has ls 7 [(0, .ref ((a_t 0))), (1, .int v1), (2, .int v2), (4, .int v4), (5, .int v5), (6, .int v6)] → fX8_alike_29 k16 n t_images v1 v2 v4 v5 v6 = some o → W p l e ⟨3, 0, 0, 67⟩ s m args below meth c s.heap [] 0 0 Q (F0 m 29 ls []) := by
    intro k16 hk16 n
    induction n with
    | zero => intro v1 v2 v4 v5 v6 ls hl h; cases (fX8_alike_29_z k16 t_images v1 v2 v4 v5 v6).symm.trans h
    | succ n ih =>
    intro v1 v2 v4 v5 v6 ls hl h
    have h := (fX8_alike_29_s k16 n t_images v1 v2 v4 v5 v6).symm.trans h
    refine lv_iload hx hb dX8_alike_29 (lv_at hl 5 rfl) ?_
    refine lv_bipush (v := 8) hx hb dX8_alike_31 (by decide) ?_
    refine lv_icmp_ge (tgt := 106) hx hb dX8_alike_33 (by decide) (fun c5 => ?_) (fun c5 => ?_)
    · have h := itp c5 h
      exact w106 _ hk16 v1 v2 v4 v5 _ (lv_sub hl [0, 1, 2, 3, 4] rfl) h
    · have h := itn c5 h
      refine lv_iload hx hb dX8_alike_36 (lv_at hl 4 rfl) ?_
      refine lv_iload hx hb dX8_alike_38 (lv_at hl 5 rfl) ?_
      refine lv_aload_n hx hb dX8_alike_40 rfl (lv_at hl 0 rfl) ?_
      refine lv_iload_n hx hb dX8_alike_41 rfl (lv_at hl 1 rfl) ?_
      obtain ⟨r6, hr7, h⟩ := bnd h
      refine ro_i (runV (As := [.int v1]) (rest := [.int v6, .int v5]) cx hl.1 (ctX8_manyIn l g a_t t_acted t_taped t_faultKind t_faultPlace t_at t_begin t_token t_value t_bad t_wide t_lost t_det t_mask t_mode t_wanted t_orders t_foundAt t_foundBy t_unlikes t_images v1 r6 hr7) kmX8_manyIn kvX8_manyIn lm_X8_407 ⟨rfl, rfl⟩ ⟨Nat.le_of_ble_eq_true rfl, Nat.le_of_ble_eq_true rfl⟩ (roV (q0 := 0) (ci := 7) hG (hP.sub [0, 1] rfl) hP rfl rfl) rfl rfl (Nat.le_of_ble_eq_true rfl) dX8_alike_42 ⟨Nat.le_of_ble_eq_true rfl, Nat.le_of_ble_eq_true rfl⟩) ?_
      refine lv_icmp_ge (tgt := 64) hx hb dX8_alike_45 (by decide) (fun c8 => ?_) (fun c8 => ?_)
      · have h := itp c8 h
        exact w64 _ hk16 _ ih v1 v2 v4 v6 v5 _ (lv_sub hl [0, 1, 2, 3, 5] rfl) h
      · have h := itn c8 h
        refine lv_aload_n hx hb dX8_alike_48 rfl (lv_at hl 0 rfl) ?_
        refine lv_iload_n hx hb dX8_alike_49 rfl (lv_at hl 1 rfl) ?_
        refine lv_iload hx hb dX8_alike_50 (lv_at hl 5 rfl) ?_
        obtain ⟨r9, hr10, h⟩ := bnd h
        refine ro_i (runV (As := [.int v1, .int v6]) (rest := [.int v5]) cx hl.1 (ctX8_typeIn l g a_t t_acted t_taped t_faultKind t_faultPlace t_at t_begin t_token t_value t_bad t_wide t_lost t_det t_mask t_mode t_wanted t_orders t_foundAt t_foundBy t_unlikes t_images v1 v6 r9 hr10) kmX8_typeIn kvX8_typeIn lm_X8_410 ⟨rfl, rfl⟩ ⟨Nat.le_of_ble_eq_true rfl, Nat.le_of_ble_eq_true rfl⟩ (roV (q0 := 0) (ci := 7) hG (hP.sub [0, 1] rfl) hP rfl rfl) rfl rfl (Nat.le_of_ble_eq_true rfl) dX8_alike_52 ⟨Nat.le_of_ble_eq_true rfl, Nat.le_of_ble_eq_true rfl⟩) ?_
        refine lv_iload hx hb dX8_alike_55 (lv_at hl 3 rfl) ?_
        refine lv_icmp_ne (tgt := 64) hx hb dX8_alike_57 (by decide) (fun c11 => ?_) (fun c11 => ?_)
        · have h := itn c11 h
          exact w64 _ hk16 _ ih v1 v2 v4 v6 v5 _ (lv_sub hl [0, 1, 2, 3, 5] rfl) h
        · have h := itp c11 h
          refine lv_iconst (v := 1) hx hb dX8_alike_60 (by decide) ?_
          refine lv_goto (tgt := 65) hx hb dX8_alike_61 (by decide) ?_
          exact w65 _ hk16 _ ih v1 v2 v4 v6 v5 1 _ (lv_sub hl [0, 1, 2, 3, 5] rfl) h
  have w16 : ∀ (n : Nat) (v1 : Int32) (v2 : Int32) (v4 : Int32) (ls : Array Slot), lv_has ls 7 [(0, .ref ((a_t 0))), (1, .int v1), (2, .int v2), (4, .int v4)] → fX8_alike_16  n t_images v1 v2 v4 = some o → W p l e ⟨3, 0, 0, 67⟩ s m args below meth c s.heap [] 0 0 Q (F0 m 16 ls []) := by
    intro n
    induction n with
    | zero => intro v1 v2 v4 ls hl h; cases (fX8_alike_16_z  t_images v1 v2 v4).symm.trans h
    | succ n ih =>
    intro v1 v2 v4 ls hl h
    have h := (fX8_alike_16_s  n t_images v1 v2 v4).symm.trans h
    refine lv_iload hx hb dX8_alike_16 (lv_at hl 3 rfl) ?_
    refine lv_bipush (v := 12) hx hb dX8_alike_18 (by decide) ?_
    refine lv_icmp_ge (tgt := 119) hx hb dX8_alike_20 (by decide) (fun c4 => ?_) (fun c4 => ?_)
    · have h := itp c4 h
      refine lv_iconst (v := 1) hx hb dX8_alike_119 (by decide) ?_
      exact hret _ _ _ dX8_alike_120 (Option.some.inj h)
    · have h := itn c4 h
      refine lv_iconst (v := 0) hx hb dX8_alike_23 (by decide) ?_
      refine lv_istore (lv' := [(5, .int (0)), (0, .ref ((a_t 0))), (1, .int v1), (2, .int v2), (4, .int v4)]) hx hb dX8_alike_24 hl (by decide) rfl (fun ls hl => ?_)
      refine lv_iconst (v := 0) hx hb dX8_alike_26 (by decide) ?_
      refine lv_istore (lv' := [(6, .int (0)), (5, .int (0)), (0, .ref ((a_t 0))), (1, .int v1), (2, .int v2), (4, .int v4)]) hx hb dX8_alike_27 hl (by decide) rfl (fun ls hl => ?_)
      exact w29 _ ih FU v1 v2 v4 0 0 _ (lv_sub hl [2, 3, 4, 5, 1, 0] rfl) h
  unfold fX8_alike at h
  refine lv_aload_n hx hb dX8_alike_0 rfl (lv_at hl 0 rfl) ?_
  refine lv_iload_n hx hb dX8_alike_1 rfl (lv_at hl 1 rfl) ?_
  refine lv_iload_n hx hb dX8_alike_2 rfl (lv_at hl 2 rfl) ?_
  obtain ⟨r1, hr2, h⟩ := bnd h
  refine ro_i (runV (As := [.int v1, .int v2]) (rest := []) cx hl.1 (ctX8_why l g a_t t_acted t_taped t_faultKind t_faultPlace t_at t_begin t_token t_value t_bad t_wide t_lost t_det t_mask t_mode t_wanted t_orders t_foundAt t_foundBy t_unlikes t_hasImage v1 v2 r1 hr2) kmX8_why kvX8_why lm_X8_413 ⟨rfl, rfl⟩ ⟨Nat.le_of_ble_eq_true rfl, Nat.le_of_ble_eq_true rfl⟩ (roV (q0 := 0) (ci := 7) hG (hP.sub [0, 2] rfl) hP rfl rfl) rfl rfl (Nat.le_of_ble_eq_true rfl) dX8_alike_3 ⟨Nat.le_of_ble_eq_true rfl, Nat.le_of_ble_eq_true rfl⟩) ?_
  refine lv_istore_n (lv' := [(3, .int r1), (0, .ref ((a_t 0))), (1, .int v1), (2, .int v2)]) hx hb dX8_alike_6 rfl hl (by decide) rfl (fun ls hl => ?_)
  refine lv_iload_n hx hb dX8_alike_7 rfl (lv_at hl 0 rfl) ?_
  refine lv_if_ge (tgt := 13) hx hb dX8_alike_8 (by decide) (fun c3 => ?_) (fun c3 => ?_)
  · have h := itp c3 h
    refine lv_iconst (v := 0) hx hb dX8_alike_13 (by decide) ?_
    refine lv_istore (lv' := [(4, .int (0)), (3, .int r1), (0, .ref ((a_t 0))), (1, .int v1), (2, .int v2)]) hx hb dX8_alike_14 hl (by decide) rfl (fun ls hl => ?_)
    exact w16 FU v1 v2 0 _ (lv_sub hl [2, 3, 4, 0] rfl) h
  · have h := itn c3 h
    refine lv_iload_n hx hb dX8_alike_11 rfl (lv_at hl 0 rfl) ?_
    exact hret _ _ _ dX8_alike_12 (Option.some.inj h)
-- X8_whirled
theorem dX8_whirled_0 : decode cX8_whirled 0 = .ok (.iload_n 0, 1) := by decide +kernel
theorem dX8_whirled_1 : decode cX8_whirled 1 = .ok (.iconst 4, 1) := by decide +kernel
theorem dX8_whirled_2 : decode cX8_whirled 2 = .ok (.irem, 1) := by decide +kernel
theorem dX8_whirled_3 : decode cX8_whirled 3 = .ok (.istore_n 2, 1) := by decide +kernel
theorem dX8_whirled_4 : decode cX8_whirled 4 = .ok (.iconst 0, 1) := by decide +kernel
theorem dX8_whirled_5 : decode cX8_whirled 5 = .ok (.istore_n 3, 1) := by decide +kernel
theorem dX8_whirled_6 : decode cX8_whirled 6 = .ok (.iload_n 3, 1) := by decide +kernel
theorem dX8_whirled_7 : decode cX8_whirled 7 = .ok (.iload_n 1, 1) := by decide +kernel
theorem dX8_whirled_8 : decode cX8_whirled 8 = .ok (.if_icmp .ge 37, 3) := by decide +kernel
theorem dX8_whirled_11 : decode cX8_whirled 11 = .ok (.iload_n 2, 1) := by decide +kernel
theorem dX8_whirled_12 : decode cX8_whirled 12 = .ok (.ifCond .ne 7, 3) := by decide +kernel
theorem dX8_whirled_15 : decode cX8_whirled 15 = .ok (.iconst 1, 1) := by decide +kernel
theorem dX8_whirled_16 : decode cX8_whirled 16 = .ok (.goto 22, 3) := by decide +kernel
theorem dX8_whirled_19 : decode cX8_whirled 19 = .ok (.iload_n 2, 1) := by decide +kernel
theorem dX8_whirled_20 : decode cX8_whirled 20 = .ok (.iconst 1, 1) := by decide +kernel
theorem dX8_whirled_21 : decode cX8_whirled 21 = .ok (.if_icmp .ne 7, 3) := by decide +kernel
theorem dX8_whirled_24 : decode cX8_whirled 24 = .ok (.iconst 3, 1) := by decide +kernel
theorem dX8_whirled_25 : decode cX8_whirled 25 = .ok (.goto 13, 3) := by decide +kernel
theorem dX8_whirled_28 : decode cX8_whirled 28 = .ok (.iload_n 2, 1) := by decide +kernel
theorem dX8_whirled_29 : decode cX8_whirled 29 = .ok (.iconst 3, 1) := by decide +kernel
theorem dX8_whirled_30 : decode cX8_whirled 30 = .ok (.if_icmp .ne 7, 3) := by decide +kernel
theorem dX8_whirled_33 : decode cX8_whirled 33 = .ok (.iconst 2, 1) := by decide +kernel
theorem dX8_whirled_34 : decode cX8_whirled 34 = .ok (.goto 4, 3) := by decide +kernel
theorem dX8_whirled_37 : decode cX8_whirled 37 = .ok (.iconst 0, 1) := by decide +kernel
theorem dX8_whirled_38 : decode cX8_whirled 38 = .ok (.istore_n 2, 1) := by decide +kernel
theorem dX8_whirled_39 : decode cX8_whirled 39 = .ok (.iinc 3 1, 3) := by decide +kernel
theorem dX8_whirled_42 : decode cX8_whirled 42 = .ok (.goto (-36), 3) := by decide +kernel
theorem dX8_whirled_45 : decode cX8_whirled 45 = .ok (.iload_n 0, 1) := by decide +kernel
theorem dX8_whirled_46 : decode cX8_whirled 46 = .ok (.iconst 4, 1) := by decide +kernel
theorem dX8_whirled_47 : decode cX8_whirled 47 = .ok (.idiv, 1) := by decide +kernel
theorem dX8_whirled_48 : decode cX8_whirled 48 = .ok (.iconst 4, 1) := by decide +kernel
theorem dX8_whirled_49 : decode cX8_whirled 49 = .ok (.imul, 1) := by decide +kernel
theorem dX8_whirled_50 : decode cX8_whirled 50 = .ok (.iload_n 2, 1) := by decide +kernel
theorem dX8_whirled_51 : decode cX8_whirled 51 = .ok (.iadd, 1) := by decide +kernel
theorem dX8_whirled_52 : decode cX8_whirled 52 = .ok (.ireturn, 1) := by decide +kernel
noncomputable def fX8_whirled_38 (k6 : Int32 → Int32 → Int32 → Int32 → Option (Int32)) (v0 : Int32) (v1 : Int32) (v3 : Int32) (z0 : Int32) : Option (Int32) := k6 v0 v1 z0 (v3 + 1)
noncomputable def fX8_whirled_6  : Nat → Int32 → Int32 → Int32 → Int32 → Option (Int32)
  | 0, _, _, _, _ => none
  | n + 1, v0, v1, v2, v3 => (if v1 ≤ v3 then some (((v0 / 4) * 4) + v2) else (if v2 = 0 then fX8_whirled_38 (fX8_whirled_6 n) v0 v1 v3 1 else (if v2 = 1 then fX8_whirled_38 (fX8_whirled_6 n) v0 v1 v3 3 else (if v2 = 3 then fX8_whirled_38 (fX8_whirled_6 n) v0 v1 v3 2 else fX8_whirled_38 (fX8_whirled_6 n) v0 v1 v3 0))))
theorem fX8_whirled_6_z  (v0 : Int32) (v1 : Int32) (v2 : Int32) (v3 : Int32) : fX8_whirled_6  0 v0 v1 v2 v3 = none := rfl
theorem fX8_whirled_6_s  (n : Nat) (v0 : Int32) (v1 : Int32) (v2 : Int32) (v3 : Int32) : fX8_whirled_6  (n + 1) v0 v1 v2 v3 = (if v1 ≤ v3 then some (((v0 / 4) * 4) + v2) else (if v2 = 0 then fX8_whirled_38 (fX8_whirled_6 n) v0 v1 v3 1 else (if v2 = 1 then fX8_whirled_38 (fX8_whirled_6 n) v0 v1 v3 3 else (if v2 = 3 then fX8_whirled_38 (fX8_whirled_6 n) v0 v1 v3 2 else fX8_whirled_38 (fX8_whirled_6 n) v0 v1 v3 0)))) := rfl
noncomputable def fX8_whirled  (v0 : Int32) (v1 : Int32) : Option (Int32) := fX8_whirled_6 FU v0 v1 (irem v0 4) 0
set_option maxHeartbeats 4000000 in
set_option maxRecDepth 100000 in
theorem ctX8_whirled (l : Launch) (g : GT) (v0 : Int32) (v1 : Int32) (o : Int32) (h : fX8_whirled v0 v1 = some o) : Met l yX8_whirled (Cond.code yX8_whirled cX8_whirled 4 (some .int) :: Tw) ⟨0, 0, 0, 0⟩ (va_Pc [.int v0, .int v1] (roB g [])) (vp_Si (fun x => x = o)) 0 0 (fun _ => False) := by
  refine ro_meti (by decide) (Nat.le_of_ble_eq_true rfl) (lv0 := [(0, .int v0), (1, .int v1)]) rfl ?_
  intro p e s m args below meth c ls Q cx hret hG hP hl
  have hx := cx.1
  have hb := cx.2.1
  have hG0 := hG
  have w38 : ∀ (k6 : Int32 → Int32 → Int32 → Int32 → Option (Int32)) (hk6 : ∀ (v0 : Int32) (v1 : Int32) (v2 : Int32) (v3 : Int32) (ls : Array Slot), lv_has ls 4 [(0, .int v0), (1, .int v1), (2, .int v2), (3, .int v3)] → k6 v0 v1 v2 v3 = some o → W p l e ⟨0, 0, 0, 0⟩ s m args below meth c s.heap [] 0 0 Q (F0 m 6 ls [])) (v0 : Int32) (v1 : Int32) (v3 : Int32) (z0 : Int32) (ls : Array Slot), lv_has ls 4 [(0, .int v0), (1, .int v1), (3, .int v3)] → fX8_whirled_38 k6 v0 v1 v3 z0 = some o → W p l e ⟨0, 0, 0, 0⟩ s m args below meth c s.heap [] 0 0 Q (F0 m 38 ls [.int z0]) := by
    intro k6 hk6 v0 v1 v3 z0 ls hl h
    unfold fX8_whirled_38 at h
    refine lv_istore_n (lv' := [(2, .int z0), (0, .int v0), (1, .int v1), (3, .int v3)]) hx hb dX8_whirled_38 rfl hl (by decide) rfl (fun ls hl => ?_)
    refine lv_iinc (v := v3 + 1) (lv' := [(3, .int (v3 + 1)), (2, .int z0), (0, .int v0), (1, .int v1)]) hx hb dX8_whirled_39 hl (k := 3) rfl rfl (by decide) rfl (fun ls hl => ?_)
    refine lv_goto (tgt := 6) hx hb dX8_whirled_42 (by decide) ?_
    exact hk6 v0 v1 z0 (v3 + 1) _ (lv_sub hl [2, 3, 1, 0] rfl) h
  have w6 : ∀ (n : Nat) (v0 : Int32) (v1 : Int32) (v2 : Int32) (v3 : Int32) (ls : Array Slot), lv_has ls 4 [(0, .int v0), (1, .int v1), (2, .int v2), (3, .int v3)] → fX8_whirled_6  n v0 v1 v2 v3 = some o → W p l e ⟨0, 0, 0, 0⟩ s m args below meth c s.heap [] 0 0 Q (F0 m 6 ls []) := by
    intro n
    induction n with
    | zero => intro v0 v1 v2 v3 ls hl h; cases (fX8_whirled_6_z  v0 v1 v2 v3).symm.trans h
    | succ n ih =>
    intro v0 v1 v2 v3 ls hl h
    have h := (fX8_whirled_6_s  n v0 v1 v2 v3).symm.trans h
    refine lv_iload_n hx hb dX8_whirled_6 rfl (lv_at hl 3 rfl) ?_
    refine lv_iload_n hx hb dX8_whirled_7 rfl (lv_at hl 1 rfl) ?_
    refine lv_icmp_ge (tgt := 45) hx hb dX8_whirled_8 (by decide) (fun c1 => ?_) (fun c1 => ?_)
    · have h := itp c1 h
      refine lv_iload_n hx hb dX8_whirled_45 rfl (lv_at hl 0 rfl) ?_
      refine lv_iconst (v := 4) hx hb dX8_whirled_46 (by decide) ?_
      refine lv_idiv hx hb dX8_whirled_47 (by decide) ?_
      refine lv_iconst (v := 4) hx hb dX8_whirled_48 (by decide) ?_
      refine lv_imul hx hb dX8_whirled_49 ?_
      refine lv_iload_n hx hb dX8_whirled_50 rfl (lv_at hl 2 rfl) ?_
      refine lv_iadd hx hb dX8_whirled_51 ?_
      exact hret _ _ _ dX8_whirled_52 (Option.some.inj h)
    · have h := itn c1 h
      refine lv_iload_n hx hb dX8_whirled_11 rfl (lv_at hl 2 rfl) ?_
      refine lv_if_ne (tgt := 19) hx hb dX8_whirled_12 (by decide) (fun c2 => ?_) (fun c2 => ?_)
      · have h := itn c2 h
        refine lv_iload_n hx hb dX8_whirled_19 rfl (lv_at hl 2 rfl) ?_
        refine lv_iconst (v := 1) hx hb dX8_whirled_20 (by decide) ?_
        refine lv_icmp_ne (tgt := 28) hx hb dX8_whirled_21 (by decide) (fun c3 => ?_) (fun c3 => ?_)
        · have h := itn c3 h
          refine lv_iload_n hx hb dX8_whirled_28 rfl (lv_at hl 2 rfl) ?_
          refine lv_iconst (v := 3) hx hb dX8_whirled_29 (by decide) ?_
          refine lv_icmp_ne (tgt := 37) hx hb dX8_whirled_30 (by decide) (fun c4 => ?_) (fun c4 => ?_)
          · have h := itn c4 h
            refine lv_iconst (v := 0) hx hb dX8_whirled_37 (by decide) ?_
            exact w38 _ ih v0 v1 v3 0 _ (lv_sub hl [0, 1, 3] rfl) h
          · have h := itp c4 h
            refine lv_iconst (v := 2) hx hb dX8_whirled_33 (by decide) ?_
            refine lv_goto (tgt := 38) hx hb dX8_whirled_34 (by decide) ?_
            exact w38 _ ih v0 v1 v3 2 _ (lv_sub hl [0, 1, 3] rfl) h
        · have h := itp c3 h
          refine lv_iconst (v := 3) hx hb dX8_whirled_24 (by decide) ?_
          refine lv_goto (tgt := 38) hx hb dX8_whirled_25 (by decide) ?_
          exact w38 _ ih v0 v1 v3 3 _ (lv_sub hl [0, 1, 3] rfl) h
      · have h := itp c2 h
        refine lv_iconst (v := 1) hx hb dX8_whirled_15 (by decide) ?_
        refine lv_goto (tgt := 38) hx hb dX8_whirled_16 (by decide) ?_
        exact w38 _ ih v0 v1 v3 1 _ (lv_sub hl [0, 1, 3] rfl) h
  unfold fX8_whirled at h
  refine lv_iload_n hx hb dX8_whirled_0 rfl (lv_at hl 0 rfl) ?_
  refine lv_iconst (v := 4) hx hb dX8_whirled_1 (by decide) ?_
  refine xv_irem hx hb dX8_whirled_2 (by decide) ?_
  refine lv_istore_n (lv' := [(2, .int (irem v0 4)), (0, .int v0), (1, .int v1)]) hx hb dX8_whirled_3 rfl hl (by decide) rfl (fun ls hl => ?_)
  refine lv_iconst (v := 0) hx hb dX8_whirled_4 (by decide) ?_
  refine lv_istore_n (lv' := [(3, .int (0)), (2, .int (irem v0 4)), (0, .int v0), (1, .int v1)]) hx hb dX8_whirled_5 rfl hl (by decide) rfl (fun ls hl => ?_)
  exact w6 FU v0 v1 (irem v0 4) 0 _ (lv_sub hl [2, 3, 1, 0] rfl) h
-- X8_upsetAt
theorem dX8_upsetAt_0 : decode cX8_upsetAt 0 = .ok (.aload_n 0, 1) := by decide +kernel
theorem dX8_upsetAt_1 : decode cX8_upsetAt 1 = .ok (.getfield 21, 3) := by decide +kernel
theorem dX8_upsetAt_4 : decode cX8_upsetAt 4 = .ok (.bipush 19, 2) := by decide +kernel
theorem dX8_upsetAt_6 : decode cX8_upsetAt 6 = .ok (.aload_n 0, 1) := by decide +kernel
theorem dX8_upsetAt_7 : decode cX8_upsetAt 7 = .ok (.getfield 21, 3) := by decide +kernel
theorem dX8_upsetAt_10 : decode cX8_upsetAt 10 = .ok (.iconst 2, 1) := by decide +kernel
theorem dX8_upsetAt_11 : decode cX8_upsetAt 11 = .ok (.iaload, 1) := by decide +kernel
theorem dX8_upsetAt_12 : decode cX8_upsetAt 12 = .ok (.iadd, 1) := by decide +kernel
theorem dX8_upsetAt_13 : decode cX8_upsetAt 13 = .ok (.iconst 1, 1) := by decide +kernel
theorem dX8_upsetAt_14 : decode cX8_upsetAt 14 = .ok (.isub, 1) := by decide +kernel
theorem dX8_upsetAt_15 : decode cX8_upsetAt 15 = .ok (.iload_n 1, 1) := by decide +kernel
theorem dX8_upsetAt_16 : decode cX8_upsetAt 16 = .ok (.isub, 1) := by decide +kernel
theorem dX8_upsetAt_17 : decode cX8_upsetAt 17 = .ok (.iaload, 1) := by decide +kernel
theorem dX8_upsetAt_18 : decode cX8_upsetAt 18 = .ok (.istore_n 2, 1) := by decide +kernel
theorem dX8_upsetAt_19 : decode cX8_upsetAt 19 = .ok (.iload_n 2, 1) := by decide +kernel
theorem dX8_upsetAt_20 : decode cX8_upsetAt 20 = .ok (.iconst 4, 1) := by decide +kernel
theorem dX8_upsetAt_21 : decode cX8_upsetAt 21 = .ok (.irem, 1) := by decide +kernel
theorem dX8_upsetAt_22 : decode cX8_upsetAt 22 = .ok (.iconst 1, 1) := by decide +kernel
theorem dX8_upsetAt_23 : decode cX8_upsetAt 23 = .ok (.if_icmp .ne 9, 3) := by decide +kernel
theorem dX8_upsetAt_26 : decode cX8_upsetAt 26 = .ok (.iload_n 2, 1) := by decide +kernel
theorem dX8_upsetAt_27 : decode cX8_upsetAt 27 = .ok (.iconst 1, 1) := by decide +kernel
theorem dX8_upsetAt_28 : decode cX8_upsetAt 28 = .ok (.iadd, 1) := by decide +kernel
theorem dX8_upsetAt_29 : decode cX8_upsetAt 29 = .ok (.goto 17, 3) := by decide +kernel
theorem dX8_upsetAt_32 : decode cX8_upsetAt 32 = .ok (.iload_n 2, 1) := by decide +kernel
theorem dX8_upsetAt_33 : decode cX8_upsetAt 33 = .ok (.iconst 4, 1) := by decide +kernel
theorem dX8_upsetAt_34 : decode cX8_upsetAt 34 = .ok (.irem, 1) := by decide +kernel
theorem dX8_upsetAt_35 : decode cX8_upsetAt 35 = .ok (.iconst 2, 1) := by decide +kernel
theorem dX8_upsetAt_36 : decode cX8_upsetAt 36 = .ok (.if_icmp .ne 9, 3) := by decide +kernel
theorem dX8_upsetAt_39 : decode cX8_upsetAt 39 = .ok (.iload_n 2, 1) := by decide +kernel
theorem dX8_upsetAt_40 : decode cX8_upsetAt 40 = .ok (.iconst 1, 1) := by decide +kernel
theorem dX8_upsetAt_41 : decode cX8_upsetAt 41 = .ok (.isub, 1) := by decide +kernel
theorem dX8_upsetAt_42 : decode cX8_upsetAt 42 = .ok (.goto 4, 3) := by decide +kernel
theorem dX8_upsetAt_45 : decode cX8_upsetAt 45 = .ok (.iload_n 2, 1) := by decide +kernel
theorem dX8_upsetAt_46 : decode cX8_upsetAt 46 = .ok (.ireturn, 1) := by decide +kernel
noncomputable def fX8_upsetAt  (t_mem : Nat → Int32) (v1 : Int32) : Option (Int32) := chk 27 (((19 + (t_mem 2)) - 1) - v1) ((if (irem (t_mem (((19 + (t_mem 2)) - 1) - v1).toNatClampNeg) 4) = 1 then some ((t_mem (((19 + (t_mem 2)) - 1) - v1).toNatClampNeg) + 1) else (if (irem (t_mem (((19 + (t_mem 2)) - 1) - v1).toNatClampNeg) 4) = 2 then some ((t_mem (((19 + (t_mem 2)) - 1) - v1).toNatClampNeg) - 1) else some (t_mem (((19 + (t_mem 2)) - 1) - v1).toNatClampNeg))))
set_option maxHeartbeats 4000000 in
set_option maxRecDepth 100000 in
theorem ctX8_upsetAt (l : Launch) (g : GT) (a_t : Nat → Nat) (t_acted : Int32) (t_taped : Int32) (t_faultKind : Int32) (t_faultPlace : Int32) (t_at : Int32) (t_begin : Int32) (t_token : Int32) (t_value : Int32) (t_bad : Int32) (t_wide : Int32) (t_lost : Int32) (t_det : Int64) (t_mask : Int32) (t_mode : Int32) (t_wanted : Int32) (t_orders : Int32) (t_foundAt : Int32) (t_foundBy : Int64) (t_unlikes : Int32) (t_mem : Nat → Int32) (v1 : Int32) (o : Int32) (h : fX8_upsetAt t_mem v1 = some o) : Met l yX8_upsetAt (Cond.code yX8_upsetAt cX8_upsetAt 3 (some .int) :: Tw) ⟨0, 0, 0, 0⟩ (va_Pc [.ref ((a_t 0)), .int v1] (roB g [((a_t 0), .inr (7, [.ref (a_t 1), .ref (a_t 2), .int t_acted, .ref (a_t 4), .ref (a_t 5), .ref (a_t 6), .ref (a_t 7), .ref (a_t 8), .ref (a_t 9), .int t_taped, .int t_faultKind, .int t_faultPlace, .int t_at, .int t_begin, .int t_token, .int t_value, .int t_bad, .ref (a_t 18), .ref (a_t 19), .ref (a_t 20), .int t_wide, .int t_lost, .ref (a_t 23), .long t_det, .ref (a_t 25), .int t_mask, .int t_mode, .int t_wanted, .int t_orders, .int t_foundAt, .long t_foundBy, .ref (a_t 32), .ref (a_t 33), .int t_unlikes, .ref (a_t 35), .ref (a_t 36)])), ((a_t 1), .inl (g.2.2.1 0, 27, .inl t_mem))])) (vp_Si (fun x => x = o)) 0 0 (fun _ => False) := by
  refine ro_meti (by decide) (Nat.le_of_ble_eq_true rfl) (lv0 := [(0, .ref ((a_t 0))), (1, .int v1)]) rfl ?_
  intro p e s m args below meth c ls Q cx hret hG hP hl
  have hx := cx.1
  have hb := cx.2.1
  have hG0 := hG
  unfold fX8_upsetAt at h
  refine lv_aload_n hx hb dX8_upsetAt_0 rfl (lv_at hl 0 rfl) ?_
  refine xa_get (C := RX8) (T := TX8) (N := 36) cx hG hP 0 rfl rfl uX8 0 (by decide) lf_X8_21 rfl dX8_upsetAt_1 ?_
  refine lv_bipush (v := 19) hx hb dX8_upsetAt_4 (by decide) ?_
  refine lv_aload_n hx hb dX8_upsetAt_6 rfl (lv_at hl 0 rfl) ?_
  refine xa_get (C := RX8) (T := TX8) (N := 36) cx hG hP 0 rfl rfl uX8 0 (by decide) lf_X8_21 rfl dX8_upsetAt_7 ?_
  refine lv_iconst (v := 2) hx hb dX8_upsetAt_10 (by decide) ?_
  refine xa_iald (k := 2) cx hG hP 1 rfl (show ¬ ((2 : Int32) < 0 ∨ 27 ≤ (2 : Int32).toNatClampNeg) by decide) (by decide) dX8_upsetAt_11 ?_
  refine lv_iadd hx hb dX8_upsetAt_12 ?_
  refine lv_iconst (v := 1) hx hb dX8_upsetAt_13 (by decide) ?_
  refine lv_isub hx hb dX8_upsetAt_14 ?_
  refine lv_iload_n hx hb dX8_upsetAt_15 rfl (lv_at hl 1 rfl) ?_
  refine lv_isub hx hb dX8_upsetAt_16 ?_
  obtain ⟨hi1, h⟩ := chk_out h
  refine xa_iald cx hG hP 1 rfl hi1 rfl dX8_upsetAt_17 ?_
  refine lv_istore_n (lv' := [(2, .int (t_mem (((19 + (t_mem 2)) - 1) - v1).toNatClampNeg)), (0, .ref ((a_t 0))), (1, .int v1)]) hx hb dX8_upsetAt_18 rfl hl (by decide) rfl (fun ls hl => ?_)
  refine lv_iload_n hx hb dX8_upsetAt_19 rfl (lv_at hl 0 rfl) ?_
  refine lv_iconst (v := 4) hx hb dX8_upsetAt_20 (by decide) ?_
  refine xv_irem hx hb dX8_upsetAt_21 (by decide) ?_
  refine lv_iconst (v := 1) hx hb dX8_upsetAt_22 (by decide) ?_
  refine lv_icmp_ne (tgt := 32) hx hb dX8_upsetAt_23 (by decide) (fun c2 => ?_) (fun c2 => ?_)
  · have h := itn c2 h
    refine lv_iload_n hx hb dX8_upsetAt_32 rfl (lv_at hl 0 rfl) ?_
    refine lv_iconst (v := 4) hx hb dX8_upsetAt_33 (by decide) ?_
    refine xv_irem hx hb dX8_upsetAt_34 (by decide) ?_
    refine lv_iconst (v := 2) hx hb dX8_upsetAt_35 (by decide) ?_
    refine lv_icmp_ne (tgt := 45) hx hb dX8_upsetAt_36 (by decide) (fun c3 => ?_) (fun c3 => ?_)
    · have h := itn c3 h
      refine lv_iload_n hx hb dX8_upsetAt_45 rfl (lv_at hl 0 rfl) ?_
      exact hret _ _ _ dX8_upsetAt_46 (Option.some.inj h)
    · have h := itp c3 h
      refine lv_iload_n hx hb dX8_upsetAt_39 rfl (lv_at hl 0 rfl) ?_
      refine lv_iconst (v := 1) hx hb dX8_upsetAt_40 (by decide) ?_
      refine lv_isub hx hb dX8_upsetAt_41 ?_
      refine lv_goto (tgt := 46) hx hb dX8_upsetAt_42 (by decide) ?_
      exact hret _ _ _ dX8_upsetAt_46 (Option.some.inj h)
  · have h := itp c2 h
    refine lv_iload_n hx hb dX8_upsetAt_26 rfl (lv_at hl 0 rfl) ?_
    refine lv_iconst (v := 1) hx hb dX8_upsetAt_27 (by decide) ?_
    refine lv_iadd hx hb dX8_upsetAt_28 ?_
    refine lv_goto (tgt := 46) hx hb dX8_upsetAt_29 (by decide) ?_
    exact hret _ _ _ dX8_upsetAt_46 (Option.some.inj h)
-- X8_turned
theorem dX8_turned_0 : decode cX8_turned 0 = .ok (.aload_n 0, 1) := by decide +kernel
theorem dX8_turned_1 : decode cX8_turned 1 = .ok (.invokevirtual 236, 3) := by decide +kernel
theorem dX8_turned_4 : decode cX8_turned 4 = .ok (.ifCond .eq 10, 3) := by decide +kernel
theorem dX8_turned_7 : decode cX8_turned 7 = .ok (.iload_n 1, 1) := by decide +kernel
theorem dX8_turned_8 : decode cX8_turned 8 = .ok (.invokestatic 404, 3) := by decide +kernel
theorem dX8_turned_11 : decode cX8_turned 11 = .ok (.ifCond .ne 6, 3) := by decide +kernel
theorem dX8_turned_14 : decode cX8_turned 14 = .ok (.bipush (-2), 2) := by decide +kernel
theorem dX8_turned_16 : decode cX8_turned 16 = .ok (.ireturn, 1) := by decide +kernel
theorem dX8_turned_17 : decode cX8_turned 17 = .ok (.aload_n 0, 1) := by decide +kernel
theorem dX8_turned_18 : decode cX8_turned 18 = .ok (.getfield 40, 3) := by decide +kernel
theorem dX8_turned_21 : decode cX8_turned 21 = .ok (.iload_n 1, 1) := by decide +kernel
theorem dX8_turned_22 : decode cX8_turned 22 = .ok (.baload, 1) := by decide +kernel
theorem dX8_turned_23 : decode cX8_turned 23 = .ok (.ifCond .ne 6, 3) := by decide +kernel
theorem dX8_turned_26 : decode cX8_turned 26 = .ok (.bipush (-6), 2) := by decide +kernel
theorem dX8_turned_28 : decode cX8_turned 28 = .ok (.ireturn, 1) := by decide +kernel
theorem dX8_turned_29 : decode cX8_turned 29 = .ok (.iconst 0, 1) := by decide +kernel
theorem dX8_turned_30 : decode cX8_turned 30 = .ok (.istore_n 2, 1) := by decide +kernel
theorem dX8_turned_31 : decode cX8_turned 31 = .ok (.iload_n 2, 1) := by decide +kernel
theorem dX8_turned_32 : decode cX8_turned 32 = .ok (.bipush 8, 2) := by decide +kernel
theorem dX8_turned_34 : decode cX8_turned 34 = .ok (.if_icmp .ge 105, 3) := by decide +kernel
theorem dX8_turned_37 : decode cX8_turned 37 = .ok (.aload_n 0, 1) := by decide +kernel
theorem dX8_turned_38 : decode cX8_turned 38 = .ok (.iload_n 1, 1) := by decide +kernel
theorem dX8_turned_39 : decode cX8_turned 39 = .ok (.invokevirtual 407, 3) := by decide +kernel
theorem dX8_turned_42 : decode cX8_turned 42 = .ok (.aload_n 0, 1) := by decide +kernel
theorem dX8_turned_43 : decode cX8_turned 43 = .ok (.getfield 21, 3) := by decide +kernel
theorem dX8_turned_46 : decode cX8_turned 46 = .ok (.iconst 2, 1) := by decide +kernel
theorem dX8_turned_47 : decode cX8_turned 47 = .ok (.iaload, 1) := by decide +kernel
theorem dX8_turned_48 : decode cX8_turned 48 = .ok (.if_icmp .ne 7, 3) := by decide +kernel
theorem dX8_turned_51 : decode cX8_turned 51 = .ok (.iconst 1, 1) := by decide +kernel
theorem dX8_turned_52 : decode cX8_turned 52 = .ok (.goto 4, 3) := by decide +kernel
theorem dX8_turned_55 : decode cX8_turned 55 = .ok (.iconst 0, 1) := by decide +kernel
theorem dX8_turned_56 : decode cX8_turned 56 = .ok (.istore_n 3, 1) := by decide +kernel
theorem dX8_turned_57 : decode cX8_turned 57 = .ok (.iconst 0, 1) := by decide +kernel
theorem dX8_turned_58 : decode cX8_turned 58 = .ok (.istore 4, 2) := by decide +kernel
theorem dX8_turned_60 : decode cX8_turned 60 = .ok (.iload 4, 2) := by decide +kernel
theorem dX8_turned_62 : decode cX8_turned 62 = .ok (.aload_n 0, 1) := by decide +kernel
theorem dX8_turned_63 : decode cX8_turned 63 = .ok (.getfield 21, 3) := by decide +kernel
theorem dX8_turned_66 : decode cX8_turned 66 = .ok (.iconst 2, 1) := by decide +kernel
theorem dX8_turned_67 : decode cX8_turned 67 = .ok (.iaload, 1) := by decide +kernel
theorem dX8_turned_68 : decode cX8_turned 68 = .ok (.if_icmp .ge 59, 3) := by decide +kernel
theorem dX8_turned_71 : decode cX8_turned 71 = .ok (.iload_n 3, 1) := by decide +kernel
theorem dX8_turned_72 : decode cX8_turned 72 = .ok (.ifCond .eq 55, 3) := by decide +kernel
theorem dX8_turned_75 : decode cX8_turned 75 = .ok (.iload_n 2, 1) := by decide +kernel
theorem dX8_turned_76 : decode cX8_turned 76 = .ok (.iconst 4, 1) := by decide +kernel
theorem dX8_turned_77 : decode cX8_turned 77 = .ok (.if_icmp .ge 16, 3) := by decide +kernel
theorem dX8_turned_80 : decode cX8_turned 80 = .ok (.aload_n 0, 1) := by decide +kernel
theorem dX8_turned_81 : decode cX8_turned 81 = .ok (.getfield 21, 3) := by decide +kernel
theorem dX8_turned_84 : decode cX8_turned 84 = .ok (.bipush 19, 2) := by decide +kernel
theorem dX8_turned_86 : decode cX8_turned 86 = .ok (.iload 4, 2) := by decide +kernel
theorem dX8_turned_88 : decode cX8_turned 88 = .ok (.iadd, 1) := by decide +kernel
theorem dX8_turned_89 : decode cX8_turned 89 = .ok (.iaload, 1) := by decide +kernel
theorem dX8_turned_90 : decode cX8_turned 90 = .ok (.goto 9, 3) := by decide +kernel
theorem dX8_turned_93 : decode cX8_turned 93 = .ok (.aload_n 0, 1) := by decide +kernel
theorem dX8_turned_94 : decode cX8_turned 94 = .ok (.iload 4, 2) := by decide +kernel
theorem dX8_turned_96 : decode cX8_turned 96 = .ok (.invokevirtual 419, 3) := by decide +kernel
theorem dX8_turned_99 : decode cX8_turned 99 = .ok (.iload_n 2, 1) := by decide +kernel
theorem dX8_turned_100 : decode cX8_turned 100 = .ok (.iconst 4, 1) := by decide +kernel
theorem dX8_turned_101 : decode cX8_turned 101 = .ok (.irem, 1) := by decide +kernel
theorem dX8_turned_102 : decode cX8_turned 102 = .ok (.invokestatic 422, 3) := by decide +kernel
theorem dX8_turned_105 : decode cX8_turned 105 = .ok (.aload_n 0, 1) := by decide +kernel
theorem dX8_turned_106 : decode cX8_turned 106 = .ok (.iload_n 1, 1) := by decide +kernel
theorem dX8_turned_107 : decode cX8_turned 107 = .ok (.iload 4, 2) := by decide +kernel
theorem dX8_turned_109 : decode cX8_turned 109 = .ok (.invokevirtual 410, 3) := by decide +kernel
theorem dX8_turned_112 : decode cX8_turned 112 = .ok (.if_icmp .ne 7, 3) := by decide +kernel
theorem dX8_turned_115 : decode cX8_turned 115 = .ok (.iconst 1, 1) := by decide +kernel
theorem dX8_turned_116 : decode cX8_turned 116 = .ok (.goto 4, 3) := by decide +kernel
theorem dX8_turned_119 : decode cX8_turned 119 = .ok (.iconst 0, 1) := by decide +kernel
theorem dX8_turned_120 : decode cX8_turned 120 = .ok (.istore_n 3, 1) := by decide +kernel
theorem dX8_turned_121 : decode cX8_turned 121 = .ok (.iinc 4 1, 3) := by decide +kernel
theorem dX8_turned_124 : decode cX8_turned 124 = .ok (.goto (-64), 3) := by decide +kernel
theorem dX8_turned_127 : decode cX8_turned 127 = .ok (.iload_n 3, 1) := by decide +kernel
theorem dX8_turned_128 : decode cX8_turned 128 = .ok (.ifCond .eq 5, 3) := by decide +kernel
theorem dX8_turned_131 : decode cX8_turned 131 = .ok (.iload_n 2, 1) := by decide +kernel
theorem dX8_turned_132 : decode cX8_turned 132 = .ok (.ireturn, 1) := by decide +kernel
theorem dX8_turned_133 : decode cX8_turned 133 = .ok (.iinc 2 1, 3) := by decide +kernel
theorem dX8_turned_136 : decode cX8_turned 136 = .ok (.goto (-105), 3) := by decide +kernel
theorem dX8_turned_139 : decode cX8_turned 139 = .ok (.iconst (-1), 1) := by decide +kernel
theorem dX8_turned_140 : decode cX8_turned 140 = .ok (.ireturn, 1) := by decide +kernel
noncomputable def fX8_turned_120 (k31 : (Nat → Int32) → (Nat → Int32) → Int32 → Int32 → Option (Int32)) (k60 : (Nat → Int32) → (Nat → Int32) → Int32 → Int32 → Int32 → Int32 → Option (Int32)) (t_mem : Nat → Int32) (t_images : Nat → Int32) (v1 : Int32) (v2 : Int32) (v4 : Int32) (z0 : Int32) : Option (Int32) := k60 t_mem t_images v1 v2 z0 (v4 + 1)
noncomputable def fX8_turned_99 (k31 : (Nat → Int32) → (Nat → Int32) → Int32 → Int32 → Option (Int32)) (k60 : (Nat → Int32) → (Nat → Int32) → Int32 → Int32 → Int32 → Int32 → Option (Int32)) (t_mem : Nat → Int32) (t_images : Nat → Int32) (v1 : Int32) (v2 : Int32) (v4 : Int32) (z0 : Int32) : Option (Int32) := (fX8_whirled z0 (irem v2 4)).bind fun r19 => (fX8_typeIn t_images v1 v4).bind fun r21 => (if r19 = r21 then fX8_turned_120 k31 k60 t_mem t_images v1 v2 v4 1 else fX8_turned_120 k31 k60 t_mem t_images v1 v2 v4 0)
noncomputable def fX8_turned_127 (k31 : (Nat → Int32) → (Nat → Int32) → Int32 → Int32 → Option (Int32)) (t_mem : Nat → Int32) (t_images : Nat → Int32) (v1 : Int32) (v2 : Int32) (v3 : Int32) : Option (Int32) := (if v3 = 0 then k31 t_mem t_images v1 (v2 + 1) else some v2)
noncomputable def fX8_turned_60 (k31 : (Nat → Int32) → (Nat → Int32) → Int32 → Int32 → Option (Int32)) : Nat → (Nat → Int32) → (Nat → Int32) → Int32 → Int32 → Int32 → Int32 → Option (Int32)
  | 0, _, _, _, _, _, _ => none
  | n + 1, t_mem, t_images, v1, v2, v3, v4 => (if (t_mem 2) ≤ v4 then fX8_turned_127 k31 t_mem t_images v1 v2 v3 else (if v3 = 0 then fX8_turned_127 k31 t_mem t_images v1 v2 v3 else (if 4 ≤ v2 then (fX8_upsetAt t_mem v4).bind fun r16 => fX8_turned_99 k31 (fX8_turned_60 k31 n) t_mem t_images v1 v2 v4 r16 else chk 27 (19 + v4) (fX8_turned_99 k31 (fX8_turned_60 k31 n) t_mem t_images v1 v2 v4 (t_mem (19 + v4).toNatClampNeg)))))
theorem fX8_turned_60_z (k31 : (Nat → Int32) → (Nat → Int32) → Int32 → Int32 → Option (Int32)) (t_mem : Nat → Int32) (t_images : Nat → Int32) (v1 : Int32) (v2 : Int32) (v3 : Int32) (v4 : Int32) : fX8_turned_60 k31 0 t_mem t_images v1 v2 v3 v4 = none := rfl
theorem fX8_turned_60_s (k31 : (Nat → Int32) → (Nat → Int32) → Int32 → Int32 → Option (Int32)) (n : Nat) (t_mem : Nat → Int32) (t_images : Nat → Int32) (v1 : Int32) (v2 : Int32) (v3 : Int32) (v4 : Int32) : fX8_turned_60 k31 (n + 1) t_mem t_images v1 v2 v3 v4 = (if (t_mem 2) ≤ v4 then fX8_turned_127 k31 t_mem t_images v1 v2 v3 else (if v3 = 0 then fX8_turned_127 k31 t_mem t_images v1 v2 v3 else (if 4 ≤ v2 then (fX8_upsetAt t_mem v4).bind fun r16 => fX8_turned_99 k31 (fX8_turned_60 k31 n) t_mem t_images v1 v2 v4 r16 else chk 27 (19 + v4) (fX8_turned_99 k31 (fX8_turned_60 k31 n) t_mem t_images v1 v2 v4 (t_mem (19 + v4).toNatClampNeg))))) := rfl
noncomputable def fX8_turned_56 (k31 : (Nat → Int32) → (Nat → Int32) → Int32 → Int32 → Option (Int32)) (t_mem : Nat → Int32) (t_images : Nat → Int32) (v1 : Int32) (v2 : Int32) (z0 : Int32) : Option (Int32) := fX8_turned_60 k31 FU t_mem t_images v1 v2 z0 0
noncomputable def fX8_turned_31  : Nat → (Nat → Int32) → (Nat → Int32) → Int32 → Int32 → Option (Int32)
  | 0, _, _, _, _ => none
  | n + 1, t_mem, t_images, v1, v2 => (if 8 ≤ v2 then some (-1) else (fX8_manyIn t_images v1).bind fun r10 => (if r10 = (t_mem 2) then fX8_turned_56 (fX8_turned_31 n) t_mem t_images v1 v2 1 else fX8_turned_56 (fX8_turned_31 n) t_mem t_images v1 v2 0))
theorem fX8_turned_31_z  (t_mem : Nat → Int32) (t_images : Nat → Int32) (v1 : Int32) (v2 : Int32) : fX8_turned_31  0 t_mem t_images v1 v2 = none := rfl
theorem fX8_turned_31_s  (n : Nat) (t_mem : Nat → Int32) (t_images : Nat → Int32) (v1 : Int32) (v2 : Int32) : fX8_turned_31  (n + 1) t_mem t_images v1 v2 = (if 8 ≤ v2 then some (-1) else (fX8_manyIn t_images v1).bind fun r10 => (if r10 = (t_mem 2) then fX8_turned_56 (fX8_turned_31 n) t_mem t_images v1 v2 1 else fX8_turned_56 (fX8_turned_31 n) t_mem t_images v1 v2 0)) := rfl
noncomputable def fX8_turned  (t_mem : Nat → Int32) (t_images : Nat → Int32) (t_hasImage : Nat → Int32) (v1 : Int32) : Option (Int32) := (fX8_is t_mem).bind fun r1 => (if r1 = 0 then some (-2) else (if (fX8_isImage v1) = 0 then some (-2) else chk 3 v1 ((if (t_hasImage v1.toNatClampNeg) = 0 then some (-6) else fX8_turned_31 FU t_mem t_images v1 0))))
set_option maxHeartbeats 4000000 in
set_option maxRecDepth 100000 in
theorem ctX8_turned (l : Launch) (g : GT) (a_t : Nat → Nat) (t_acted : Int32) (t_taped : Int32) (t_faultKind : Int32) (t_faultPlace : Int32) (t_at : Int32) (t_begin : Int32) (t_token : Int32) (t_value : Int32) (t_bad : Int32) (t_wide : Int32) (t_lost : Int32) (t_det : Int64) (t_mask : Int32) (t_mode : Int32) (t_wanted : Int32) (t_orders : Int32) (t_foundAt : Int32) (t_foundBy : Int64) (t_unlikes : Int32) (t_mem : Nat → Int32) (t_images : Nat → Int32) (t_hasImage : Nat → Int32) (v1 : Int32) (o : Int32) (h : fX8_turned t_mem t_images t_hasImage v1 = some o) : Met l yX8_turned (Cond.code yX8_turned cX8_turned 5 (some .int) :: Tw) ⟨2, 0, 0, 45⟩ (va_Pc [.ref ((a_t 0)), .int v1] (roB g [((a_t 0), .inr (7, [.ref (a_t 1), .ref (a_t 2), .int t_acted, .ref (a_t 4), .ref (a_t 5), .ref (a_t 6), .ref (a_t 7), .ref (a_t 8), .ref (a_t 9), .int t_taped, .int t_faultKind, .int t_faultPlace, .int t_at, .int t_begin, .int t_token, .int t_value, .int t_bad, .ref (a_t 18), .ref (a_t 19), .ref (a_t 20), .int t_wide, .int t_lost, .ref (a_t 23), .long t_det, .ref (a_t 25), .int t_mask, .int t_mode, .int t_wanted, .int t_orders, .int t_foundAt, .long t_foundBy, .ref (a_t 32), .ref (a_t 33), .int t_unlikes, .ref (a_t 35), .ref (a_t 36)])), ((a_t 1), .inl (g.2.2.1 0, 27, .inl t_mem)), ((a_t 5), .inl (g.2.2.1 0, 81, .inl t_images)), ((a_t 8), .inl (g.2.2.1 3, 3, .inl t_hasImage))])) (vp_Si (fun x => x = o)) 0 0 (fun _ => False) := by
  refine ro_meti (by decide) (Nat.le_of_ble_eq_true rfl) (lv0 := [(0, .ref ((a_t 0))), (1, .int v1)]) rfl ?_
  intro p e s m args below meth c ls Q cx hret hG hP hl
  have hx := cx.1
  have hb := cx.2.1
  have hG0 := hG
  have w120 : ∀ (k31 : (Nat → Int32) → (Nat → Int32) → Int32 → Int32 → Option (Int32)) (hk31 : ∀ (v1 : Int32) (v2 : Int32) (ls : Array Slot), lv_has ls 5 [(0, .ref ((a_t 0))), (1, .int v1), (2, .int v2)] → k31 t_mem t_images v1 v2 = some o → W p l e ⟨2, 0, 0, 45⟩ s m args below meth c s.heap [] 0 0 Q (F0 m 31 ls [])) (k60 : (Nat → Int32) → (Nat → Int32) → Int32 → Int32 → Int32 → Int32 → Option (Int32)) (hk60 : ∀ (v1 : Int32) (v2 : Int32) (v3 : Int32) (v4 : Int32) (ls : Array Slot), lv_has ls 5 [(0, .ref ((a_t 0))), (1, .int v1), (2, .int v2), (3, .int v3), (4, .int v4)] → k60 t_mem t_images v1 v2 v3 v4 = some o → W p l e ⟨2, 0, 0, 45⟩ s m args below meth c s.heap [] 0 0 Q (F0 m 60 ls [])) (v1 : Int32) (v2 : Int32) (v4 : Int32) (z0 : Int32) (ls : Array Slot), lv_has ls 5 [(0, .ref ((a_t 0))), (1, .int v1), (2, .int v2), (4, .int v4)] → fX8_turned_120 k31 k60 t_mem t_images v1 v2 v4 z0 = some o → W p l e ⟨2, 0, 0, 45⟩ s m args below meth c s.heap [] 0 0 Q (F0 m 120 ls [.int z0]) := by
    intro k31 hk31 k60 hk60 v1 v2 v4 z0 ls hl h
    unfold fX8_turned_120 at h
    refine lv_istore_n (lv' := [(3, .int z0), (0, .ref ((a_t 0))), (1, .int v1), (2, .int v2), (4, .int v4)]) hx hb dX8_turned_120 rfl hl (by decide) rfl (fun ls hl => ?_)
    refine lv_iinc (v := v4 + 1) (lv' := [(4, .int (v4 + 1)), (3, .int z0), (0, .ref ((a_t 0))), (1, .int v1), (2, .int v2)]) hx hb dX8_turned_121 hl (k := 4) rfl rfl (by decide) rfl (fun ls hl => ?_)
    refine lv_goto (tgt := 60) hx hb dX8_turned_124 (by decide) ?_
    exact hk60 v1 v2 z0 (v4 + 1) _ (lv_sub hl [2, 3, 4, 1, 0] rfl) h
  have w99 : ∀ (k31 : (Nat → Int32) → (Nat → Int32) → Int32 → Int32 → Option (Int32)) (hk31 : ∀ (v1 : Int32) (v2 : Int32) (ls : Array Slot), lv_has ls 5 [(0, .ref ((a_t 0))), (1, .int v1), (2, .int v2)] → k31 t_mem t_images v1 v2 = some o → W p l e ⟨2, 0, 0, 45⟩ s m args below meth c s.heap [] 0 0 Q (F0 m 31 ls [])) (k60 : (Nat → Int32) → (Nat → Int32) → Int32 → Int32 → Int32 → Int32 → Option (Int32)) (hk60 : ∀ (v1 : Int32) (v2 : Int32) (v3 : Int32) (v4 : Int32) (ls : Array Slot), lv_has ls 5 [(0, .ref ((a_t 0))), (1, .int v1), (2, .int v2), (3, .int v3), (4, .int v4)] → k60 t_mem t_images v1 v2 v3 v4 = some o → W p l e ⟨2, 0, 0, 45⟩ s m args below meth c s.heap [] 0 0 Q (F0 m 60 ls [])) (v1 : Int32) (v2 : Int32) (v4 : Int32) (z0 : Int32) (ls : Array Slot), lv_has ls 5 [(0, .ref ((a_t 0))), (1, .int v1), (2, .int v2), (4, .int v4)] → fX8_turned_99 k31 k60 t_mem t_images v1 v2 v4 z0 = some o → W p l e ⟨2, 0, 0, 45⟩ s m args below meth c s.heap [] 0 0 Q (F0 m 99 ls [.int z0]) := by
    intro k31 hk31 k60 hk60 v1 v2 v4 z0 ls hl h
    unfold fX8_turned_99 at h
    refine lv_iload_n hx hb dX8_turned_99 rfl (lv_at hl 2 rfl) ?_
    refine lv_iconst (v := 4) hx hb dX8_turned_100 (by decide) ?_
    refine xv_irem hx hb dX8_turned_101 (by decide) ?_
    obtain ⟨r19, hr20, h⟩ := bnd h
    refine ro_i (runS (As := [.int z0, .int (irem v2 4)]) (rest := []) cx hl.1 (ctX8_whirled l g z0 (irem v2 4) r19 hr20) kmX8_whirled ksX8_whirled lm_X8_422 ⟨rfl, rfl⟩ ⟨Nat.le_of_ble_eq_true rfl, Nat.le_of_ble_eq_true rfl⟩ (roS hG (hP.sub [] rfl)) rfl rfl (Nat.le_of_ble_eq_true rfl) dX8_turned_102 ⟨Nat.le_of_ble_eq_true rfl, Nat.le_of_ble_eq_true rfl⟩) ?_
    refine lv_aload_n hx hb dX8_turned_105 rfl (lv_at hl 0 rfl) ?_
    refine lv_iload_n hx hb dX8_turned_106 rfl (lv_at hl 1 rfl) ?_
    refine lv_iload hx hb dX8_turned_107 (lv_at hl 3 rfl) ?_
    obtain ⟨r21, hr22, h⟩ := bnd h
    refine ro_i (runV (As := [.int v1, .int v4]) (rest := [.int r19]) cx hl.1 (ctX8_typeIn l g a_t t_acted t_taped t_faultKind t_faultPlace t_at t_begin t_token t_value t_bad t_wide t_lost t_det t_mask t_mode t_wanted t_orders t_foundAt t_foundBy t_unlikes t_images v1 v4 r21 hr22) kmX8_typeIn kvX8_typeIn lm_X8_410 ⟨rfl, rfl⟩ ⟨Nat.le_of_ble_eq_true rfl, Nat.le_of_ble_eq_true rfl⟩ (roV (q0 := 0) (ci := 7) hG (hP.sub [0, 2] rfl) hP rfl rfl) rfl rfl (Nat.le_of_ble_eq_true rfl) dX8_turned_109 ⟨Nat.le_of_ble_eq_true rfl, Nat.le_of_ble_eq_true rfl⟩) ?_
    refine lv_icmp_ne (tgt := 119) hx hb dX8_turned_112 (by decide) (fun c23 => ?_) (fun c23 => ?_)
    · have h := itn c23 h
      refine lv_iconst (v := 0) hx hb dX8_turned_119 (by decide) ?_
      exact w120 _ hk31 _ hk60 v1 v2 v4 0 _ (lv_sub hl [0, 1, 2, 3] rfl) h
    · have h := itp c23 h
      refine lv_iconst (v := 1) hx hb dX8_turned_115 (by decide) ?_
      refine lv_goto (tgt := 120) hx hb dX8_turned_116 (by decide) ?_
      exact w120 _ hk31 _ hk60 v1 v2 v4 1 _ (lv_sub hl [0, 1, 2, 3] rfl) h
  have w127 : ∀ (k31 : (Nat → Int32) → (Nat → Int32) → Int32 → Int32 → Option (Int32)) (hk31 : ∀ (v1 : Int32) (v2 : Int32) (ls : Array Slot), lv_has ls 5 [(0, .ref ((a_t 0))), (1, .int v1), (2, .int v2)] → k31 t_mem t_images v1 v2 = some o → W p l e ⟨2, 0, 0, 45⟩ s m args below meth c s.heap [] 0 0 Q (F0 m 31 ls [])) (v1 : Int32) (v2 : Int32) (v3 : Int32) (ls : Array Slot), lv_has ls 5 [(0, .ref ((a_t 0))), (1, .int v1), (2, .int v2), (3, .int v3)] → fX8_turned_127 k31 t_mem t_images v1 v2 v3 = some o → W p l e ⟨2, 0, 0, 45⟩ s m args below meth c s.heap [] 0 0 Q (F0 m 127 ls []) := by
    intro k31 hk31 v1 v2 v3 ls hl h
    unfold fX8_turned_127 at h
    refine lv_iload_n hx hb dX8_turned_127 rfl (lv_at hl 3 rfl) ?_
    refine lv_if_eq (tgt := 133) hx hb dX8_turned_128 (by decide) (fun c24 => ?_) (fun c24 => ?_)
    · have h := itp c24 h
      refine lv_iinc (v := v2 + 1) (lv' := [(2, .int (v2 + 1)), (0, .ref ((a_t 0))), (1, .int v1), (3, .int v3)]) hx hb dX8_turned_133 hl (k := 2) rfl rfl (by decide) rfl (fun ls hl => ?_)
      refine lv_goto (tgt := 31) hx hb dX8_turned_136 (by decide) ?_
      exact hk31 v1 (v2 + 1) _ (lv_sub hl [1, 2, 0] rfl) h
    · have h := itn c24 h
      refine lv_iload_n hx hb dX8_turned_131 rfl (lv_at hl 2 rfl) ?_
      exact hret _ _ _ dX8_turned_132 (Option.some.inj h)
  have w60 : ∀ (k31 : (Nat → Int32) → (Nat → Int32) → Int32 → Int32 → Option (Int32)) (hk31 : ∀ (v1 : Int32) (v2 : Int32) (ls : Array Slot), lv_has ls 5 [(0, .ref ((a_t 0))), (1, .int v1), (2, .int v2)] → k31 t_mem t_images v1 v2 = some o → W p l e ⟨2, 0, 0, 45⟩ s m args below meth c s.heap [] 0 0 Q (F0 m 31 ls [])) (n : Nat) (v1 : Int32) (v2 : Int32) (v3 : Int32) (v4 : Int32) (ls : Array Slot), lv_has ls 5 [(0, .ref ((a_t 0))), (1, .int v1), (2, .int v2), (3, .int v3), (4, .int v4)] → fX8_turned_60 k31 n t_mem t_images v1 v2 v3 v4 = some o → W p l e ⟨2, 0, 0, 45⟩ s m args below meth c s.heap [] 0 0 Q (F0 m 60 ls []) := by
    intro k31 hk31 n
    induction n with
    | zero => intro v1 v2 v3 v4 ls hl h; cases (fX8_turned_60_z k31 t_mem t_images v1 v2 v3 v4).symm.trans h
    | succ n ih =>
    intro v1 v2 v3 v4 ls hl h
    have h := (fX8_turned_60_s k31 n t_mem t_images v1 v2 v3 v4).symm.trans h
    refine lv_iload hx hb dX8_turned_60 (lv_at hl 4 rfl) ?_
    refine lv_aload_n hx hb dX8_turned_62 rfl (lv_at hl 0 rfl) ?_
    refine xa_get (C := RX8) (T := TX8) (N := 36) cx hG hP 0 rfl rfl uX8 0 (by decide) lf_X8_21 rfl dX8_turned_63 ?_
    refine lv_iconst (v := 2) hx hb dX8_turned_66 (by decide) ?_
    refine xa_iald (k := 2) cx hG hP 1 rfl (show ¬ ((2 : Int32) < 0 ∨ 27 ≤ (2 : Int32).toNatClampNeg) by decide) (by decide) dX8_turned_67 ?_
    refine lv_icmp_ge (tgt := 127) hx hb dX8_turned_68 (by decide) (fun c13 => ?_) (fun c13 => ?_)
    · have h := itp c13 h
      exact w127 _ hk31 v1 v2 v3 _ (lv_sub hl [0, 1, 2, 3] rfl) h
    · have h := itn c13 h
      refine lv_iload_n hx hb dX8_turned_71 rfl (lv_at hl 3 rfl) ?_
      refine lv_if_eq (tgt := 127) hx hb dX8_turned_72 (by decide) (fun c14 => ?_) (fun c14 => ?_)
      · have h := itp c14 h
        exact w127 _ hk31 v1 v2 v3 _ (lv_sub hl [0, 1, 2, 3] rfl) h
      · have h := itn c14 h
        refine lv_iload_n hx hb dX8_turned_75 rfl (lv_at hl 2 rfl) ?_
        refine lv_iconst (v := 4) hx hb dX8_turned_76 (by decide) ?_
        refine lv_icmp_ge (tgt := 93) hx hb dX8_turned_77 (by decide) (fun c15 => ?_) (fun c15 => ?_)
        · have h := itp c15 h
          refine lv_aload_n hx hb dX8_turned_93 rfl (lv_at hl 0 rfl) ?_
          refine lv_iload hx hb dX8_turned_94 (lv_at hl 4 rfl) ?_
          obtain ⟨r16, hr17, h⟩ := bnd h
          refine ro_i (runV (As := [.int v4]) (rest := []) cx hl.1 (ctX8_upsetAt l g a_t t_acted t_taped t_faultKind t_faultPlace t_at t_begin t_token t_value t_bad t_wide t_lost t_det t_mask t_mode t_wanted t_orders t_foundAt t_foundBy t_unlikes t_mem v4 r16 hr17) kmX8_upsetAt kvX8_upsetAt lm_X8_419 ⟨rfl, rfl⟩ ⟨Nat.le_of_ble_eq_true rfl, Nat.le_of_ble_eq_true rfl⟩ (roV (q0 := 0) (ci := 7) hG (hP.sub [0, 1] rfl) hP rfl rfl) rfl rfl (Nat.le_of_ble_eq_true rfl) dX8_turned_96 ⟨Nat.le_of_ble_eq_true rfl, Nat.le_of_ble_eq_true rfl⟩) ?_
          exact w99 _ hk31 _ ih v1 v2 v4 r16 _ (lv_sub hl [0, 1, 2, 4] rfl) h
        · have h := itn c15 h
          refine lv_aload_n hx hb dX8_turned_80 rfl (lv_at hl 0 rfl) ?_
          refine xa_get (C := RX8) (T := TX8) (N := 36) cx hG hP 0 rfl rfl uX8 0 (by decide) lf_X8_21 rfl dX8_turned_81 ?_
          refine lv_bipush (v := 19) hx hb dX8_turned_84 (by decide) ?_
          refine lv_iload hx hb dX8_turned_86 (lv_at hl 4 rfl) ?_
          refine lv_iadd hx hb dX8_turned_88 ?_
          obtain ⟨hi18, h⟩ := chk_out h
          refine xa_iald cx hG hP 1 rfl hi18 rfl dX8_turned_89 ?_
          refine lv_goto (tgt := 99) hx hb dX8_turned_90 (by decide) ?_
          exact w99 _ hk31 _ ih v1 v2 v4 (t_mem (19 + v4).toNatClampNeg) _ (lv_sub hl [0, 1, 2, 4] rfl) h
  have w56 : ∀ (k31 : (Nat → Int32) → (Nat → Int32) → Int32 → Int32 → Option (Int32)) (hk31 : ∀ (v1 : Int32) (v2 : Int32) (ls : Array Slot), lv_has ls 5 [(0, .ref ((a_t 0))), (1, .int v1), (2, .int v2)] → k31 t_mem t_images v1 v2 = some o → W p l e ⟨2, 0, 0, 45⟩ s m args below meth c s.heap [] 0 0 Q (F0 m 31 ls [])) (v1 : Int32) (v2 : Int32) (z0 : Int32) (ls : Array Slot), lv_has ls 5 [(0, .ref ((a_t 0))), (1, .int v1), (2, .int v2)] → fX8_turned_56 k31 t_mem t_images v1 v2 z0 = some o → W p l e ⟨2, 0, 0, 45⟩ s m args below meth c s.heap [] 0 0 Q (F0 m 56 ls [.int z0]) := by
    intro k31 hk31 v1 v2 z0 ls hl h
    unfold fX8_turned_56 at h
    refine lv_istore_n (lv' := [(3, .int z0), (0, .ref ((a_t 0))), (1, .int v1), (2, .int v2)]) hx hb dX8_turned_56 rfl hl (by decide) rfl (fun ls hl => ?_)
    refine lv_iconst (v := 0) hx hb dX8_turned_57 (by decide) ?_
    refine lv_istore (lv' := [(4, .int (0)), (3, .int z0), (0, .ref ((a_t 0))), (1, .int v1), (2, .int v2)]) hx hb dX8_turned_58 hl (by decide) rfl (fun ls hl => ?_)
    exact w60 _ hk31 FU v1 v2 z0 0 _ (lv_sub hl [2, 3, 4, 1, 0] rfl) h
  have w31 : ∀ (n : Nat) (v1 : Int32) (v2 : Int32) (ls : Array Slot), lv_has ls 5 [(0, .ref ((a_t 0))), (1, .int v1), (2, .int v2)] → fX8_turned_31  n t_mem t_images v1 v2 = some o → W p l e ⟨2, 0, 0, 45⟩ s m args below meth c s.heap [] 0 0 Q (F0 m 31 ls []) := by
    intro n
    induction n with
    | zero => intro v1 v2 ls hl h; cases (fX8_turned_31_z  t_mem t_images v1 v2).symm.trans h
    | succ n ih =>
    intro v1 v2 ls hl h
    have h := (fX8_turned_31_s  n t_mem t_images v1 v2).symm.trans h
    refine lv_iload_n hx hb dX8_turned_31 rfl (lv_at hl 2 rfl) ?_
    refine lv_bipush (v := 8) hx hb dX8_turned_32 (by decide) ?_
    refine lv_icmp_ge (tgt := 139) hx hb dX8_turned_34 (by decide) (fun c9 => ?_) (fun c9 => ?_)
    · have h := itp c9 h
      refine lv_iconst (v := -1) hx hb dX8_turned_139 (by decide) ?_
      exact hret _ _ _ dX8_turned_140 (Option.some.inj h)
    · have h := itn c9 h
      refine lv_aload_n hx hb dX8_turned_37 rfl (lv_at hl 0 rfl) ?_
      refine lv_iload_n hx hb dX8_turned_38 rfl (lv_at hl 1 rfl) ?_
      obtain ⟨r10, hr11, h⟩ := bnd h
      refine ro_i (runV (As := [.int v1]) (rest := []) cx hl.1 (ctX8_manyIn l g a_t t_acted t_taped t_faultKind t_faultPlace t_at t_begin t_token t_value t_bad t_wide t_lost t_det t_mask t_mode t_wanted t_orders t_foundAt t_foundBy t_unlikes t_images v1 r10 hr11) kmX8_manyIn kvX8_manyIn lm_X8_407 ⟨rfl, rfl⟩ ⟨Nat.le_of_ble_eq_true rfl, Nat.le_of_ble_eq_true rfl⟩ (roV (q0 := 0) (ci := 7) hG (hP.sub [0, 2] rfl) hP rfl rfl) rfl rfl (Nat.le_of_ble_eq_true rfl) dX8_turned_39 ⟨Nat.le_of_ble_eq_true rfl, Nat.le_of_ble_eq_true rfl⟩) ?_
      refine lv_aload_n hx hb dX8_turned_42 rfl (lv_at hl 0 rfl) ?_
      refine xa_get (C := RX8) (T := TX8) (N := 36) cx hG hP 0 rfl rfl uX8 0 (by decide) lf_X8_21 rfl dX8_turned_43 ?_
      refine lv_iconst (v := 2) hx hb dX8_turned_46 (by decide) ?_
      refine xa_iald (k := 2) cx hG hP 1 rfl (show ¬ ((2 : Int32) < 0 ∨ 27 ≤ (2 : Int32).toNatClampNeg) by decide) (by decide) dX8_turned_47 ?_
      refine lv_icmp_ne (tgt := 55) hx hb dX8_turned_48 (by decide) (fun c12 => ?_) (fun c12 => ?_)
      · have h := itn c12 h
        refine lv_iconst (v := 0) hx hb dX8_turned_55 (by decide) ?_
        exact w56 _ ih v1 v2 0 _ (lv_sub hl [0, 1, 2] rfl) h
      · have h := itp c12 h
        refine lv_iconst (v := 1) hx hb dX8_turned_51 (by decide) ?_
        refine lv_goto (tgt := 56) hx hb dX8_turned_52 (by decide) ?_
        exact w56 _ ih v1 v2 1 _ (lv_sub hl [0, 1, 2] rfl) h
  unfold fX8_turned at h
  refine lv_aload_n hx hb dX8_turned_0 rfl (lv_at hl 0 rfl) ?_
  obtain ⟨r1, hr2, h⟩ := bnd h
  refine ro_z (runV (As := []) (rest := []) cx hl.1 (ctX8_is l g a_t t_acted t_taped t_faultKind t_faultPlace t_at t_begin t_token t_value t_bad t_wide t_lost t_det t_mask t_mode t_wanted t_orders t_foundAt t_foundBy t_unlikes t_mem r1 hr2) kmX8_is kvX8_is lm_X8_236 ⟨rfl, rfl⟩ ⟨Nat.le_of_ble_eq_true rfl, Nat.le_of_ble_eq_true rfl⟩ (roV (q0 := 0) (ci := 7) hG (hP.sub [0, 1] rfl) hP rfl rfl) rfl rfl (Nat.le_of_ble_eq_true rfl) dX8_turned_1 ⟨Nat.le_of_ble_eq_true rfl, Nat.le_of_ble_eq_true rfl⟩) (fun hz3 => ?_)
  refine lv_if_eq (tgt := 14) hx hb dX8_turned_4 (by decide) (fun c4 => ?_) (fun c4 => ?_)
  · have h := itp c4 h
    refine lv_bipush (v := -2) hx hb dX8_turned_14 (by decide) ?_
    exact hret _ _ _ dX8_turned_16 (Option.some.inj h)
  · have h := itn c4 h
    refine lv_iload_n hx hb dX8_turned_7 rfl (lv_at hl 1 rfl) ?_
    refine ro_z (runS (As := [.int v1]) (rest := []) cx hl.1 (ctX8_isImage l g v1 (fX8_isImage v1) rfl) kmX8_isImage ksX8_isImage lm_X8_404 ⟨rfl, rfl⟩ ⟨Nat.le_of_ble_eq_true rfl, Nat.le_of_ble_eq_true rfl⟩ (roS hG (hP.sub [] rfl)) rfl rfl (Nat.le_of_ble_eq_true rfl) dX8_turned_8 ⟨Nat.le_of_ble_eq_true rfl, Nat.le_of_ble_eq_true rfl⟩) (fun hz5 => ?_)
    refine lv_if_ne (tgt := 17) hx hb dX8_turned_11 (by decide) (fun c6 => ?_) (fun c6 => ?_)
    · have h := itn c6 h
      refine lv_aload_n hx hb dX8_turned_17 rfl (lv_at hl 0 rfl) ?_
      refine xa_get (C := RX8) (T := TX8) (N := 36) cx hG hP 0 rfl rfl uX8 7 (by decide) lf_X8_40 rfl dX8_turned_18 ?_
      refine lv_iload_n hx hb dX8_turned_21 rfl (lv_at hl 1 rfl) ?_
      obtain ⟨hi7, h⟩ := chk_out h
      refine xa_zald cx hG hP 3 rfl hi7 rfl dX8_turned_22 ?_
      refine lv_if_ne (tgt := 29) hx hb dX8_turned_23 (by decide) (fun c8 => ?_) (fun c8 => ?_)
      · have h := itn c8 h
        refine lv_iconst (v := 0) hx hb dX8_turned_29 (by decide) ?_
        refine lv_istore_n (lv' := [(2, .int (0)), (0, .ref ((a_t 0))), (1, .int v1)]) hx hb dX8_turned_30 rfl hl (by decide) rfl (fun ls hl => ?_)
        exact w31 FU v1 0 _ (lv_sub hl [1, 2, 0] rfl) h
      · have h := itp c8 h
        refine lv_bipush (v := -6) hx hb dX8_turned_26 (by decide) ?_
        exact hret _ _ _ dX8_turned_28 (Option.some.inj h)
    · have h := itp c6 h
      refine lv_bipush (v := -2) hx hb dX8_turned_14 (by decide) ?_
      exact hret _ _ _ dX8_turned_16 (Option.some.inj h)
-- X8_isFull
theorem dX8_isFull_0 : decode cX8_isFull 0 = .ok (.aload_n 0, 1) := by decide +kernel
theorem dX8_isFull_1 : decode cX8_isFull 1 = .ok (.getfield 188, 3) := by decide +kernel
theorem dX8_isFull_4 : decode cX8_isFull 4 = .ok (.bipush 30, 2) := by decide +kernel
theorem dX8_isFull_6 : decode cX8_isFull 6 = .ok (.if_icmp .ne 7, 3) := by decide +kernel
theorem dX8_isFull_9 : decode cX8_isFull 9 = .ok (.iconst 1, 1) := by decide +kernel
theorem dX8_isFull_10 : decode cX8_isFull 10 = .ok (.goto 4, 3) := by decide +kernel
theorem dX8_isFull_13 : decode cX8_isFull 13 = .ok (.iconst 0, 1) := by decide +kernel
theorem dX8_isFull_14 : decode cX8_isFull 14 = .ok (.ireturn, 1) := by decide +kernel
noncomputable def fX8_isFull  (t_acted : Int32) : Int32 := (if t_acted = 30 then (1) else (0))
set_option maxHeartbeats 4000000 in
set_option maxRecDepth 100000 in
theorem ctX8_isFull (l : Launch) (g : GT) (a_t : Nat → Nat) (t_acted : Int32) (t_taped : Int32) (t_faultKind : Int32) (t_faultPlace : Int32) (t_at : Int32) (t_begin : Int32) (t_token : Int32) (t_value : Int32) (t_bad : Int32) (t_wide : Int32) (t_lost : Int32) (t_det : Int64) (t_mask : Int32) (t_mode : Int32) (t_wanted : Int32) (t_orders : Int32) (t_foundAt : Int32) (t_foundBy : Int64) (t_unlikes : Int32) (o : Int32) (h : fX8_isFull t_acted = o) : Met l yX8_isFull (Cond.code yX8_isFull cX8_isFull 1 (some .boolean) :: Tw) ⟨0, 0, 0, 0⟩ (va_Pc [.ref ((a_t 0))] (roB g [((a_t 0), .inr (7, [.ref (a_t 1), .ref (a_t 2), .int t_acted, .ref (a_t 4), .ref (a_t 5), .ref (a_t 6), .ref (a_t 7), .ref (a_t 8), .ref (a_t 9), .int t_taped, .int t_faultKind, .int t_faultPlace, .int t_at, .int t_begin, .int t_token, .int t_value, .int t_bad, .ref (a_t 18), .ref (a_t 19), .ref (a_t 20), .int t_wide, .int t_lost, .ref (a_t 23), .long t_det, .ref (a_t 25), .int t_mask, .int t_mode, .int t_wanted, .int t_orders, .int t_foundAt, .long t_foundBy, .ref (a_t 32), .ref (a_t 33), .int t_unlikes, .ref (a_t 35), .ref (a_t 36)]))])) (vp_Si (fun x => x = o ∧ (x = 0 ∨ x = 1))) 0 0 (fun _ => False) := by
  refine ro_metz (by decide) (Nat.le_of_ble_eq_true rfl) (lv0 := [(0, .ref ((a_t 0)))]) rfl ?_
  intro p e s m args below meth c ls Q cx hret hG hP hl
  have hx := cx.1
  have hb := cx.2.1
  have hG0 := hG
  unfold fX8_isFull at h
  refine lv_aload_n hx hb dX8_isFull_0 rfl (lv_at hl 0 rfl) ?_
  refine xa_get (C := RX8) (T := TX8) (N := 36) cx hG hP 0 rfl rfl uX8 2 (by decide) lf_X8_188 rfl dX8_isFull_1 ?_
  refine lv_bipush (v := 30) hx hb dX8_isFull_4 (by decide) ?_
  refine lv_icmp_ne (tgt := 13) hx hb dX8_isFull_6 (by decide) (fun c1 => ?_) (fun c1 => ?_)
  · have h := itn c1 h
    refine lv_iconst (v := 0) hx hb dX8_isFull_13 (by decide) ?_
    exact hret _ _ _ dX8_isFull_14 (by decide) h
  · have h := itp c1 h
    refine lv_iconst (v := 1) hx hb dX8_isFull_9 (by decide) ?_
    refine lv_goto (tgt := 14) hx hb dX8_isFull_10 (by decide) ?_
    exact hret _ _ _ dX8_isFull_14 (by decide) h
-- X8_keeps
theorem dX8_keeps_0 : decode cX8_keeps 0 = .ok (.iconst 0, 1) := by decide +kernel
theorem dX8_keeps_1 : decode cX8_keeps 1 = .ok (.istore_n 1, 1) := by decide +kernel
theorem dX8_keeps_2 : decode cX8_keeps 2 = .ok (.iload_n 1, 1) := by decide +kernel
theorem dX8_keeps_3 : decode cX8_keeps 3 = .ok (.bipush 27, 2) := by decide +kernel
theorem dX8_keeps_5 : decode cX8_keeps 5 = .ok (.if_icmp .ge 29, 3) := by decide +kernel
theorem dX8_keeps_8 : decode cX8_keeps 8 = .ok (.aload_n 0, 1) := by decide +kernel
theorem dX8_keeps_9 : decode cX8_keeps 9 = .ok (.getfield 28, 3) := by decide +kernel
theorem dX8_keeps_12 : decode cX8_keeps 12 = .ok (.bipush 27, 2) := by decide +kernel
theorem dX8_keeps_14 : decode cX8_keeps 14 = .ok (.aload_n 0, 1) := by decide +kernel
theorem dX8_keeps_15 : decode cX8_keeps 15 = .ok (.getfield 188, 3) := by decide +kernel
theorem dX8_keeps_18 : decode cX8_keeps 18 = .ok (.imul, 1) := by decide +kernel
theorem dX8_keeps_19 : decode cX8_keeps 19 = .ok (.iload_n 1, 1) := by decide +kernel
theorem dX8_keeps_20 : decode cX8_keeps 20 = .ok (.iadd, 1) := by decide +kernel
theorem dX8_keeps_21 : decode cX8_keeps 21 = .ok (.aload_n 0, 1) := by decide +kernel
theorem dX8_keeps_22 : decode cX8_keeps 22 = .ok (.getfield 21, 3) := by decide +kernel
theorem dX8_keeps_25 : decode cX8_keeps 25 = .ok (.iload_n 1, 1) := by decide +kernel
theorem dX8_keeps_26 : decode cX8_keeps 26 = .ok (.iaload, 1) := by decide +kernel
theorem dX8_keeps_27 : decode cX8_keeps 27 = .ok (.iastore, 1) := by decide +kernel
theorem dX8_keeps_28 : decode cX8_keeps 28 = .ok (.iinc 1 1, 3) := by decide +kernel
theorem dX8_keeps_31 : decode cX8_keeps 31 = .ok (.goto (-29), 3) := by decide +kernel
theorem dX8_keeps_34 : decode cX8_keeps 34 = .ok (.aload_n 0, 1) := by decide +kernel
theorem dX8_keeps_35 : decode cX8_keeps 35 = .ok (.dup, 1) := by decide +kernel
theorem dX8_keeps_36 : decode cX8_keeps 36 = .ok (.getfield 188, 3) := by decide +kernel
theorem dX8_keeps_39 : decode cX8_keeps 39 = .ok (.iconst 1, 1) := by decide +kernel
theorem dX8_keeps_40 : decode cX8_keeps 40 = .ok (.iadd, 1) := by decide +kernel
theorem dX8_keeps_41 : decode cX8_keeps 41 = .ok (.putfield 188, 3) := by decide +kernel
theorem dX8_keeps_44 : decode cX8_keeps 44 = .ok (.return_, 1) := by decide +kernel
noncomputable def fX8_keeps_2  : Nat → (Nat → Int32) → Int32 → (Nat → Int32) → Int32 → Option (Int32 × (Nat → Int32))
  | 0, _, _, _, _ => none
  | n + 1, t_mem, t_acted, t_past, v1 => (if 27 ≤ v1 then some (t_acted + 1, t_past) else chk 27 v1 (chk 810 ((27 * t_acted) + v1) (fX8_keeps_2 n t_mem t_acted (upd t_past (((27 * t_acted) + v1).toNatClampNeg) (t_mem v1.toNatClampNeg)) (v1 + 1))))
theorem fX8_keeps_2_z  (t_mem : Nat → Int32) (t_acted : Int32) (t_past : Nat → Int32) (v1 : Int32) : fX8_keeps_2  0 t_mem t_acted t_past v1 = none := rfl
theorem fX8_keeps_2_s  (n : Nat) (t_mem : Nat → Int32) (t_acted : Int32) (t_past : Nat → Int32) (v1 : Int32) : fX8_keeps_2  (n + 1) t_mem t_acted t_past v1 = (if 27 ≤ v1 then some (t_acted + 1, t_past) else chk 27 v1 (chk 810 ((27 * t_acted) + v1) (fX8_keeps_2 n t_mem t_acted (upd t_past (((27 * t_acted) + v1).toNatClampNeg) (t_mem v1.toNatClampNeg)) (v1 + 1)))) := rfl
noncomputable def fX8_keeps  (t_mem : Nat → Int32) (t_acted : Int32) (t_past : Nat → Int32) : Option (Int32 × (Nat → Int32)) := fX8_keeps_2 FU t_mem t_acted t_past 0
set_option maxHeartbeats 4000000 in
set_option maxRecDepth 100000 in
theorem ctX8_keeps (l : Launch) (g : GT) (sz : Nat) (a_t : Nat → Nat) (t_acted : Int32) (t_taped : Int32) (t_faultKind : Int32) (t_faultPlace : Int32) (t_at : Int32) (t_begin : Int32) (t_token : Int32) (t_value : Int32) (t_bad : Int32) (t_wide : Int32) (t_lost : Int32) (t_det : Int64) (t_mask : Int32) (t_mode : Int32) (t_wanted : Int32) (t_orders : Int32) (t_foundAt : Int32) (t_foundBy : Int64) (t_unlikes : Int32) (t_mem : Nat → Int32) (t_past : Nat → Int32) (o_t_acted : Int32) (o_t_past : Nat → Int32) (h : fX8_keeps t_mem t_acted t_past = some (o_t_acted, o_t_past)) : Met l yX8_keeps (Cond.code yX8_keeps cX8_keeps 2 none :: Tw) ⟨0, 0, 0, 0⟩ (va_Pc [.ref ((a_t 0))] (rwB g [((a_t 0), .inr (7, [.ref (a_t 1), .ref (a_t 2), .int t_acted, .ref (a_t 4), .ref (a_t 5), .ref (a_t 6), .ref (a_t 7), .ref (a_t 8), .ref (a_t 9), .int t_taped, .int t_faultKind, .int t_faultPlace, .int t_at, .int t_begin, .int t_token, .int t_value, .int t_bad, .ref (a_t 18), .ref (a_t 19), .ref (a_t 20), .int t_wide, .int t_lost, .ref (a_t 23), .long t_det, .ref (a_t 25), .int t_mask, .int t_mode, .int t_wanted, .int t_orders, .int t_foundAt, .long t_foundBy, .ref (a_t 32), .ref (a_t 33), .int t_unlikes, .ref (a_t 35), .ref (a_t 36)])), ((a_t 1), .inl (g.2.2.1 0, 27, .inl t_mem)), ((a_t 4), .inl (g.2.2.1 0, 810, .inl t_past))] sz)) (va_Qv (fun (_ : Nat → Nat) => True) (fun u => rwE g (va_A [((a_t 0), .inr (7, [.ref (a_t 1), .ref (a_t 2), .int t_acted, .ref (a_t 4), .ref (a_t 5), .ref (a_t 6), .ref (a_t 7), .ref (a_t 8), .ref (a_t 9), .int t_taped, .int t_faultKind, .int t_faultPlace, .int t_at, .int t_begin, .int t_token, .int t_value, .int t_bad, .ref (a_t 18), .ref (a_t 19), .ref (a_t 20), .int t_wide, .int t_lost, .ref (a_t 23), .long t_det, .ref (a_t 25), .int t_mask, .int t_mode, .int t_wanted, .int t_orders, .int t_foundAt, .long t_foundBy, .ref (a_t 32), .ref (a_t 33), .int t_unlikes, .ref (a_t 35), .ref (a_t 36)])), ((a_t 1), .inl (g.2.2.1 0, 27, .inl t_mem)), ((a_t 4), .inl (g.2.2.1 0, 810, .inl t_past))] sz) [((a_t 0), .inr (7, [.ref (a_t 1), .ref (a_t 2), .int o_t_acted, .ref (a_t 4), .ref (a_t 5), .ref (a_t 6), .ref (a_t 7), .ref (a_t 8), .ref (a_t 9), .int t_taped, .int t_faultKind, .int t_faultPlace, .int t_at, .int t_begin, .int t_token, .int t_value, .int t_bad, .ref (a_t 18), .ref (a_t 19), .ref (a_t 20), .int t_wide, .int t_lost, .ref (a_t 23), .long t_det, .ref (a_t 25), .int t_mask, .int t_mode, .int t_wanted, .int t_orders, .int t_foundAt, .long t_foundBy, .ref (a_t 32), .ref (a_t 33), .int t_unlikes, .ref (a_t 35), .ref (a_t 36)])), ((a_t 1), .inl (g.2.2.1 0, 27, .inl t_mem)), ((a_t 4), .inl (g.2.2.1 0, 810, .inl o_t_past))]) (va_A [((a_t 0), .inr (7, [.ref (a_t 1), .ref (a_t 2), .int t_acted, .ref (a_t 4), .ref (a_t 5), .ref (a_t 6), .ref (a_t 7), .ref (a_t 8), .ref (a_t 9), .int t_taped, .int t_faultKind, .int t_faultPlace, .int t_at, .int t_begin, .int t_token, .int t_value, .int t_bad, .ref (a_t 18), .ref (a_t 19), .ref (a_t 20), .int t_wide, .int t_lost, .ref (a_t 23), .long t_det, .ref (a_t 25), .int t_mask, .int t_mode, .int t_wanted, .int t_orders, .int t_foundAt, .long t_foundBy, .ref (a_t 32), .ref (a_t 33), .int t_unlikes, .ref (a_t 35), .ref (a_t 36)])), ((a_t 1), .inl (g.2.2.1 0, 27, .inl t_mem)), ((a_t 4), .inl (g.2.2.1 0, 810, .inl t_past))] sz)) 0 0 (va_A [((a_t 0), .inr (7, [.ref (a_t 1), .ref (a_t 2), .int t_acted, .ref (a_t 4), .ref (a_t 5), .ref (a_t 6), .ref (a_t 7), .ref (a_t 8), .ref (a_t 9), .int t_taped, .int t_faultKind, .int t_faultPlace, .int t_at, .int t_begin, .int t_token, .int t_value, .int t_bad, .ref (a_t 18), .ref (a_t 19), .ref (a_t 20), .int t_wide, .int t_lost, .ref (a_t 23), .long t_det, .ref (a_t 25), .int t_mask, .int t_mode, .int t_wanted, .int t_orders, .int t_foundAt, .long t_foundBy, .ref (a_t 32), .ref (a_t 33), .int t_unlikes, .ref (a_t 35), .ref (a_t 36)])), ((a_t 1), .inl (g.2.2.1 0, 27, .inl t_mem)), ((a_t 4), .inl (g.2.2.1 0, 810, .inl t_past))] sz) := by
  refine rw_metv (by decide) (Nat.le_of_ble_eq_true rfl) (lv0 := [(0, .ref ((a_t 0)))]) rfl ?_
  intro p e s m args below meth c ls Q A cx hret hG hAb hb0 hA hP hD hl
  have hx := cx.1
  have hb := cx.2.1
  have hG0 := hG
  have hGk : ∀ {H : Heap} {locs : List Loc}, va_S A s.heap H locs → GE g s H := fun hS => hG0.keptS hAb hS
  have hSb : ∀ {H : Heap} {locs : List Loc}, va_S A s.heap H locs → va_S (fun a => g.1 ≤ a) s.heap H locs := fun hS => ⟨hS.1, fun q h1 h2 => hS.2.1 q h1 (fun z => h2 (hAb q z)), fun l hl => hAb _ (hS.2.2 l hl)⟩
  have hS : va_S A s.heap s.heap [] := va_S.rf
  have hrt : ∀ (u : Nat → Nat) (pc : Nat) (ls : Array Slot) (x_t_acted : Int32) (x_t_past : Nat → Int32) (H : Heap) (locs : List Loc), decode cX8_keeps pc = .ok (.return_, 1) → some (x_t_acted, x_t_past) = some (o_t_acted, o_t_past) → va_P g.2.1 vwCl [((a_t 0), .inr (7, [.ref (a_t 1), .ref (a_t 2), .int x_t_acted, .ref (a_t 4), .ref (a_t 5), .ref (a_t 6), .ref (a_t 7), .ref (a_t 8), .ref (a_t 9), .int t_taped, .int t_faultKind, .int t_faultPlace, .int t_at, .int t_begin, .int t_token, .int t_value, .int t_bad, .ref (a_t 18), .ref (a_t 19), .ref (a_t 20), .int t_wide, .int t_lost, .ref (a_t 23), .long t_det, .ref (a_t 25), .int t_mask, .int t_mode, .int t_wanted, .int t_orders, .int t_foundAt, .long t_foundBy, .ref (a_t 32), .ref (a_t 33), .int t_unlikes, .ref (a_t 35), .ref (a_t 36)])), ((a_t 1), .inl (g.2.2.1 0, 27, .inl t_mem)), ((a_t 4), .inl (g.2.2.1 0, 810, .inl x_t_past))] H → va_D A [((a_t 0), .inr (7, [.ref (a_t 1), .ref (a_t 2), .int x_t_acted, .ref (a_t 4), .ref (a_t 5), .ref (a_t 6), .ref (a_t 7), .ref (a_t 8), .ref (a_t 9), .int t_taped, .int t_faultKind, .int t_faultPlace, .int t_at, .int t_begin, .int t_token, .int t_value, .int t_bad, .ref (a_t 18), .ref (a_t 19), .ref (a_t 20), .int t_wide, .int t_lost, .ref (a_t 23), .long t_det, .ref (a_t 25), .int t_mask, .int t_mode, .int t_wanted, .int t_orders, .int t_foundAt, .long t_foundBy, .ref (a_t 32), .ref (a_t 33), .int t_unlikes, .ref (a_t 35), .ref (a_t 36)])), ((a_t 1), .inl (g.2.2.1 0, 27, .inl t_mem)), ((a_t 4), .inl (g.2.2.1 0, 810, .inl x_t_past))] → va_S A s.heap H locs → W p l e ⟨0, 0, 0, 0⟩ s m args below meth c H locs 0 0 Q (F0 m pc ls []) := by
    intro u pc ls x_t_acted x_t_past H locs hd h hP hD hS
    cases h
    exact hret u _ _ _ _ hd hP hD hS
  have w2 : ∀ (n : Nat) (t_acted : Int32) (t_past : Nat → Int32) (v1 : Int32) (H : Heap) (locs : List Loc), va_P g.2.1 vwCl [((a_t 0), .inr (7, [.ref (a_t 1), .ref (a_t 2), .int t_acted, .ref (a_t 4), .ref (a_t 5), .ref (a_t 6), .ref (a_t 7), .ref (a_t 8), .ref (a_t 9), .int t_taped, .int t_faultKind, .int t_faultPlace, .int t_at, .int t_begin, .int t_token, .int t_value, .int t_bad, .ref (a_t 18), .ref (a_t 19), .ref (a_t 20), .int t_wide, .int t_lost, .ref (a_t 23), .long t_det, .ref (a_t 25), .int t_mask, .int t_mode, .int t_wanted, .int t_orders, .int t_foundAt, .long t_foundBy, .ref (a_t 32), .ref (a_t 33), .int t_unlikes, .ref (a_t 35), .ref (a_t 36)])), ((a_t 1), .inl (g.2.2.1 0, 27, .inl t_mem)), ((a_t 4), .inl (g.2.2.1 0, 810, .inl t_past))] H → va_D A [((a_t 0), .inr (7, [.ref (a_t 1), .ref (a_t 2), .int t_acted, .ref (a_t 4), .ref (a_t 5), .ref (a_t 6), .ref (a_t 7), .ref (a_t 8), .ref (a_t 9), .int t_taped, .int t_faultKind, .int t_faultPlace, .int t_at, .int t_begin, .int t_token, .int t_value, .int t_bad, .ref (a_t 18), .ref (a_t 19), .ref (a_t 20), .int t_wide, .int t_lost, .ref (a_t 23), .long t_det, .ref (a_t 25), .int t_mask, .int t_mode, .int t_wanted, .int t_orders, .int t_foundAt, .long t_foundBy, .ref (a_t 32), .ref (a_t 33), .int t_unlikes, .ref (a_t 35), .ref (a_t 36)])), ((a_t 1), .inl (g.2.2.1 0, 27, .inl t_mem)), ((a_t 4), .inl (g.2.2.1 0, 810, .inl t_past))] → va_S A s.heap H locs → ∀ (ls : Array Slot), lv_has ls 2 [(0, .ref ((a_t 0))), (1, .int v1)] → fX8_keeps_2  n t_mem t_acted t_past v1 = some (o_t_acted, o_t_past) → W p l e ⟨0, 0, 0, 0⟩ s m args below meth c H locs 0 0 Q (F0 m 2 ls []) := by
    intro n
    induction n with
    | zero => intro t_acted t_past v1 H locs hP hD hS ls hl h; cases (fX8_keeps_2_z  t_mem t_acted t_past v1).symm.trans h
    | succ n ih =>
    intro t_acted t_past v1 H locs hP hD hS ls hl h
    have h := (fX8_keeps_2_s  n t_mem t_acted t_past v1).symm.trans h
    have hG := hGk hS
    refine lv_iload_n hx hb dX8_keeps_2 rfl (lv_at hl 1 rfl) ?_
    refine lv_bipush (v := 27) hx hb dX8_keeps_3 (by decide) ?_
    refine lv_icmp_ge (tgt := 34) hx hb dX8_keeps_5 (by decide) (fun c1 => ?_) (fun c1 => ?_)
    · have h := itp c1 h
      refine lv_aload_n hx hb dX8_keeps_34 rfl (lv_at hl 0 rfl) ?_
      refine lv_dup hx hb dX8_keeps_35 rfl ?_
      refine xa_get (C := RX8) (T := TX8) (N := 36) cx hG hP 0 rfl rfl uX8 2 (by decide) lf_X8_188 rfl dX8_keeps_36 ?_
      refine lv_iconst (v := 1) hx hb dX8_keeps_39 (by decide) ?_
      refine lv_iadd hx hb dX8_keeps_40 ?_
      refine xw_put (C := RX8) (T := TX8) (N := 36) (ty := .int) (v := .int (t_acted + 1)) (ws' := [((a_t 0), .inr (7, [.ref (a_t 1), .ref (a_t 2), .int (t_acted + 1), .ref (a_t 4), .ref (a_t 5), .ref (a_t 6), .ref (a_t 7), .ref (a_t 8), .ref (a_t 9), .int t_taped, .int t_faultKind, .int t_faultPlace, .int t_at, .int t_begin, .int t_token, .int t_value, .int t_bad, .ref (a_t 18), .ref (a_t 19), .ref (a_t 20), .int t_wide, .int t_lost, .ref (a_t 23), .long t_det, .ref (a_t 25), .int t_mask, .int t_mode, .int t_wanted, .int t_orders, .int t_foundAt, .long t_foundBy, .ref (a_t 32), .ref (a_t 33), .int t_unlikes, .ref (a_t 35), .ref (a_t 36)])), ((a_t 1), .inl (g.2.2.1 0, 27, .inl t_mem)), ((a_t 4), .inl (g.2.2.1 0, 810, .inl t_past))]) cx hG hP hD hS 0 rfl rfl uX8 tyX8 tyX8_ok nmX8 2 (by decide) lf_X8_188 rfl (by decide +kernel) rfl rfl (Nat.le_of_ble_eq_true rfl) rfl dX8_keeps_41 (fun H locs hP hD hS => ?_)
      have hG := hGk hS
      exact hrt (fun _ => 0) _ _ (t_acted + 1) t_past _ _ dX8_keeps_44 h (hP.sub [0, 1, 2] rfl) (hD.sub [0, 1, 2] (by decide) rfl) hS
    · have h := itn c1 h
      refine lv_aload_n hx hb dX8_keeps_8 rfl (lv_at hl 0 rfl) ?_
      refine xa_get (C := RX8) (T := TX8) (N := 36) cx hG hP 0 rfl rfl uX8 3 (by decide) lf_X8_28 rfl dX8_keeps_9 ?_
      refine lv_bipush (v := 27) hx hb dX8_keeps_12 (by decide) ?_
      refine lv_aload_n hx hb dX8_keeps_14 rfl (lv_at hl 0 rfl) ?_
      refine xa_get (C := RX8) (T := TX8) (N := 36) cx hG hP 0 rfl rfl uX8 2 (by decide) lf_X8_188 rfl dX8_keeps_15 ?_
      refine lv_imul hx hb dX8_keeps_18 ?_
      refine lv_iload_n hx hb dX8_keeps_19 rfl (lv_at hl 1 rfl) ?_
      refine lv_iadd hx hb dX8_keeps_20 ?_
      refine lv_aload_n hx hb dX8_keeps_21 rfl (lv_at hl 0 rfl) ?_
      refine xa_get (C := RX8) (T := TX8) (N := 36) cx hG hP 0 rfl rfl uX8 0 (by decide) lf_X8_21 rfl dX8_keeps_22 ?_
      refine lv_iload_n hx hb dX8_keeps_25 rfl (lv_at hl 1 rfl) ?_
      obtain ⟨hi2, h⟩ := chk_out h
      refine xa_iald cx hG hP 1 rfl hi2 rfl dX8_keeps_26 ?_
      obtain ⟨hi3, h⟩ := chk_out h
      refine xw_iast (ws' := [((a_t 0), .inr (7, [.ref (a_t 1), .ref (a_t 2), .int t_acted, .ref (a_t 4), .ref (a_t 5), .ref (a_t 6), .ref (a_t 7), .ref (a_t 8), .ref (a_t 9), .int t_taped, .int t_faultKind, .int t_faultPlace, .int t_at, .int t_begin, .int t_token, .int t_value, .int t_bad, .ref (a_t 18), .ref (a_t 19), .ref (a_t 20), .int t_wide, .int t_lost, .ref (a_t 23), .long t_det, .ref (a_t 25), .int t_mask, .int t_mode, .int t_wanted, .int t_orders, .int t_foundAt, .long t_foundBy, .ref (a_t 32), .ref (a_t 33), .int t_unlikes, .ref (a_t 35), .ref (a_t 36)])), ((a_t 1), .inl (g.2.2.1 0, 27, .inl t_mem)), ((a_t 4), .inl (g.2.2.1 0, 810, .inl (upd t_past (((27 * t_acted) + v1).toNatClampNeg) (t_mem v1.toNatClampNeg))))]) (k := (((27 * t_acted) + v1).toNatClampNeg)) cx hG hP hD hS 2 rfl hi3 rfl rfl dX8_keeps_27 (fun H locs hP hD hS => ?_)
      have hG := hGk hS
      refine lv_iinc (v := v1 + 1) (lv' := [(1, .int (v1 + 1)), (0, .ref ((a_t 0)))]) hx hb dX8_keeps_28 hl (k := 1) rfl rfl (by decide) rfl (fun ls hl => ?_)
      refine lv_goto (tgt := 2) hx hb dX8_keeps_31 (by decide) ?_
      exact ih t_acted (upd t_past (((27 * t_acted) + v1).toNatClampNeg) (t_mem v1.toNatClampNeg)) (v1 + 1) _ _ hP hD hS _ (lv_sub hl [1, 0] rfl) h
  unfold fX8_keeps at h
  refine lv_iconst (v := 0) hx hb dX8_keeps_0 (by decide) ?_
  refine lv_istore_n (lv' := [(1, .int (0)), (0, .ref ((a_t 0)))]) hx hb dX8_keeps_1 rfl hl (by decide) rfl (fun ls hl => ?_)
  exact w2 FU t_acted t_past 0 _ _ hP hD hS _ (lv_sub hl [1, 0] rfl) h
-- X8_goesBack
theorem dX8_goesBack_0 : decode cX8_goesBack 0 = .ok (.aload_n 0, 1) := by decide +kernel
theorem dX8_goesBack_1 : decode cX8_goesBack 1 = .ok (.iload_n 1, 1) := by decide +kernel
theorem dX8_goesBack_2 : decode cX8_goesBack 2 = .ok (.putfield 188, 3) := by decide +kernel
theorem dX8_goesBack_5 : decode cX8_goesBack 5 = .ok (.iconst 0, 1) := by decide +kernel
theorem dX8_goesBack_6 : decode cX8_goesBack 6 = .ok (.istore_n 2, 1) := by decide +kernel
theorem dX8_goesBack_7 : decode cX8_goesBack 7 = .ok (.iload_n 2, 1) := by decide +kernel
theorem dX8_goesBack_8 : decode cX8_goesBack 8 = .ok (.bipush 27, 2) := by decide +kernel
theorem dX8_goesBack_10 : decode cX8_goesBack 10 = .ok (.if_icmp .ge 26, 3) := by decide +kernel
theorem dX8_goesBack_13 : decode cX8_goesBack 13 = .ok (.aload_n 0, 1) := by decide +kernel
theorem dX8_goesBack_14 : decode cX8_goesBack 14 = .ok (.getfield 21, 3) := by decide +kernel
theorem dX8_goesBack_17 : decode cX8_goesBack 17 = .ok (.iload_n 2, 1) := by decide +kernel
theorem dX8_goesBack_18 : decode cX8_goesBack 18 = .ok (.aload_n 0, 1) := by decide +kernel
theorem dX8_goesBack_19 : decode cX8_goesBack 19 = .ok (.getfield 28, 3) := by decide +kernel
theorem dX8_goesBack_22 : decode cX8_goesBack 22 = .ok (.bipush 27, 2) := by decide +kernel
theorem dX8_goesBack_24 : decode cX8_goesBack 24 = .ok (.iload_n 1, 1) := by decide +kernel
theorem dX8_goesBack_25 : decode cX8_goesBack 25 = .ok (.imul, 1) := by decide +kernel
theorem dX8_goesBack_26 : decode cX8_goesBack 26 = .ok (.iload_n 2, 1) := by decide +kernel
theorem dX8_goesBack_27 : decode cX8_goesBack 27 = .ok (.iadd, 1) := by decide +kernel
theorem dX8_goesBack_28 : decode cX8_goesBack 28 = .ok (.iaload, 1) := by decide +kernel
theorem dX8_goesBack_29 : decode cX8_goesBack 29 = .ok (.iastore, 1) := by decide +kernel
theorem dX8_goesBack_30 : decode cX8_goesBack 30 = .ok (.iinc 2 1, 3) := by decide +kernel
theorem dX8_goesBack_33 : decode cX8_goesBack 33 = .ok (.goto (-26), 3) := by decide +kernel
theorem dX8_goesBack_36 : decode cX8_goesBack 36 = .ok (.return_, 1) := by decide +kernel
noncomputable def fX8_goesBack_7  : Nat → (Nat → Int32) → Int32 → (Nat → Int32) → Int32 → Int32 → Option ((Nat → Int32) × Int32)
  | 0, _, _, _, _, _ => none
  | n + 1, t_mem, t_acted, t_past, v1, v2 => (if 27 ≤ v2 then some (t_mem, t_acted) else chk 810 ((27 * v1) + v2) (chk 27 v2 (fX8_goesBack_7 n (upd t_mem v2.toNatClampNeg (t_past ((27 * v1) + v2).toNatClampNeg)) t_acted t_past v1 (v2 + 1))))
theorem fX8_goesBack_7_z  (t_mem : Nat → Int32) (t_acted : Int32) (t_past : Nat → Int32) (v1 : Int32) (v2 : Int32) : fX8_goesBack_7  0 t_mem t_acted t_past v1 v2 = none := rfl
theorem fX8_goesBack_7_s  (n : Nat) (t_mem : Nat → Int32) (t_acted : Int32) (t_past : Nat → Int32) (v1 : Int32) (v2 : Int32) : fX8_goesBack_7  (n + 1) t_mem t_acted t_past v1 v2 = (if 27 ≤ v2 then some (t_mem, t_acted) else chk 810 ((27 * v1) + v2) (chk 27 v2 (fX8_goesBack_7 n (upd t_mem v2.toNatClampNeg (t_past ((27 * v1) + v2).toNatClampNeg)) t_acted t_past v1 (v2 + 1)))) := rfl
noncomputable def fX8_goesBack  (t_mem : Nat → Int32) (t_acted : Int32) (t_past : Nat → Int32) (v1 : Int32) : Option ((Nat → Int32) × Int32) := fX8_goesBack_7 FU t_mem v1 t_past v1 0
set_option maxHeartbeats 4000000 in
set_option maxRecDepth 100000 in
theorem ctX8_goesBack (l : Launch) (g : GT) (sz : Nat) (a_t : Nat → Nat) (t_acted : Int32) (t_taped : Int32) (t_faultKind : Int32) (t_faultPlace : Int32) (t_at : Int32) (t_begin : Int32) (t_token : Int32) (t_value : Int32) (t_bad : Int32) (t_wide : Int32) (t_lost : Int32) (t_det : Int64) (t_mask : Int32) (t_mode : Int32) (t_wanted : Int32) (t_orders : Int32) (t_foundAt : Int32) (t_foundBy : Int64) (t_unlikes : Int32) (t_mem : Nat → Int32) (t_past : Nat → Int32) (v1 : Int32) (o_t_mem : Nat → Int32) (o_t_acted : Int32) (h : fX8_goesBack t_mem t_acted t_past v1 = some (o_t_mem, o_t_acted)) : Met l yX8_goesBack (Cond.code yX8_goesBack cX8_goesBack 3 none :: Tw) ⟨0, 0, 0, 0⟩ (va_Pc [.ref ((a_t 0)), .int v1] (rwB g [((a_t 0), .inr (7, [.ref (a_t 1), .ref (a_t 2), .int t_acted, .ref (a_t 4), .ref (a_t 5), .ref (a_t 6), .ref (a_t 7), .ref (a_t 8), .ref (a_t 9), .int t_taped, .int t_faultKind, .int t_faultPlace, .int t_at, .int t_begin, .int t_token, .int t_value, .int t_bad, .ref (a_t 18), .ref (a_t 19), .ref (a_t 20), .int t_wide, .int t_lost, .ref (a_t 23), .long t_det, .ref (a_t 25), .int t_mask, .int t_mode, .int t_wanted, .int t_orders, .int t_foundAt, .long t_foundBy, .ref (a_t 32), .ref (a_t 33), .int t_unlikes, .ref (a_t 35), .ref (a_t 36)])), ((a_t 1), .inl (g.2.2.1 0, 27, .inl t_mem)), ((a_t 4), .inl (g.2.2.1 0, 810, .inl t_past))] sz)) (va_Qv (fun (_ : Nat → Nat) => True) (fun u => rwE g (va_A [((a_t 0), .inr (7, [.ref (a_t 1), .ref (a_t 2), .int t_acted, .ref (a_t 4), .ref (a_t 5), .ref (a_t 6), .ref (a_t 7), .ref (a_t 8), .ref (a_t 9), .int t_taped, .int t_faultKind, .int t_faultPlace, .int t_at, .int t_begin, .int t_token, .int t_value, .int t_bad, .ref (a_t 18), .ref (a_t 19), .ref (a_t 20), .int t_wide, .int t_lost, .ref (a_t 23), .long t_det, .ref (a_t 25), .int t_mask, .int t_mode, .int t_wanted, .int t_orders, .int t_foundAt, .long t_foundBy, .ref (a_t 32), .ref (a_t 33), .int t_unlikes, .ref (a_t 35), .ref (a_t 36)])), ((a_t 1), .inl (g.2.2.1 0, 27, .inl t_mem)), ((a_t 4), .inl (g.2.2.1 0, 810, .inl t_past))] sz) [((a_t 0), .inr (7, [.ref (a_t 1), .ref (a_t 2), .int o_t_acted, .ref (a_t 4), .ref (a_t 5), .ref (a_t 6), .ref (a_t 7), .ref (a_t 8), .ref (a_t 9), .int t_taped, .int t_faultKind, .int t_faultPlace, .int t_at, .int t_begin, .int t_token, .int t_value, .int t_bad, .ref (a_t 18), .ref (a_t 19), .ref (a_t 20), .int t_wide, .int t_lost, .ref (a_t 23), .long t_det, .ref (a_t 25), .int t_mask, .int t_mode, .int t_wanted, .int t_orders, .int t_foundAt, .long t_foundBy, .ref (a_t 32), .ref (a_t 33), .int t_unlikes, .ref (a_t 35), .ref (a_t 36)])), ((a_t 1), .inl (g.2.2.1 0, 27, .inl o_t_mem)), ((a_t 4), .inl (g.2.2.1 0, 810, .inl t_past))]) (va_A [((a_t 0), .inr (7, [.ref (a_t 1), .ref (a_t 2), .int t_acted, .ref (a_t 4), .ref (a_t 5), .ref (a_t 6), .ref (a_t 7), .ref (a_t 8), .ref (a_t 9), .int t_taped, .int t_faultKind, .int t_faultPlace, .int t_at, .int t_begin, .int t_token, .int t_value, .int t_bad, .ref (a_t 18), .ref (a_t 19), .ref (a_t 20), .int t_wide, .int t_lost, .ref (a_t 23), .long t_det, .ref (a_t 25), .int t_mask, .int t_mode, .int t_wanted, .int t_orders, .int t_foundAt, .long t_foundBy, .ref (a_t 32), .ref (a_t 33), .int t_unlikes, .ref (a_t 35), .ref (a_t 36)])), ((a_t 1), .inl (g.2.2.1 0, 27, .inl t_mem)), ((a_t 4), .inl (g.2.2.1 0, 810, .inl t_past))] sz)) 0 0 (va_A [((a_t 0), .inr (7, [.ref (a_t 1), .ref (a_t 2), .int t_acted, .ref (a_t 4), .ref (a_t 5), .ref (a_t 6), .ref (a_t 7), .ref (a_t 8), .ref (a_t 9), .int t_taped, .int t_faultKind, .int t_faultPlace, .int t_at, .int t_begin, .int t_token, .int t_value, .int t_bad, .ref (a_t 18), .ref (a_t 19), .ref (a_t 20), .int t_wide, .int t_lost, .ref (a_t 23), .long t_det, .ref (a_t 25), .int t_mask, .int t_mode, .int t_wanted, .int t_orders, .int t_foundAt, .long t_foundBy, .ref (a_t 32), .ref (a_t 33), .int t_unlikes, .ref (a_t 35), .ref (a_t 36)])), ((a_t 1), .inl (g.2.2.1 0, 27, .inl t_mem)), ((a_t 4), .inl (g.2.2.1 0, 810, .inl t_past))] sz) := by
  refine rw_metv (by decide) (Nat.le_of_ble_eq_true rfl) (lv0 := [(0, .ref ((a_t 0))), (1, .int v1)]) rfl ?_
  intro p e s m args below meth c ls Q A cx hret hG hAb hb0 hA hP hD hl
  have hx := cx.1
  have hb := cx.2.1
  have hG0 := hG
  have hGk : ∀ {H : Heap} {locs : List Loc}, va_S A s.heap H locs → GE g s H := fun hS => hG0.keptS hAb hS
  have hSb : ∀ {H : Heap} {locs : List Loc}, va_S A s.heap H locs → va_S (fun a => g.1 ≤ a) s.heap H locs := fun hS => ⟨hS.1, fun q h1 h2 => hS.2.1 q h1 (fun z => h2 (hAb q z)), fun l hl => hAb _ (hS.2.2 l hl)⟩
  have hS : va_S A s.heap s.heap [] := va_S.rf
  have hrt : ∀ (u : Nat → Nat) (pc : Nat) (ls : Array Slot) (x_t_mem : Nat → Int32) (x_t_acted : Int32) (H : Heap) (locs : List Loc), decode cX8_goesBack pc = .ok (.return_, 1) → some (x_t_mem, x_t_acted) = some (o_t_mem, o_t_acted) → va_P g.2.1 vwCl [((a_t 0), .inr (7, [.ref (a_t 1), .ref (a_t 2), .int x_t_acted, .ref (a_t 4), .ref (a_t 5), .ref (a_t 6), .ref (a_t 7), .ref (a_t 8), .ref (a_t 9), .int t_taped, .int t_faultKind, .int t_faultPlace, .int t_at, .int t_begin, .int t_token, .int t_value, .int t_bad, .ref (a_t 18), .ref (a_t 19), .ref (a_t 20), .int t_wide, .int t_lost, .ref (a_t 23), .long t_det, .ref (a_t 25), .int t_mask, .int t_mode, .int t_wanted, .int t_orders, .int t_foundAt, .long t_foundBy, .ref (a_t 32), .ref (a_t 33), .int t_unlikes, .ref (a_t 35), .ref (a_t 36)])), ((a_t 1), .inl (g.2.2.1 0, 27, .inl x_t_mem)), ((a_t 4), .inl (g.2.2.1 0, 810, .inl t_past))] H → va_D A [((a_t 0), .inr (7, [.ref (a_t 1), .ref (a_t 2), .int x_t_acted, .ref (a_t 4), .ref (a_t 5), .ref (a_t 6), .ref (a_t 7), .ref (a_t 8), .ref (a_t 9), .int t_taped, .int t_faultKind, .int t_faultPlace, .int t_at, .int t_begin, .int t_token, .int t_value, .int t_bad, .ref (a_t 18), .ref (a_t 19), .ref (a_t 20), .int t_wide, .int t_lost, .ref (a_t 23), .long t_det, .ref (a_t 25), .int t_mask, .int t_mode, .int t_wanted, .int t_orders, .int t_foundAt, .long t_foundBy, .ref (a_t 32), .ref (a_t 33), .int t_unlikes, .ref (a_t 35), .ref (a_t 36)])), ((a_t 1), .inl (g.2.2.1 0, 27, .inl x_t_mem)), ((a_t 4), .inl (g.2.2.1 0, 810, .inl t_past))] → va_S A s.heap H locs → W p l e ⟨0, 0, 0, 0⟩ s m args below meth c H locs 0 0 Q (F0 m pc ls []) := by
    intro u pc ls x_t_mem x_t_acted H locs hd h hP hD hS
    cases h
    exact hret u _ _ _ _ hd hP hD hS
  have w7 : ∀ (n : Nat) (t_mem : Nat → Int32) (t_acted : Int32) (v1 : Int32) (v2 : Int32) (H : Heap) (locs : List Loc), va_P g.2.1 vwCl [((a_t 0), .inr (7, [.ref (a_t 1), .ref (a_t 2), .int t_acted, .ref (a_t 4), .ref (a_t 5), .ref (a_t 6), .ref (a_t 7), .ref (a_t 8), .ref (a_t 9), .int t_taped, .int t_faultKind, .int t_faultPlace, .int t_at, .int t_begin, .int t_token, .int t_value, .int t_bad, .ref (a_t 18), .ref (a_t 19), .ref (a_t 20), .int t_wide, .int t_lost, .ref (a_t 23), .long t_det, .ref (a_t 25), .int t_mask, .int t_mode, .int t_wanted, .int t_orders, .int t_foundAt, .long t_foundBy, .ref (a_t 32), .ref (a_t 33), .int t_unlikes, .ref (a_t 35), .ref (a_t 36)])), ((a_t 1), .inl (g.2.2.1 0, 27, .inl t_mem)), ((a_t 4), .inl (g.2.2.1 0, 810, .inl t_past))] H → va_D A [((a_t 0), .inr (7, [.ref (a_t 1), .ref (a_t 2), .int t_acted, .ref (a_t 4), .ref (a_t 5), .ref (a_t 6), .ref (a_t 7), .ref (a_t 8), .ref (a_t 9), .int t_taped, .int t_faultKind, .int t_faultPlace, .int t_at, .int t_begin, .int t_token, .int t_value, .int t_bad, .ref (a_t 18), .ref (a_t 19), .ref (a_t 20), .int t_wide, .int t_lost, .ref (a_t 23), .long t_det, .ref (a_t 25), .int t_mask, .int t_mode, .int t_wanted, .int t_orders, .int t_foundAt, .long t_foundBy, .ref (a_t 32), .ref (a_t 33), .int t_unlikes, .ref (a_t 35), .ref (a_t 36)])), ((a_t 1), .inl (g.2.2.1 0, 27, .inl t_mem)), ((a_t 4), .inl (g.2.2.1 0, 810, .inl t_past))] → va_S A s.heap H locs → ∀ (ls : Array Slot), lv_has ls 3 [(0, .ref ((a_t 0))), (1, .int v1), (2, .int v2)] → fX8_goesBack_7  n t_mem t_acted t_past v1 v2 = some (o_t_mem, o_t_acted) → W p l e ⟨0, 0, 0, 0⟩ s m args below meth c H locs 0 0 Q (F0 m 7 ls []) := by
    intro n
    induction n with
    | zero => intro t_mem t_acted v1 v2 H locs hP hD hS ls hl h; cases (fX8_goesBack_7_z  t_mem t_acted t_past v1 v2).symm.trans h
    | succ n ih =>
    intro t_mem t_acted v1 v2 H locs hP hD hS ls hl h
    have h := (fX8_goesBack_7_s  n t_mem t_acted t_past v1 v2).symm.trans h
    have hG := hGk hS
    refine lv_iload_n hx hb dX8_goesBack_7 rfl (lv_at hl 2 rfl) ?_
    refine lv_bipush (v := 27) hx hb dX8_goesBack_8 (by decide) ?_
    refine lv_icmp_ge (tgt := 36) hx hb dX8_goesBack_10 (by decide) (fun c1 => ?_) (fun c1 => ?_)
    · have h := itp c1 h
      exact hrt (fun _ => 0) _ _ t_mem t_acted _ _ dX8_goesBack_36 h (hP.sub [0, 1, 2] rfl) (hD.sub [0, 1, 2] (by decide) rfl) hS
    · have h := itn c1 h
      refine lv_aload_n hx hb dX8_goesBack_13 rfl (lv_at hl 0 rfl) ?_
      refine xa_get (C := RX8) (T := TX8) (N := 36) cx hG hP 0 rfl rfl uX8 0 (by decide) lf_X8_21 rfl dX8_goesBack_14 ?_
      refine lv_iload_n hx hb dX8_goesBack_17 rfl (lv_at hl 2 rfl) ?_
      refine lv_aload_n hx hb dX8_goesBack_18 rfl (lv_at hl 0 rfl) ?_
      refine xa_get (C := RX8) (T := TX8) (N := 36) cx hG hP 0 rfl rfl uX8 3 (by decide) lf_X8_28 rfl dX8_goesBack_19 ?_
      refine lv_bipush (v := 27) hx hb dX8_goesBack_22 (by decide) ?_
      refine lv_iload_n hx hb dX8_goesBack_24 rfl (lv_at hl 1 rfl) ?_
      refine lv_imul hx hb dX8_goesBack_25 ?_
      refine lv_iload_n hx hb dX8_goesBack_26 rfl (lv_at hl 2 rfl) ?_
      refine lv_iadd hx hb dX8_goesBack_27 ?_
      obtain ⟨hi2, h⟩ := chk_out h
      refine xa_iald cx hG hP 2 rfl hi2 rfl dX8_goesBack_28 ?_
      obtain ⟨hi3, h⟩ := chk_out h
      refine xw_iast (ws' := [((a_t 0), .inr (7, [.ref (a_t 1), .ref (a_t 2), .int t_acted, .ref (a_t 4), .ref (a_t 5), .ref (a_t 6), .ref (a_t 7), .ref (a_t 8), .ref (a_t 9), .int t_taped, .int t_faultKind, .int t_faultPlace, .int t_at, .int t_begin, .int t_token, .int t_value, .int t_bad, .ref (a_t 18), .ref (a_t 19), .ref (a_t 20), .int t_wide, .int t_lost, .ref (a_t 23), .long t_det, .ref (a_t 25), .int t_mask, .int t_mode, .int t_wanted, .int t_orders, .int t_foundAt, .long t_foundBy, .ref (a_t 32), .ref (a_t 33), .int t_unlikes, .ref (a_t 35), .ref (a_t 36)])), ((a_t 1), .inl (g.2.2.1 0, 27, .inl (upd t_mem v2.toNatClampNeg (t_past ((27 * v1) + v2).toNatClampNeg)))), ((a_t 4), .inl (g.2.2.1 0, 810, .inl t_past))]) (k := v2.toNatClampNeg) cx hG hP hD hS 1 rfl hi3 rfl rfl dX8_goesBack_29 (fun H locs hP hD hS => ?_)
      have hG := hGk hS
      refine lv_iinc (v := v2 + 1) (lv' := [(2, .int (v2 + 1)), (0, .ref ((a_t 0))), (1, .int v1)]) hx hb dX8_goesBack_30 hl (k := 2) rfl rfl (by decide) rfl (fun ls hl => ?_)
      refine lv_goto (tgt := 7) hx hb dX8_goesBack_33 (by decide) ?_
      exact ih (upd t_mem v2.toNatClampNeg (t_past ((27 * v1) + v2).toNatClampNeg)) t_acted v1 (v2 + 1) _ _ hP hD hS _ (lv_sub hl [1, 2, 0] rfl) h
  unfold fX8_goesBack at h
  refine lv_aload_n hx hb dX8_goesBack_0 rfl (lv_at hl 0 rfl) ?_
  refine lv_iload_n hx hb dX8_goesBack_1 rfl (lv_at hl 1 rfl) ?_
  refine xw_put (C := RX8) (T := TX8) (N := 36) (ty := .int) (v := .int v1) (ws' := [((a_t 0), .inr (7, [.ref (a_t 1), .ref (a_t 2), .int v1, .ref (a_t 4), .ref (a_t 5), .ref (a_t 6), .ref (a_t 7), .ref (a_t 8), .ref (a_t 9), .int t_taped, .int t_faultKind, .int t_faultPlace, .int t_at, .int t_begin, .int t_token, .int t_value, .int t_bad, .ref (a_t 18), .ref (a_t 19), .ref (a_t 20), .int t_wide, .int t_lost, .ref (a_t 23), .long t_det, .ref (a_t 25), .int t_mask, .int t_mode, .int t_wanted, .int t_orders, .int t_foundAt, .long t_foundBy, .ref (a_t 32), .ref (a_t 33), .int t_unlikes, .ref (a_t 35), .ref (a_t 36)])), ((a_t 1), .inl (g.2.2.1 0, 27, .inl t_mem)), ((a_t 4), .inl (g.2.2.1 0, 810, .inl t_past))]) cx hG hP hD hS 0 rfl rfl uX8 tyX8 tyX8_ok nmX8 2 (by decide) lf_X8_188 rfl (by decide +kernel) rfl rfl (Nat.le_of_ble_eq_true rfl) rfl dX8_goesBack_2 (fun H locs hP hD hS => ?_)
  have hG := hGk hS
  refine lv_iconst (v := 0) hx hb dX8_goesBack_5 (by decide) ?_
  refine lv_istore_n (lv' := [(2, .int (0)), (0, .ref ((a_t 0))), (1, .int v1)]) hx hb dX8_goesBack_6 rfl hl (by decide) rfl (fun ls hl => ?_)
  exact w7 FU t_mem v1 v1 0 _ _ hP hD hS _ (lv_sub hl [1, 2, 0] rfl) h
-- X8_swap
theorem dX8_swap_0 : decode cX8_swap 0 = .ok (.aload_n 0, 1) := by decide +kernel
theorem dX8_swap_1 : decode cX8_swap 1 = .ok (.iload_n 1, 1) := by decide +kernel
theorem dX8_swap_2 : decode cX8_swap 2 = .ok (.invokevirtual 199, 3) := by decide +kernel
theorem dX8_swap_5 : decode cX8_swap 5 = .ok (.ifCond .eq 11, 3) := by decide +kernel
theorem dX8_swap_8 : decode cX8_swap 8 = .ok (.aload_n 0, 1) := by decide +kernel
theorem dX8_swap_9 : decode cX8_swap 9 = .ok (.iload_n 2, 1) := by decide +kernel
theorem dX8_swap_10 : decode cX8_swap 10 = .ok (.invokevirtual 199, 3) := by decide +kernel
theorem dX8_swap_13 : decode cX8_swap 13 = .ok (.ifCond .ne 6, 3) := by decide +kernel
theorem dX8_swap_16 : decode cX8_swap 16 = .ok (.bipush (-2), 2) := by decide +kernel
theorem dX8_swap_18 : decode cX8_swap 18 = .ok (.ireturn, 1) := by decide +kernel
theorem dX8_swap_19 : decode cX8_swap 19 = .ok (.aload_n 0, 1) := by decide +kernel
theorem dX8_swap_20 : decode cX8_swap 20 = .ok (.getfield 21, 3) := by decide +kernel
theorem dX8_swap_23 : decode cX8_swap 23 = .ok (.bipush 19, 2) := by decide +kernel
theorem dX8_swap_25 : decode cX8_swap 25 = .ok (.iload_n 1, 1) := by decide +kernel
theorem dX8_swap_26 : decode cX8_swap 26 = .ok (.iadd, 1) := by decide +kernel
theorem dX8_swap_27 : decode cX8_swap 27 = .ok (.iaload, 1) := by decide +kernel
theorem dX8_swap_28 : decode cX8_swap 28 = .ok (.istore_n 3, 1) := by decide +kernel
theorem dX8_swap_29 : decode cX8_swap 29 = .ok (.aload_n 0, 1) := by decide +kernel
theorem dX8_swap_30 : decode cX8_swap 30 = .ok (.getfield 21, 3) := by decide +kernel
theorem dX8_swap_33 : decode cX8_swap 33 = .ok (.bipush 19, 2) := by decide +kernel
theorem dX8_swap_35 : decode cX8_swap 35 = .ok (.iload_n 2, 1) := by decide +kernel
theorem dX8_swap_36 : decode cX8_swap 36 = .ok (.iadd, 1) := by decide +kernel
theorem dX8_swap_37 : decode cX8_swap 37 = .ok (.iaload, 1) := by decide +kernel
theorem dX8_swap_38 : decode cX8_swap 38 = .ok (.istore 4, 2) := by decide +kernel
theorem dX8_swap_40 : decode cX8_swap 40 = .ok (.iload_n 3, 1) := by decide +kernel
theorem dX8_swap_41 : decode cX8_swap 41 = .ok (.iload 4, 2) := by decide +kernel
theorem dX8_swap_43 : decode cX8_swap 43 = .ok (.if_icmp .eq 10, 3) := by decide +kernel
theorem dX8_swap_46 : decode cX8_swap 46 = .ok (.aload_n 0, 1) := by decide +kernel
theorem dX8_swap_47 : decode cX8_swap 47 = .ok (.invokevirtual 425, 3) := by decide +kernel
theorem dX8_swap_50 : decode cX8_swap 50 = .ok (.ifCond .eq 6, 3) := by decide +kernel
theorem dX8_swap_53 : decode cX8_swap 53 = .ok (.bipush (-5), 2) := by decide +kernel
theorem dX8_swap_55 : decode cX8_swap 55 = .ok (.ireturn, 1) := by decide +kernel
theorem dX8_swap_56 : decode cX8_swap 56 = .ok (.aload_n 0, 1) := by decide +kernel
theorem dX8_swap_57 : decode cX8_swap 57 = .ok (.invokevirtual 428, 3) := by decide +kernel
theorem dX8_swap_60 : decode cX8_swap 60 = .ok (.aload_n 0, 1) := by decide +kernel
theorem dX8_swap_61 : decode cX8_swap 61 = .ok (.getfield 21, 3) := by decide +kernel
theorem dX8_swap_64 : decode cX8_swap 64 = .ok (.bipush 19, 2) := by decide +kernel
theorem dX8_swap_66 : decode cX8_swap 66 = .ok (.iload_n 1, 1) := by decide +kernel
theorem dX8_swap_67 : decode cX8_swap 67 = .ok (.iadd, 1) := by decide +kernel
theorem dX8_swap_68 : decode cX8_swap 68 = .ok (.iload 4, 2) := by decide +kernel
theorem dX8_swap_70 : decode cX8_swap 70 = .ok (.iastore, 1) := by decide +kernel
theorem dX8_swap_71 : decode cX8_swap 71 = .ok (.aload_n 0, 1) := by decide +kernel
theorem dX8_swap_72 : decode cX8_swap 72 = .ok (.getfield 21, 3) := by decide +kernel
theorem dX8_swap_75 : decode cX8_swap 75 = .ok (.bipush 19, 2) := by decide +kernel
theorem dX8_swap_77 : decode cX8_swap 77 = .ok (.iload_n 2, 1) := by decide +kernel
theorem dX8_swap_78 : decode cX8_swap 78 = .ok (.iadd, 1) := by decide +kernel
theorem dX8_swap_79 : decode cX8_swap 79 = .ok (.iload_n 3, 1) := by decide +kernel
theorem dX8_swap_80 : decode cX8_swap 80 = .ok (.iastore, 1) := by decide +kernel
theorem dX8_swap_81 : decode cX8_swap 81 = .ok (.iconst 0, 1) := by decide +kernel
theorem dX8_swap_82 : decode cX8_swap 82 = .ok (.ireturn, 1) := by decide +kernel
noncomputable def fX8_swap  (t_mem : Nat → Int32) (t_acted : Int32) (t_past : Nat → Int32) (v1 : Int32) (v2 : Int32) : Option (Int32 × (Nat → Int32) × Int32 × (Nat → Int32)) := (fX8_isPly t_mem v1).bind fun r1 => (if r1 = 0 then some ((-2), t_mem, t_acted, t_past) else (fX8_isPly t_mem v2).bind fun r5 => (if r5 = 0 then some ((-2), t_mem, t_acted, t_past) else chk 27 (19 + v1) (chk 27 (19 + v2) ((if (t_mem (19 + v1).toNatClampNeg) = (t_mem (19 + v2).toNatClampNeg) then some ((-5), t_mem, t_acted, t_past) else (if (fX8_isFull t_acted) = 0 then ob2 (fX8_keeps t_mem t_acted t_past) fun w15 w16 => chk 27 (19 + v1) (chk 27 (19 + v2) (some ((0), upd (upd t_mem ((19 + v1).toNatClampNeg) (t_mem (19 + v2).toNatClampNeg)) ((19 + v2).toNatClampNeg) (t_mem (19 + v1).toNatClampNeg), w15, w16))) else some ((-5), t_mem, t_acted, t_past)))))))
set_option maxHeartbeats 4000000 in
set_option maxRecDepth 100000 in
theorem ctX8_swap (l : Launch) (g : GT) (sz : Nat) (a_t : Nat → Nat) (t_acted : Int32) (t_taped : Int32) (t_faultKind : Int32) (t_faultPlace : Int32) (t_at : Int32) (t_begin : Int32) (t_token : Int32) (t_value : Int32) (t_bad : Int32) (t_wide : Int32) (t_lost : Int32) (t_det : Int64) (t_mask : Int32) (t_mode : Int32) (t_wanted : Int32) (t_orders : Int32) (t_foundAt : Int32) (t_foundBy : Int64) (t_unlikes : Int32) (t_mem : Nat → Int32) (t_past : Nat → Int32) (v1 : Int32) (v2 : Int32) (o : Int32) (o_t_mem : Nat → Int32) (o_t_acted : Int32) (o_t_past : Nat → Int32) (h : fX8_swap t_mem t_acted t_past v1 v2 = some (o, o_t_mem, o_t_acted, o_t_past)) : Met l yX8_swap (Cond.code yX8_swap cX8_swap 5 (some .int) :: Tw) ⟨2, 0, 0, 46⟩ (va_Pc [.ref ((a_t 0)), .int v1, .int v2] (rwB g [((a_t 0), .inr (7, [.ref (a_t 1), .ref (a_t 2), .int t_acted, .ref (a_t 4), .ref (a_t 5), .ref (a_t 6), .ref (a_t 7), .ref (a_t 8), .ref (a_t 9), .int t_taped, .int t_faultKind, .int t_faultPlace, .int t_at, .int t_begin, .int t_token, .int t_value, .int t_bad, .ref (a_t 18), .ref (a_t 19), .ref (a_t 20), .int t_wide, .int t_lost, .ref (a_t 23), .long t_det, .ref (a_t 25), .int t_mask, .int t_mode, .int t_wanted, .int t_orders, .int t_foundAt, .long t_foundBy, .ref (a_t 32), .ref (a_t 33), .int t_unlikes, .ref (a_t 35), .ref (a_t 36)])), ((a_t 1), .inl (g.2.2.1 0, 27, .inl t_mem)), ((a_t 4), .inl (g.2.2.1 0, 810, .inl t_past))] sz)) (va_Qi (fun x (_ : Nat → Nat) => x = o) (fun u => rwE g (va_A [((a_t 0), .inr (7, [.ref (a_t 1), .ref (a_t 2), .int t_acted, .ref (a_t 4), .ref (a_t 5), .ref (a_t 6), .ref (a_t 7), .ref (a_t 8), .ref (a_t 9), .int t_taped, .int t_faultKind, .int t_faultPlace, .int t_at, .int t_begin, .int t_token, .int t_value, .int t_bad, .ref (a_t 18), .ref (a_t 19), .ref (a_t 20), .int t_wide, .int t_lost, .ref (a_t 23), .long t_det, .ref (a_t 25), .int t_mask, .int t_mode, .int t_wanted, .int t_orders, .int t_foundAt, .long t_foundBy, .ref (a_t 32), .ref (a_t 33), .int t_unlikes, .ref (a_t 35), .ref (a_t 36)])), ((a_t 1), .inl (g.2.2.1 0, 27, .inl t_mem)), ((a_t 4), .inl (g.2.2.1 0, 810, .inl t_past))] sz) [((a_t 0), .inr (7, [.ref (a_t 1), .ref (a_t 2), .int o_t_acted, .ref (a_t 4), .ref (a_t 5), .ref (a_t 6), .ref (a_t 7), .ref (a_t 8), .ref (a_t 9), .int t_taped, .int t_faultKind, .int t_faultPlace, .int t_at, .int t_begin, .int t_token, .int t_value, .int t_bad, .ref (a_t 18), .ref (a_t 19), .ref (a_t 20), .int t_wide, .int t_lost, .ref (a_t 23), .long t_det, .ref (a_t 25), .int t_mask, .int t_mode, .int t_wanted, .int t_orders, .int t_foundAt, .long t_foundBy, .ref (a_t 32), .ref (a_t 33), .int t_unlikes, .ref (a_t 35), .ref (a_t 36)])), ((a_t 1), .inl (g.2.2.1 0, 27, .inl o_t_mem)), ((a_t 4), .inl (g.2.2.1 0, 810, .inl o_t_past))]) (va_A [((a_t 0), .inr (7, [.ref (a_t 1), .ref (a_t 2), .int t_acted, .ref (a_t 4), .ref (a_t 5), .ref (a_t 6), .ref (a_t 7), .ref (a_t 8), .ref (a_t 9), .int t_taped, .int t_faultKind, .int t_faultPlace, .int t_at, .int t_begin, .int t_token, .int t_value, .int t_bad, .ref (a_t 18), .ref (a_t 19), .ref (a_t 20), .int t_wide, .int t_lost, .ref (a_t 23), .long t_det, .ref (a_t 25), .int t_mask, .int t_mode, .int t_wanted, .int t_orders, .int t_foundAt, .long t_foundBy, .ref (a_t 32), .ref (a_t 33), .int t_unlikes, .ref (a_t 35), .ref (a_t 36)])), ((a_t 1), .inl (g.2.2.1 0, 27, .inl t_mem)), ((a_t 4), .inl (g.2.2.1 0, 810, .inl t_past))] sz)) 0 0 (va_A [((a_t 0), .inr (7, [.ref (a_t 1), .ref (a_t 2), .int t_acted, .ref (a_t 4), .ref (a_t 5), .ref (a_t 6), .ref (a_t 7), .ref (a_t 8), .ref (a_t 9), .int t_taped, .int t_faultKind, .int t_faultPlace, .int t_at, .int t_begin, .int t_token, .int t_value, .int t_bad, .ref (a_t 18), .ref (a_t 19), .ref (a_t 20), .int t_wide, .int t_lost, .ref (a_t 23), .long t_det, .ref (a_t 25), .int t_mask, .int t_mode, .int t_wanted, .int t_orders, .int t_foundAt, .long t_foundBy, .ref (a_t 32), .ref (a_t 33), .int t_unlikes, .ref (a_t 35), .ref (a_t 36)])), ((a_t 1), .inl (g.2.2.1 0, 27, .inl t_mem)), ((a_t 4), .inl (g.2.2.1 0, 810, .inl t_past))] sz) := by
  refine rw_meti (by decide) (Nat.le_of_ble_eq_true rfl) (lv0 := [(0, .ref ((a_t 0))), (1, .int v1), (2, .int v2)]) rfl ?_
  intro p e s m args below meth c ls Q A cx hret hG hAb hb0 hA hP hD hl
  have hx := cx.1
  have hb := cx.2.1
  have hG0 := hG
  have hGk : ∀ {H : Heap} {locs : List Loc}, va_S A s.heap H locs → GE g s H := fun hS => hG0.keptS hAb hS
  have hSb : ∀ {H : Heap} {locs : List Loc}, va_S A s.heap H locs → va_S (fun a => g.1 ≤ a) s.heap H locs := fun hS => ⟨hS.1, fun q h1 h2 => hS.2.1 q h1 (fun z => h2 (hAb q z)), fun l hl => hAb _ (hS.2.2 l hl)⟩
  have hS : va_S A s.heap s.heap [] := va_S.rf
  have hrt : ∀ (u : Nat → Nat) (pc : Nat) (ls : Array Slot) (v : Int32) (x_t_mem : Nat → Int32) (x_t_acted : Int32) (x_t_past : Nat → Int32) (H : Heap) (locs : List Loc), decode cX8_swap pc = .ok (.ireturn, 1) → some (v, x_t_mem, x_t_acted, x_t_past) = some (o, o_t_mem, o_t_acted, o_t_past) → va_P g.2.1 vwCl [((a_t 0), .inr (7, [.ref (a_t 1), .ref (a_t 2), .int x_t_acted, .ref (a_t 4), .ref (a_t 5), .ref (a_t 6), .ref (a_t 7), .ref (a_t 8), .ref (a_t 9), .int t_taped, .int t_faultKind, .int t_faultPlace, .int t_at, .int t_begin, .int t_token, .int t_value, .int t_bad, .ref (a_t 18), .ref (a_t 19), .ref (a_t 20), .int t_wide, .int t_lost, .ref (a_t 23), .long t_det, .ref (a_t 25), .int t_mask, .int t_mode, .int t_wanted, .int t_orders, .int t_foundAt, .long t_foundBy, .ref (a_t 32), .ref (a_t 33), .int t_unlikes, .ref (a_t 35), .ref (a_t 36)])), ((a_t 1), .inl (g.2.2.1 0, 27, .inl x_t_mem)), ((a_t 4), .inl (g.2.2.1 0, 810, .inl x_t_past))] H → va_D A [((a_t 0), .inr (7, [.ref (a_t 1), .ref (a_t 2), .int x_t_acted, .ref (a_t 4), .ref (a_t 5), .ref (a_t 6), .ref (a_t 7), .ref (a_t 8), .ref (a_t 9), .int t_taped, .int t_faultKind, .int t_faultPlace, .int t_at, .int t_begin, .int t_token, .int t_value, .int t_bad, .ref (a_t 18), .ref (a_t 19), .ref (a_t 20), .int t_wide, .int t_lost, .ref (a_t 23), .long t_det, .ref (a_t 25), .int t_mask, .int t_mode, .int t_wanted, .int t_orders, .int t_foundAt, .long t_foundBy, .ref (a_t 32), .ref (a_t 33), .int t_unlikes, .ref (a_t 35), .ref (a_t 36)])), ((a_t 1), .inl (g.2.2.1 0, 27, .inl x_t_mem)), ((a_t 4), .inl (g.2.2.1 0, 810, .inl x_t_past))] → va_S A s.heap H locs → W p l e ⟨2, 0, 0, 46⟩ s m args below meth c H locs 0 0 Q (F0 m pc ls [.int v]) := by
    intro u pc ls v x_t_mem x_t_acted x_t_past H locs hd h hP hD hS
    cases h
    exact hret u _ _ _ _ _ hd rfl hP hD hS
  unfold fX8_swap at h
  refine lv_aload_n hx hb dX8_swap_0 rfl (lv_at hl 0 rfl) ?_
  refine lv_iload_n hx hb dX8_swap_1 rfl (lv_at hl 1 rfl) ?_
  obtain ⟨r1, hr2, h⟩ := bnd h
  refine ro_z (runV (As := [.int v1]) (rest := []) cx hl.1 (ctX8_isPly l g a_t t_acted t_taped t_faultKind t_faultPlace t_at t_begin t_token t_value t_bad t_wide t_lost t_det t_mask t_mode t_wanted t_orders t_foundAt t_foundBy t_unlikes t_mem v1 r1 hr2) kmX8_isPly kvX8_isPly lm_X8_199 ⟨rfl, rfl⟩ ⟨Nat.le_of_ble_eq_true rfl, Nat.le_of_ble_eq_true rfl⟩ (roV (q0 := 0) (ci := 7) hG (hP.sub [0, 1] rfl) hP rfl rfl) rfl rfl (Nat.le_of_ble_eq_true rfl) dX8_swap_2 ⟨Nat.le_of_ble_eq_true rfl, Nat.le_of_ble_eq_true rfl⟩) (fun hz3 => ?_)
  refine lv_if_eq (tgt := 16) hx hb dX8_swap_5 (by decide) (fun c4 => ?_) (fun c4 => ?_)
  · have h := itp c4 h
    refine lv_bipush (v := -2) hx hb dX8_swap_16 (by decide) ?_
    exact hrt (fun _ => 0) _ _ ((-2)) t_mem t_acted t_past _ _ dX8_swap_18 h (hP.sub [0, 1, 2] rfl) (hD.sub [0, 1, 2] (by decide) rfl) hS
  · have h := itn c4 h
    refine lv_aload_n hx hb dX8_swap_8 rfl (lv_at hl 0 rfl) ?_
    refine lv_iload_n hx hb dX8_swap_9 rfl (lv_at hl 2 rfl) ?_
    obtain ⟨r5, hr6, h⟩ := bnd h
    refine ro_z (runV (As := [.int v2]) (rest := []) cx hl.1 (ctX8_isPly l g a_t t_acted t_taped t_faultKind t_faultPlace t_at t_begin t_token t_value t_bad t_wide t_lost t_det t_mask t_mode t_wanted t_orders t_foundAt t_foundBy t_unlikes t_mem v2 r5 hr6) kmX8_isPly kvX8_isPly lm_X8_199 ⟨rfl, rfl⟩ ⟨Nat.le_of_ble_eq_true rfl, Nat.le_of_ble_eq_true rfl⟩ (roV (q0 := 0) (ci := 7) hG (hP.sub [0, 1] rfl) hP rfl rfl) rfl rfl (Nat.le_of_ble_eq_true rfl) dX8_swap_10 ⟨Nat.le_of_ble_eq_true rfl, Nat.le_of_ble_eq_true rfl⟩) (fun hz7 => ?_)
    refine lv_if_ne (tgt := 19) hx hb dX8_swap_13 (by decide) (fun c8 => ?_) (fun c8 => ?_)
    · have h := itn c8 h
      refine lv_aload_n hx hb dX8_swap_19 rfl (lv_at hl 0 rfl) ?_
      refine xa_get (C := RX8) (T := TX8) (N := 36) cx hG hP 0 rfl rfl uX8 0 (by decide) lf_X8_21 rfl dX8_swap_20 ?_
      refine lv_bipush (v := 19) hx hb dX8_swap_23 (by decide) ?_
      refine lv_iload_n hx hb dX8_swap_25 rfl (lv_at hl 1 rfl) ?_
      refine lv_iadd hx hb dX8_swap_26 ?_
      obtain ⟨hi9, h⟩ := chk_out h
      refine xa_iald cx hG hP 1 rfl hi9 rfl dX8_swap_27 ?_
      refine lv_istore_n (lv' := [(3, .int (t_mem (19 + v1).toNatClampNeg)), (0, .ref ((a_t 0))), (1, .int v1), (2, .int v2)]) hx hb dX8_swap_28 rfl hl (by decide) rfl (fun ls hl => ?_)
      refine lv_aload_n hx hb dX8_swap_29 rfl (lv_at hl 1 rfl) ?_
      refine xa_get (C := RX8) (T := TX8) (N := 36) cx hG hP 0 rfl rfl uX8 0 (by decide) lf_X8_21 rfl dX8_swap_30 ?_
      refine lv_bipush (v := 19) hx hb dX8_swap_33 (by decide) ?_
      refine lv_iload_n hx hb dX8_swap_35 rfl (lv_at hl 3 rfl) ?_
      refine lv_iadd hx hb dX8_swap_36 ?_
      obtain ⟨hi10, h⟩ := chk_out h
      refine xa_iald cx hG hP 1 rfl hi10 rfl dX8_swap_37 ?_
      refine lv_istore (lv' := [(4, .int (t_mem (19 + v2).toNatClampNeg)), (3, .int (t_mem (19 + v1).toNatClampNeg)), (0, .ref ((a_t 0))), (1, .int v1), (2, .int v2)]) hx hb dX8_swap_38 hl (by decide) rfl (fun ls hl => ?_)
      refine lv_iload_n hx hb dX8_swap_40 rfl (lv_at hl 1 rfl) ?_
      refine lv_iload hx hb dX8_swap_41 (lv_at hl 0 rfl) ?_
      refine lv_icmp_eq (tgt := 53) hx hb dX8_swap_43 (by decide) (fun c11 => ?_) (fun c11 => ?_)
      · have h := itp c11 h
        refine lv_bipush (v := -5) hx hb dX8_swap_53 (by decide) ?_
        exact hrt (fun _ => 0) _ _ ((-5)) t_mem t_acted t_past _ _ dX8_swap_55 h (hP.sub [0, 1, 2] rfl) (hD.sub [0, 1, 2] (by decide) rfl) hS
      · have h := itn c11 h
        refine lv_aload_n hx hb dX8_swap_46 rfl (lv_at hl 2 rfl) ?_
        refine ro_z (runV (As := []) (rest := []) cx hl.1 (ctX8_isFull l g a_t t_acted t_taped t_faultKind t_faultPlace t_at t_begin t_token t_value t_bad t_wide t_lost t_det t_mask t_mode t_wanted t_orders t_foundAt t_foundBy t_unlikes (fX8_isFull t_acted) rfl) kmX8_isFull kvX8_isFull lm_X8_425 ⟨rfl, rfl⟩ ⟨Nat.le_of_ble_eq_true rfl, Nat.le_of_ble_eq_true rfl⟩ (roV (q0 := 0) (ci := 7) hG (hP.sub [0] rfl) hP rfl rfl) rfl rfl (Nat.le_of_ble_eq_true rfl) dX8_swap_47 ⟨Nat.le_of_ble_eq_true rfl, Nat.le_of_ble_eq_true rfl⟩) (fun hz12 => ?_)
        refine lv_if_eq (tgt := 56) hx hb dX8_swap_50 (by decide) (fun c13 => ?_) (fun c13 => ?_)
        · have h := itp c13 h
          refine lv_aload_n hx hb dX8_swap_56 rfl (lv_at hl 2 rfl) ?_
          obtain ⟨w15, w16, hr14, h⟩ := ob2_out h
          refine rw_v (WN := fun u17 => [((a_t 0), .inr (7, [.ref (a_t 1), .ref (a_t 2), .int w15, .ref (a_t 4), .ref (a_t 5), .ref (a_t 6), .ref (a_t 7), .ref (a_t 8), .ref (a_t 9), .int t_taped, .int t_faultKind, .int t_faultPlace, .int t_at, .int t_begin, .int t_token, .int t_value, .int t_bad, .ref (a_t 18), .ref (a_t 19), .ref (a_t 20), .int t_wide, .int t_lost, .ref (a_t 23), .long t_det, .ref (a_t 25), .int t_mask, .int t_mode, .int t_wanted, .int t_orders, .int t_foundAt, .long t_foundBy, .ref (a_t 32), .ref (a_t 33), .int t_unlikes, .ref (a_t 35), .ref (a_t 36)])), ((a_t 1), .inl (g.2.2.1 0, 27, .inl t_mem)), ((a_t 4), .inl (g.2.2.1 0, 810, .inl w16))]) (wr := []) (runV (As := []) (rest := []) cx hl.1 (ctX8_keeps l g s.heap.size a_t t_acted t_taped t_faultKind t_faultPlace t_at t_begin t_token t_value t_bad t_wide t_lost t_det t_mask t_mode t_wanted t_orders t_foundAt t_foundBy t_unlikes t_mem t_past w15 w16 hr14) kmX8_keeps kvX8_keeps lm_X8_428 ⟨rfl, rfl⟩ ⟨Nat.le_of_ble_eq_true rfl, Nat.le_of_ble_eq_true rfl⟩ (rwV (q0 := 0) (ci := 7) hG (hP.sub [0, 1, 2] rfl) (hD.sub [0, 1, 2] (by decide) rfl) hAb hb0 hS hP rfl rfl) rfl rfl (Nat.le_of_ble_eq_true rfl) dX8_swap_57 ⟨Nat.le_of_ble_eq_true rfl, Nat.le_of_ble_eq_true rfl⟩) hP hD hS hA [0, 1, 2] [] rfl rfl (by decide) (by decide) (fun _ => rfl) (fun u17 H locs hP hD hS => ?_)
          have hG := hGk hS
          refine lv_aload_n hx hb dX8_swap_60 rfl (lv_at hl 2 rfl) ?_
          refine xa_get (C := RX8) (T := TX8) (N := 36) cx hG hP 0 rfl rfl uX8 0 (by decide) lf_X8_21 rfl dX8_swap_61 ?_
          refine lv_bipush (v := 19) hx hb dX8_swap_64 (by decide) ?_
          refine lv_iload_n hx hb dX8_swap_66 rfl (lv_at hl 3 rfl) ?_
          refine lv_iadd hx hb dX8_swap_67 ?_
          refine lv_iload hx hb dX8_swap_68 (lv_at hl 0 rfl) ?_
          obtain ⟨hi18, h⟩ := chk_out h
          refine xw_iast (ws' := [((a_t 0), .inr (7, [.ref (a_t 1), .ref (a_t 2), .int w15, .ref (a_t 4), .ref (a_t 5), .ref (a_t 6), .ref (a_t 7), .ref (a_t 8), .ref (a_t 9), .int t_taped, .int t_faultKind, .int t_faultPlace, .int t_at, .int t_begin, .int t_token, .int t_value, .int t_bad, .ref (a_t 18), .ref (a_t 19), .ref (a_t 20), .int t_wide, .int t_lost, .ref (a_t 23), .long t_det, .ref (a_t 25), .int t_mask, .int t_mode, .int t_wanted, .int t_orders, .int t_foundAt, .long t_foundBy, .ref (a_t 32), .ref (a_t 33), .int t_unlikes, .ref (a_t 35), .ref (a_t 36)])), ((a_t 1), .inl (g.2.2.1 0, 27, .inl (upd t_mem ((19 + v1).toNatClampNeg) (t_mem (19 + v2).toNatClampNeg)))), ((a_t 4), .inl (g.2.2.1 0, 810, .inl w16))]) (k := ((19 + v1).toNatClampNeg)) cx hG hP hD hS 1 rfl hi18 rfl rfl dX8_swap_70 (fun H locs hP hD hS => ?_)
          have hG := hGk hS
          refine lv_aload_n hx hb dX8_swap_71 rfl (lv_at hl 2 rfl) ?_
          refine xa_get (C := RX8) (T := TX8) (N := 36) cx hG hP 0 rfl rfl uX8 0 (by decide) lf_X8_21 rfl dX8_swap_72 ?_
          refine lv_bipush (v := 19) hx hb dX8_swap_75 (by decide) ?_
          refine lv_iload_n hx hb dX8_swap_77 rfl (lv_at hl 4 rfl) ?_
          refine lv_iadd hx hb dX8_swap_78 ?_
          refine lv_iload_n hx hb dX8_swap_79 rfl (lv_at hl 1 rfl) ?_
          obtain ⟨hi19, h⟩ := chk_out h
          refine xw_iast (ws' := [((a_t 0), .inr (7, [.ref (a_t 1), .ref (a_t 2), .int w15, .ref (a_t 4), .ref (a_t 5), .ref (a_t 6), .ref (a_t 7), .ref (a_t 8), .ref (a_t 9), .int t_taped, .int t_faultKind, .int t_faultPlace, .int t_at, .int t_begin, .int t_token, .int t_value, .int t_bad, .ref (a_t 18), .ref (a_t 19), .ref (a_t 20), .int t_wide, .int t_lost, .ref (a_t 23), .long t_det, .ref (a_t 25), .int t_mask, .int t_mode, .int t_wanted, .int t_orders, .int t_foundAt, .long t_foundBy, .ref (a_t 32), .ref (a_t 33), .int t_unlikes, .ref (a_t 35), .ref (a_t 36)])), ((a_t 1), .inl (g.2.2.1 0, 27, .inl (upd (upd t_mem ((19 + v1).toNatClampNeg) (t_mem (19 + v2).toNatClampNeg)) ((19 + v2).toNatClampNeg) (t_mem (19 + v1).toNatClampNeg)))), ((a_t 4), .inl (g.2.2.1 0, 810, .inl w16))]) (k := ((19 + v2).toNatClampNeg)) cx hG hP hD hS 1 rfl hi19 rfl rfl dX8_swap_80 (fun H locs hP hD hS => ?_)
          have hG := hGk hS
          refine lv_iconst (v := 0) hx hb dX8_swap_81 (by decide) ?_
          exact hrt (fun _ => 0) _ _ ((0)) (upd (upd t_mem ((19 + v1).toNatClampNeg) (t_mem (19 + v2).toNatClampNeg)) ((19 + v2).toNatClampNeg) (t_mem (19 + v1).toNatClampNeg)) w15 w16 _ _ dX8_swap_82 h (hP.sub [0, 1, 2] rfl) (hD.sub [0, 1, 2] (by decide) rfl) hS
        · have h := itn c13 h
          refine lv_bipush (v := -5) hx hb dX8_swap_53 (by decide) ?_
          exact hrt (fun _ => 0) _ _ ((-5)) t_mem t_acted t_past _ _ dX8_swap_55 h (hP.sub [0, 1, 2] rfl) (hD.sub [0, 1, 2] (by decide) rfl) hS
    · have h := itp c8 h
      refine lv_bipush (v := -2) hx hb dX8_swap_16 (by decide) ?_
      exact hrt (fun _ => 0) _ _ ((-2)) t_mem t_acted t_past _ _ dX8_swap_18 h (hP.sub [0, 1, 2] rfl) (hD.sub [0, 1, 2] (by decide) rfl) hS
