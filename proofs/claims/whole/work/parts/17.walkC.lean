-- X7_put
theorem dX7_put_0 : decode cX7_put 0 = .ok (.aload_n 0, 1) := by decide +kernel
theorem dX7_put_1 : decode cX7_put 1 = .ok (.getfield 30, 3) := by decide +kernel
theorem dX7_put_4 : decode cX7_put 4 = .ok (.getfield 139, 3) := by decide +kernel
theorem dX7_put_7 : decode cX7_put 7 = .ok (.ifCond .eq 33, 3) := by decide +kernel
theorem dX7_put_10 : decode cX7_put 10 = .ok (.iload_n 1, 1) := by decide +kernel
theorem dX7_put_11 : decode cX7_put 11 = .ok (.ifCond .lt 29, 3) := by decide +kernel
theorem dX7_put_14 : decode cX7_put 14 = .ok (.iload_n 1, 1) := by decide +kernel
theorem dX7_put_15 : decode cX7_put 15 = .ok (.aload_n 0, 1) := by decide +kernel
theorem dX7_put_16 : decode cX7_put 16 = .ok (.getfield 30, 3) := by decide +kernel
theorem dX7_put_19 : decode cX7_put 19 = .ok (.invokevirtual 97, 3) := by decide +kernel
theorem dX7_put_22 : decode cX7_put 22 = .ok (.if_icmp .gt 18, 3) := by decide +kernel
theorem dX7_put_25 : decode cX7_put 25 = .ok (.aload_n 0, 1) := by decide +kernel
theorem dX7_put_26 : decode cX7_put 26 = .ok (.iload_n 2, 1) := by decide +kernel
theorem dX7_put_27 : decode cX7_put 27 = .ok (.invokevirtual 103, 3) := by decide +kernel
theorem dX7_put_30 : decode cX7_put 30 = .ok (.ifCond .eq 10, 3) := by decide +kernel
theorem dX7_put_33 : decode cX7_put 33 = .ok (.iload_n 3, 1) := by decide +kernel
theorem dX7_put_34 : decode cX7_put 34 = .ok (.invokestatic 129, 3) := by decide +kernel
theorem dX7_put_37 : decode cX7_put 37 = .ok (.ifCond .ne 6, 3) := by decide +kernel
theorem dX7_put_40 : decode cX7_put 40 = .ok (.bipush (-2), 2) := by decide +kernel
theorem dX7_put_42 : decode cX7_put 42 = .ok (.ireturn, 1) := by decide +kernel
theorem dX7_put_43 : decode cX7_put 43 = .ok (.aload_n 0, 1) := by decide +kernel
theorem dX7_put_44 : decode cX7_put 44 = .ok (.getfield 30, 3) := by decide +kernel
theorem dX7_put_47 : decode cX7_put 47 = .ok (.invokevirtual 97, 3) := by decide +kernel
theorem dX7_put_50 : decode cX7_put 50 = .ok (.istore 4, 2) := by decide +kernel
theorem dX7_put_52 : decode cX7_put 52 = .ok (.iload 4, 2) := by decide +kernel
theorem dX7_put_54 : decode cX7_put 54 = .ok (.bipush 8, 2) := by decide +kernel
theorem dX7_put_56 : decode cX7_put 56 = .ok (.if_icmp .ge 13, 3) := by decide +kernel
theorem dX7_put_59 : decode cX7_put 59 = .ok (.aload_n 0, 1) := by decide +kernel
theorem dX7_put_60 : decode cX7_put 60 = .ok (.getfield 30, 3) := by decide +kernel
theorem dX7_put_63 : decode cX7_put 63 = .ok (.invokevirtual 326, 3) := by decide +kernel
theorem dX7_put_66 : decode cX7_put 66 = .ok (.ifCond .eq 6, 3) := by decide +kernel
theorem dX7_put_69 : decode cX7_put 69 = .ok (.bipush (-5), 2) := by decide +kernel
theorem dX7_put_71 : decode cX7_put 71 = .ok (.ireturn, 1) := by decide +kernel
theorem dX7_put_72 : decode cX7_put 72 = .ok (.aload_n 0, 1) := by decide +kernel
theorem dX7_put_73 : decode cX7_put 73 = .ok (.getfield 30, 3) := by decide +kernel
theorem dX7_put_76 : decode cX7_put 76 = .ok (.aload_n 0, 1) := by decide +kernel
theorem dX7_put_77 : decode cX7_put 77 = .ok (.getfield 30, 3) := by decide +kernel
theorem dX7_put_80 : decode cX7_put 80 = .ok (.invokevirtual 132, 3) := by decide +kernel
theorem dX7_put_83 : decode cX7_put 83 = .ok (.iload 4, 2) := by decide +kernel
theorem dX7_put_85 : decode cX7_put 85 = .ok (.iload_n 1, 1) := by decide +kernel
theorem dX7_put_86 : decode cX7_put 86 = .ok (.iload_n 2, 1) := by decide +kernel
theorem dX7_put_87 : decode cX7_put 87 = .ok (.iconst 4, 1) := by decide +kernel
theorem dX7_put_88 : decode cX7_put 88 = .ok (.imul, 1) := by decide +kernel
theorem dX7_put_89 : decode cX7_put 89 = .ok (.iload_n 3, 1) := by decide +kernel
theorem dX7_put_90 : decode cX7_put 90 = .ok (.iadd, 1) := by decide +kernel
theorem dX7_put_91 : decode cX7_put 91 = .ok (.invokestatic 335, 3) := by decide +kernel
theorem dX7_put_94 : decode cX7_put 94 = .ok (.iload 4, 2) := by decide +kernel
theorem dX7_put_96 : decode cX7_put 96 = .ok (.iconst 1, 1) := by decide +kernel
theorem dX7_put_97 : decode cX7_put 97 = .ok (.iadd, 1) := by decide +kernel
theorem dX7_put_98 : decode cX7_put 98 = .ok (.aload_n 0, 1) := by decide +kernel
theorem dX7_put_99 : decode cX7_put 99 = .ok (.getfield 30, 3) := by decide +kernel
theorem dX7_put_102 : decode cX7_put 102 = .ok (.invokevirtual 90, 3) := by decide +kernel
theorem dX7_put_105 : decode cX7_put 105 = .ok (.invokevirtual 332, 3) := by decide +kernel
theorem dX7_put_108 : decode cX7_put 108 = .ok (.iload 4, 2) := by decide +kernel
theorem dX7_put_110 : decode cX7_put 110 = .ok (.iconst 1, 1) := by decide +kernel
theorem dX7_put_111 : decode cX7_put 111 = .ok (.iadd, 1) := by decide +kernel
theorem dX7_put_112 : decode cX7_put 112 = .ok (.ireturn, 1) := by decide +kernel
noncomputable def fX7_put  (t_now_rows : Nat → Int32) (t_now_sizes : Nat → Int32) (t_now_rooms : Nat → Int32) (t_now_told : Int32) (t_now_kinds : Int32) (t_now_acts : Int32) (v1 : Int32) (v2 : Int32) (v3 : Int32) : Option (Int32 × (Nat → Int32) × (Nat → Int32) × (Nat → Int32) × Int32) := (if t_now_told = 0 then some ((-2), t_now_rows, t_now_sizes, t_now_rooms, t_now_acts) else (if v1 < 0 then some ((-2), t_now_rows, t_now_sizes, t_now_rooms, t_now_acts) else (fX1_plies t_now_sizes t_now_acts).bind fun r3 => (if r3 < v1 then some ((-2), t_now_rows, t_now_sizes, t_now_rooms, t_now_acts) else (if (fX7_isKind t_now_told t_now_kinds v2) = 0 then some ((-2), t_now_rows, t_now_sizes, t_now_rooms, t_now_acts) else (if (fX7_isAngle v3) = 0 then some ((-2), t_now_rows, t_now_sizes, t_now_rooms, t_now_acts) else (fX1_plies t_now_sizes t_now_acts).bind fun r10 => (if 8 ≤ r10 then some ((-5), t_now_rows, t_now_sizes, t_now_rooms, t_now_acts) else (if (fX1_isFull t_now_acts) = 0 then (fX1_row t_now_rows t_now_acts).bind fun r15 => (fX3_inserted r15 r10 v1 ((v2 * 4) + v3)).bind fun r17 => (fX1_roomNow t_now_rooms t_now_acts).bind fun r19 => ob4 (fX1_act t_now_rows t_now_sizes t_now_rooms t_now_acts r17 (r10 + 1) r19) fun w22 w23 w24 w25 => some ((r10 + 1), w22, w23, w24, w25) else some ((-5), t_now_rows, t_now_sizes, t_now_rooms, t_now_acts))))))))
set_option maxHeartbeats 4000000 in
set_option maxRecDepth 100000 in
theorem ctX7_put (l : Launch) (g : GT) (sz : Nat) (a_t : Nat → Nat) (a_t_tape : Nat → Nat) (a_t_reader : Nat → Nat) (a_t_now : Nat → Nat) (a_t_choices : Nat → Nat) (a_t_ways : Nat → Nat) (a_t_stress : Nat → Nat) (t_now_told : Int32) (t_now_lines : Int32) (t_now_kinds : Int32) (t_now_acts : Int32) (t_now_rows : Nat → Int32) (t_now_sizes : Nat → Int32) (t_now_rooms : Nat → Int32) (v1 : Int32) (v2 : Int32) (v3 : Int32) (o : Int32) (o_t_now_rows : Nat → Int32) (o_t_now_sizes : Nat → Int32) (o_t_now_rooms : Nat → Int32) (o_t_now_acts : Int32) (h : fX7_put t_now_rows t_now_sizes t_now_rooms t_now_told t_now_kinds t_now_acts v1 v2 v3 = some (o, o_t_now_rows, o_t_now_sizes, o_t_now_rooms, o_t_now_acts)) : Met l yX7_put (Cond.code yX7_put cX7_put 5 (some .int) :: Tw) ⟨2, 0, 0, 47⟩ (va_Pc [.ref ((a_t 0)), .int v1, .int v2, .int v3] (rwB g [((a_t 0), .inr (6, [.ref (a_t_tape 0), .ref (a_t_reader 0), .ref (a_t_now 0), .ref (a_t 4), .ref (a_t_choices 0), .ref (a_t_ways 0), .ref (a_t_stress 0)])), ((a_t_now 0), .inr (1, [.ref (a_t_now 1), .ref (a_t_now 2), .ref (a_t_now 3), .ref (a_t_now 4), .ref (a_t_now 5), .int t_now_told, .int t_now_lines, .int t_now_kinds, .int t_now_acts])), ((a_t_now 3), .inl (g.2.2.1 0, 31, .inl t_now_rows)), ((a_t_now 4), .inl (g.2.2.1 0, 31, .inl t_now_sizes)), ((a_t_now 5), .inl (g.2.2.1 0, 31, .inl t_now_rooms))] sz)) (va_Qi (fun x (_ : Nat → Nat) => x = o) (fun u => rwE g (va_A [((a_t 0), .inr (6, [.ref (a_t_tape 0), .ref (a_t_reader 0), .ref (a_t_now 0), .ref (a_t 4), .ref (a_t_choices 0), .ref (a_t_ways 0), .ref (a_t_stress 0)])), ((a_t_now 0), .inr (1, [.ref (a_t_now 1), .ref (a_t_now 2), .ref (a_t_now 3), .ref (a_t_now 4), .ref (a_t_now 5), .int t_now_told, .int t_now_lines, .int t_now_kinds, .int t_now_acts])), ((a_t_now 3), .inl (g.2.2.1 0, 31, .inl t_now_rows)), ((a_t_now 4), .inl (g.2.2.1 0, 31, .inl t_now_sizes)), ((a_t_now 5), .inl (g.2.2.1 0, 31, .inl t_now_rooms))] sz) [((a_t 0), .inr (6, [.ref (a_t_tape 0), .ref (a_t_reader 0), .ref (a_t_now 0), .ref (a_t 4), .ref (a_t_choices 0), .ref (a_t_ways 0), .ref (a_t_stress 0)])), ((a_t_now 0), .inr (1, [.ref (a_t_now 1), .ref (a_t_now 2), .ref (a_t_now 3), .ref (a_t_now 4), .ref (a_t_now 5), .int t_now_told, .int t_now_lines, .int t_now_kinds, .int o_t_now_acts])), ((a_t_now 3), .inl (g.2.2.1 0, 31, .inl o_t_now_rows)), ((a_t_now 4), .inl (g.2.2.1 0, 31, .inl o_t_now_sizes)), ((a_t_now 5), .inl (g.2.2.1 0, 31, .inl o_t_now_rooms))]) (va_A [((a_t 0), .inr (6, [.ref (a_t_tape 0), .ref (a_t_reader 0), .ref (a_t_now 0), .ref (a_t 4), .ref (a_t_choices 0), .ref (a_t_ways 0), .ref (a_t_stress 0)])), ((a_t_now 0), .inr (1, [.ref (a_t_now 1), .ref (a_t_now 2), .ref (a_t_now 3), .ref (a_t_now 4), .ref (a_t_now 5), .int t_now_told, .int t_now_lines, .int t_now_kinds, .int t_now_acts])), ((a_t_now 3), .inl (g.2.2.1 0, 31, .inl t_now_rows)), ((a_t_now 4), .inl (g.2.2.1 0, 31, .inl t_now_sizes)), ((a_t_now 5), .inl (g.2.2.1 0, 31, .inl t_now_rooms))] sz)) 0 0 (va_A [((a_t 0), .inr (6, [.ref (a_t_tape 0), .ref (a_t_reader 0), .ref (a_t_now 0), .ref (a_t 4), .ref (a_t_choices 0), .ref (a_t_ways 0), .ref (a_t_stress 0)])), ((a_t_now 0), .inr (1, [.ref (a_t_now 1), .ref (a_t_now 2), .ref (a_t_now 3), .ref (a_t_now 4), .ref (a_t_now 5), .int t_now_told, .int t_now_lines, .int t_now_kinds, .int t_now_acts])), ((a_t_now 3), .inl (g.2.2.1 0, 31, .inl t_now_rows)), ((a_t_now 4), .inl (g.2.2.1 0, 31, .inl t_now_sizes)), ((a_t_now 5), .inl (g.2.2.1 0, 31, .inl t_now_rooms))] sz) := by
  refine rw_meti (by decide) (Nat.le_of_ble_eq_true rfl) (lv0 := [(0, .ref ((a_t 0))), (1, .int v1), (2, .int v2), (3, .int v3)]) rfl ?_
  intro p e s m args below meth c ls Q A cx hret hG hAb hb0 hA hP hD hl
  have hx := cx.1
  have hb := cx.2.1
  have hG0 := hG
  have hGk : ∀ {H : Heap} {locs : List Loc}, va_S A s.heap H locs → GE g s H := fun hS => hG0.keptS hAb hS
  have hSb : ∀ {H : Heap} {locs : List Loc}, va_S A s.heap H locs → va_S (fun a => g.1 ≤ a) s.heap H locs := fun hS => ⟨hS.1, fun q h1 h2 => hS.2.1 q h1 (fun z => h2 (hAb q z)), fun l hl => hAb _ (hS.2.2 l hl)⟩
  have hS : va_S A s.heap s.heap [] := va_S.rf
  have hrt : ∀ (u : Nat → Nat) (pc : Nat) (ls : Array Slot) (v : Int32) (x_t_now_rows : Nat → Int32) (x_t_now_sizes : Nat → Int32) (x_t_now_rooms : Nat → Int32) (x_t_now_acts : Int32) (H : Heap) (locs : List Loc), decode cX7_put pc = .ok (.ireturn, 1) → some (v, x_t_now_rows, x_t_now_sizes, x_t_now_rooms, x_t_now_acts) = some (o, o_t_now_rows, o_t_now_sizes, o_t_now_rooms, o_t_now_acts) → va_P g.2.1 vwCl [((a_t 0), .inr (6, [.ref (a_t_tape 0), .ref (a_t_reader 0), .ref (a_t_now 0), .ref (a_t 4), .ref (a_t_choices 0), .ref (a_t_ways 0), .ref (a_t_stress 0)])), ((a_t_now 0), .inr (1, [.ref (a_t_now 1), .ref (a_t_now 2), .ref (a_t_now 3), .ref (a_t_now 4), .ref (a_t_now 5), .int t_now_told, .int t_now_lines, .int t_now_kinds, .int x_t_now_acts])), ((a_t_now 3), .inl (g.2.2.1 0, 31, .inl x_t_now_rows)), ((a_t_now 4), .inl (g.2.2.1 0, 31, .inl x_t_now_sizes)), ((a_t_now 5), .inl (g.2.2.1 0, 31, .inl x_t_now_rooms))] H → va_D A [((a_t 0), .inr (6, [.ref (a_t_tape 0), .ref (a_t_reader 0), .ref (a_t_now 0), .ref (a_t 4), .ref (a_t_choices 0), .ref (a_t_ways 0), .ref (a_t_stress 0)])), ((a_t_now 0), .inr (1, [.ref (a_t_now 1), .ref (a_t_now 2), .ref (a_t_now 3), .ref (a_t_now 4), .ref (a_t_now 5), .int t_now_told, .int t_now_lines, .int t_now_kinds, .int x_t_now_acts])), ((a_t_now 3), .inl (g.2.2.1 0, 31, .inl x_t_now_rows)), ((a_t_now 4), .inl (g.2.2.1 0, 31, .inl x_t_now_sizes)), ((a_t_now 5), .inl (g.2.2.1 0, 31, .inl x_t_now_rooms))] → va_S A s.heap H locs → W p l e ⟨2, 0, 0, 47⟩ s m args below meth c H locs 0 0 Q (F0 m pc ls [.int v]) := by
    intro u pc ls v x_t_now_rows x_t_now_sizes x_t_now_rooms x_t_now_acts H locs hd h hP hD hS
    cases h
    exact hret u _ _ _ _ _ hd rfl hP hD hS
  unfold fX7_put at h
  refine lv_aload_n hx hb dX7_put_0 rfl (lv_at hl 0 rfl) ?_
  refine xa_get (C := RX7) (T := TX7) (N := 7) cx hG hP 0 rfl rfl uX7 2 (by decide) lf_X7_30 rfl dX7_put_1 ?_
  refine xa_getN (C := RX1) (T := TX1) (N := 9) cx hG hP 1 rfl rfl uX1 5 (by decide) nf_5 rfl dX7_put_4 ?_
  refine lv_if_eq (tgt := 40) hx hb dX7_put_7 (by decide) (fun c1 => ?_) (fun c1 => ?_)
  · have h := itp c1 h
    refine lv_bipush (v := -2) hx hb dX7_put_40 (by decide) ?_
    exact hrt (fun _ => 0) _ _ ((-2)) t_now_rows t_now_sizes t_now_rooms t_now_acts _ _ dX7_put_42 h (hP.sub [0, 1, 2, 3, 4] rfl) (hD.sub [0, 1, 2, 3, 4] (by decide) rfl) hS
  · have h := itn c1 h
    refine lv_iload_n hx hb dX7_put_10 rfl (lv_at hl 1 rfl) ?_
    refine lv_if_lt (tgt := 40) hx hb dX7_put_11 (by decide) (fun c2 => ?_) (fun c2 => ?_)
    · have h := itp c2 h
      refine lv_bipush (v := -2) hx hb dX7_put_40 (by decide) ?_
      exact hrt (fun _ => 0) _ _ ((-2)) t_now_rows t_now_sizes t_now_rooms t_now_acts _ _ dX7_put_42 h (hP.sub [0, 1, 2, 3, 4] rfl) (hD.sub [0, 1, 2, 3, 4] (by decide) rfl) hS
    · have h := itn c2 h
      refine lv_iload_n hx hb dX7_put_14 rfl (lv_at hl 1 rfl) ?_
      refine lv_aload_n hx hb dX7_put_15 rfl (lv_at hl 0 rfl) ?_
      refine xa_get (C := RX7) (T := TX7) (N := 7) cx hG hP 0 rfl rfl uX7 2 (by decide) lf_X7_30 rfl dX7_put_16 ?_
      obtain ⟨r3, hr4, h⟩ := bnd h
      refine ro_i (runVN (As := []) (rest := [.int v1]) hG cx hl.1 (ctX1_plies l g a_t_now t_now_told t_now_lines t_now_kinds t_now_acts t_now_sizes r3 hr4) kmX1_plies kvX1_plies nm_17 ⟨rfl, rfl⟩ ⟨Nat.le_of_ble_eq_true rfl, Nat.le_of_ble_eq_true rfl⟩ (roV (q0 := 1) (ci := 1) hG (hP.sub [1, 3] rfl) hP rfl rfl) rfl rfl (Nat.le_of_ble_eq_true rfl) dX7_put_19 ⟨Nat.le_of_ble_eq_true rfl, Nat.le_of_ble_eq_true rfl⟩) ?_
      refine lv_icmp_gt (tgt := 40) hx hb dX7_put_22 (by decide) (fun c5 => ?_) (fun c5 => ?_)
      · have h := itp c5 h
        refine lv_bipush (v := -2) hx hb dX7_put_40 (by decide) ?_
        exact hrt (fun _ => 0) _ _ ((-2)) t_now_rows t_now_sizes t_now_rooms t_now_acts _ _ dX7_put_42 h (hP.sub [0, 1, 2, 3, 4] rfl) (hD.sub [0, 1, 2, 3, 4] (by decide) rfl) hS
      · have h := itn c5 h
        refine lv_aload_n hx hb dX7_put_25 rfl (lv_at hl 0 rfl) ?_
        refine lv_iload_n hx hb dX7_put_26 rfl (lv_at hl 2 rfl) ?_
        refine ro_z (runV (As := [.int v2]) (rest := []) cx hl.1 (ctX7_isKind l g a_t a_t_tape a_t_reader a_t_now a_t_choices a_t_ways a_t_stress t_now_told t_now_lines t_now_kinds t_now_acts v2 (fX7_isKind t_now_told t_now_kinds v2) rfl) kmX7_isKind kvX7_isKind lm_X7_103 ⟨rfl, rfl⟩ ⟨Nat.le_of_ble_eq_true rfl, Nat.le_of_ble_eq_true rfl⟩ (roV (q0 := 0) (ci := 6) hG (hP.sub [0, 1] rfl) hP rfl rfl) rfl rfl (Nat.le_of_ble_eq_true rfl) dX7_put_27 ⟨Nat.le_of_ble_eq_true rfl, Nat.le_of_ble_eq_true rfl⟩) (fun hz6 => ?_)
        refine lv_if_eq (tgt := 40) hx hb dX7_put_30 (by decide) (fun c7 => ?_) (fun c7 => ?_)
        · have h := itp c7 h
          refine lv_bipush (v := -2) hx hb dX7_put_40 (by decide) ?_
          exact hrt (fun _ => 0) _ _ ((-2)) t_now_rows t_now_sizes t_now_rooms t_now_acts _ _ dX7_put_42 h (hP.sub [0, 1, 2, 3, 4] rfl) (hD.sub [0, 1, 2, 3, 4] (by decide) rfl) hS
        · have h := itn c7 h
          refine lv_iload_n hx hb dX7_put_33 rfl (lv_at hl 3 rfl) ?_
          refine ro_z (runS (As := [.int v3]) (rest := []) cx hl.1 (ctX7_isAngle l g v3 (fX7_isAngle v3) rfl) kmX7_isAngle ksX7_isAngle lm_X7_129 ⟨rfl, rfl⟩ ⟨Nat.le_of_ble_eq_true rfl, Nat.le_of_ble_eq_true rfl⟩ (roS hG (hP.sub [] rfl)) rfl rfl (Nat.le_of_ble_eq_true rfl) dX7_put_34 ⟨Nat.le_of_ble_eq_true rfl, Nat.le_of_ble_eq_true rfl⟩) (fun hz8 => ?_)
          refine lv_if_ne (tgt := 43) hx hb dX7_put_37 (by decide) (fun c9 => ?_) (fun c9 => ?_)
          · have h := itn c9 h
            refine lv_aload_n hx hb dX7_put_43 rfl (lv_at hl 0 rfl) ?_
            refine xa_get (C := RX7) (T := TX7) (N := 7) cx hG hP 0 rfl rfl uX7 2 (by decide) lf_X7_30 rfl dX7_put_44 ?_
            obtain ⟨r10, hr11, h⟩ := bnd h
            refine ro_i (runVN (As := []) (rest := []) hG cx hl.1 (ctX1_plies l g a_t_now t_now_told t_now_lines t_now_kinds t_now_acts t_now_sizes r10 hr11) kmX1_plies kvX1_plies nm_17 ⟨rfl, rfl⟩ ⟨Nat.le_of_ble_eq_true rfl, Nat.le_of_ble_eq_true rfl⟩ (roV (q0 := 1) (ci := 1) hG (hP.sub [1, 3] rfl) hP rfl rfl) rfl rfl (Nat.le_of_ble_eq_true rfl) dX7_put_47 ⟨Nat.le_of_ble_eq_true rfl, Nat.le_of_ble_eq_true rfl⟩) ?_
            refine lv_istore (lv' := [(4, .int r10), (0, .ref ((a_t 0))), (1, .int v1), (2, .int v2), (3, .int v3)]) hx hb dX7_put_50 hl (by decide) rfl (fun ls hl => ?_)
            refine lv_iload hx hb dX7_put_52 (lv_at hl 0 rfl) ?_
            refine lv_bipush (v := 8) hx hb dX7_put_54 (by decide) ?_
            refine lv_icmp_ge (tgt := 69) hx hb dX7_put_56 (by decide) (fun c12 => ?_) (fun c12 => ?_)
            · have h := itp c12 h
              refine lv_bipush (v := -5) hx hb dX7_put_69 (by decide) ?_
              exact hrt (fun _ => 0) _ _ ((-5)) t_now_rows t_now_sizes t_now_rooms t_now_acts _ _ dX7_put_71 h (hP.sub [0, 1, 2, 3, 4] rfl) (hD.sub [0, 1, 2, 3, 4] (by decide) rfl) hS
            · have h := itn c12 h
              refine lv_aload_n hx hb dX7_put_59 rfl (lv_at hl 1 rfl) ?_
              refine xa_get (C := RX7) (T := TX7) (N := 7) cx hG hP 0 rfl rfl uX7 2 (by decide) lf_X7_30 rfl dX7_put_60 ?_
              refine ro_z (runVN (As := []) (rest := []) hG cx hl.1 (ctX1_isFull l g a_t_now t_now_told t_now_lines t_now_kinds t_now_acts (fX1_isFull t_now_acts) rfl) kmX1_isFull kvX1_isFull nm_96 ⟨rfl, rfl⟩ ⟨Nat.le_of_ble_eq_true rfl, Nat.le_of_ble_eq_true rfl⟩ (roV (q0 := 1) (ci := 1) hG (hP.sub [1] rfl) hP rfl rfl) rfl rfl (Nat.le_of_ble_eq_true rfl) dX7_put_63 ⟨Nat.le_of_ble_eq_true rfl, Nat.le_of_ble_eq_true rfl⟩) (fun hz13 => ?_)
              refine lv_if_eq (tgt := 72) hx hb dX7_put_66 (by decide) (fun c14 => ?_) (fun c14 => ?_)
              · have h := itp c14 h
                refine lv_aload_n hx hb dX7_put_72 rfl (lv_at hl 1 rfl) ?_
                refine xa_get (C := RX7) (T := TX7) (N := 7) cx hG hP 0 rfl rfl uX7 2 (by decide) lf_X7_30 rfl dX7_put_73 ?_
                refine lv_aload_n hx hb dX7_put_76 rfl (lv_at hl 1 rfl) ?_
                refine xa_get (C := RX7) (T := TX7) (N := 7) cx hG hP 0 rfl rfl uX7 2 (by decide) lf_X7_30 rfl dX7_put_77 ?_
                obtain ⟨r15, hr16, h⟩ := bnd h
                refine ro_i (runVN (As := []) (rest := [.ref ((a_t_now 0))]) hG cx hl.1 (ctX1_row l g a_t_now t_now_told t_now_lines t_now_kinds t_now_acts t_now_rows r15 hr16) kmX1_row kvX1_row nm_25 ⟨rfl, rfl⟩ ⟨Nat.le_of_ble_eq_true rfl, Nat.le_of_ble_eq_true rfl⟩ (roV (q0 := 1) (ci := 1) hG (hP.sub [1, 2] rfl) hP rfl rfl) rfl rfl (Nat.le_of_ble_eq_true rfl) dX7_put_80 ⟨Nat.le_of_ble_eq_true rfl, Nat.le_of_ble_eq_true rfl⟩) ?_
                refine lv_iload hx hb dX7_put_83 (lv_at hl 0 rfl) ?_
                refine lv_iload_n hx hb dX7_put_85 rfl (lv_at hl 2 rfl) ?_
                refine lv_iload_n hx hb dX7_put_86 rfl (lv_at hl 3 rfl) ?_
                refine lv_iconst (v := 4) hx hb dX7_put_87 (by decide) ?_
                refine lv_imul hx hb dX7_put_88 ?_
                refine lv_iload_n hx hb dX7_put_89 rfl (lv_at hl 4 rfl) ?_
                refine lv_iadd hx hb dX7_put_90 ?_
                obtain ⟨r17, hr18, h⟩ := bnd h
                refine ro_i (runSN (As := [.int r15, .int r10, .int v1, .int ((v2 * 4) + v3)]) (rest := [.ref ((a_t_now 0))]) hG cx hl.1 (ctX3_inserted l g r15 r10 v1 ((v2 * 4) + v3) r17 hr18) kmX3_inserted ksX3_inserted nm_99 ⟨rfl, rfl⟩ ⟨Nat.le_of_ble_eq_true rfl, Nat.le_of_ble_eq_true rfl⟩ (roS hG (hP.sub [] rfl)) rfl rfl (Nat.le_of_ble_eq_true rfl) dX7_put_91 ⟨Nat.le_of_ble_eq_true rfl, Nat.le_of_ble_eq_true rfl⟩) ?_
                refine lv_iload hx hb dX7_put_94 (lv_at hl 0 rfl) ?_
                refine lv_iconst (v := 1) hx hb dX7_put_96 (by decide) ?_
                refine lv_iadd hx hb dX7_put_97 ?_
                refine lv_aload_n hx hb dX7_put_98 rfl (lv_at hl 1 rfl) ?_
                refine xa_get (C := RX7) (T := TX7) (N := 7) cx hG hP 0 rfl rfl uX7 2 (by decide) lf_X7_30 rfl dX7_put_99 ?_
                obtain ⟨r19, hr20, h⟩ := bnd h
                refine ro_i (runVN (As := []) (rest := [.int (r10 + 1), .int r17, .ref ((a_t_now 0))]) hG cx hl.1 (ctX1_roomNow l g a_t_now t_now_told t_now_lines t_now_kinds t_now_acts t_now_rooms r19 hr20) kmX1_roomNow kvX1_roomNow nm_16 ⟨rfl, rfl⟩ ⟨Nat.le_of_ble_eq_true rfl, Nat.le_of_ble_eq_true rfl⟩ (roV (q0 := 1) (ci := 1) hG (hP.sub [1, 4] rfl) hP rfl rfl) rfl rfl (Nat.le_of_ble_eq_true rfl) dX7_put_102 ⟨Nat.le_of_ble_eq_true rfl, Nat.le_of_ble_eq_true rfl⟩) ?_
                obtain ⟨w22, w23, w24, w25, hr21, h⟩ := ob4_out h
                refine rw_v (WN := fun u26 => [((a_t 0), .inr (6, [.ref (a_t_tape 0), .ref (a_t_reader 0), .ref (a_t_now 0), .ref (a_t 4), .ref (a_t_choices 0), .ref (a_t_ways 0), .ref (a_t_stress 0)])), ((a_t_now 0), .inr (1, [.ref (a_t_now 1), .ref (a_t_now 2), .ref (a_t_now 3), .ref (a_t_now 4), .ref (a_t_now 5), .int t_now_told, .int t_now_lines, .int t_now_kinds, .int w25])), ((a_t_now 3), .inl (g.2.2.1 0, 31, .inl w22)), ((a_t_now 4), .inl (g.2.2.1 0, 31, .inl w23)), ((a_t_now 5), .inl (g.2.2.1 0, 31, .inl w24))]) (wr := [((a_t 0), .inr (6, [.ref (a_t_tape 0), .ref (a_t_reader 0), .ref (a_t_now 0), .ref (a_t 4), .ref (a_t_choices 0), .ref (a_t_ways 0), .ref (a_t_stress 0)]))]) (runVN (As := [.int r17, .int (r10 + 1), .int r19]) (rest := []) hG cx hl.1 (ctX1_act l g s.heap.size a_t_now t_now_told t_now_lines t_now_kinds t_now_acts t_now_rows t_now_sizes t_now_rooms r17 (r10 + 1) r19 w22 w23 w24 w25 hr21) kmX1_act kvX1_act nm_98 ⟨rfl, rfl⟩ ⟨Nat.le_of_ble_eq_true rfl, Nat.le_of_ble_eq_true rfl⟩ (rwV (q0 := 1) (ci := 1) hG (hP.sub [1, 2, 3, 4] rfl) (hD.sub [1, 2, 3, 4] (by decide) rfl) hAb hb0 hS hP rfl rfl) rfl rfl (Nat.le_of_ble_eq_true rfl) dX7_put_105 ⟨Nat.le_of_ble_eq_true rfl, Nat.le_of_ble_eq_true rfl⟩) hP hD hS hA [1, 2, 3, 4] [0] rfl rfl (by decide) (by decide) (fun _ => rfl) (fun u26 H locs hP hD hS => ?_)
                have hG := hGk hS
                refine lv_iload hx hb dX7_put_108 (lv_at hl 0 rfl) ?_
                refine lv_iconst (v := 1) hx hb dX7_put_110 (by decide) ?_
                refine lv_iadd hx hb dX7_put_111 ?_
                exact hrt (fun _ => 0) _ _ ((r10 + 1)) w22 w23 w24 w25 _ _ dX7_put_112 h (hP.sub [0, 1, 2, 3, 4] rfl) (hD.sub [0, 1, 2, 3, 4] (by decide) rfl) hS
              · have h := itn c14 h
                refine lv_bipush (v := -5) hx hb dX7_put_69 (by decide) ?_
                exact hrt (fun _ => 0) _ _ ((-5)) t_now_rows t_now_sizes t_now_rooms t_now_acts _ _ dX7_put_71 h (hP.sub [0, 1, 2, 3, 4] rfl) (hD.sub [0, 1, 2, 3, 4] (by decide) rfl) hS
          · have h := itp c9 h
            refine lv_bipush (v := -2) hx hb dX7_put_40 (by decide) ?_
            exact hrt (fun _ => 0) _ _ ((-2)) t_now_rows t_now_sizes t_now_rooms t_now_acts _ _ dX7_put_42 h (hP.sub [0, 1, 2, 3, 4] rfl) (hD.sub [0, 1, 2, 3, 4] (by decide) rfl) hS
-- X7_stayWith
theorem dX7_stayWith_0 : decode cX7_stayWith 0 = .ok (.aload_n 0, 1) := by decide +kernel
theorem dX7_stayWith_1 : decode cX7_stayWith 1 = .ok (.getfield 30, 3) := by decide +kernel
theorem dX7_stayWith_4 : decode cX7_stayWith 4 = .ok (.aload_n 0, 1) := by decide +kernel
theorem dX7_stayWith_5 : decode cX7_stayWith 5 = .ok (.getfield 30, 3) := by decide +kernel
theorem dX7_stayWith_8 : decode cX7_stayWith 8 = .ok (.invokevirtual 132, 3) := by decide +kernel
theorem dX7_stayWith_11 : decode cX7_stayWith 11 = .ok (.aload_n 0, 1) := by decide +kernel
theorem dX7_stayWith_12 : decode cX7_stayWith 12 = .ok (.getfield 30, 3) := by decide +kernel
theorem dX7_stayWith_15 : decode cX7_stayWith 15 = .ok (.invokevirtual 97, 3) := by decide +kernel
theorem dX7_stayWith_18 : decode cX7_stayWith 18 = .ok (.iload_n 1, 1) := by decide +kernel
theorem dX7_stayWith_19 : decode cX7_stayWith 19 = .ok (.invokestatic 345, 3) := by decide +kernel
theorem dX7_stayWith_22 : decode cX7_stayWith 22 = .ok (.iload_n 1, 1) := by decide +kernel
theorem dX7_stayWith_23 : decode cX7_stayWith 23 = .ok (.invokestatic 299, 3) := by decide +kernel
theorem dX7_stayWith_26 : decode cX7_stayWith 26 = .ok (.aload_n 0, 1) := by decide +kernel
theorem dX7_stayWith_27 : decode cX7_stayWith 27 = .ok (.getfield 30, 3) := by decide +kernel
theorem dX7_stayWith_30 : decode cX7_stayWith 30 = .ok (.invokevirtual 90, 3) := by decide +kernel
theorem dX7_stayWith_33 : decode cX7_stayWith 33 = .ok (.invokevirtual 332, 3) := by decide +kernel
theorem dX7_stayWith_36 : decode cX7_stayWith 36 = .ok (.return_, 1) := by decide +kernel
noncomputable def fX7_stayWith  (t_now_rows : Nat → Int32) (t_now_sizes : Nat → Int32) (t_now_rooms : Nat → Int32) (t_now_acts : Int32) (v1 : Int32) : Option ((Nat → Int32) × (Nat → Int32) × (Nat → Int32) × Int32) := (fX1_row t_now_rows t_now_acts).bind fun r1 => (fX1_plies t_now_sizes t_now_acts).bind fun r3 => (fX3_chosen r1 r3 v1).bind fun r5 => (fX1_roomNow t_now_rooms t_now_acts).bind fun r7 => ob4 (fX1_act t_now_rows t_now_sizes t_now_rooms t_now_acts r5 (fJ6_bitCount_0f7a4 v1) r7) fun w10 w11 w12 w13 => some (w10, w11, w12, w13)
set_option maxHeartbeats 4000000 in
set_option maxRecDepth 100000 in
theorem ctX7_stayWith (l : Launch) (g : GT) (sz : Nat) (a_t : Nat → Nat) (a_t_tape : Nat → Nat) (a_t_reader : Nat → Nat) (a_t_now : Nat → Nat) (a_t_choices : Nat → Nat) (a_t_ways : Nat → Nat) (a_t_stress : Nat → Nat) (t_now_told : Int32) (t_now_lines : Int32) (t_now_kinds : Int32) (t_now_acts : Int32) (t_now_rows : Nat → Int32) (t_now_sizes : Nat → Int32) (t_now_rooms : Nat → Int32) (v1 : Int32) (o_t_now_rows : Nat → Int32) (o_t_now_sizes : Nat → Int32) (o_t_now_rooms : Nat → Int32) (o_t_now_acts : Int32) (h : fX7_stayWith t_now_rows t_now_sizes t_now_rooms t_now_acts v1 = some (o_t_now_rows, o_t_now_sizes, o_t_now_rooms, o_t_now_acts)) : Met l yX7_stayWith (Cond.code yX7_stayWith cX7_stayWith 2 none :: Tw) ⟨2, 0, 0, 46⟩ (va_Pc [.ref ((a_t 0)), .int v1] (rwB g [((a_t 0), .inr (6, [.ref (a_t_tape 0), .ref (a_t_reader 0), .ref (a_t_now 0), .ref (a_t 4), .ref (a_t_choices 0), .ref (a_t_ways 0), .ref (a_t_stress 0)])), ((a_t_now 0), .inr (1, [.ref (a_t_now 1), .ref (a_t_now 2), .ref (a_t_now 3), .ref (a_t_now 4), .ref (a_t_now 5), .int t_now_told, .int t_now_lines, .int t_now_kinds, .int t_now_acts])), ((a_t_now 3), .inl (g.2.2.1 0, 31, .inl t_now_rows)), ((a_t_now 4), .inl (g.2.2.1 0, 31, .inl t_now_sizes)), ((a_t_now 5), .inl (g.2.2.1 0, 31, .inl t_now_rooms))] sz)) (va_Qv (fun (_ : Nat → Nat) => True) (fun u => rwE g (va_A [((a_t 0), .inr (6, [.ref (a_t_tape 0), .ref (a_t_reader 0), .ref (a_t_now 0), .ref (a_t 4), .ref (a_t_choices 0), .ref (a_t_ways 0), .ref (a_t_stress 0)])), ((a_t_now 0), .inr (1, [.ref (a_t_now 1), .ref (a_t_now 2), .ref (a_t_now 3), .ref (a_t_now 4), .ref (a_t_now 5), .int t_now_told, .int t_now_lines, .int t_now_kinds, .int t_now_acts])), ((a_t_now 3), .inl (g.2.2.1 0, 31, .inl t_now_rows)), ((a_t_now 4), .inl (g.2.2.1 0, 31, .inl t_now_sizes)), ((a_t_now 5), .inl (g.2.2.1 0, 31, .inl t_now_rooms))] sz) [((a_t 0), .inr (6, [.ref (a_t_tape 0), .ref (a_t_reader 0), .ref (a_t_now 0), .ref (a_t 4), .ref (a_t_choices 0), .ref (a_t_ways 0), .ref (a_t_stress 0)])), ((a_t_now 0), .inr (1, [.ref (a_t_now 1), .ref (a_t_now 2), .ref (a_t_now 3), .ref (a_t_now 4), .ref (a_t_now 5), .int t_now_told, .int t_now_lines, .int t_now_kinds, .int o_t_now_acts])), ((a_t_now 3), .inl (g.2.2.1 0, 31, .inl o_t_now_rows)), ((a_t_now 4), .inl (g.2.2.1 0, 31, .inl o_t_now_sizes)), ((a_t_now 5), .inl (g.2.2.1 0, 31, .inl o_t_now_rooms))]) (va_A [((a_t 0), .inr (6, [.ref (a_t_tape 0), .ref (a_t_reader 0), .ref (a_t_now 0), .ref (a_t 4), .ref (a_t_choices 0), .ref (a_t_ways 0), .ref (a_t_stress 0)])), ((a_t_now 0), .inr (1, [.ref (a_t_now 1), .ref (a_t_now 2), .ref (a_t_now 3), .ref (a_t_now 4), .ref (a_t_now 5), .int t_now_told, .int t_now_lines, .int t_now_kinds, .int t_now_acts])), ((a_t_now 3), .inl (g.2.2.1 0, 31, .inl t_now_rows)), ((a_t_now 4), .inl (g.2.2.1 0, 31, .inl t_now_sizes)), ((a_t_now 5), .inl (g.2.2.1 0, 31, .inl t_now_rooms))] sz)) 0 0 (va_A [((a_t 0), .inr (6, [.ref (a_t_tape 0), .ref (a_t_reader 0), .ref (a_t_now 0), .ref (a_t 4), .ref (a_t_choices 0), .ref (a_t_ways 0), .ref (a_t_stress 0)])), ((a_t_now 0), .inr (1, [.ref (a_t_now 1), .ref (a_t_now 2), .ref (a_t_now 3), .ref (a_t_now 4), .ref (a_t_now 5), .int t_now_told, .int t_now_lines, .int t_now_kinds, .int t_now_acts])), ((a_t_now 3), .inl (g.2.2.1 0, 31, .inl t_now_rows)), ((a_t_now 4), .inl (g.2.2.1 0, 31, .inl t_now_sizes)), ((a_t_now 5), .inl (g.2.2.1 0, 31, .inl t_now_rooms))] sz) := by
  refine rw_metv (by decide) (Nat.le_of_ble_eq_true rfl) (lv0 := [(0, .ref ((a_t 0))), (1, .int v1)]) rfl ?_
  intro p e s m args below meth c ls Q A cx hret hG hAb hb0 hA hP hD hl
  have hx := cx.1
  have hb := cx.2.1
  have hG0 := hG
  have hGk : ∀ {H : Heap} {locs : List Loc}, va_S A s.heap H locs → GE g s H := fun hS => hG0.keptS hAb hS
  have hSb : ∀ {H : Heap} {locs : List Loc}, va_S A s.heap H locs → va_S (fun a => g.1 ≤ a) s.heap H locs := fun hS => ⟨hS.1, fun q h1 h2 => hS.2.1 q h1 (fun z => h2 (hAb q z)), fun l hl => hAb _ (hS.2.2 l hl)⟩
  have hS : va_S A s.heap s.heap [] := va_S.rf
  have hrt : ∀ (u : Nat → Nat) (pc : Nat) (ls : Array Slot) (x_t_now_rows : Nat → Int32) (x_t_now_sizes : Nat → Int32) (x_t_now_rooms : Nat → Int32) (x_t_now_acts : Int32) (H : Heap) (locs : List Loc), decode cX7_stayWith pc = .ok (.return_, 1) → some (x_t_now_rows, x_t_now_sizes, x_t_now_rooms, x_t_now_acts) = some (o_t_now_rows, o_t_now_sizes, o_t_now_rooms, o_t_now_acts) → va_P g.2.1 vwCl [((a_t 0), .inr (6, [.ref (a_t_tape 0), .ref (a_t_reader 0), .ref (a_t_now 0), .ref (a_t 4), .ref (a_t_choices 0), .ref (a_t_ways 0), .ref (a_t_stress 0)])), ((a_t_now 0), .inr (1, [.ref (a_t_now 1), .ref (a_t_now 2), .ref (a_t_now 3), .ref (a_t_now 4), .ref (a_t_now 5), .int t_now_told, .int t_now_lines, .int t_now_kinds, .int x_t_now_acts])), ((a_t_now 3), .inl (g.2.2.1 0, 31, .inl x_t_now_rows)), ((a_t_now 4), .inl (g.2.2.1 0, 31, .inl x_t_now_sizes)), ((a_t_now 5), .inl (g.2.2.1 0, 31, .inl x_t_now_rooms))] H → va_D A [((a_t 0), .inr (6, [.ref (a_t_tape 0), .ref (a_t_reader 0), .ref (a_t_now 0), .ref (a_t 4), .ref (a_t_choices 0), .ref (a_t_ways 0), .ref (a_t_stress 0)])), ((a_t_now 0), .inr (1, [.ref (a_t_now 1), .ref (a_t_now 2), .ref (a_t_now 3), .ref (a_t_now 4), .ref (a_t_now 5), .int t_now_told, .int t_now_lines, .int t_now_kinds, .int x_t_now_acts])), ((a_t_now 3), .inl (g.2.2.1 0, 31, .inl x_t_now_rows)), ((a_t_now 4), .inl (g.2.2.1 0, 31, .inl x_t_now_sizes)), ((a_t_now 5), .inl (g.2.2.1 0, 31, .inl x_t_now_rooms))] → va_S A s.heap H locs → W p l e ⟨2, 0, 0, 46⟩ s m args below meth c H locs 0 0 Q (F0 m pc ls []) := by
    intro u pc ls x_t_now_rows x_t_now_sizes x_t_now_rooms x_t_now_acts H locs hd h hP hD hS
    cases h
    exact hret u _ _ _ _ hd hP hD hS
  unfold fX7_stayWith at h
  refine lv_aload_n hx hb dX7_stayWith_0 rfl (lv_at hl 0 rfl) ?_
  refine xa_get (C := RX7) (T := TX7) (N := 7) cx hG hP 0 rfl rfl uX7 2 (by decide) lf_X7_30 rfl dX7_stayWith_1 ?_
  refine lv_aload_n hx hb dX7_stayWith_4 rfl (lv_at hl 0 rfl) ?_
  refine xa_get (C := RX7) (T := TX7) (N := 7) cx hG hP 0 rfl rfl uX7 2 (by decide) lf_X7_30 rfl dX7_stayWith_5 ?_
  obtain ⟨r1, hr2, h⟩ := bnd h
  refine ro_i (runVN (As := []) (rest := [.ref ((a_t_now 0))]) hG cx hl.1 (ctX1_row l g a_t_now t_now_told t_now_lines t_now_kinds t_now_acts t_now_rows r1 hr2) kmX1_row kvX1_row nm_25 ⟨rfl, rfl⟩ ⟨Nat.le_of_ble_eq_true rfl, Nat.le_of_ble_eq_true rfl⟩ (roV (q0 := 1) (ci := 1) hG (hP.sub [1, 2] rfl) hP rfl rfl) rfl rfl (Nat.le_of_ble_eq_true rfl) dX7_stayWith_8 ⟨Nat.le_of_ble_eq_true rfl, Nat.le_of_ble_eq_true rfl⟩) ?_
  refine lv_aload_n hx hb dX7_stayWith_11 rfl (lv_at hl 0 rfl) ?_
  refine xa_get (C := RX7) (T := TX7) (N := 7) cx hG hP 0 rfl rfl uX7 2 (by decide) lf_X7_30 rfl dX7_stayWith_12 ?_
  obtain ⟨r3, hr4, h⟩ := bnd h
  refine ro_i (runVN (As := []) (rest := [.int r1, .ref ((a_t_now 0))]) hG cx hl.1 (ctX1_plies l g a_t_now t_now_told t_now_lines t_now_kinds t_now_acts t_now_sizes r3 hr4) kmX1_plies kvX1_plies nm_17 ⟨rfl, rfl⟩ ⟨Nat.le_of_ble_eq_true rfl, Nat.le_of_ble_eq_true rfl⟩ (roV (q0 := 1) (ci := 1) hG (hP.sub [1, 3] rfl) hP rfl rfl) rfl rfl (Nat.le_of_ble_eq_true rfl) dX7_stayWith_15 ⟨Nat.le_of_ble_eq_true rfl, Nat.le_of_ble_eq_true rfl⟩) ?_
  refine lv_iload_n hx hb dX7_stayWith_18 rfl (lv_at hl 1 rfl) ?_
  obtain ⟨r5, hr6, h⟩ := bnd h
  refine ro_i (runSN (As := [.int r1, .int r3, .int v1]) (rest := [.ref ((a_t_now 0))]) hG cx hl.1 (ctX3_chosen l g r1 r3 v1 r5 hr6) kmX3_chosen ksX3_chosen nm_100 ⟨rfl, rfl⟩ ⟨Nat.le_of_ble_eq_true rfl, Nat.le_of_ble_eq_true rfl⟩ (roS hG (hP.sub [] rfl)) rfl rfl (Nat.le_of_ble_eq_true rfl) dX7_stayWith_19 ⟨Nat.le_of_ble_eq_true rfl, Nat.le_of_ble_eq_true rfl⟩) ?_
  refine lv_iload_n hx hb dX7_stayWith_22 rfl (lv_at hl 1 rfl) ?_
  refine ro_i (runS (As := [.int v1]) (rest := [.int r5, .ref ((a_t_now 0))]) cx hl.1 (ctJ6_bitCount_0f7a4 l g v1 (fJ6_bitCount_0f7a4 v1) rfl) kmJ6_bitCount_0f7a4 ksJ6_bitCount_0f7a4 lm_X7_299 ⟨rfl, rfl⟩ ⟨Nat.le_of_ble_eq_true rfl, Nat.le_of_ble_eq_true rfl⟩ (roS hG (hP.sub [] rfl)) rfl rfl (Nat.le_of_ble_eq_true rfl) dX7_stayWith_23 ⟨Nat.le_of_ble_eq_true rfl, Nat.le_of_ble_eq_true rfl⟩) ?_
  refine lv_aload_n hx hb dX7_stayWith_26 rfl (lv_at hl 0 rfl) ?_
  refine xa_get (C := RX7) (T := TX7) (N := 7) cx hG hP 0 rfl rfl uX7 2 (by decide) lf_X7_30 rfl dX7_stayWith_27 ?_
  obtain ⟨r7, hr8, h⟩ := bnd h
  refine ro_i (runVN (As := []) (rest := [.int (fJ6_bitCount_0f7a4 v1), .int r5, .ref ((a_t_now 0))]) hG cx hl.1 (ctX1_roomNow l g a_t_now t_now_told t_now_lines t_now_kinds t_now_acts t_now_rooms r7 hr8) kmX1_roomNow kvX1_roomNow nm_16 ⟨rfl, rfl⟩ ⟨Nat.le_of_ble_eq_true rfl, Nat.le_of_ble_eq_true rfl⟩ (roV (q0 := 1) (ci := 1) hG (hP.sub [1, 4] rfl) hP rfl rfl) rfl rfl (Nat.le_of_ble_eq_true rfl) dX7_stayWith_30 ⟨Nat.le_of_ble_eq_true rfl, Nat.le_of_ble_eq_true rfl⟩) ?_
  obtain ⟨w10, w11, w12, w13, hr9, h⟩ := ob4_out h
  refine rw_v (WN := fun u14 => [((a_t 0), .inr (6, [.ref (a_t_tape 0), .ref (a_t_reader 0), .ref (a_t_now 0), .ref (a_t 4), .ref (a_t_choices 0), .ref (a_t_ways 0), .ref (a_t_stress 0)])), ((a_t_now 0), .inr (1, [.ref (a_t_now 1), .ref (a_t_now 2), .ref (a_t_now 3), .ref (a_t_now 4), .ref (a_t_now 5), .int t_now_told, .int t_now_lines, .int t_now_kinds, .int w13])), ((a_t_now 3), .inl (g.2.2.1 0, 31, .inl w10)), ((a_t_now 4), .inl (g.2.2.1 0, 31, .inl w11)), ((a_t_now 5), .inl (g.2.2.1 0, 31, .inl w12))]) (wr := [((a_t 0), .inr (6, [.ref (a_t_tape 0), .ref (a_t_reader 0), .ref (a_t_now 0), .ref (a_t 4), .ref (a_t_choices 0), .ref (a_t_ways 0), .ref (a_t_stress 0)]))]) (runVN (As := [.int r5, .int (fJ6_bitCount_0f7a4 v1), .int r7]) (rest := []) hG cx hl.1 (ctX1_act l g s.heap.size a_t_now t_now_told t_now_lines t_now_kinds t_now_acts t_now_rows t_now_sizes t_now_rooms r5 (fJ6_bitCount_0f7a4 v1) r7 w10 w11 w12 w13 hr9) kmX1_act kvX1_act nm_98 ⟨rfl, rfl⟩ ⟨Nat.le_of_ble_eq_true rfl, Nat.le_of_ble_eq_true rfl⟩ (rwV (q0 := 1) (ci := 1) hG (hP.sub [1, 2, 3, 4] rfl) (hD.sub [1, 2, 3, 4] (by decide) rfl) hAb hb0 hS hP rfl rfl) rfl rfl (Nat.le_of_ble_eq_true rfl) dX7_stayWith_33 ⟨Nat.le_of_ble_eq_true rfl, Nat.le_of_ble_eq_true rfl⟩) hP hD hS hA [1, 2, 3, 4] [0] rfl rfl (by decide) (by decide) (fun _ => rfl) (fun u14 H locs hP hD hS => ?_)
  have hG := hGk hS
  exact hrt (fun _ => 0) _ _ w10 w11 w12 w13 _ _ dX7_stayWith_36 h (hP.sub [0, 1, 2, 3, 4] rfl) (hD.sub [0, 1, 2, 3, 4] (by decide) rfl) hS
-- X7_drop
theorem dX7_drop_0 : decode cX7_drop 0 = .ok (.aload_n 0, 1) := by decide +kernel
theorem dX7_drop_1 : decode cX7_drop 1 = .ok (.iload_n 1, 1) := by decide +kernel
theorem dX7_drop_2 : decode cX7_drop 2 = .ok (.invokevirtual 115, 3) := by decide +kernel
theorem dX7_drop_5 : decode cX7_drop 5 = .ok (.ifCond .ne 6, 3) := by decide +kernel
theorem dX7_drop_8 : decode cX7_drop 8 = .ok (.bipush (-2), 2) := by decide +kernel
theorem dX7_drop_10 : decode cX7_drop 10 = .ok (.ireturn, 1) := by decide +kernel
theorem dX7_drop_11 : decode cX7_drop 11 = .ok (.aload_n 0, 1) := by decide +kernel
theorem dX7_drop_12 : decode cX7_drop 12 = .ok (.getfield 30, 3) := by decide +kernel
theorem dX7_drop_15 : decode cX7_drop 15 = .ok (.invokevirtual 326, 3) := by decide +kernel
theorem dX7_drop_18 : decode cX7_drop 18 = .ok (.ifCond .eq 6, 3) := by decide +kernel
theorem dX7_drop_21 : decode cX7_drop 21 = .ok (.bipush (-5), 2) := by decide +kernel
theorem dX7_drop_23 : decode cX7_drop 23 = .ok (.ireturn, 1) := by decide +kernel
theorem dX7_drop_24 : decode cX7_drop 24 = .ok (.aload_n 0, 1) := by decide +kernel
theorem dX7_drop_25 : decode cX7_drop 25 = .ok (.aload_n 0, 1) := by decide +kernel
theorem dX7_drop_26 : decode cX7_drop 26 = .ok (.getfield 30, 3) := by decide +kernel
theorem dX7_drop_29 : decode cX7_drop 29 = .ok (.invokevirtual 339, 3) := by decide +kernel
theorem dX7_drop_32 : decode cX7_drop 32 = .ok (.iconst 1, 1) := by decide +kernel
theorem dX7_drop_33 : decode cX7_drop 33 = .ok (.iload_n 1, 1) := by decide +kernel
theorem dX7_drop_34 : decode cX7_drop 34 = .ok (.ishl, 1) := by decide +kernel
theorem dX7_drop_35 : decode cX7_drop 35 = .ok (.isub, 1) := by decide +kernel
theorem dX7_drop_36 : decode cX7_drop 36 = .ok (.invokevirtual 342, 3) := by decide +kernel
theorem dX7_drop_39 : decode cX7_drop 39 = .ok (.aload_n 0, 1) := by decide +kernel
theorem dX7_drop_40 : decode cX7_drop 40 = .ok (.getfield 30, 3) := by decide +kernel
theorem dX7_drop_43 : decode cX7_drop 43 = .ok (.invokevirtual 97, 3) := by decide +kernel
theorem dX7_drop_46 : decode cX7_drop 46 = .ok (.ireturn, 1) := by decide +kernel
noncomputable def fX7_drop  (t_now_rows : Nat → Int32) (t_now_sizes : Nat → Int32) (t_now_rooms : Nat → Int32) (t_now_told : Int32) (t_now_acts : Int32) (v1 : Int32) : Option (Int32 × (Nat → Int32) × (Nat → Int32) × (Nat → Int32) × Int32) := (fX7_isPly t_now_sizes t_now_told t_now_acts v1).bind fun r1 => (if r1 = 0 then some ((-2), t_now_rows, t_now_sizes, t_now_rooms, t_now_acts) else (if (fX1_isFull t_now_acts) = 0 then (fX1_allPlies t_now_sizes t_now_acts).bind fun r7 => ob4 (fX7_stayWith t_now_rows t_now_sizes t_now_rooms t_now_acts (r7 - (1 <<< (v1 &&& 31)))) fun w10 w11 w12 w13 => (fX1_plies w11 w13).bind fun r15 => some (r15, w10, w11, w12, w13) else some ((-5), t_now_rows, t_now_sizes, t_now_rooms, t_now_acts)))
set_option maxHeartbeats 4000000 in
set_option maxRecDepth 100000 in
theorem ctX7_drop (l : Launch) (g : GT) (sz : Nat) (a_t : Nat → Nat) (a_t_tape : Nat → Nat) (a_t_reader : Nat → Nat) (a_t_now : Nat → Nat) (a_t_choices : Nat → Nat) (a_t_ways : Nat → Nat) (a_t_stress : Nat → Nat) (t_now_told : Int32) (t_now_lines : Int32) (t_now_kinds : Int32) (t_now_acts : Int32) (t_now_rows : Nat → Int32) (t_now_sizes : Nat → Int32) (t_now_rooms : Nat → Int32) (v1 : Int32) (o : Int32) (o_t_now_rows : Nat → Int32) (o_t_now_sizes : Nat → Int32) (o_t_now_rooms : Nat → Int32) (o_t_now_acts : Int32) (h : fX7_drop t_now_rows t_now_sizes t_now_rooms t_now_told t_now_acts v1 = some (o, o_t_now_rows, o_t_now_sizes, o_t_now_rooms, o_t_now_acts)) : Met l yX7_drop (Cond.code yX7_drop cX7_drop 2 (some .int) :: Tw) ⟨3, 0, 0, 67⟩ (va_Pc [.ref ((a_t 0)), .int v1] (rwB g [((a_t 0), .inr (6, [.ref (a_t_tape 0), .ref (a_t_reader 0), .ref (a_t_now 0), .ref (a_t 4), .ref (a_t_choices 0), .ref (a_t_ways 0), .ref (a_t_stress 0)])), ((a_t_now 0), .inr (1, [.ref (a_t_now 1), .ref (a_t_now 2), .ref (a_t_now 3), .ref (a_t_now 4), .ref (a_t_now 5), .int t_now_told, .int t_now_lines, .int t_now_kinds, .int t_now_acts])), ((a_t_now 3), .inl (g.2.2.1 0, 31, .inl t_now_rows)), ((a_t_now 4), .inl (g.2.2.1 0, 31, .inl t_now_sizes)), ((a_t_now 5), .inl (g.2.2.1 0, 31, .inl t_now_rooms))] sz)) (va_Qi (fun x (_ : Nat → Nat) => x = o) (fun u => rwE g (va_A [((a_t 0), .inr (6, [.ref (a_t_tape 0), .ref (a_t_reader 0), .ref (a_t_now 0), .ref (a_t 4), .ref (a_t_choices 0), .ref (a_t_ways 0), .ref (a_t_stress 0)])), ((a_t_now 0), .inr (1, [.ref (a_t_now 1), .ref (a_t_now 2), .ref (a_t_now 3), .ref (a_t_now 4), .ref (a_t_now 5), .int t_now_told, .int t_now_lines, .int t_now_kinds, .int t_now_acts])), ((a_t_now 3), .inl (g.2.2.1 0, 31, .inl t_now_rows)), ((a_t_now 4), .inl (g.2.2.1 0, 31, .inl t_now_sizes)), ((a_t_now 5), .inl (g.2.2.1 0, 31, .inl t_now_rooms))] sz) [((a_t 0), .inr (6, [.ref (a_t_tape 0), .ref (a_t_reader 0), .ref (a_t_now 0), .ref (a_t 4), .ref (a_t_choices 0), .ref (a_t_ways 0), .ref (a_t_stress 0)])), ((a_t_now 0), .inr (1, [.ref (a_t_now 1), .ref (a_t_now 2), .ref (a_t_now 3), .ref (a_t_now 4), .ref (a_t_now 5), .int t_now_told, .int t_now_lines, .int t_now_kinds, .int o_t_now_acts])), ((a_t_now 3), .inl (g.2.2.1 0, 31, .inl o_t_now_rows)), ((a_t_now 4), .inl (g.2.2.1 0, 31, .inl o_t_now_sizes)), ((a_t_now 5), .inl (g.2.2.1 0, 31, .inl o_t_now_rooms))]) (va_A [((a_t 0), .inr (6, [.ref (a_t_tape 0), .ref (a_t_reader 0), .ref (a_t_now 0), .ref (a_t 4), .ref (a_t_choices 0), .ref (a_t_ways 0), .ref (a_t_stress 0)])), ((a_t_now 0), .inr (1, [.ref (a_t_now 1), .ref (a_t_now 2), .ref (a_t_now 3), .ref (a_t_now 4), .ref (a_t_now 5), .int t_now_told, .int t_now_lines, .int t_now_kinds, .int t_now_acts])), ((a_t_now 3), .inl (g.2.2.1 0, 31, .inl t_now_rows)), ((a_t_now 4), .inl (g.2.2.1 0, 31, .inl t_now_sizes)), ((a_t_now 5), .inl (g.2.2.1 0, 31, .inl t_now_rooms))] sz)) 0 0 (va_A [((a_t 0), .inr (6, [.ref (a_t_tape 0), .ref (a_t_reader 0), .ref (a_t_now 0), .ref (a_t 4), .ref (a_t_choices 0), .ref (a_t_ways 0), .ref (a_t_stress 0)])), ((a_t_now 0), .inr (1, [.ref (a_t_now 1), .ref (a_t_now 2), .ref (a_t_now 3), .ref (a_t_now 4), .ref (a_t_now 5), .int t_now_told, .int t_now_lines, .int t_now_kinds, .int t_now_acts])), ((a_t_now 3), .inl (g.2.2.1 0, 31, .inl t_now_rows)), ((a_t_now 4), .inl (g.2.2.1 0, 31, .inl t_now_sizes)), ((a_t_now 5), .inl (g.2.2.1 0, 31, .inl t_now_rooms))] sz) := by
  refine rw_meti (by decide) (Nat.le_of_ble_eq_true rfl) (lv0 := [(0, .ref ((a_t 0))), (1, .int v1)]) rfl ?_
  intro p e s m args below meth c ls Q A cx hret hG hAb hb0 hA hP hD hl
  have hx := cx.1
  have hb := cx.2.1
  have hG0 := hG
  have hGk : ∀ {H : Heap} {locs : List Loc}, va_S A s.heap H locs → GE g s H := fun hS => hG0.keptS hAb hS
  have hSb : ∀ {H : Heap} {locs : List Loc}, va_S A s.heap H locs → va_S (fun a => g.1 ≤ a) s.heap H locs := fun hS => ⟨hS.1, fun q h1 h2 => hS.2.1 q h1 (fun z => h2 (hAb q z)), fun l hl => hAb _ (hS.2.2 l hl)⟩
  have hS : va_S A s.heap s.heap [] := va_S.rf
  have hrt : ∀ (u : Nat → Nat) (pc : Nat) (ls : Array Slot) (v : Int32) (x_t_now_rows : Nat → Int32) (x_t_now_sizes : Nat → Int32) (x_t_now_rooms : Nat → Int32) (x_t_now_acts : Int32) (H : Heap) (locs : List Loc), decode cX7_drop pc = .ok (.ireturn, 1) → some (v, x_t_now_rows, x_t_now_sizes, x_t_now_rooms, x_t_now_acts) = some (o, o_t_now_rows, o_t_now_sizes, o_t_now_rooms, o_t_now_acts) → va_P g.2.1 vwCl [((a_t 0), .inr (6, [.ref (a_t_tape 0), .ref (a_t_reader 0), .ref (a_t_now 0), .ref (a_t 4), .ref (a_t_choices 0), .ref (a_t_ways 0), .ref (a_t_stress 0)])), ((a_t_now 0), .inr (1, [.ref (a_t_now 1), .ref (a_t_now 2), .ref (a_t_now 3), .ref (a_t_now 4), .ref (a_t_now 5), .int t_now_told, .int t_now_lines, .int t_now_kinds, .int x_t_now_acts])), ((a_t_now 3), .inl (g.2.2.1 0, 31, .inl x_t_now_rows)), ((a_t_now 4), .inl (g.2.2.1 0, 31, .inl x_t_now_sizes)), ((a_t_now 5), .inl (g.2.2.1 0, 31, .inl x_t_now_rooms))] H → va_D A [((a_t 0), .inr (6, [.ref (a_t_tape 0), .ref (a_t_reader 0), .ref (a_t_now 0), .ref (a_t 4), .ref (a_t_choices 0), .ref (a_t_ways 0), .ref (a_t_stress 0)])), ((a_t_now 0), .inr (1, [.ref (a_t_now 1), .ref (a_t_now 2), .ref (a_t_now 3), .ref (a_t_now 4), .ref (a_t_now 5), .int t_now_told, .int t_now_lines, .int t_now_kinds, .int x_t_now_acts])), ((a_t_now 3), .inl (g.2.2.1 0, 31, .inl x_t_now_rows)), ((a_t_now 4), .inl (g.2.2.1 0, 31, .inl x_t_now_sizes)), ((a_t_now 5), .inl (g.2.2.1 0, 31, .inl x_t_now_rooms))] → va_S A s.heap H locs → W p l e ⟨3, 0, 0, 67⟩ s m args below meth c H locs 0 0 Q (F0 m pc ls [.int v]) := by
    intro u pc ls v x_t_now_rows x_t_now_sizes x_t_now_rooms x_t_now_acts H locs hd h hP hD hS
    cases h
    exact hret u _ _ _ _ _ hd rfl hP hD hS
  unfold fX7_drop at h
  refine lv_aload_n hx hb dX7_drop_0 rfl (lv_at hl 0 rfl) ?_
  refine lv_iload_n hx hb dX7_drop_1 rfl (lv_at hl 1 rfl) ?_
  obtain ⟨r1, hr2, h⟩ := bnd h
  refine ro_z (runV (As := [.int v1]) (rest := []) cx hl.1 (ctX7_isPly l g a_t a_t_tape a_t_reader a_t_now a_t_choices a_t_ways a_t_stress t_now_told t_now_lines t_now_kinds t_now_acts t_now_sizes v1 r1 hr2) kmX7_isPly kvX7_isPly lm_X7_115 ⟨rfl, rfl⟩ ⟨Nat.le_of_ble_eq_true rfl, Nat.le_of_ble_eq_true rfl⟩ (roV (q0 := 0) (ci := 6) hG (hP.sub [0, 1, 3] rfl) hP rfl rfl) rfl rfl (Nat.le_of_ble_eq_true rfl) dX7_drop_2 ⟨Nat.le_of_ble_eq_true rfl, Nat.le_of_ble_eq_true rfl⟩) (fun hz3 => ?_)
  refine lv_if_ne (tgt := 11) hx hb dX7_drop_5 (by decide) (fun c4 => ?_) (fun c4 => ?_)
  · have h := itn c4 h
    refine lv_aload_n hx hb dX7_drop_11 rfl (lv_at hl 0 rfl) ?_
    refine xa_get (C := RX7) (T := TX7) (N := 7) cx hG hP 0 rfl rfl uX7 2 (by decide) lf_X7_30 rfl dX7_drop_12 ?_
    refine ro_z (runVN (As := []) (rest := []) hG cx hl.1 (ctX1_isFull l g a_t_now t_now_told t_now_lines t_now_kinds t_now_acts (fX1_isFull t_now_acts) rfl) kmX1_isFull kvX1_isFull nm_96 ⟨rfl, rfl⟩ ⟨Nat.le_of_ble_eq_true rfl, Nat.le_of_ble_eq_true rfl⟩ (roV (q0 := 1) (ci := 1) hG (hP.sub [1] rfl) hP rfl rfl) rfl rfl (Nat.le_of_ble_eq_true rfl) dX7_drop_15 ⟨Nat.le_of_ble_eq_true rfl, Nat.le_of_ble_eq_true rfl⟩) (fun hz5 => ?_)
    refine lv_if_eq (tgt := 24) hx hb dX7_drop_18 (by decide) (fun c6 => ?_) (fun c6 => ?_)
    · have h := itp c6 h
      refine lv_aload_n hx hb dX7_drop_24 rfl (lv_at hl 0 rfl) ?_
      refine lv_aload_n hx hb dX7_drop_25 rfl (lv_at hl 0 rfl) ?_
      refine xa_get (C := RX7) (T := TX7) (N := 7) cx hG hP 0 rfl rfl uX7 2 (by decide) lf_X7_30 rfl dX7_drop_26 ?_
      obtain ⟨r7, hr8, h⟩ := bnd h
      refine ro_i (runVN (As := []) (rest := [.ref ((a_t 0))]) hG cx hl.1 (ctX1_allPlies l g a_t_now t_now_told t_now_lines t_now_kinds t_now_acts t_now_sizes r7 hr8) kmX1_allPlies kvX1_allPlies nm_91 ⟨rfl, rfl⟩ ⟨Nat.le_of_ble_eq_true rfl, Nat.le_of_ble_eq_true rfl⟩ (roV (q0 := 1) (ci := 1) hG (hP.sub [1, 3] rfl) hP rfl rfl) rfl rfl (Nat.le_of_ble_eq_true rfl) dX7_drop_29 ⟨Nat.le_of_ble_eq_true rfl, Nat.le_of_ble_eq_true rfl⟩) ?_
      refine lv_iconst (v := 1) hx hb dX7_drop_32 (by decide) ?_
      refine lv_iload_n hx hb dX7_drop_33 rfl (lv_at hl 1 rfl) ?_
      refine lv_ishl hx hb dX7_drop_34 ?_
      refine lv_isub hx hb dX7_drop_35 ?_
      obtain ⟨w10, w11, w12, w13, hr9, h⟩ := ob4_out h
      refine rw_v (WN := fun u14 => [((a_t 0), .inr (6, [.ref (a_t_tape 0), .ref (a_t_reader 0), .ref (a_t_now 0), .ref (a_t 4), .ref (a_t_choices 0), .ref (a_t_ways 0), .ref (a_t_stress 0)])), ((a_t_now 0), .inr (1, [.ref (a_t_now 1), .ref (a_t_now 2), .ref (a_t_now 3), .ref (a_t_now 4), .ref (a_t_now 5), .int t_now_told, .int t_now_lines, .int t_now_kinds, .int w13])), ((a_t_now 3), .inl (g.2.2.1 0, 31, .inl w10)), ((a_t_now 4), .inl (g.2.2.1 0, 31, .inl w11)), ((a_t_now 5), .inl (g.2.2.1 0, 31, .inl w12))]) (wr := []) (runV (As := [.int (r7 - (1 <<< (v1 &&& 31)))]) (rest := []) cx hl.1 (ctX7_stayWith l g s.heap.size a_t a_t_tape a_t_reader a_t_now a_t_choices a_t_ways a_t_stress t_now_told t_now_lines t_now_kinds t_now_acts t_now_rows t_now_sizes t_now_rooms (r7 - (1 <<< (v1 &&& 31))) w10 w11 w12 w13 hr9) kmX7_stayWith kvX7_stayWith lm_X7_342 ⟨rfl, rfl⟩ ⟨Nat.le_of_ble_eq_true rfl, Nat.le_of_ble_eq_true rfl⟩ (rwV (q0 := 0) (ci := 6) hG (hP.sub [0, 1, 2, 3, 4] rfl) (hD.sub [0, 1, 2, 3, 4] (by decide) rfl) hAb hb0 hS hP rfl rfl) rfl rfl (Nat.le_of_ble_eq_true rfl) dX7_drop_36 ⟨Nat.le_of_ble_eq_true rfl, Nat.le_of_ble_eq_true rfl⟩) hP hD hS hA [0, 1, 2, 3, 4] [] rfl rfl (by decide) (by decide) (fun _ => rfl) (fun u14 H locs hP hD hS => ?_)
      have hG := hGk hS
      refine lv_aload_n hx hb dX7_drop_39 rfl (lv_at hl 0 rfl) ?_
      refine xa_get (C := RX7) (T := TX7) (N := 7) cx hG hP 0 rfl rfl uX7 2 (by decide) lf_X7_30 rfl dX7_drop_40 ?_
      obtain ⟨r15, hr16, h⟩ := bnd h
      refine ro_i (runVN (As := []) (rest := []) hG cx hl.1 (ctX1_plies l g a_t_now t_now_told t_now_lines t_now_kinds w13 w11 r15 hr16) kmX1_plies kvX1_plies nm_17 ⟨rfl, rfl⟩ ⟨Nat.le_of_ble_eq_true rfl, Nat.le_of_ble_eq_true rfl⟩ (roV (q0 := 1) (ci := 1) hG (hP.sub [1, 3] rfl) hP rfl rfl) rfl rfl (Nat.le_of_ble_eq_true rfl) dX7_drop_43 ⟨Nat.le_of_ble_eq_true rfl, Nat.le_of_ble_eq_true rfl⟩) ?_
      exact hrt (fun _ => 0) _ _ r15 w10 w11 w12 w13 _ _ dX7_drop_46 h (hP.sub [0, 1, 2, 3, 4] rfl) (hD.sub [0, 1, 2, 3, 4] (by decide) rfl) hS
    · have h := itn c6 h
      refine lv_bipush (v := -5) hx hb dX7_drop_21 (by decide) ?_
      exact hrt (fun _ => 0) _ _ ((-5)) t_now_rows t_now_sizes t_now_rooms t_now_acts _ _ dX7_drop_23 h (hP.sub [0, 1, 2, 3, 4] rfl) (hD.sub [0, 1, 2, 3, 4] (by decide) rfl) hS
  · have h := itp c4 h
    refine lv_bipush (v := -2) hx hb dX7_drop_8 (by decide) ?_
    exact hrt (fun _ => 0) _ _ ((-2)) t_now_rows t_now_sizes t_now_rooms t_now_acts _ _ dX7_drop_10 h (hP.sub [0, 1, 2, 3, 4] rfl) (hD.sub [0, 1, 2, 3, 4] (by decide) rfl) hS
-- X7_keep
theorem dX7_keep_0 : decode cX7_keep 0 = .ok (.aload_n 0, 1) := by decide +kernel
theorem dX7_keep_1 : decode cX7_keep 1 = .ok (.iload_n 1, 1) := by decide +kernel
theorem dX7_keep_2 : decode cX7_keep 2 = .ok (.invokevirtual 307, 3) := by decide +kernel
theorem dX7_keep_5 : decode cX7_keep 5 = .ok (.ifCond .ne 6, 3) := by decide +kernel
theorem dX7_keep_8 : decode cX7_keep 8 = .ok (.bipush (-2), 2) := by decide +kernel
theorem dX7_keep_10 : decode cX7_keep 10 = .ok (.ireturn, 1) := by decide +kernel
theorem dX7_keep_11 : decode cX7_keep 11 = .ok (.iload_n 1, 1) := by decide +kernel
theorem dX7_keep_12 : decode cX7_keep 12 = .ok (.aload_n 0, 1) := by decide +kernel
theorem dX7_keep_13 : decode cX7_keep 13 = .ok (.getfield 30, 3) := by decide +kernel
theorem dX7_keep_16 : decode cX7_keep 16 = .ok (.invokevirtual 339, 3) := by decide +kernel
theorem dX7_keep_19 : decode cX7_keep 19 = .ok (.if_icmp .eq 13, 3) := by decide +kernel
theorem dX7_keep_22 : decode cX7_keep 22 = .ok (.aload_n 0, 1) := by decide +kernel
theorem dX7_keep_23 : decode cX7_keep 23 = .ok (.getfield 30, 3) := by decide +kernel
theorem dX7_keep_26 : decode cX7_keep 26 = .ok (.invokevirtual 326, 3) := by decide +kernel
theorem dX7_keep_29 : decode cX7_keep 29 = .ok (.ifCond .eq 6, 3) := by decide +kernel
theorem dX7_keep_32 : decode cX7_keep 32 = .ok (.bipush (-5), 2) := by decide +kernel
theorem dX7_keep_34 : decode cX7_keep 34 = .ok (.ireturn, 1) := by decide +kernel
theorem dX7_keep_35 : decode cX7_keep 35 = .ok (.aload_n 0, 1) := by decide +kernel
theorem dX7_keep_36 : decode cX7_keep 36 = .ok (.getfield 30, 3) := by decide +kernel
theorem dX7_keep_39 : decode cX7_keep 39 = .ok (.invokevirtual 97, 3) := by decide +kernel
theorem dX7_keep_42 : decode cX7_keep 42 = .ok (.istore_n 2, 1) := by decide +kernel
theorem dX7_keep_43 : decode cX7_keep 43 = .ok (.aload_n 0, 1) := by decide +kernel
theorem dX7_keep_44 : decode cX7_keep 44 = .ok (.iload_n 1, 1) := by decide +kernel
theorem dX7_keep_45 : decode cX7_keep 45 = .ok (.invokevirtual 342, 3) := by decide +kernel
theorem dX7_keep_48 : decode cX7_keep 48 = .ok (.iload_n 2, 1) := by decide +kernel
theorem dX7_keep_49 : decode cX7_keep 49 = .ok (.aload_n 0, 1) := by decide +kernel
theorem dX7_keep_50 : decode cX7_keep 50 = .ok (.getfield 30, 3) := by decide +kernel
theorem dX7_keep_53 : decode cX7_keep 53 = .ok (.invokevirtual 97, 3) := by decide +kernel
theorem dX7_keep_56 : decode cX7_keep 56 = .ok (.isub, 1) := by decide +kernel
theorem dX7_keep_57 : decode cX7_keep 57 = .ok (.ireturn, 1) := by decide +kernel
noncomputable def fX7_keep  (t_now_rows : Nat → Int32) (t_now_sizes : Nat → Int32) (t_now_rooms : Nat → Int32) (t_now_told : Int32) (t_now_acts : Int32) (v1 : Int32) : Option (Int32 × (Nat → Int32) × (Nat → Int32) × (Nat → Int32) × Int32) := (fX7_isSet t_now_sizes t_now_told t_now_acts v1).bind fun r1 => (if r1 = 0 then some ((-2), t_now_rows, t_now_sizes, t_now_rooms, t_now_acts) else (fX1_allPlies t_now_sizes t_now_acts).bind fun r5 => (if v1 = r5 then some ((-5), t_now_rows, t_now_sizes, t_now_rooms, t_now_acts) else (if (fX1_isFull t_now_acts) = 0 then (fX1_plies t_now_sizes t_now_acts).bind fun r10 => ob4 (fX7_stayWith t_now_rows t_now_sizes t_now_rooms t_now_acts v1) fun w13 w14 w15 w16 => (fX1_plies w14 w16).bind fun r18 => some ((r10 - r18), w13, w14, w15, w16) else some ((-5), t_now_rows, t_now_sizes, t_now_rooms, t_now_acts))))
set_option maxHeartbeats 4000000 in
set_option maxRecDepth 100000 in
theorem ctX7_keep (l : Launch) (g : GT) (sz : Nat) (a_t : Nat → Nat) (a_t_tape : Nat → Nat) (a_t_reader : Nat → Nat) (a_t_now : Nat → Nat) (a_t_choices : Nat → Nat) (a_t_ways : Nat → Nat) (a_t_stress : Nat → Nat) (t_now_told : Int32) (t_now_lines : Int32) (t_now_kinds : Int32) (t_now_acts : Int32) (t_now_rows : Nat → Int32) (t_now_sizes : Nat → Int32) (t_now_rooms : Nat → Int32) (v1 : Int32) (o : Int32) (o_t_now_rows : Nat → Int32) (o_t_now_sizes : Nat → Int32) (o_t_now_rooms : Nat → Int32) (o_t_now_acts : Int32) (h : fX7_keep t_now_rows t_now_sizes t_now_rooms t_now_told t_now_acts v1 = some (o, o_t_now_rows, o_t_now_sizes, o_t_now_rooms, o_t_now_acts)) : Met l yX7_keep (Cond.code yX7_keep cX7_keep 3 (some .int) :: Tw) ⟨3, 0, 0, 67⟩ (va_Pc [.ref ((a_t 0)), .int v1] (rwB g [((a_t 0), .inr (6, [.ref (a_t_tape 0), .ref (a_t_reader 0), .ref (a_t_now 0), .ref (a_t 4), .ref (a_t_choices 0), .ref (a_t_ways 0), .ref (a_t_stress 0)])), ((a_t_now 0), .inr (1, [.ref (a_t_now 1), .ref (a_t_now 2), .ref (a_t_now 3), .ref (a_t_now 4), .ref (a_t_now 5), .int t_now_told, .int t_now_lines, .int t_now_kinds, .int t_now_acts])), ((a_t_now 3), .inl (g.2.2.1 0, 31, .inl t_now_rows)), ((a_t_now 4), .inl (g.2.2.1 0, 31, .inl t_now_sizes)), ((a_t_now 5), .inl (g.2.2.1 0, 31, .inl t_now_rooms))] sz)) (va_Qi (fun x (_ : Nat → Nat) => x = o) (fun u => rwE g (va_A [((a_t 0), .inr (6, [.ref (a_t_tape 0), .ref (a_t_reader 0), .ref (a_t_now 0), .ref (a_t 4), .ref (a_t_choices 0), .ref (a_t_ways 0), .ref (a_t_stress 0)])), ((a_t_now 0), .inr (1, [.ref (a_t_now 1), .ref (a_t_now 2), .ref (a_t_now 3), .ref (a_t_now 4), .ref (a_t_now 5), .int t_now_told, .int t_now_lines, .int t_now_kinds, .int t_now_acts])), ((a_t_now 3), .inl (g.2.2.1 0, 31, .inl t_now_rows)), ((a_t_now 4), .inl (g.2.2.1 0, 31, .inl t_now_sizes)), ((a_t_now 5), .inl (g.2.2.1 0, 31, .inl t_now_rooms))] sz) [((a_t 0), .inr (6, [.ref (a_t_tape 0), .ref (a_t_reader 0), .ref (a_t_now 0), .ref (a_t 4), .ref (a_t_choices 0), .ref (a_t_ways 0), .ref (a_t_stress 0)])), ((a_t_now 0), .inr (1, [.ref (a_t_now 1), .ref (a_t_now 2), .ref (a_t_now 3), .ref (a_t_now 4), .ref (a_t_now 5), .int t_now_told, .int t_now_lines, .int t_now_kinds, .int o_t_now_acts])), ((a_t_now 3), .inl (g.2.2.1 0, 31, .inl o_t_now_rows)), ((a_t_now 4), .inl (g.2.2.1 0, 31, .inl o_t_now_sizes)), ((a_t_now 5), .inl (g.2.2.1 0, 31, .inl o_t_now_rooms))]) (va_A [((a_t 0), .inr (6, [.ref (a_t_tape 0), .ref (a_t_reader 0), .ref (a_t_now 0), .ref (a_t 4), .ref (a_t_choices 0), .ref (a_t_ways 0), .ref (a_t_stress 0)])), ((a_t_now 0), .inr (1, [.ref (a_t_now 1), .ref (a_t_now 2), .ref (a_t_now 3), .ref (a_t_now 4), .ref (a_t_now 5), .int t_now_told, .int t_now_lines, .int t_now_kinds, .int t_now_acts])), ((a_t_now 3), .inl (g.2.2.1 0, 31, .inl t_now_rows)), ((a_t_now 4), .inl (g.2.2.1 0, 31, .inl t_now_sizes)), ((a_t_now 5), .inl (g.2.2.1 0, 31, .inl t_now_rooms))] sz)) 0 0 (va_A [((a_t 0), .inr (6, [.ref (a_t_tape 0), .ref (a_t_reader 0), .ref (a_t_now 0), .ref (a_t 4), .ref (a_t_choices 0), .ref (a_t_ways 0), .ref (a_t_stress 0)])), ((a_t_now 0), .inr (1, [.ref (a_t_now 1), .ref (a_t_now 2), .ref (a_t_now 3), .ref (a_t_now 4), .ref (a_t_now 5), .int t_now_told, .int t_now_lines, .int t_now_kinds, .int t_now_acts])), ((a_t_now 3), .inl (g.2.2.1 0, 31, .inl t_now_rows)), ((a_t_now 4), .inl (g.2.2.1 0, 31, .inl t_now_sizes)), ((a_t_now 5), .inl (g.2.2.1 0, 31, .inl t_now_rooms))] sz) := by
  refine rw_meti (by decide) (Nat.le_of_ble_eq_true rfl) (lv0 := [(0, .ref ((a_t 0))), (1, .int v1)]) rfl ?_
  intro p e s m args below meth c ls Q A cx hret hG hAb hb0 hA hP hD hl
  have hx := cx.1
  have hb := cx.2.1
  have hG0 := hG
  have hGk : ∀ {H : Heap} {locs : List Loc}, va_S A s.heap H locs → GE g s H := fun hS => hG0.keptS hAb hS
  have hSb : ∀ {H : Heap} {locs : List Loc}, va_S A s.heap H locs → va_S (fun a => g.1 ≤ a) s.heap H locs := fun hS => ⟨hS.1, fun q h1 h2 => hS.2.1 q h1 (fun z => h2 (hAb q z)), fun l hl => hAb _ (hS.2.2 l hl)⟩
  have hS : va_S A s.heap s.heap [] := va_S.rf
  have hrt : ∀ (u : Nat → Nat) (pc : Nat) (ls : Array Slot) (v : Int32) (x_t_now_rows : Nat → Int32) (x_t_now_sizes : Nat → Int32) (x_t_now_rooms : Nat → Int32) (x_t_now_acts : Int32) (H : Heap) (locs : List Loc), decode cX7_keep pc = .ok (.ireturn, 1) → some (v, x_t_now_rows, x_t_now_sizes, x_t_now_rooms, x_t_now_acts) = some (o, o_t_now_rows, o_t_now_sizes, o_t_now_rooms, o_t_now_acts) → va_P g.2.1 vwCl [((a_t 0), .inr (6, [.ref (a_t_tape 0), .ref (a_t_reader 0), .ref (a_t_now 0), .ref (a_t 4), .ref (a_t_choices 0), .ref (a_t_ways 0), .ref (a_t_stress 0)])), ((a_t_now 0), .inr (1, [.ref (a_t_now 1), .ref (a_t_now 2), .ref (a_t_now 3), .ref (a_t_now 4), .ref (a_t_now 5), .int t_now_told, .int t_now_lines, .int t_now_kinds, .int x_t_now_acts])), ((a_t_now 3), .inl (g.2.2.1 0, 31, .inl x_t_now_rows)), ((a_t_now 4), .inl (g.2.2.1 0, 31, .inl x_t_now_sizes)), ((a_t_now 5), .inl (g.2.2.1 0, 31, .inl x_t_now_rooms))] H → va_D A [((a_t 0), .inr (6, [.ref (a_t_tape 0), .ref (a_t_reader 0), .ref (a_t_now 0), .ref (a_t 4), .ref (a_t_choices 0), .ref (a_t_ways 0), .ref (a_t_stress 0)])), ((a_t_now 0), .inr (1, [.ref (a_t_now 1), .ref (a_t_now 2), .ref (a_t_now 3), .ref (a_t_now 4), .ref (a_t_now 5), .int t_now_told, .int t_now_lines, .int t_now_kinds, .int x_t_now_acts])), ((a_t_now 3), .inl (g.2.2.1 0, 31, .inl x_t_now_rows)), ((a_t_now 4), .inl (g.2.2.1 0, 31, .inl x_t_now_sizes)), ((a_t_now 5), .inl (g.2.2.1 0, 31, .inl x_t_now_rooms))] → va_S A s.heap H locs → W p l e ⟨3, 0, 0, 67⟩ s m args below meth c H locs 0 0 Q (F0 m pc ls [.int v]) := by
    intro u pc ls v x_t_now_rows x_t_now_sizes x_t_now_rooms x_t_now_acts H locs hd h hP hD hS
    cases h
    exact hret u _ _ _ _ _ hd rfl hP hD hS
  unfold fX7_keep at h
  refine lv_aload_n hx hb dX7_keep_0 rfl (lv_at hl 0 rfl) ?_
  refine lv_iload_n hx hb dX7_keep_1 rfl (lv_at hl 1 rfl) ?_
  obtain ⟨r1, hr2, h⟩ := bnd h
  refine ro_z (runV (As := [.int v1]) (rest := []) cx hl.1 (ctX7_isSet l g a_t a_t_tape a_t_reader a_t_now a_t_choices a_t_ways a_t_stress t_now_told t_now_lines t_now_kinds t_now_acts t_now_sizes v1 r1 hr2) kmX7_isSet kvX7_isSet lm_X7_307 ⟨rfl, rfl⟩ ⟨Nat.le_of_ble_eq_true rfl, Nat.le_of_ble_eq_true rfl⟩ (roV (q0 := 0) (ci := 6) hG (hP.sub [0, 1, 3] rfl) hP rfl rfl) rfl rfl (Nat.le_of_ble_eq_true rfl) dX7_keep_2 ⟨Nat.le_of_ble_eq_true rfl, Nat.le_of_ble_eq_true rfl⟩) (fun hz3 => ?_)
  refine lv_if_ne (tgt := 11) hx hb dX7_keep_5 (by decide) (fun c4 => ?_) (fun c4 => ?_)
  · have h := itn c4 h
    refine lv_iload_n hx hb dX7_keep_11 rfl (lv_at hl 1 rfl) ?_
    refine lv_aload_n hx hb dX7_keep_12 rfl (lv_at hl 0 rfl) ?_
    refine xa_get (C := RX7) (T := TX7) (N := 7) cx hG hP 0 rfl rfl uX7 2 (by decide) lf_X7_30 rfl dX7_keep_13 ?_
    obtain ⟨r5, hr6, h⟩ := bnd h
    refine ro_i (runVN (As := []) (rest := [.int v1]) hG cx hl.1 (ctX1_allPlies l g a_t_now t_now_told t_now_lines t_now_kinds t_now_acts t_now_sizes r5 hr6) kmX1_allPlies kvX1_allPlies nm_91 ⟨rfl, rfl⟩ ⟨Nat.le_of_ble_eq_true rfl, Nat.le_of_ble_eq_true rfl⟩ (roV (q0 := 1) (ci := 1) hG (hP.sub [1, 3] rfl) hP rfl rfl) rfl rfl (Nat.le_of_ble_eq_true rfl) dX7_keep_16 ⟨Nat.le_of_ble_eq_true rfl, Nat.le_of_ble_eq_true rfl⟩) ?_
    refine lv_icmp_eq (tgt := 32) hx hb dX7_keep_19 (by decide) (fun c7 => ?_) (fun c7 => ?_)
    · have h := itp c7 h
      refine lv_bipush (v := -5) hx hb dX7_keep_32 (by decide) ?_
      exact hrt (fun _ => 0) _ _ ((-5)) t_now_rows t_now_sizes t_now_rooms t_now_acts _ _ dX7_keep_34 h (hP.sub [0, 1, 2, 3, 4] rfl) (hD.sub [0, 1, 2, 3, 4] (by decide) rfl) hS
    · have h := itn c7 h
      refine lv_aload_n hx hb dX7_keep_22 rfl (lv_at hl 0 rfl) ?_
      refine xa_get (C := RX7) (T := TX7) (N := 7) cx hG hP 0 rfl rfl uX7 2 (by decide) lf_X7_30 rfl dX7_keep_23 ?_
      refine ro_z (runVN (As := []) (rest := []) hG cx hl.1 (ctX1_isFull l g a_t_now t_now_told t_now_lines t_now_kinds t_now_acts (fX1_isFull t_now_acts) rfl) kmX1_isFull kvX1_isFull nm_96 ⟨rfl, rfl⟩ ⟨Nat.le_of_ble_eq_true rfl, Nat.le_of_ble_eq_true rfl⟩ (roV (q0 := 1) (ci := 1) hG (hP.sub [1] rfl) hP rfl rfl) rfl rfl (Nat.le_of_ble_eq_true rfl) dX7_keep_26 ⟨Nat.le_of_ble_eq_true rfl, Nat.le_of_ble_eq_true rfl⟩) (fun hz8 => ?_)
      refine lv_if_eq (tgt := 35) hx hb dX7_keep_29 (by decide) (fun c9 => ?_) (fun c9 => ?_)
      · have h := itp c9 h
        refine lv_aload_n hx hb dX7_keep_35 rfl (lv_at hl 0 rfl) ?_
        refine xa_get (C := RX7) (T := TX7) (N := 7) cx hG hP 0 rfl rfl uX7 2 (by decide) lf_X7_30 rfl dX7_keep_36 ?_
        obtain ⟨r10, hr11, h⟩ := bnd h
        refine ro_i (runVN (As := []) (rest := []) hG cx hl.1 (ctX1_plies l g a_t_now t_now_told t_now_lines t_now_kinds t_now_acts t_now_sizes r10 hr11) kmX1_plies kvX1_plies nm_17 ⟨rfl, rfl⟩ ⟨Nat.le_of_ble_eq_true rfl, Nat.le_of_ble_eq_true rfl⟩ (roV (q0 := 1) (ci := 1) hG (hP.sub [1, 3] rfl) hP rfl rfl) rfl rfl (Nat.le_of_ble_eq_true rfl) dX7_keep_39 ⟨Nat.le_of_ble_eq_true rfl, Nat.le_of_ble_eq_true rfl⟩) ?_
        refine lv_istore_n (lv' := [(2, .int r10), (0, .ref ((a_t 0))), (1, .int v1)]) hx hb dX7_keep_42 rfl hl (by decide) rfl (fun ls hl => ?_)
        refine lv_aload_n hx hb dX7_keep_43 rfl (lv_at hl 1 rfl) ?_
        refine lv_iload_n hx hb dX7_keep_44 rfl (lv_at hl 2 rfl) ?_
        obtain ⟨w13, w14, w15, w16, hr12, h⟩ := ob4_out h
        refine rw_v (WN := fun u17 => [((a_t 0), .inr (6, [.ref (a_t_tape 0), .ref (a_t_reader 0), .ref (a_t_now 0), .ref (a_t 4), .ref (a_t_choices 0), .ref (a_t_ways 0), .ref (a_t_stress 0)])), ((a_t_now 0), .inr (1, [.ref (a_t_now 1), .ref (a_t_now 2), .ref (a_t_now 3), .ref (a_t_now 4), .ref (a_t_now 5), .int t_now_told, .int t_now_lines, .int t_now_kinds, .int w16])), ((a_t_now 3), .inl (g.2.2.1 0, 31, .inl w13)), ((a_t_now 4), .inl (g.2.2.1 0, 31, .inl w14)), ((a_t_now 5), .inl (g.2.2.1 0, 31, .inl w15))]) (wr := []) (runV (As := [.int v1]) (rest := []) cx hl.1 (ctX7_stayWith l g s.heap.size a_t a_t_tape a_t_reader a_t_now a_t_choices a_t_ways a_t_stress t_now_told t_now_lines t_now_kinds t_now_acts t_now_rows t_now_sizes t_now_rooms v1 w13 w14 w15 w16 hr12) kmX7_stayWith kvX7_stayWith lm_X7_342 ⟨rfl, rfl⟩ ⟨Nat.le_of_ble_eq_true rfl, Nat.le_of_ble_eq_true rfl⟩ (rwV (q0 := 0) (ci := 6) hG (hP.sub [0, 1, 2, 3, 4] rfl) (hD.sub [0, 1, 2, 3, 4] (by decide) rfl) hAb hb0 hS hP rfl rfl) rfl rfl (Nat.le_of_ble_eq_true rfl) dX7_keep_45 ⟨Nat.le_of_ble_eq_true rfl, Nat.le_of_ble_eq_true rfl⟩) hP hD hS hA [0, 1, 2, 3, 4] [] rfl rfl (by decide) (by decide) (fun _ => rfl) (fun u17 H locs hP hD hS => ?_)
        have hG := hGk hS
        refine lv_iload_n hx hb dX7_keep_48 rfl (lv_at hl 0 rfl) ?_
        refine lv_aload_n hx hb dX7_keep_49 rfl (lv_at hl 1 rfl) ?_
        refine xa_get (C := RX7) (T := TX7) (N := 7) cx hG hP 0 rfl rfl uX7 2 (by decide) lf_X7_30 rfl dX7_keep_50 ?_
        obtain ⟨r18, hr19, h⟩ := bnd h
        refine ro_i (runVN (As := []) (rest := [.int r10]) hG cx hl.1 (ctX1_plies l g a_t_now t_now_told t_now_lines t_now_kinds w16 w14 r18 hr19) kmX1_plies kvX1_plies nm_17 ⟨rfl, rfl⟩ ⟨Nat.le_of_ble_eq_true rfl, Nat.le_of_ble_eq_true rfl⟩ (roV (q0 := 1) (ci := 1) hG (hP.sub [1, 3] rfl) hP rfl rfl) rfl rfl (Nat.le_of_ble_eq_true rfl) dX7_keep_53 ⟨Nat.le_of_ble_eq_true rfl, Nat.le_of_ble_eq_true rfl⟩) ?_
        refine lv_isub hx hb dX7_keep_56 ?_
        exact hrt (fun _ => 0) _ _ ((r10 - r18)) w13 w14 w15 w16 _ _ dX7_keep_57 h (hP.sub [0, 1, 2, 3, 4] rfl) (hD.sub [0, 1, 2, 3, 4] (by decide) rfl) hS
      · have h := itn c9 h
        refine lv_bipush (v := -5) hx hb dX7_keep_32 (by decide) ?_
        exact hrt (fun _ => 0) _ _ ((-5)) t_now_rows t_now_sizes t_now_rooms t_now_acts _ _ dX7_keep_34 h (hP.sub [0, 1, 2, 3, 4] rfl) (hD.sub [0, 1, 2, 3, 4] (by decide) rfl) hS
  · have h := itp c4 h
    refine lv_bipush (v := -2) hx hb dX7_keep_8 (by decide) ?_
    exact hrt (fun _ => 0) _ _ ((-2)) t_now_rows t_now_sizes t_now_rooms t_now_acts _ _ dX7_keep_10 h (hP.sub [0, 1, 2, 3, 4] rfl) (hD.sub [0, 1, 2, 3, 4] (by decide) rfl) hS
-- X7_relay
theorem dX7_relay_0 : decode cX7_relay 0 = .ok (.aload_n 0, 1) := by decide +kernel
theorem dX7_relay_1 : decode cX7_relay 1 = .ok (.getfield 30, 3) := by decide +kernel
theorem dX7_relay_4 : decode cX7_relay 4 = .ok (.invokevirtual 132, 3) := by decide +kernel
theorem dX7_relay_7 : decode cX7_relay 7 = .ok (.iload_n 1, 1) := by decide +kernel
theorem dX7_relay_8 : decode cX7_relay 8 = .ok (.aload_n 0, 1) := by decide +kernel
theorem dX7_relay_9 : decode cX7_relay 9 = .ok (.getfield 30, 3) := by decide +kernel
theorem dX7_relay_12 : decode cX7_relay 12 = .ok (.invokevirtual 97, 3) := by decide +kernel
theorem dX7_relay_15 : decode cX7_relay 15 = .ok (.invokestatic 274, 3) := by decide +kernel
theorem dX7_relay_18 : decode cX7_relay 18 = .ok (.istore_n 2, 1) := by decide +kernel
theorem dX7_relay_19 : decode cX7_relay 19 = .ok (.iload_n 2, 1) := by decide +kernel
theorem dX7_relay_20 : decode cX7_relay 20 = .ok (.ifCond .eq 13, 3) := by decide +kernel
theorem dX7_relay_23 : decode cX7_relay 23 = .ok (.aload_n 0, 1) := by decide +kernel
theorem dX7_relay_24 : decode cX7_relay 24 = .ok (.getfield 30, 3) := by decide +kernel
theorem dX7_relay_27 : decode cX7_relay 27 = .ok (.invokevirtual 326, 3) := by decide +kernel
theorem dX7_relay_30 : decode cX7_relay 30 = .ok (.ifCond .eq 6, 3) := by decide +kernel
theorem dX7_relay_33 : decode cX7_relay 33 = .ok (.bipush (-5), 2) := by decide +kernel
theorem dX7_relay_35 : decode cX7_relay 35 = .ok (.ireturn, 1) := by decide +kernel
theorem dX7_relay_36 : decode cX7_relay 36 = .ok (.aload_n 0, 1) := by decide +kernel
theorem dX7_relay_37 : decode cX7_relay 37 = .ok (.getfield 30, 3) := by decide +kernel
theorem dX7_relay_40 : decode cX7_relay 40 = .ok (.iload_n 1, 1) := by decide +kernel
theorem dX7_relay_41 : decode cX7_relay 41 = .ok (.aload_n 0, 1) := by decide +kernel
theorem dX7_relay_42 : decode cX7_relay 42 = .ok (.getfield 30, 3) := by decide +kernel
theorem dX7_relay_45 : decode cX7_relay 45 = .ok (.invokevirtual 97, 3) := by decide +kernel
theorem dX7_relay_48 : decode cX7_relay 48 = .ok (.aload_n 0, 1) := by decide +kernel
theorem dX7_relay_49 : decode cX7_relay 49 = .ok (.getfield 30, 3) := by decide +kernel
theorem dX7_relay_52 : decode cX7_relay 52 = .ok (.invokevirtual 90, 3) := by decide +kernel
theorem dX7_relay_55 : decode cX7_relay 55 = .ok (.invokevirtual 332, 3) := by decide +kernel
theorem dX7_relay_58 : decode cX7_relay 58 = .ok (.iload_n 2, 1) := by decide +kernel
theorem dX7_relay_59 : decode cX7_relay 59 = .ok (.ireturn, 1) := by decide +kernel
noncomputable def fX7_relay  (t_now_rows : Nat → Int32) (t_now_sizes : Nat → Int32) (t_now_rooms : Nat → Int32) (t_now_acts : Int32) (v1 : Int32) : Option (Int32 × (Nat → Int32) × (Nat → Int32) × (Nat → Int32) × Int32) := (fX1_row t_now_rows t_now_acts).bind fun r1 => (fX1_plies t_now_sizes t_now_acts).bind fun r3 => (fX3_unlikePlaces r1 v1 r3).bind fun r5 => (if r5 = 0 then some ((-5), t_now_rows, t_now_sizes, t_now_rooms, t_now_acts) else (if (fX1_isFull t_now_acts) = 0 then (fX1_plies t_now_sizes t_now_acts).bind fun r10 => (fX1_roomNow t_now_rooms t_now_acts).bind fun r12 => ob4 (fX1_act t_now_rows t_now_sizes t_now_rooms t_now_acts v1 r10 r12) fun w15 w16 w17 w18 => some (r5, w15, w16, w17, w18) else some ((-5), t_now_rows, t_now_sizes, t_now_rooms, t_now_acts)))
set_option maxHeartbeats 4000000 in
set_option maxRecDepth 100000 in
theorem ctX7_relay (l : Launch) (g : GT) (sz : Nat) (a_t : Nat → Nat) (a_t_tape : Nat → Nat) (a_t_reader : Nat → Nat) (a_t_now : Nat → Nat) (a_t_choices : Nat → Nat) (a_t_ways : Nat → Nat) (a_t_stress : Nat → Nat) (t_now_told : Int32) (t_now_lines : Int32) (t_now_kinds : Int32) (t_now_acts : Int32) (t_now_rows : Nat → Int32) (t_now_sizes : Nat → Int32) (t_now_rooms : Nat → Int32) (v1 : Int32) (o : Int32) (o_t_now_rows : Nat → Int32) (o_t_now_sizes : Nat → Int32) (o_t_now_rooms : Nat → Int32) (o_t_now_acts : Int32) (h : fX7_relay t_now_rows t_now_sizes t_now_rooms t_now_acts v1 = some (o, o_t_now_rows, o_t_now_sizes, o_t_now_rooms, o_t_now_acts)) : Met l yX7_relay (Cond.code yX7_relay cX7_relay 3 (some .int) :: Tw) ⟨2, 0, 0, 45⟩ (va_Pc [.ref ((a_t 0)), .int v1] (rwB g [((a_t 0), .inr (6, [.ref (a_t_tape 0), .ref (a_t_reader 0), .ref (a_t_now 0), .ref (a_t 4), .ref (a_t_choices 0), .ref (a_t_ways 0), .ref (a_t_stress 0)])), ((a_t_now 0), .inr (1, [.ref (a_t_now 1), .ref (a_t_now 2), .ref (a_t_now 3), .ref (a_t_now 4), .ref (a_t_now 5), .int t_now_told, .int t_now_lines, .int t_now_kinds, .int t_now_acts])), ((a_t_now 3), .inl (g.2.2.1 0, 31, .inl t_now_rows)), ((a_t_now 4), .inl (g.2.2.1 0, 31, .inl t_now_sizes)), ((a_t_now 5), .inl (g.2.2.1 0, 31, .inl t_now_rooms))] sz)) (va_Qi (fun x (_ : Nat → Nat) => x = o) (fun u => rwE g (va_A [((a_t 0), .inr (6, [.ref (a_t_tape 0), .ref (a_t_reader 0), .ref (a_t_now 0), .ref (a_t 4), .ref (a_t_choices 0), .ref (a_t_ways 0), .ref (a_t_stress 0)])), ((a_t_now 0), .inr (1, [.ref (a_t_now 1), .ref (a_t_now 2), .ref (a_t_now 3), .ref (a_t_now 4), .ref (a_t_now 5), .int t_now_told, .int t_now_lines, .int t_now_kinds, .int t_now_acts])), ((a_t_now 3), .inl (g.2.2.1 0, 31, .inl t_now_rows)), ((a_t_now 4), .inl (g.2.2.1 0, 31, .inl t_now_sizes)), ((a_t_now 5), .inl (g.2.2.1 0, 31, .inl t_now_rooms))] sz) [((a_t 0), .inr (6, [.ref (a_t_tape 0), .ref (a_t_reader 0), .ref (a_t_now 0), .ref (a_t 4), .ref (a_t_choices 0), .ref (a_t_ways 0), .ref (a_t_stress 0)])), ((a_t_now 0), .inr (1, [.ref (a_t_now 1), .ref (a_t_now 2), .ref (a_t_now 3), .ref (a_t_now 4), .ref (a_t_now 5), .int t_now_told, .int t_now_lines, .int t_now_kinds, .int o_t_now_acts])), ((a_t_now 3), .inl (g.2.2.1 0, 31, .inl o_t_now_rows)), ((a_t_now 4), .inl (g.2.2.1 0, 31, .inl o_t_now_sizes)), ((a_t_now 5), .inl (g.2.2.1 0, 31, .inl o_t_now_rooms))]) (va_A [((a_t 0), .inr (6, [.ref (a_t_tape 0), .ref (a_t_reader 0), .ref (a_t_now 0), .ref (a_t 4), .ref (a_t_choices 0), .ref (a_t_ways 0), .ref (a_t_stress 0)])), ((a_t_now 0), .inr (1, [.ref (a_t_now 1), .ref (a_t_now 2), .ref (a_t_now 3), .ref (a_t_now 4), .ref (a_t_now 5), .int t_now_told, .int t_now_lines, .int t_now_kinds, .int t_now_acts])), ((a_t_now 3), .inl (g.2.2.1 0, 31, .inl t_now_rows)), ((a_t_now 4), .inl (g.2.2.1 0, 31, .inl t_now_sizes)), ((a_t_now 5), .inl (g.2.2.1 0, 31, .inl t_now_rooms))] sz)) 0 0 (va_A [((a_t 0), .inr (6, [.ref (a_t_tape 0), .ref (a_t_reader 0), .ref (a_t_now 0), .ref (a_t 4), .ref (a_t_choices 0), .ref (a_t_ways 0), .ref (a_t_stress 0)])), ((a_t_now 0), .inr (1, [.ref (a_t_now 1), .ref (a_t_now 2), .ref (a_t_now 3), .ref (a_t_now 4), .ref (a_t_now 5), .int t_now_told, .int t_now_lines, .int t_now_kinds, .int t_now_acts])), ((a_t_now 3), .inl (g.2.2.1 0, 31, .inl t_now_rows)), ((a_t_now 4), .inl (g.2.2.1 0, 31, .inl t_now_sizes)), ((a_t_now 5), .inl (g.2.2.1 0, 31, .inl t_now_rooms))] sz) := by
  refine rw_meti (by decide) (Nat.le_of_ble_eq_true rfl) (lv0 := [(0, .ref ((a_t 0))), (1, .int v1)]) rfl ?_
  intro p e s m args below meth c ls Q A cx hret hG hAb hb0 hA hP hD hl
  have hx := cx.1
  have hb := cx.2.1
  have hG0 := hG
  have hGk : ∀ {H : Heap} {locs : List Loc}, va_S A s.heap H locs → GE g s H := fun hS => hG0.keptS hAb hS
  have hSb : ∀ {H : Heap} {locs : List Loc}, va_S A s.heap H locs → va_S (fun a => g.1 ≤ a) s.heap H locs := fun hS => ⟨hS.1, fun q h1 h2 => hS.2.1 q h1 (fun z => h2 (hAb q z)), fun l hl => hAb _ (hS.2.2 l hl)⟩
  have hS : va_S A s.heap s.heap [] := va_S.rf
  have hrt : ∀ (u : Nat → Nat) (pc : Nat) (ls : Array Slot) (v : Int32) (x_t_now_rows : Nat → Int32) (x_t_now_sizes : Nat → Int32) (x_t_now_rooms : Nat → Int32) (x_t_now_acts : Int32) (H : Heap) (locs : List Loc), decode cX7_relay pc = .ok (.ireturn, 1) → some (v, x_t_now_rows, x_t_now_sizes, x_t_now_rooms, x_t_now_acts) = some (o, o_t_now_rows, o_t_now_sizes, o_t_now_rooms, o_t_now_acts) → va_P g.2.1 vwCl [((a_t 0), .inr (6, [.ref (a_t_tape 0), .ref (a_t_reader 0), .ref (a_t_now 0), .ref (a_t 4), .ref (a_t_choices 0), .ref (a_t_ways 0), .ref (a_t_stress 0)])), ((a_t_now 0), .inr (1, [.ref (a_t_now 1), .ref (a_t_now 2), .ref (a_t_now 3), .ref (a_t_now 4), .ref (a_t_now 5), .int t_now_told, .int t_now_lines, .int t_now_kinds, .int x_t_now_acts])), ((a_t_now 3), .inl (g.2.2.1 0, 31, .inl x_t_now_rows)), ((a_t_now 4), .inl (g.2.2.1 0, 31, .inl x_t_now_sizes)), ((a_t_now 5), .inl (g.2.2.1 0, 31, .inl x_t_now_rooms))] H → va_D A [((a_t 0), .inr (6, [.ref (a_t_tape 0), .ref (a_t_reader 0), .ref (a_t_now 0), .ref (a_t 4), .ref (a_t_choices 0), .ref (a_t_ways 0), .ref (a_t_stress 0)])), ((a_t_now 0), .inr (1, [.ref (a_t_now 1), .ref (a_t_now 2), .ref (a_t_now 3), .ref (a_t_now 4), .ref (a_t_now 5), .int t_now_told, .int t_now_lines, .int t_now_kinds, .int x_t_now_acts])), ((a_t_now 3), .inl (g.2.2.1 0, 31, .inl x_t_now_rows)), ((a_t_now 4), .inl (g.2.2.1 0, 31, .inl x_t_now_sizes)), ((a_t_now 5), .inl (g.2.2.1 0, 31, .inl x_t_now_rooms))] → va_S A s.heap H locs → W p l e ⟨2, 0, 0, 45⟩ s m args below meth c H locs 0 0 Q (F0 m pc ls [.int v]) := by
    intro u pc ls v x_t_now_rows x_t_now_sizes x_t_now_rooms x_t_now_acts H locs hd h hP hD hS
    cases h
    exact hret u _ _ _ _ _ hd rfl hP hD hS
  unfold fX7_relay at h
  refine lv_aload_n hx hb dX7_relay_0 rfl (lv_at hl 0 rfl) ?_
  refine xa_get (C := RX7) (T := TX7) (N := 7) cx hG hP 0 rfl rfl uX7 2 (by decide) lf_X7_30 rfl dX7_relay_1 ?_
  obtain ⟨r1, hr2, h⟩ := bnd h
  refine ro_i (runVN (As := []) (rest := []) hG cx hl.1 (ctX1_row l g a_t_now t_now_told t_now_lines t_now_kinds t_now_acts t_now_rows r1 hr2) kmX1_row kvX1_row nm_25 ⟨rfl, rfl⟩ ⟨Nat.le_of_ble_eq_true rfl, Nat.le_of_ble_eq_true rfl⟩ (roV (q0 := 1) (ci := 1) hG (hP.sub [1, 2] rfl) hP rfl rfl) rfl rfl (Nat.le_of_ble_eq_true rfl) dX7_relay_4 ⟨Nat.le_of_ble_eq_true rfl, Nat.le_of_ble_eq_true rfl⟩) ?_
  refine lv_iload_n hx hb dX7_relay_7 rfl (lv_at hl 1 rfl) ?_
  refine lv_aload_n hx hb dX7_relay_8 rfl (lv_at hl 0 rfl) ?_
  refine xa_get (C := RX7) (T := TX7) (N := 7) cx hG hP 0 rfl rfl uX7 2 (by decide) lf_X7_30 rfl dX7_relay_9 ?_
  obtain ⟨r3, hr4, h⟩ := bnd h
  refine ro_i (runVN (As := []) (rest := [.int v1, .int r1]) hG cx hl.1 (ctX1_plies l g a_t_now t_now_told t_now_lines t_now_kinds t_now_acts t_now_sizes r3 hr4) kmX1_plies kvX1_plies nm_17 ⟨rfl, rfl⟩ ⟨Nat.le_of_ble_eq_true rfl, Nat.le_of_ble_eq_true rfl⟩ (roV (q0 := 1) (ci := 1) hG (hP.sub [1, 3] rfl) hP rfl rfl) rfl rfl (Nat.le_of_ble_eq_true rfl) dX7_relay_12 ⟨Nat.le_of_ble_eq_true rfl, Nat.le_of_ble_eq_true rfl⟩) ?_
  obtain ⟨r5, hr6, h⟩ := bnd h
  refine ro_i (runSN (As := [.int r1, .int v1, .int r3]) (rest := []) hG cx hl.1 (ctX3_unlikePlaces l g r1 v1 r3 r5 hr6) kmX3_unlikePlaces ksX3_unlikePlaces nm_77 ⟨rfl, rfl⟩ ⟨Nat.le_of_ble_eq_true rfl, Nat.le_of_ble_eq_true rfl⟩ (roS hG (hP.sub [] rfl)) rfl rfl (Nat.le_of_ble_eq_true rfl) dX7_relay_15 ⟨Nat.le_of_ble_eq_true rfl, Nat.le_of_ble_eq_true rfl⟩) ?_
  refine lv_istore_n (lv' := [(2, .int r5), (0, .ref ((a_t 0))), (1, .int v1)]) hx hb dX7_relay_18 rfl hl (by decide) rfl (fun ls hl => ?_)
  refine lv_iload_n hx hb dX7_relay_19 rfl (lv_at hl 0 rfl) ?_
  refine lv_if_eq (tgt := 33) hx hb dX7_relay_20 (by decide) (fun c7 => ?_) (fun c7 => ?_)
  · have h := itp c7 h
    refine lv_bipush (v := -5) hx hb dX7_relay_33 (by decide) ?_
    exact hrt (fun _ => 0) _ _ ((-5)) t_now_rows t_now_sizes t_now_rooms t_now_acts _ _ dX7_relay_35 h (hP.sub [0, 1, 2, 3, 4] rfl) (hD.sub [0, 1, 2, 3, 4] (by decide) rfl) hS
  · have h := itn c7 h
    refine lv_aload_n hx hb dX7_relay_23 rfl (lv_at hl 1 rfl) ?_
    refine xa_get (C := RX7) (T := TX7) (N := 7) cx hG hP 0 rfl rfl uX7 2 (by decide) lf_X7_30 rfl dX7_relay_24 ?_
    refine ro_z (runVN (As := []) (rest := []) hG cx hl.1 (ctX1_isFull l g a_t_now t_now_told t_now_lines t_now_kinds t_now_acts (fX1_isFull t_now_acts) rfl) kmX1_isFull kvX1_isFull nm_96 ⟨rfl, rfl⟩ ⟨Nat.le_of_ble_eq_true rfl, Nat.le_of_ble_eq_true rfl⟩ (roV (q0 := 1) (ci := 1) hG (hP.sub [1] rfl) hP rfl rfl) rfl rfl (Nat.le_of_ble_eq_true rfl) dX7_relay_27 ⟨Nat.le_of_ble_eq_true rfl, Nat.le_of_ble_eq_true rfl⟩) (fun hz8 => ?_)
    refine lv_if_eq (tgt := 36) hx hb dX7_relay_30 (by decide) (fun c9 => ?_) (fun c9 => ?_)
    · have h := itp c9 h
      refine lv_aload_n hx hb dX7_relay_36 rfl (lv_at hl 1 rfl) ?_
      refine xa_get (C := RX7) (T := TX7) (N := 7) cx hG hP 0 rfl rfl uX7 2 (by decide) lf_X7_30 rfl dX7_relay_37 ?_
      refine lv_iload_n hx hb dX7_relay_40 rfl (lv_at hl 2 rfl) ?_
      refine lv_aload_n hx hb dX7_relay_41 rfl (lv_at hl 1 rfl) ?_
      refine xa_get (C := RX7) (T := TX7) (N := 7) cx hG hP 0 rfl rfl uX7 2 (by decide) lf_X7_30 rfl dX7_relay_42 ?_
      obtain ⟨r10, hr11, h⟩ := bnd h
      refine ro_i (runVN (As := []) (rest := [.int v1, .ref ((a_t_now 0))]) hG cx hl.1 (ctX1_plies l g a_t_now t_now_told t_now_lines t_now_kinds t_now_acts t_now_sizes r10 hr11) kmX1_plies kvX1_plies nm_17 ⟨rfl, rfl⟩ ⟨Nat.le_of_ble_eq_true rfl, Nat.le_of_ble_eq_true rfl⟩ (roV (q0 := 1) (ci := 1) hG (hP.sub [1, 3] rfl) hP rfl rfl) rfl rfl (Nat.le_of_ble_eq_true rfl) dX7_relay_45 ⟨Nat.le_of_ble_eq_true rfl, Nat.le_of_ble_eq_true rfl⟩) ?_
      refine lv_aload_n hx hb dX7_relay_48 rfl (lv_at hl 1 rfl) ?_
      refine xa_get (C := RX7) (T := TX7) (N := 7) cx hG hP 0 rfl rfl uX7 2 (by decide) lf_X7_30 rfl dX7_relay_49 ?_
      obtain ⟨r12, hr13, h⟩ := bnd h
      refine ro_i (runVN (As := []) (rest := [.int r10, .int v1, .ref ((a_t_now 0))]) hG cx hl.1 (ctX1_roomNow l g a_t_now t_now_told t_now_lines t_now_kinds t_now_acts t_now_rooms r12 hr13) kmX1_roomNow kvX1_roomNow nm_16 ⟨rfl, rfl⟩ ⟨Nat.le_of_ble_eq_true rfl, Nat.le_of_ble_eq_true rfl⟩ (roV (q0 := 1) (ci := 1) hG (hP.sub [1, 4] rfl) hP rfl rfl) rfl rfl (Nat.le_of_ble_eq_true rfl) dX7_relay_52 ⟨Nat.le_of_ble_eq_true rfl, Nat.le_of_ble_eq_true rfl⟩) ?_
      obtain ⟨w15, w16, w17, w18, hr14, h⟩ := ob4_out h
      refine rw_v (WN := fun u19 => [((a_t 0), .inr (6, [.ref (a_t_tape 0), .ref (a_t_reader 0), .ref (a_t_now 0), .ref (a_t 4), .ref (a_t_choices 0), .ref (a_t_ways 0), .ref (a_t_stress 0)])), ((a_t_now 0), .inr (1, [.ref (a_t_now 1), .ref (a_t_now 2), .ref (a_t_now 3), .ref (a_t_now 4), .ref (a_t_now 5), .int t_now_told, .int t_now_lines, .int t_now_kinds, .int w18])), ((a_t_now 3), .inl (g.2.2.1 0, 31, .inl w15)), ((a_t_now 4), .inl (g.2.2.1 0, 31, .inl w16)), ((a_t_now 5), .inl (g.2.2.1 0, 31, .inl w17))]) (wr := [((a_t 0), .inr (6, [.ref (a_t_tape 0), .ref (a_t_reader 0), .ref (a_t_now 0), .ref (a_t 4), .ref (a_t_choices 0), .ref (a_t_ways 0), .ref (a_t_stress 0)]))]) (runVN (As := [.int v1, .int r10, .int r12]) (rest := []) hG cx hl.1 (ctX1_act l g s.heap.size a_t_now t_now_told t_now_lines t_now_kinds t_now_acts t_now_rows t_now_sizes t_now_rooms v1 r10 r12 w15 w16 w17 w18 hr14) kmX1_act kvX1_act nm_98 ⟨rfl, rfl⟩ ⟨Nat.le_of_ble_eq_true rfl, Nat.le_of_ble_eq_true rfl⟩ (rwV (q0 := 1) (ci := 1) hG (hP.sub [1, 2, 3, 4] rfl) (hD.sub [1, 2, 3, 4] (by decide) rfl) hAb hb0 hS hP rfl rfl) rfl rfl (Nat.le_of_ble_eq_true rfl) dX7_relay_55 ⟨Nat.le_of_ble_eq_true rfl, Nat.le_of_ble_eq_true rfl⟩) hP hD hS hA [1, 2, 3, 4] [0] rfl rfl (by decide) (by decide) (fun _ => rfl) (fun u19 H locs hP hD hS => ?_)
      have hG := hGk hS
      refine lv_iload_n hx hb dX7_relay_58 rfl (lv_at hl 0 rfl) ?_
      exact hrt (fun _ => 0) _ _ r5 w15 w16 w17 w18 _ _ dX7_relay_59 h (hP.sub [0, 1, 2, 3, 4] rfl) (hD.sub [0, 1, 2, 3, 4] (by decide) rfl) hS
    · have h := itn c9 h
      refine lv_bipush (v := -5) hx hb dX7_relay_33 (by decide) ?_
      exact hrt (fun _ => 0) _ _ ((-5)) t_now_rows t_now_sizes t_now_rooms t_now_acts _ _ dX7_relay_35 h (hP.sub [0, 1, 2, 3, 4] rfl) (hD.sub [0, 1, 2, 3, 4] (by decide) rfl) hS
-- X7_become
theorem dX7_become_0 : decode cX7_become 0 = .ok (.aload_n 0, 1) := by decide +kernel
theorem dX7_become_1 : decode cX7_become 1 = .ok (.iload_n 1, 1) := by decide +kernel
theorem dX7_become_2 : decode cX7_become 2 = .ok (.invokevirtual 239, 3) := by decide +kernel
theorem dX7_become_5 : decode cX7_become 5 = .ok (.ifCond .eq 7, 3) := by decide +kernel
theorem dX7_become_8 : decode cX7_become 8 = .ok (.iload_n 2, 1) := by decide +kernel
theorem dX7_become_9 : decode cX7_become 9 = .ok (.ifCond .ge 6, 3) := by decide +kernel
theorem dX7_become_12 : decode cX7_become 12 = .ok (.bipush (-2), 2) := by decide +kernel
theorem dX7_become_14 : decode cX7_become 14 = .ok (.ireturn, 1) := by decide +kernel
theorem dX7_become_15 : decode cX7_become 15 = .ok (.aload_n 0, 1) := by decide +kernel
theorem dX7_become_16 : decode cX7_become 16 = .ok (.getfield 41, 3) := by decide +kernel
theorem dX7_become_19 : decode cX7_become 19 = .ok (.aload_n 0, 1) := by decide +kernel
theorem dX7_become_20 : decode cX7_become 20 = .ok (.getfield 30, 3) := by decide +kernel
theorem dX7_become_23 : decode cX7_become 23 = .ok (.invokevirtual 242, 3) := by decide +kernel
theorem dX7_become_26 : decode cX7_become 26 = .ok (.aload_n 0, 1) := by decide +kernel
theorem dX7_become_27 : decode cX7_become 27 = .ok (.getfield 41, 3) := by decide +kernel
theorem dX7_become_30 : decode cX7_become 30 = .ok (.iload_n 1, 1) := by decide +kernel
theorem dX7_become_31 : decode cX7_become 31 = .ok (.iload_n 2, 1) := by decide +kernel
theorem dX7_become_32 : decode cX7_become 32 = .ok (.invokevirtual 247, 3) := by decide +kernel
theorem dX7_become_35 : decode cX7_become 35 = .ok (.istore_n 3, 1) := by decide +kernel
theorem dX7_become_36 : decode cX7_become 36 = .ok (.iload_n 3, 1) := by decide +kernel
theorem dX7_become_37 : decode cX7_become 37 = .ok (.iconst (-1), 1) := by decide +kernel
theorem dX7_become_38 : decode cX7_become 38 = .ok (.if_icmp .ne 7, 3) := by decide +kernel
theorem dX7_become_41 : decode cX7_become 41 = .ok (.iconst (-1), 1) := by decide +kernel
theorem dX7_become_42 : decode cX7_become 42 = .ok (.goto 15, 3) := by decide +kernel
theorem dX7_become_45 : decode cX7_become 45 = .ok (.aload_n 0, 1) := by decide +kernel
theorem dX7_become_46 : decode cX7_become 46 = .ok (.aload_n 0, 1) := by decide +kernel
theorem dX7_become_47 : decode cX7_become 47 = .ok (.getfield 41, 3) := by decide +kernel
theorem dX7_become_50 : decode cX7_become 50 = .ok (.iload_n 3, 1) := by decide +kernel
theorem dX7_become_51 : decode cX7_become 51 = .ok (.invokevirtual 250, 3) := by decide +kernel
theorem dX7_become_54 : decode cX7_become 54 = .ok (.invokevirtual 348, 3) := by decide +kernel
theorem dX7_become_57 : decode cX7_become 57 = .ok (.ireturn, 1) := by decide +kernel
noncomputable def fX7_become (lim0 : Nat)  (t_now_cells : Nat → Int32) (t_now_rows : Nat → Int32) (t_now_sizes : Nat → Int32) (t_now_rooms : Nat → Int32) (t_now_told : Int32) (t_now_acts : Int32) (t_choices_rows_n : Nat) (t_choices_rows : Nat → Int64) (t_choices_size : Int32) (t_choices_ready : Int32) (t_choices_pool : Int32) (t_choices_plies : Int32) (t_choices_room : Int32) (v1 : Int32) (v2 : Int32) : Option (Int32 × (Nat → Int32) × (Nat → Int32) × (Nat → Int32) × Int32 × Nat × (Nat → Int64) × Int32 × Int32 × Int32 × Int32 × Int32) := (if (fX7_isMask t_now_told v1) = 0 then some ((-2), t_now_rows, t_now_sizes, t_now_rooms, t_now_acts, t_choices_rows_n, t_choices_rows, t_choices_size, t_choices_ready, t_choices_pool, t_choices_plies, t_choices_room) else (if 0 ≤ v2 then ob7 (fX0_prepare lim0 t_choices_rows_n t_choices_rows t_choices_size t_choices_ready t_choices_pool t_choices_plies t_choices_room t_now_cells t_now_rows t_now_sizes t_now_rooms t_now_acts) fun w5 w6 w7 w8 w9 w10 w11 => (fX0_find w5 w6 w7 v1 v2).bind fun r13 => (if r13 = (-1) then some ((-1), t_now_rows, t_now_sizes, t_now_rooms, t_now_acts, w5, w6, w7, w8, w9, w10, w11) else (fX0_rowAt w5 w6 r13).bind fun r16 => ob5 (fX7_relay t_now_rows t_now_sizes t_now_rooms t_now_acts r16) fun r19 w20 w21 w22 w23 => some (r19, w20, w21, w22, w23, w5, w6, w7, w8, w9, w10, w11)) else some ((-2), t_now_rows, t_now_sizes, t_now_rooms, t_now_acts, t_choices_rows_n, t_choices_rows, t_choices_size, t_choices_ready, t_choices_pool, t_choices_plies, t_choices_room)))
set_option maxHeartbeats 4000000 in
set_option maxRecDepth 100000 in
theorem ctX7_become (l : Launch) (g : GT) (lim0 : Nat) (sz : Nat) (a_t : Nat → Nat) (a_t_tape : Nat → Nat) (a_t_reader : Nat → Nat) (a_t_now : Nat → Nat) (a_t_choices : Nat → Nat) (a_t_ways : Nat → Nat) (a_t_stress : Nat → Nat) (b_t_choices_rows : Nat) (b_t_choices_seen : Nat) (t_now_told : Int32) (t_now_lines : Int32) (t_now_kinds : Int32) (t_now_acts : Int32) (t_now_cells : Nat → Int32) (t_now_rows : Nat → Int32) (t_now_sizes : Nat → Int32) (t_now_rooms : Nat → Int32) (t_choices_size : Int32) (t_choices_ready : Int32) (t_choices_pool : Int32) (t_choices_plies : Int32) (t_choices_room : Int32) (t_choices_rows_n : Nat) (t_choices_rows : Nat → Int64) (v1 : Int32) (v2 : Int32) (o : Int32) (o_t_now_rows : Nat → Int32) (o_t_now_sizes : Nat → Int32) (o_t_now_rooms : Nat → Int32) (o_t_now_acts : Int32) (o_t_choices_rows_n : Nat) (o_t_choices_rows : Nat → Int64) (o_t_choices_size : Int32) (o_t_choices_ready : Int32) (o_t_choices_pool : Int32) (o_t_choices_plies : Int32) (o_t_choices_room : Int32) (h : fX7_become lim0 t_now_cells t_now_rows t_now_sizes t_now_rooms t_now_told t_now_acts t_choices_rows_n t_choices_rows t_choices_size t_choices_ready t_choices_pool t_choices_plies t_choices_room v1 v2 = some (o, o_t_now_rows, o_t_now_sizes, o_t_now_rooms, o_t_now_acts, o_t_choices_rows_n, o_t_choices_rows, o_t_choices_size, o_t_choices_ready, o_t_choices_pool, o_t_choices_plies, o_t_choices_room)) : Met l yX7_become (Cond.code yX7_become cX7_become 4 (some .int) :: Tw) ⟨16, 1, lim0, 520⟩ (va_Pc [.ref ((a_t 0)), .int v1, .int v2] (rwB g [((a_t 0), .inr (6, [.ref (a_t_tape 0), .ref (a_t_reader 0), .ref (a_t_now 0), .ref (a_t 4), .ref (a_t_choices 0), .ref (a_t_ways 0), .ref (a_t_stress 0)])), ((a_t_now 0), .inr (1, [.ref (a_t_now 1), .ref (a_t_now 2), .ref (a_t_now 3), .ref (a_t_now 4), .ref (a_t_now 5), .int t_now_told, .int t_now_lines, .int t_now_kinds, .int t_now_acts])), ((a_t_now 2), .inl (g.2.2.1 0, 144, .inl t_now_cells)), ((a_t_now 3), .inl (g.2.2.1 0, 31, .inl t_now_rows)), ((a_t_now 4), .inl (g.2.2.1 0, 31, .inl t_now_sizes)), ((a_t_now 5), .inl (g.2.2.1 0, 31, .inl t_now_rooms)), ((a_t_choices 0), .inr (0, [.ref b_t_choices_rows, .ref b_t_choices_seen, .int t_choices_size, .int t_choices_ready, .int t_choices_pool, .int t_choices_plies, .int t_choices_room])), (b_t_choices_rows, .inl (g.2.2.1 1, t_choices_rows_n, .inr (.inl t_choices_rows)))] sz)) (va_Qi (fun x (_ : Nat → Nat) => x = o) (fun u => rwE g (va_A [((a_t 0), .inr (6, [.ref (a_t_tape 0), .ref (a_t_reader 0), .ref (a_t_now 0), .ref (a_t 4), .ref (a_t_choices 0), .ref (a_t_ways 0), .ref (a_t_stress 0)])), ((a_t_now 0), .inr (1, [.ref (a_t_now 1), .ref (a_t_now 2), .ref (a_t_now 3), .ref (a_t_now 4), .ref (a_t_now 5), .int t_now_told, .int t_now_lines, .int t_now_kinds, .int t_now_acts])), ((a_t_now 2), .inl (g.2.2.1 0, 144, .inl t_now_cells)), ((a_t_now 3), .inl (g.2.2.1 0, 31, .inl t_now_rows)), ((a_t_now 4), .inl (g.2.2.1 0, 31, .inl t_now_sizes)), ((a_t_now 5), .inl (g.2.2.1 0, 31, .inl t_now_rooms)), ((a_t_choices 0), .inr (0, [.ref b_t_choices_rows, .ref b_t_choices_seen, .int t_choices_size, .int t_choices_ready, .int t_choices_pool, .int t_choices_plies, .int t_choices_room])), (b_t_choices_rows, .inl (g.2.2.1 1, t_choices_rows_n, .inr (.inl t_choices_rows)))] sz) [((a_t 0), .inr (6, [.ref (a_t_tape 0), .ref (a_t_reader 0), .ref (a_t_now 0), .ref (a_t 4), .ref (a_t_choices 0), .ref (a_t_ways 0), .ref (a_t_stress 0)])), ((a_t_now 0), .inr (1, [.ref (a_t_now 1), .ref (a_t_now 2), .ref (a_t_now 3), .ref (a_t_now 4), .ref (a_t_now 5), .int t_now_told, .int t_now_lines, .int t_now_kinds, .int o_t_now_acts])), ((a_t_now 2), .inl (g.2.2.1 0, 144, .inl t_now_cells)), ((a_t_now 3), .inl (g.2.2.1 0, 31, .inl o_t_now_rows)), ((a_t_now 4), .inl (g.2.2.1 0, 31, .inl o_t_now_sizes)), ((a_t_now 5), .inl (g.2.2.1 0, 31, .inl o_t_now_rooms)), ((a_t_choices 0), .inr (0, [.ref (u 0), .ref b_t_choices_seen, .int o_t_choices_size, .int o_t_choices_ready, .int o_t_choices_pool, .int o_t_choices_plies, .int o_t_choices_room])), ((u 0), .inl (g.2.2.1 1, o_t_choices_rows_n, .inr (.inl o_t_choices_rows)))]) (va_A [((a_t 0), .inr (6, [.ref (a_t_tape 0), .ref (a_t_reader 0), .ref (a_t_now 0), .ref (a_t 4), .ref (a_t_choices 0), .ref (a_t_ways 0), .ref (a_t_stress 0)])), ((a_t_now 0), .inr (1, [.ref (a_t_now 1), .ref (a_t_now 2), .ref (a_t_now 3), .ref (a_t_now 4), .ref (a_t_now 5), .int t_now_told, .int t_now_lines, .int t_now_kinds, .int t_now_acts])), ((a_t_now 2), .inl (g.2.2.1 0, 144, .inl t_now_cells)), ((a_t_now 3), .inl (g.2.2.1 0, 31, .inl t_now_rows)), ((a_t_now 4), .inl (g.2.2.1 0, 31, .inl t_now_sizes)), ((a_t_now 5), .inl (g.2.2.1 0, 31, .inl t_now_rooms)), ((a_t_choices 0), .inr (0, [.ref b_t_choices_rows, .ref b_t_choices_seen, .int t_choices_size, .int t_choices_ready, .int t_choices_pool, .int t_choices_plies, .int t_choices_room])), (b_t_choices_rows, .inl (g.2.2.1 1, t_choices_rows_n, .inr (.inl t_choices_rows)))] sz)) 1 lim0 (va_A [((a_t 0), .inr (6, [.ref (a_t_tape 0), .ref (a_t_reader 0), .ref (a_t_now 0), .ref (a_t 4), .ref (a_t_choices 0), .ref (a_t_ways 0), .ref (a_t_stress 0)])), ((a_t_now 0), .inr (1, [.ref (a_t_now 1), .ref (a_t_now 2), .ref (a_t_now 3), .ref (a_t_now 4), .ref (a_t_now 5), .int t_now_told, .int t_now_lines, .int t_now_kinds, .int t_now_acts])), ((a_t_now 2), .inl (g.2.2.1 0, 144, .inl t_now_cells)), ((a_t_now 3), .inl (g.2.2.1 0, 31, .inl t_now_rows)), ((a_t_now 4), .inl (g.2.2.1 0, 31, .inl t_now_sizes)), ((a_t_now 5), .inl (g.2.2.1 0, 31, .inl t_now_rooms)), ((a_t_choices 0), .inr (0, [.ref b_t_choices_rows, .ref b_t_choices_seen, .int t_choices_size, .int t_choices_ready, .int t_choices_pool, .int t_choices_plies, .int t_choices_room])), (b_t_choices_rows, .inl (g.2.2.1 1, t_choices_rows_n, .inr (.inl t_choices_rows)))] sz) := by
  refine rw_meti (by decide) (Nat.le_of_ble_eq_true rfl) (lv0 := [(0, .ref ((a_t 0))), (1, .int v1), (2, .int v2)]) rfl ?_
  intro p e s m args below meth c ls Q A cx hret hG hAb hb0 hA hP hD hl
  have hx := cx.1
  have hb := cx.2.1
  have hG0 := hG
  have hGk : ∀ {H : Heap} {locs : List Loc}, va_S A s.heap H locs → GE g s H := fun hS => hG0.keptS hAb hS
  have hSb : ∀ {H : Heap} {locs : List Loc}, va_S A s.heap H locs → va_S (fun a => g.1 ≤ a) s.heap H locs := fun hS => ⟨hS.1, fun q h1 h2 => hS.2.1 q h1 (fun z => h2 (hAb q z)), fun l hl => hAb _ (hS.2.2 l hl)⟩
  have hS : va_S A s.heap s.heap [] := va_S.rf
  have hrt : ∀ (u : Nat → Nat) (pc : Nat) (ls : Array Slot) (v : Int32) (x_t_now_rows : Nat → Int32) (x_t_now_sizes : Nat → Int32) (x_t_now_rooms : Nat → Int32) (x_t_now_acts : Int32) (x_t_choices_rows_n : Nat) (x_t_choices_rows : Nat → Int64) (x_t_choices_size : Int32) (x_t_choices_ready : Int32) (x_t_choices_pool : Int32) (x_t_choices_plies : Int32) (x_t_choices_room : Int32) (H : Heap) (locs : List Loc), decode cX7_become pc = .ok (.ireturn, 1) → some (v, x_t_now_rows, x_t_now_sizes, x_t_now_rooms, x_t_now_acts, x_t_choices_rows_n, x_t_choices_rows, x_t_choices_size, x_t_choices_ready, x_t_choices_pool, x_t_choices_plies, x_t_choices_room) = some (o, o_t_now_rows, o_t_now_sizes, o_t_now_rooms, o_t_now_acts, o_t_choices_rows_n, o_t_choices_rows, o_t_choices_size, o_t_choices_ready, o_t_choices_pool, o_t_choices_plies, o_t_choices_room) → va_P g.2.1 vwCl [((a_t 0), .inr (6, [.ref (a_t_tape 0), .ref (a_t_reader 0), .ref (a_t_now 0), .ref (a_t 4), .ref (a_t_choices 0), .ref (a_t_ways 0), .ref (a_t_stress 0)])), ((a_t_now 0), .inr (1, [.ref (a_t_now 1), .ref (a_t_now 2), .ref (a_t_now 3), .ref (a_t_now 4), .ref (a_t_now 5), .int t_now_told, .int t_now_lines, .int t_now_kinds, .int x_t_now_acts])), ((a_t_now 2), .inl (g.2.2.1 0, 144, .inl t_now_cells)), ((a_t_now 3), .inl (g.2.2.1 0, 31, .inl x_t_now_rows)), ((a_t_now 4), .inl (g.2.2.1 0, 31, .inl x_t_now_sizes)), ((a_t_now 5), .inl (g.2.2.1 0, 31, .inl x_t_now_rooms)), ((a_t_choices 0), .inr (0, [.ref (u 0), .ref b_t_choices_seen, .int x_t_choices_size, .int x_t_choices_ready, .int x_t_choices_pool, .int x_t_choices_plies, .int x_t_choices_room])), ((u 0), .inl (g.2.2.1 1, x_t_choices_rows_n, .inr (.inl x_t_choices_rows)))] H → va_D A [((a_t 0), .inr (6, [.ref (a_t_tape 0), .ref (a_t_reader 0), .ref (a_t_now 0), .ref (a_t 4), .ref (a_t_choices 0), .ref (a_t_ways 0), .ref (a_t_stress 0)])), ((a_t_now 0), .inr (1, [.ref (a_t_now 1), .ref (a_t_now 2), .ref (a_t_now 3), .ref (a_t_now 4), .ref (a_t_now 5), .int t_now_told, .int t_now_lines, .int t_now_kinds, .int x_t_now_acts])), ((a_t_now 2), .inl (g.2.2.1 0, 144, .inl t_now_cells)), ((a_t_now 3), .inl (g.2.2.1 0, 31, .inl x_t_now_rows)), ((a_t_now 4), .inl (g.2.2.1 0, 31, .inl x_t_now_sizes)), ((a_t_now 5), .inl (g.2.2.1 0, 31, .inl x_t_now_rooms)), ((a_t_choices 0), .inr (0, [.ref (u 0), .ref b_t_choices_seen, .int x_t_choices_size, .int x_t_choices_ready, .int x_t_choices_pool, .int x_t_choices_plies, .int x_t_choices_room])), ((u 0), .inl (g.2.2.1 1, x_t_choices_rows_n, .inr (.inl x_t_choices_rows)))] → va_S A s.heap H locs → W p l e ⟨16, 1, lim0, 520⟩ s m args below meth c H locs 1 lim0 Q (F0 m pc ls [.int v]) := by
    intro u pc ls v x_t_now_rows x_t_now_sizes x_t_now_rooms x_t_now_acts x_t_choices_rows_n x_t_choices_rows x_t_choices_size x_t_choices_ready x_t_choices_pool x_t_choices_plies x_t_choices_room H locs hd h hP hD hS
    cases h
    exact hret u _ _ _ _ _ hd rfl hP hD hS
  unfold fX7_become at h
  refine lv_aload_n hx hb dX7_become_0 rfl (lv_at hl 0 rfl) ?_
  refine lv_iload_n hx hb dX7_become_1 rfl (lv_at hl 1 rfl) ?_
  refine ro_z (runV (As := [.int v1]) (rest := []) cx hl.1 (ctX7_isMask l g a_t a_t_tape a_t_reader a_t_now a_t_choices a_t_ways a_t_stress t_now_told t_now_lines t_now_kinds t_now_acts v1 (fX7_isMask t_now_told v1) rfl) kmX7_isMask kvX7_isMask lm_X7_239 ⟨rfl, rfl⟩ ⟨Nat.le_of_ble_eq_true rfl, Nat.le_of_ble_eq_true rfl⟩ (roV (q0 := 0) (ci := 6) hG (hP.sub [0, 1] rfl) hP rfl rfl) rfl rfl (Nat.le_of_ble_eq_true rfl) dX7_become_2 ⟨Nat.le_of_ble_eq_true rfl, (show (0 + 0 : Nat) ≤ lim0 by omega)⟩) (fun hz1 => ?_)
  refine lv_if_eq (tgt := 12) hx hb dX7_become_5 (by decide) (fun c2 => ?_) (fun c2 => ?_)
  · have h := itp c2 h
    refine lv_bipush (v := -2) hx hb dX7_become_12 (by decide) ?_
    refine W.widen (k := 1) (n := lim0) (Nat.le_of_ble_eq_true rfl) (show (0 : Nat) ≤ lim0 by omega) ?_
    exact hrt (fun _ => b_t_choices_rows) _ _ ((-2)) t_now_rows t_now_sizes t_now_rooms t_now_acts t_choices_rows_n t_choices_rows t_choices_size t_choices_ready t_choices_pool t_choices_plies t_choices_room _ _ dX7_become_14 h (hP.sub [0, 1, 2, 3, 4, 5, 6, 7] rfl) (hD.sub [0, 1, 2, 3, 4, 5, 6, 7] (by decide) rfl) hS
  · have h := itn c2 h
    refine lv_iload_n hx hb dX7_become_8 rfl (lv_at hl 2 rfl) ?_
    refine lv_if_ge (tgt := 15) hx hb dX7_become_9 (by decide) (fun c3 => ?_) (fun c3 => ?_)
    · have h := itp c3 h
      refine lv_aload_n hx hb dX7_become_15 rfl (lv_at hl 0 rfl) ?_
      refine xa_get (C := RX7) (T := TX7) (N := 7) cx hG hP 0 rfl rfl uX7 4 (by decide) lf_X7_41 rfl dX7_become_16 ?_
      refine lv_aload_n hx hb dX7_become_19 rfl (lv_at hl 0 rfl) ?_
      refine xa_get (C := RX7) (T := TX7) (N := 7) cx hG hP 0 rfl rfl uX7 2 (by decide) lf_X7_30 rfl dX7_become_20 ?_
      obtain ⟨w5, w6, w7, w8, w9, w10, w11, hr4, h⟩ := ob7_out h
      refine rw_v (WN := fun u12 => [((a_t 0), .inr (6, [.ref (a_t_tape 0), .ref (a_t_reader 0), .ref (a_t_now 0), .ref (a_t 4), .ref (a_t_choices 0), .ref (a_t_ways 0), .ref (a_t_stress 0)])), ((a_t_choices 0), .inr (0, [.ref (u12 0), .ref b_t_choices_seen, .int w7, .int w8, .int w9, .int w10, .int w11])), ((u12 0), .inl (g.2.2.1 1, w5, .inr (.inl w6))), ((a_t_now 0), .inr (1, [.ref (a_t_now 1), .ref (a_t_now 2), .ref (a_t_now 3), .ref (a_t_now 4), .ref (a_t_now 5), .int t_now_told, .int t_now_lines, .int t_now_kinds, .int t_now_acts])), ((a_t_now 2), .inl (g.2.2.1 0, 144, .inl t_now_cells)), ((a_t_now 3), .inl (g.2.2.1 0, 31, .inl t_now_rows)), ((a_t_now 4), .inl (g.2.2.1 0, 31, .inl t_now_sizes)), ((a_t_now 5), .inl (g.2.2.1 0, 31, .inl t_now_rooms))]) (wr := [((a_t 0), .inr (6, [.ref (a_t_tape 0), .ref (a_t_reader 0), .ref (a_t_now 0), .ref (a_t 4), .ref (a_t_choices 0), .ref (a_t_ways 0), .ref (a_t_stress 0)]))]) (runVN (As := [.ref ((a_t_now 0))]) (rest := []) hG cx hl.1 (ctX0_prepare l g lim0 s.heap.size a_t_choices a_t_now b_t_choices_rows b_t_choices_seen t_choices_size t_choices_ready t_choices_pool t_choices_plies t_choices_room t_choices_rows_n t_choices_rows t_now_told t_now_lines t_now_kinds t_now_acts t_now_cells t_now_rows t_now_sizes t_now_rooms w5 w6 w7 w8 w9 w10 w11 hr4) kmX0_prepare kvX0_prepare nm_52 ⟨rfl, rfl⟩ ⟨Nat.le_of_ble_eq_true rfl, Nat.le_of_ble_eq_true rfl⟩ (rwV (q0 := 6) (ci := 0) hG (hP.sub [6, 7, 1, 2, 3, 4, 5] rfl) (hD.sub [6, 7, 1, 2, 3, 4, 5] (by decide) rfl) hAb hb0 hS hP rfl rfl) rfl rfl (Nat.le_of_ble_eq_true rfl) dX7_become_23 ⟨Nat.le_of_ble_eq_true rfl, (show (0 + lim0 : Nat) ≤ lim0 by omega)⟩) hP hD hS hA [6, 7, 1, 2, 3, 4, 5] [0] rfl rfl (by decide) (by decide) (fun _ => rfl) (fun u12 H locs hP hD hS => ?_)
      have hG := hGk hS
      refine lv_aload_n hx hb dX7_become_26 rfl (lv_at hl 0 rfl) ?_
      refine xa_get (C := RX7) (T := TX7) (N := 7) cx hG hP 0 rfl rfl uX7 4 (by decide) lf_X7_41 rfl dX7_become_27 ?_
      refine lv_iload_n hx hb dX7_become_30 rfl (lv_at hl 1 rfl) ?_
      refine lv_iload_n hx hb dX7_become_31 rfl (lv_at hl 2 rfl) ?_
      obtain ⟨r13, hr14, h⟩ := bnd h
      refine ro_i (runVN (As := [.int v1, .int v2]) (rest := []) hG cx hl.1 (ctX0_find l g a_t_choices (u12 0) b_t_choices_seen w7 w8 w9 w10 w11 w5 w6 v1 v2 r13 hr14) kmX0_find kvX0_find nm_66 ⟨rfl, rfl⟩ ⟨Nat.le_of_ble_eq_true rfl, Nat.le_of_ble_eq_true rfl⟩ (roV (q0 := 1) (ci := 0) hG (hP.sub [1, 2] rfl) hP rfl rfl) rfl rfl (Nat.le_of_ble_eq_true rfl) dX7_become_32 ⟨Nat.le_of_ble_eq_true rfl, (show (0 + lim0 + 0 : Nat) ≤ lim0 by omega)⟩) ?_
      refine lv_istore_n (lv' := [(3, .int r13), (0, .ref ((a_t 0))), (1, .int v1), (2, .int v2)]) hx hb dX7_become_35 rfl hl (by decide) rfl (fun ls hl => ?_)
      refine lv_iload_n hx hb dX7_become_36 rfl (lv_at hl 0 rfl) ?_
      refine lv_iconst (v := -1) hx hb dX7_become_37 (by decide) ?_
      refine lv_icmp_ne (tgt := 45) hx hb dX7_become_38 (by decide) (fun c15 => ?_) (fun c15 => ?_)
      · have h := itn c15 h
        refine lv_aload_n hx hb dX7_become_45 rfl (lv_at hl 1 rfl) ?_
        refine lv_aload_n hx hb dX7_become_46 rfl (lv_at hl 1 rfl) ?_
        refine xa_get (C := RX7) (T := TX7) (N := 7) cx hG hP 0 rfl rfl uX7 4 (by decide) lf_X7_41 rfl dX7_become_47 ?_
        refine lv_iload_n hx hb dX7_become_50 rfl (lv_at hl 0 rfl) ?_
        obtain ⟨r16, hr17, h⟩ := bnd h
        refine ro_i (runVN (As := [.int r13]) (rest := [.ref ((a_t 0))]) hG cx hl.1 (ctX0_rowAt l g a_t_choices (u12 0) b_t_choices_seen w7 w8 w9 w10 w11 w5 w6 r13 r16 hr17) kmX0_rowAt kvX0_rowAt nm_67 ⟨rfl, rfl⟩ ⟨Nat.le_of_ble_eq_true rfl, Nat.le_of_ble_eq_true rfl⟩ (roV (q0 := 1) (ci := 0) hG (hP.sub [1, 2] rfl) hP rfl rfl) rfl rfl (Nat.le_of_ble_eq_true rfl) dX7_become_51 ⟨Nat.le_of_ble_eq_true rfl, (show (0 + lim0 + 0 : Nat) ≤ lim0 by omega)⟩) ?_
        obtain ⟨r19, w20, w21, w22, w23, hr18, h⟩ := ob5_out h
        refine rw_i (WN := fun u24 => [((a_t_choices 0), .inr (0, [.ref (u12 0), .ref b_t_choices_seen, .int w7, .int w8, .int w9, .int w10, .int w11])), ((u12 0), .inl (g.2.2.1 1, w5, .inr (.inl w6))), ((a_t_now 2), .inl (g.2.2.1 0, 144, .inl t_now_cells)), ((a_t 0), .inr (6, [.ref (a_t_tape 0), .ref (a_t_reader 0), .ref (a_t_now 0), .ref (a_t 4), .ref (a_t_choices 0), .ref (a_t_ways 0), .ref (a_t_stress 0)])), ((a_t_now 0), .inr (1, [.ref (a_t_now 1), .ref (a_t_now 2), .ref (a_t_now 3), .ref (a_t_now 4), .ref (a_t_now 5), .int t_now_told, .int t_now_lines, .int t_now_kinds, .int w23])), ((a_t_now 3), .inl (g.2.2.1 0, 31, .inl w20)), ((a_t_now 4), .inl (g.2.2.1 0, 31, .inl w21)), ((a_t_now 5), .inl (g.2.2.1 0, 31, .inl w22))]) (wr := [((a_t_choices 0), .inr (0, [.ref (u12 0), .ref b_t_choices_seen, .int w7, .int w8, .int w9, .int w10, .int w11])), ((u12 0), .inl (g.2.2.1 1, w5, .inr (.inl w6))), ((a_t_now 2), .inl (g.2.2.1 0, 144, .inl t_now_cells))]) (runV (As := [.int r16]) (rest := []) cx hl.1 (ctX7_relay l g H.size a_t a_t_tape a_t_reader a_t_now a_t_choices a_t_ways a_t_stress t_now_told t_now_lines t_now_kinds t_now_acts t_now_rows t_now_sizes t_now_rooms r16 r19 w20 w21 w22 w23 hr18) kmX7_relay kvX7_relay lm_X7_348 ⟨rfl, rfl⟩ ⟨Nat.le_of_ble_eq_true rfl, Nat.le_of_ble_eq_true rfl⟩ (rwV (q0 := 0) (ci := 6) hG (hP.sub [0, 3, 5, 6, 7] rfl) (hD.sub [0, 3, 5, 6, 7] (by decide) rfl) hAb hb0 hS hP rfl rfl) rfl rfl (Nat.le_of_ble_eq_true rfl) dX7_become_54 ⟨Nat.le_of_ble_eq_true rfl, (show (0 + lim0 + 0 : Nat) ≤ lim0 by omega)⟩) hP hD hS hA [0, 3, 5, 6, 7] [1, 2, 4] rfl rfl (by decide) (by decide) (fun _ => rfl) (fun u24 H locs hP hD hS => ?_)
        have hG := hGk hS
        refine W.widen (k := 1) (n := lim0) (Nat.le_of_ble_eq_true rfl) (show (0 + lim0 : Nat) ≤ lim0 by omega) ?_
        exact hrt (fun _ => (u12 0)) _ _ r19 w20 w21 w22 w23 w5 w6 w7 w8 w9 w10 w11 _ _ dX7_become_57 h (hP.sub [3, 4, 2, 5, 6, 7, 0, 1] rfl) (hD.sub [3, 4, 2, 5, 6, 7, 0, 1] (by decide) rfl) hS
      · have h := itp c15 h
        refine lv_iconst (v := -1) hx hb dX7_become_41 (by decide) ?_
        refine lv_goto (tgt := 57) hx hb dX7_become_42 (by decide) ?_
        refine W.widen (k := 1) (n := lim0) (Nat.le_of_ble_eq_true rfl) (show (0 + lim0 : Nat) ≤ lim0 by omega) ?_
        exact hrt (fun _ => (u12 0)) _ _ ((-1)) t_now_rows t_now_sizes t_now_rooms t_now_acts w5 w6 w7 w8 w9 w10 w11 _ _ dX7_become_57 h (hP.sub [0, 3, 4, 5, 6, 7, 1, 2] rfl) (hD.sub [0, 3, 4, 5, 6, 7, 1, 2] (by decide) rfl) hS
    · have h := itn c3 h
      refine lv_bipush (v := -2) hx hb dX7_become_12 (by decide) ?_
      refine W.widen (k := 1) (n := lim0) (Nat.le_of_ble_eq_true rfl) (show (0 : Nat) ≤ lim0 by omega) ?_
      exact hrt (fun _ => b_t_choices_rows) _ _ ((-2)) t_now_rows t_now_sizes t_now_rooms t_now_acts t_choices_rows_n t_choices_rows t_choices_size t_choices_ready t_choices_pool t_choices_plies t_choices_room _ _ dX7_become_14 h (hP.sub [0, 1, 2, 3, 4, 5, 6, 7] rfl) (hD.sub [0, 1, 2, 3, 4, 5, 6, 7] (by decide) rfl) hS
-- X7_room
theorem dX7_room_0 : decode cX7_room 0 = .ok (.aload_n 0, 1) := by decide +kernel
theorem dX7_room_1 : decode cX7_room 1 = .ok (.getfield 30, 3) := by decide +kernel
theorem dX7_room_4 : decode cX7_room 4 = .ok (.getfield 139, 3) := by decide +kernel
theorem dX7_room_7 : decode cX7_room 7 = .ok (.ifCond .eq 14, 3) := by decide +kernel
theorem dX7_room_10 : decode cX7_room 10 = .ok (.iload_n 1, 1) := by decide +kernel
theorem dX7_room_11 : decode cX7_room 11 = .ok (.iconst 1, 1) := by decide +kernel
theorem dX7_room_12 : decode cX7_room 12 = .ok (.if_icmp .lt 9, 3) := by decide +kernel
theorem dX7_room_15 : decode cX7_room 15 = .ok (.iload_n 1, 1) := by decide +kernel
theorem dX7_room_16 : decode cX7_room 16 = .ok (.bipush 8, 2) := by decide +kernel
theorem dX7_room_18 : decode cX7_room 18 = .ok (.if_icmp .le 6, 3) := by decide +kernel
theorem dX7_room_21 : decode cX7_room 21 = .ok (.bipush (-2), 2) := by decide +kernel
theorem dX7_room_23 : decode cX7_room 23 = .ok (.ireturn, 1) := by decide +kernel
theorem dX7_room_24 : decode cX7_room 24 = .ok (.iload_n 1, 1) := by decide +kernel
theorem dX7_room_25 : decode cX7_room 25 = .ok (.aload_n 0, 1) := by decide +kernel
theorem dX7_room_26 : decode cX7_room 26 = .ok (.getfield 30, 3) := by decide +kernel
theorem dX7_room_29 : decode cX7_room 29 = .ok (.invokevirtual 90, 3) := by decide +kernel
theorem dX7_room_32 : decode cX7_room 32 = .ok (.if_icmp .eq 13, 3) := by decide +kernel
theorem dX7_room_35 : decode cX7_room 35 = .ok (.aload_n 0, 1) := by decide +kernel
theorem dX7_room_36 : decode cX7_room 36 = .ok (.getfield 30, 3) := by decide +kernel
theorem dX7_room_39 : decode cX7_room 39 = .ok (.invokevirtual 326, 3) := by decide +kernel
theorem dX7_room_42 : decode cX7_room 42 = .ok (.ifCond .eq 6, 3) := by decide +kernel
theorem dX7_room_45 : decode cX7_room 45 = .ok (.bipush (-5), 2) := by decide +kernel
theorem dX7_room_47 : decode cX7_room 47 = .ok (.ireturn, 1) := by decide +kernel
theorem dX7_room_48 : decode cX7_room 48 = .ok (.aload_n 0, 1) := by decide +kernel
theorem dX7_room_49 : decode cX7_room 49 = .ok (.getfield 30, 3) := by decide +kernel
theorem dX7_room_52 : decode cX7_room 52 = .ok (.aload_n 0, 1) := by decide +kernel
theorem dX7_room_53 : decode cX7_room 53 = .ok (.getfield 30, 3) := by decide +kernel
theorem dX7_room_56 : decode cX7_room 56 = .ok (.invokevirtual 132, 3) := by decide +kernel
theorem dX7_room_59 : decode cX7_room 59 = .ok (.aload_n 0, 1) := by decide +kernel
theorem dX7_room_60 : decode cX7_room 60 = .ok (.getfield 30, 3) := by decide +kernel
theorem dX7_room_63 : decode cX7_room 63 = .ok (.invokevirtual 97, 3) := by decide +kernel
theorem dX7_room_66 : decode cX7_room 66 = .ok (.iload_n 1, 1) := by decide +kernel
theorem dX7_room_67 : decode cX7_room 67 = .ok (.invokevirtual 332, 3) := by decide +kernel
theorem dX7_room_70 : decode cX7_room 70 = .ok (.iconst 0, 1) := by decide +kernel
theorem dX7_room_71 : decode cX7_room 71 = .ok (.ireturn, 1) := by decide +kernel
noncomputable def fX7_room  (t_now_rows : Nat → Int32) (t_now_sizes : Nat → Int32) (t_now_rooms : Nat → Int32) (t_now_told : Int32) (t_now_acts : Int32) (v1 : Int32) : Option (Int32 × (Nat → Int32) × (Nat → Int32) × (Nat → Int32) × Int32) := (if t_now_told = 0 then some ((-2), t_now_rows, t_now_sizes, t_now_rooms, t_now_acts) else (if v1 < 1 then some ((-2), t_now_rows, t_now_sizes, t_now_rooms, t_now_acts) else (if v1 ≤ 8 then (fX1_roomNow t_now_rooms t_now_acts).bind fun r4 => (if v1 = r4 then some ((-5), t_now_rows, t_now_sizes, t_now_rooms, t_now_acts) else (if (fX1_isFull t_now_acts) = 0 then (fX1_row t_now_rows t_now_acts).bind fun r9 => (fX1_plies t_now_sizes t_now_acts).bind fun r11 => ob4 (fX1_act t_now_rows t_now_sizes t_now_rooms t_now_acts r9 r11 v1) fun w14 w15 w16 w17 => some ((0), w14, w15, w16, w17) else some ((-5), t_now_rows, t_now_sizes, t_now_rooms, t_now_acts))) else some ((-2), t_now_rows, t_now_sizes, t_now_rooms, t_now_acts))))
set_option maxHeartbeats 4000000 in
set_option maxRecDepth 100000 in
theorem ctX7_room (l : Launch) (g : GT) (sz : Nat) (a_t : Nat → Nat) (a_t_tape : Nat → Nat) (a_t_reader : Nat → Nat) (a_t_now : Nat → Nat) (a_t_choices : Nat → Nat) (a_t_ways : Nat → Nat) (a_t_stress : Nat → Nat) (t_now_told : Int32) (t_now_lines : Int32) (t_now_kinds : Int32) (t_now_acts : Int32) (t_now_rows : Nat → Int32) (t_now_sizes : Nat → Int32) (t_now_rooms : Nat → Int32) (v1 : Int32) (o : Int32) (o_t_now_rows : Nat → Int32) (o_t_now_sizes : Nat → Int32) (o_t_now_rooms : Nat → Int32) (o_t_now_acts : Int32) (h : fX7_room t_now_rows t_now_sizes t_now_rooms t_now_told t_now_acts v1 = some (o, o_t_now_rows, o_t_now_sizes, o_t_now_rooms, o_t_now_acts)) : Met l yX7_room (Cond.code yX7_room cX7_room 2 (some .int) :: Tw) ⟨2, 0, 0, 43⟩ (va_Pc [.ref ((a_t 0)), .int v1] (rwB g [((a_t 0), .inr (6, [.ref (a_t_tape 0), .ref (a_t_reader 0), .ref (a_t_now 0), .ref (a_t 4), .ref (a_t_choices 0), .ref (a_t_ways 0), .ref (a_t_stress 0)])), ((a_t_now 0), .inr (1, [.ref (a_t_now 1), .ref (a_t_now 2), .ref (a_t_now 3), .ref (a_t_now 4), .ref (a_t_now 5), .int t_now_told, .int t_now_lines, .int t_now_kinds, .int t_now_acts])), ((a_t_now 3), .inl (g.2.2.1 0, 31, .inl t_now_rows)), ((a_t_now 4), .inl (g.2.2.1 0, 31, .inl t_now_sizes)), ((a_t_now 5), .inl (g.2.2.1 0, 31, .inl t_now_rooms))] sz)) (va_Qi (fun x (_ : Nat → Nat) => x = o) (fun u => rwE g (va_A [((a_t 0), .inr (6, [.ref (a_t_tape 0), .ref (a_t_reader 0), .ref (a_t_now 0), .ref (a_t 4), .ref (a_t_choices 0), .ref (a_t_ways 0), .ref (a_t_stress 0)])), ((a_t_now 0), .inr (1, [.ref (a_t_now 1), .ref (a_t_now 2), .ref (a_t_now 3), .ref (a_t_now 4), .ref (a_t_now 5), .int t_now_told, .int t_now_lines, .int t_now_kinds, .int t_now_acts])), ((a_t_now 3), .inl (g.2.2.1 0, 31, .inl t_now_rows)), ((a_t_now 4), .inl (g.2.2.1 0, 31, .inl t_now_sizes)), ((a_t_now 5), .inl (g.2.2.1 0, 31, .inl t_now_rooms))] sz) [((a_t 0), .inr (6, [.ref (a_t_tape 0), .ref (a_t_reader 0), .ref (a_t_now 0), .ref (a_t 4), .ref (a_t_choices 0), .ref (a_t_ways 0), .ref (a_t_stress 0)])), ((a_t_now 0), .inr (1, [.ref (a_t_now 1), .ref (a_t_now 2), .ref (a_t_now 3), .ref (a_t_now 4), .ref (a_t_now 5), .int t_now_told, .int t_now_lines, .int t_now_kinds, .int o_t_now_acts])), ((a_t_now 3), .inl (g.2.2.1 0, 31, .inl o_t_now_rows)), ((a_t_now 4), .inl (g.2.2.1 0, 31, .inl o_t_now_sizes)), ((a_t_now 5), .inl (g.2.2.1 0, 31, .inl o_t_now_rooms))]) (va_A [((a_t 0), .inr (6, [.ref (a_t_tape 0), .ref (a_t_reader 0), .ref (a_t_now 0), .ref (a_t 4), .ref (a_t_choices 0), .ref (a_t_ways 0), .ref (a_t_stress 0)])), ((a_t_now 0), .inr (1, [.ref (a_t_now 1), .ref (a_t_now 2), .ref (a_t_now 3), .ref (a_t_now 4), .ref (a_t_now 5), .int t_now_told, .int t_now_lines, .int t_now_kinds, .int t_now_acts])), ((a_t_now 3), .inl (g.2.2.1 0, 31, .inl t_now_rows)), ((a_t_now 4), .inl (g.2.2.1 0, 31, .inl t_now_sizes)), ((a_t_now 5), .inl (g.2.2.1 0, 31, .inl t_now_rooms))] sz)) 0 0 (va_A [((a_t 0), .inr (6, [.ref (a_t_tape 0), .ref (a_t_reader 0), .ref (a_t_now 0), .ref (a_t 4), .ref (a_t_choices 0), .ref (a_t_ways 0), .ref (a_t_stress 0)])), ((a_t_now 0), .inr (1, [.ref (a_t_now 1), .ref (a_t_now 2), .ref (a_t_now 3), .ref (a_t_now 4), .ref (a_t_now 5), .int t_now_told, .int t_now_lines, .int t_now_kinds, .int t_now_acts])), ((a_t_now 3), .inl (g.2.2.1 0, 31, .inl t_now_rows)), ((a_t_now 4), .inl (g.2.2.1 0, 31, .inl t_now_sizes)), ((a_t_now 5), .inl (g.2.2.1 0, 31, .inl t_now_rooms))] sz) := by
  refine rw_meti (by decide) (Nat.le_of_ble_eq_true rfl) (lv0 := [(0, .ref ((a_t 0))), (1, .int v1)]) rfl ?_
  intro p e s m args below meth c ls Q A cx hret hG hAb hb0 hA hP hD hl
  have hx := cx.1
  have hb := cx.2.1
  have hG0 := hG
  have hGk : ∀ {H : Heap} {locs : List Loc}, va_S A s.heap H locs → GE g s H := fun hS => hG0.keptS hAb hS
  have hSb : ∀ {H : Heap} {locs : List Loc}, va_S A s.heap H locs → va_S (fun a => g.1 ≤ a) s.heap H locs := fun hS => ⟨hS.1, fun q h1 h2 => hS.2.1 q h1 (fun z => h2 (hAb q z)), fun l hl => hAb _ (hS.2.2 l hl)⟩
  have hS : va_S A s.heap s.heap [] := va_S.rf
  have hrt : ∀ (u : Nat → Nat) (pc : Nat) (ls : Array Slot) (v : Int32) (x_t_now_rows : Nat → Int32) (x_t_now_sizes : Nat → Int32) (x_t_now_rooms : Nat → Int32) (x_t_now_acts : Int32) (H : Heap) (locs : List Loc), decode cX7_room pc = .ok (.ireturn, 1) → some (v, x_t_now_rows, x_t_now_sizes, x_t_now_rooms, x_t_now_acts) = some (o, o_t_now_rows, o_t_now_sizes, o_t_now_rooms, o_t_now_acts) → va_P g.2.1 vwCl [((a_t 0), .inr (6, [.ref (a_t_tape 0), .ref (a_t_reader 0), .ref (a_t_now 0), .ref (a_t 4), .ref (a_t_choices 0), .ref (a_t_ways 0), .ref (a_t_stress 0)])), ((a_t_now 0), .inr (1, [.ref (a_t_now 1), .ref (a_t_now 2), .ref (a_t_now 3), .ref (a_t_now 4), .ref (a_t_now 5), .int t_now_told, .int t_now_lines, .int t_now_kinds, .int x_t_now_acts])), ((a_t_now 3), .inl (g.2.2.1 0, 31, .inl x_t_now_rows)), ((a_t_now 4), .inl (g.2.2.1 0, 31, .inl x_t_now_sizes)), ((a_t_now 5), .inl (g.2.2.1 0, 31, .inl x_t_now_rooms))] H → va_D A [((a_t 0), .inr (6, [.ref (a_t_tape 0), .ref (a_t_reader 0), .ref (a_t_now 0), .ref (a_t 4), .ref (a_t_choices 0), .ref (a_t_ways 0), .ref (a_t_stress 0)])), ((a_t_now 0), .inr (1, [.ref (a_t_now 1), .ref (a_t_now 2), .ref (a_t_now 3), .ref (a_t_now 4), .ref (a_t_now 5), .int t_now_told, .int t_now_lines, .int t_now_kinds, .int x_t_now_acts])), ((a_t_now 3), .inl (g.2.2.1 0, 31, .inl x_t_now_rows)), ((a_t_now 4), .inl (g.2.2.1 0, 31, .inl x_t_now_sizes)), ((a_t_now 5), .inl (g.2.2.1 0, 31, .inl x_t_now_rooms))] → va_S A s.heap H locs → W p l e ⟨2, 0, 0, 43⟩ s m args below meth c H locs 0 0 Q (F0 m pc ls [.int v]) := by
    intro u pc ls v x_t_now_rows x_t_now_sizes x_t_now_rooms x_t_now_acts H locs hd h hP hD hS
    cases h
    exact hret u _ _ _ _ _ hd rfl hP hD hS
  unfold fX7_room at h
  refine lv_aload_n hx hb dX7_room_0 rfl (lv_at hl 0 rfl) ?_
  refine xa_get (C := RX7) (T := TX7) (N := 7) cx hG hP 0 rfl rfl uX7 2 (by decide) lf_X7_30 rfl dX7_room_1 ?_
  refine xa_getN (C := RX1) (T := TX1) (N := 9) cx hG hP 1 rfl rfl uX1 5 (by decide) nf_5 rfl dX7_room_4 ?_
  refine lv_if_eq (tgt := 21) hx hb dX7_room_7 (by decide) (fun c1 => ?_) (fun c1 => ?_)
  · have h := itp c1 h
    refine lv_bipush (v := -2) hx hb dX7_room_21 (by decide) ?_
    exact hrt (fun _ => 0) _ _ ((-2)) t_now_rows t_now_sizes t_now_rooms t_now_acts _ _ dX7_room_23 h (hP.sub [0, 1, 2, 3, 4] rfl) (hD.sub [0, 1, 2, 3, 4] (by decide) rfl) hS
  · have h := itn c1 h
    refine lv_iload_n hx hb dX7_room_10 rfl (lv_at hl 1 rfl) ?_
    refine lv_iconst (v := 1) hx hb dX7_room_11 (by decide) ?_
    refine lv_icmp_lt (tgt := 21) hx hb dX7_room_12 (by decide) (fun c2 => ?_) (fun c2 => ?_)
    · have h := itp c2 h
      refine lv_bipush (v := -2) hx hb dX7_room_21 (by decide) ?_
      exact hrt (fun _ => 0) _ _ ((-2)) t_now_rows t_now_sizes t_now_rooms t_now_acts _ _ dX7_room_23 h (hP.sub [0, 1, 2, 3, 4] rfl) (hD.sub [0, 1, 2, 3, 4] (by decide) rfl) hS
    · have h := itn c2 h
      refine lv_iload_n hx hb dX7_room_15 rfl (lv_at hl 1 rfl) ?_
      refine lv_bipush (v := 8) hx hb dX7_room_16 (by decide) ?_
      refine lv_icmp_le (tgt := 24) hx hb dX7_room_18 (by decide) (fun c3 => ?_) (fun c3 => ?_)
      · have h := itp c3 h
        refine lv_iload_n hx hb dX7_room_24 rfl (lv_at hl 1 rfl) ?_
        refine lv_aload_n hx hb dX7_room_25 rfl (lv_at hl 0 rfl) ?_
        refine xa_get (C := RX7) (T := TX7) (N := 7) cx hG hP 0 rfl rfl uX7 2 (by decide) lf_X7_30 rfl dX7_room_26 ?_
        obtain ⟨r4, hr5, h⟩ := bnd h
        refine ro_i (runVN (As := []) (rest := [.int v1]) hG cx hl.1 (ctX1_roomNow l g a_t_now t_now_told t_now_lines t_now_kinds t_now_acts t_now_rooms r4 hr5) kmX1_roomNow kvX1_roomNow nm_16 ⟨rfl, rfl⟩ ⟨Nat.le_of_ble_eq_true rfl, Nat.le_of_ble_eq_true rfl⟩ (roV (q0 := 1) (ci := 1) hG (hP.sub [1, 4] rfl) hP rfl rfl) rfl rfl (Nat.le_of_ble_eq_true rfl) dX7_room_29 ⟨Nat.le_of_ble_eq_true rfl, Nat.le_of_ble_eq_true rfl⟩) ?_
        refine lv_icmp_eq (tgt := 45) hx hb dX7_room_32 (by decide) (fun c6 => ?_) (fun c6 => ?_)
        · have h := itp c6 h
          refine lv_bipush (v := -5) hx hb dX7_room_45 (by decide) ?_
          exact hrt (fun _ => 0) _ _ ((-5)) t_now_rows t_now_sizes t_now_rooms t_now_acts _ _ dX7_room_47 h (hP.sub [0, 1, 2, 3, 4] rfl) (hD.sub [0, 1, 2, 3, 4] (by decide) rfl) hS
        · have h := itn c6 h
          refine lv_aload_n hx hb dX7_room_35 rfl (lv_at hl 0 rfl) ?_
          refine xa_get (C := RX7) (T := TX7) (N := 7) cx hG hP 0 rfl rfl uX7 2 (by decide) lf_X7_30 rfl dX7_room_36 ?_
          refine ro_z (runVN (As := []) (rest := []) hG cx hl.1 (ctX1_isFull l g a_t_now t_now_told t_now_lines t_now_kinds t_now_acts (fX1_isFull t_now_acts) rfl) kmX1_isFull kvX1_isFull nm_96 ⟨rfl, rfl⟩ ⟨Nat.le_of_ble_eq_true rfl, Nat.le_of_ble_eq_true rfl⟩ (roV (q0 := 1) (ci := 1) hG (hP.sub [1] rfl) hP rfl rfl) rfl rfl (Nat.le_of_ble_eq_true rfl) dX7_room_39 ⟨Nat.le_of_ble_eq_true rfl, Nat.le_of_ble_eq_true rfl⟩) (fun hz7 => ?_)
          refine lv_if_eq (tgt := 48) hx hb dX7_room_42 (by decide) (fun c8 => ?_) (fun c8 => ?_)
          · have h := itp c8 h
            refine lv_aload_n hx hb dX7_room_48 rfl (lv_at hl 0 rfl) ?_
            refine xa_get (C := RX7) (T := TX7) (N := 7) cx hG hP 0 rfl rfl uX7 2 (by decide) lf_X7_30 rfl dX7_room_49 ?_
            refine lv_aload_n hx hb dX7_room_52 rfl (lv_at hl 0 rfl) ?_
            refine xa_get (C := RX7) (T := TX7) (N := 7) cx hG hP 0 rfl rfl uX7 2 (by decide) lf_X7_30 rfl dX7_room_53 ?_
            obtain ⟨r9, hr10, h⟩ := bnd h
            refine ro_i (runVN (As := []) (rest := [.ref ((a_t_now 0))]) hG cx hl.1 (ctX1_row l g a_t_now t_now_told t_now_lines t_now_kinds t_now_acts t_now_rows r9 hr10) kmX1_row kvX1_row nm_25 ⟨rfl, rfl⟩ ⟨Nat.le_of_ble_eq_true rfl, Nat.le_of_ble_eq_true rfl⟩ (roV (q0 := 1) (ci := 1) hG (hP.sub [1, 2] rfl) hP rfl rfl) rfl rfl (Nat.le_of_ble_eq_true rfl) dX7_room_56 ⟨Nat.le_of_ble_eq_true rfl, Nat.le_of_ble_eq_true rfl⟩) ?_
            refine lv_aload_n hx hb dX7_room_59 rfl (lv_at hl 0 rfl) ?_
            refine xa_get (C := RX7) (T := TX7) (N := 7) cx hG hP 0 rfl rfl uX7 2 (by decide) lf_X7_30 rfl dX7_room_60 ?_
            obtain ⟨r11, hr12, h⟩ := bnd h
            refine ro_i (runVN (As := []) (rest := [.int r9, .ref ((a_t_now 0))]) hG cx hl.1 (ctX1_plies l g a_t_now t_now_told t_now_lines t_now_kinds t_now_acts t_now_sizes r11 hr12) kmX1_plies kvX1_plies nm_17 ⟨rfl, rfl⟩ ⟨Nat.le_of_ble_eq_true rfl, Nat.le_of_ble_eq_true rfl⟩ (roV (q0 := 1) (ci := 1) hG (hP.sub [1, 3] rfl) hP rfl rfl) rfl rfl (Nat.le_of_ble_eq_true rfl) dX7_room_63 ⟨Nat.le_of_ble_eq_true rfl, Nat.le_of_ble_eq_true rfl⟩) ?_
            refine lv_iload_n hx hb dX7_room_66 rfl (lv_at hl 1 rfl) ?_
            obtain ⟨w14, w15, w16, w17, hr13, h⟩ := ob4_out h
            refine rw_v (WN := fun u18 => [((a_t 0), .inr (6, [.ref (a_t_tape 0), .ref (a_t_reader 0), .ref (a_t_now 0), .ref (a_t 4), .ref (a_t_choices 0), .ref (a_t_ways 0), .ref (a_t_stress 0)])), ((a_t_now 0), .inr (1, [.ref (a_t_now 1), .ref (a_t_now 2), .ref (a_t_now 3), .ref (a_t_now 4), .ref (a_t_now 5), .int t_now_told, .int t_now_lines, .int t_now_kinds, .int w17])), ((a_t_now 3), .inl (g.2.2.1 0, 31, .inl w14)), ((a_t_now 4), .inl (g.2.2.1 0, 31, .inl w15)), ((a_t_now 5), .inl (g.2.2.1 0, 31, .inl w16))]) (wr := [((a_t 0), .inr (6, [.ref (a_t_tape 0), .ref (a_t_reader 0), .ref (a_t_now 0), .ref (a_t 4), .ref (a_t_choices 0), .ref (a_t_ways 0), .ref (a_t_stress 0)]))]) (runVN (As := [.int r9, .int r11, .int v1]) (rest := []) hG cx hl.1 (ctX1_act l g s.heap.size a_t_now t_now_told t_now_lines t_now_kinds t_now_acts t_now_rows t_now_sizes t_now_rooms r9 r11 v1 w14 w15 w16 w17 hr13) kmX1_act kvX1_act nm_98 ⟨rfl, rfl⟩ ⟨Nat.le_of_ble_eq_true rfl, Nat.le_of_ble_eq_true rfl⟩ (rwV (q0 := 1) (ci := 1) hG (hP.sub [1, 2, 3, 4] rfl) (hD.sub [1, 2, 3, 4] (by decide) rfl) hAb hb0 hS hP rfl rfl) rfl rfl (Nat.le_of_ble_eq_true rfl) dX7_room_67 ⟨Nat.le_of_ble_eq_true rfl, Nat.le_of_ble_eq_true rfl⟩) hP hD hS hA [1, 2, 3, 4] [0] rfl rfl (by decide) (by decide) (fun _ => rfl) (fun u18 H locs hP hD hS => ?_)
            have hG := hGk hS
            refine lv_iconst (v := 0) hx hb dX7_room_70 (by decide) ?_
            exact hrt (fun _ => 0) _ _ ((0)) w14 w15 w16 w17 _ _ dX7_room_71 h (hP.sub [0, 1, 2, 3, 4] rfl) (hD.sub [0, 1, 2, 3, 4] (by decide) rfl) hS
          · have h := itn c8 h
            refine lv_bipush (v := -5) hx hb dX7_room_45 (by decide) ?_
            exact hrt (fun _ => 0) _ _ ((-5)) t_now_rows t_now_sizes t_now_rooms t_now_acts _ _ dX7_room_47 h (hP.sub [0, 1, 2, 3, 4] rfl) (hD.sub [0, 1, 2, 3, 4] (by decide) rfl) hS
      · have h := itn c3 h
        refine lv_bipush (v := -2) hx hb dX7_room_21 (by decide) ?_
        exact hrt (fun _ => 0) _ _ ((-2)) t_now_rows t_now_sizes t_now_rooms t_now_acts _ _ dX7_room_23 h (hP.sub [0, 1, 2, 3, 4] rfl) (hD.sub [0, 1, 2, 3, 4] (by decide) rfl) hS
-- X7_whirl
theorem dX7_whirl_0 : decode cX7_whirl 0 = .ok (.aload_n 0, 1) := by decide +kernel
theorem dX7_whirl_1 : decode cX7_whirl 1 = .ok (.getfield 30, 3) := by decide +kernel
theorem dX7_whirl_4 : decode cX7_whirl 4 = .ok (.getfield 139, 3) := by decide +kernel
theorem dX7_whirl_7 : decode cX7_whirl 7 = .ok (.ifCond .eq 13, 3) := by decide +kernel
theorem dX7_whirl_10 : decode cX7_whirl 10 = .ok (.iload_n 1, 1) := by decide +kernel
theorem dX7_whirl_11 : decode cX7_whirl 11 = .ok (.iconst 1, 1) := by decide +kernel
theorem dX7_whirl_12 : decode cX7_whirl 12 = .ok (.if_icmp .lt 8, 3) := by decide +kernel
theorem dX7_whirl_15 : decode cX7_whirl 15 = .ok (.iload_n 1, 1) := by decide +kernel
theorem dX7_whirl_16 : decode cX7_whirl 16 = .ok (.iconst 3, 1) := by decide +kernel
theorem dX7_whirl_17 : decode cX7_whirl 17 = .ok (.if_icmp .le 6, 3) := by decide +kernel
theorem dX7_whirl_20 : decode cX7_whirl 20 = .ok (.bipush (-2), 2) := by decide +kernel
theorem dX7_whirl_22 : decode cX7_whirl 22 = .ok (.ireturn, 1) := by decide +kernel
theorem dX7_whirl_23 : decode cX7_whirl 23 = .ok (.aload_n 0, 1) := by decide +kernel
theorem dX7_whirl_24 : decode cX7_whirl 24 = .ok (.getfield 30, 3) := by decide +kernel
theorem dX7_whirl_27 : decode cX7_whirl 27 = .ok (.invokevirtual 97, 3) := by decide +kernel
theorem dX7_whirl_30 : decode cX7_whirl 30 = .ok (.istore_n 2, 1) := by decide +kernel
theorem dX7_whirl_31 : decode cX7_whirl 31 = .ok (.iload_n 2, 1) := by decide +kernel
theorem dX7_whirl_32 : decode cX7_whirl 32 = .ok (.ifCond .eq 13, 3) := by decide +kernel
theorem dX7_whirl_35 : decode cX7_whirl 35 = .ok (.aload_n 0, 1) := by decide +kernel
theorem dX7_whirl_36 : decode cX7_whirl 36 = .ok (.getfield 30, 3) := by decide +kernel
theorem dX7_whirl_39 : decode cX7_whirl 39 = .ok (.invokevirtual 326, 3) := by decide +kernel
theorem dX7_whirl_42 : decode cX7_whirl 42 = .ok (.ifCond .eq 6, 3) := by decide +kernel
theorem dX7_whirl_45 : decode cX7_whirl 45 = .ok (.bipush (-5), 2) := by decide +kernel
theorem dX7_whirl_47 : decode cX7_whirl 47 = .ok (.ireturn, 1) := by decide +kernel
theorem dX7_whirl_48 : decode cX7_whirl 48 = .ok (.aload_n 0, 1) := by decide +kernel
theorem dX7_whirl_49 : decode cX7_whirl 49 = .ok (.getfield 30, 3) := by decide +kernel
theorem dX7_whirl_52 : decode cX7_whirl 52 = .ok (.aload_n 0, 1) := by decide +kernel
theorem dX7_whirl_53 : decode cX7_whirl 53 = .ok (.getfield 30, 3) := by decide +kernel
theorem dX7_whirl_56 : decode cX7_whirl 56 = .ok (.invokevirtual 132, 3) := by decide +kernel
theorem dX7_whirl_59 : decode cX7_whirl 59 = .ok (.iload_n 2, 1) := by decide +kernel
theorem dX7_whirl_60 : decode cX7_whirl 60 = .ok (.iload_n 1, 1) := by decide +kernel
theorem dX7_whirl_61 : decode cX7_whirl 61 = .ok (.invokestatic 351, 3) := by decide +kernel
theorem dX7_whirl_64 : decode cX7_whirl 64 = .ok (.iload_n 2, 1) := by decide +kernel
theorem dX7_whirl_65 : decode cX7_whirl 65 = .ok (.aload_n 0, 1) := by decide +kernel
theorem dX7_whirl_66 : decode cX7_whirl 66 = .ok (.getfield 30, 3) := by decide +kernel
theorem dX7_whirl_69 : decode cX7_whirl 69 = .ok (.invokevirtual 90, 3) := by decide +kernel
theorem dX7_whirl_72 : decode cX7_whirl 72 = .ok (.invokevirtual 332, 3) := by decide +kernel
theorem dX7_whirl_75 : decode cX7_whirl 75 = .ok (.iload_n 2, 1) := by decide +kernel
theorem dX7_whirl_76 : decode cX7_whirl 76 = .ok (.ireturn, 1) := by decide +kernel
noncomputable def fX7_whirl  (t_now_rows : Nat → Int32) (t_now_sizes : Nat → Int32) (t_now_rooms : Nat → Int32) (t_now_told : Int32) (t_now_acts : Int32) (v1 : Int32) : Option (Int32 × (Nat → Int32) × (Nat → Int32) × (Nat → Int32) × Int32) := (if t_now_told = 0 then some ((-2), t_now_rows, t_now_sizes, t_now_rooms, t_now_acts) else (if v1 < 1 then some ((-2), t_now_rows, t_now_sizes, t_now_rooms, t_now_acts) else (if v1 ≤ 3 then (fX1_plies t_now_sizes t_now_acts).bind fun r4 => (if r4 = 0 then some ((-5), t_now_rows, t_now_sizes, t_now_rooms, t_now_acts) else (if (fX1_isFull t_now_acts) = 0 then (fX1_row t_now_rows t_now_acts).bind fun r9 => (fX3_whirled r9 r4 v1).bind fun r11 => (fX1_roomNow t_now_rooms t_now_acts).bind fun r13 => ob4 (fX1_act t_now_rows t_now_sizes t_now_rooms t_now_acts r11 r4 r13) fun w16 w17 w18 w19 => some (r4, w16, w17, w18, w19) else some ((-5), t_now_rows, t_now_sizes, t_now_rooms, t_now_acts))) else some ((-2), t_now_rows, t_now_sizes, t_now_rooms, t_now_acts))))
set_option maxHeartbeats 4000000 in
set_option maxRecDepth 100000 in
theorem ctX7_whirl (l : Launch) (g : GT) (sz : Nat) (a_t : Nat → Nat) (a_t_tape : Nat → Nat) (a_t_reader : Nat → Nat) (a_t_now : Nat → Nat) (a_t_choices : Nat → Nat) (a_t_ways : Nat → Nat) (a_t_stress : Nat → Nat) (t_now_told : Int32) (t_now_lines : Int32) (t_now_kinds : Int32) (t_now_acts : Int32) (t_now_rows : Nat → Int32) (t_now_sizes : Nat → Int32) (t_now_rooms : Nat → Int32) (v1 : Int32) (o : Int32) (o_t_now_rows : Nat → Int32) (o_t_now_sizes : Nat → Int32) (o_t_now_rooms : Nat → Int32) (o_t_now_acts : Int32) (h : fX7_whirl t_now_rows t_now_sizes t_now_rooms t_now_told t_now_acts v1 = some (o, o_t_now_rows, o_t_now_sizes, o_t_now_rooms, o_t_now_acts)) : Met l yX7_whirl (Cond.code yX7_whirl cX7_whirl 3 (some .int) :: Tw) ⟨2, 0, 0, 48⟩ (va_Pc [.ref ((a_t 0)), .int v1] (rwB g [((a_t 0), .inr (6, [.ref (a_t_tape 0), .ref (a_t_reader 0), .ref (a_t_now 0), .ref (a_t 4), .ref (a_t_choices 0), .ref (a_t_ways 0), .ref (a_t_stress 0)])), ((a_t_now 0), .inr (1, [.ref (a_t_now 1), .ref (a_t_now 2), .ref (a_t_now 3), .ref (a_t_now 4), .ref (a_t_now 5), .int t_now_told, .int t_now_lines, .int t_now_kinds, .int t_now_acts])), ((a_t_now 3), .inl (g.2.2.1 0, 31, .inl t_now_rows)), ((a_t_now 4), .inl (g.2.2.1 0, 31, .inl t_now_sizes)), ((a_t_now 5), .inl (g.2.2.1 0, 31, .inl t_now_rooms))] sz)) (va_Qi (fun x (_ : Nat → Nat) => x = o) (fun u => rwE g (va_A [((a_t 0), .inr (6, [.ref (a_t_tape 0), .ref (a_t_reader 0), .ref (a_t_now 0), .ref (a_t 4), .ref (a_t_choices 0), .ref (a_t_ways 0), .ref (a_t_stress 0)])), ((a_t_now 0), .inr (1, [.ref (a_t_now 1), .ref (a_t_now 2), .ref (a_t_now 3), .ref (a_t_now 4), .ref (a_t_now 5), .int t_now_told, .int t_now_lines, .int t_now_kinds, .int t_now_acts])), ((a_t_now 3), .inl (g.2.2.1 0, 31, .inl t_now_rows)), ((a_t_now 4), .inl (g.2.2.1 0, 31, .inl t_now_sizes)), ((a_t_now 5), .inl (g.2.2.1 0, 31, .inl t_now_rooms))] sz) [((a_t 0), .inr (6, [.ref (a_t_tape 0), .ref (a_t_reader 0), .ref (a_t_now 0), .ref (a_t 4), .ref (a_t_choices 0), .ref (a_t_ways 0), .ref (a_t_stress 0)])), ((a_t_now 0), .inr (1, [.ref (a_t_now 1), .ref (a_t_now 2), .ref (a_t_now 3), .ref (a_t_now 4), .ref (a_t_now 5), .int t_now_told, .int t_now_lines, .int t_now_kinds, .int o_t_now_acts])), ((a_t_now 3), .inl (g.2.2.1 0, 31, .inl o_t_now_rows)), ((a_t_now 4), .inl (g.2.2.1 0, 31, .inl o_t_now_sizes)), ((a_t_now 5), .inl (g.2.2.1 0, 31, .inl o_t_now_rooms))]) (va_A [((a_t 0), .inr (6, [.ref (a_t_tape 0), .ref (a_t_reader 0), .ref (a_t_now 0), .ref (a_t 4), .ref (a_t_choices 0), .ref (a_t_ways 0), .ref (a_t_stress 0)])), ((a_t_now 0), .inr (1, [.ref (a_t_now 1), .ref (a_t_now 2), .ref (a_t_now 3), .ref (a_t_now 4), .ref (a_t_now 5), .int t_now_told, .int t_now_lines, .int t_now_kinds, .int t_now_acts])), ((a_t_now 3), .inl (g.2.2.1 0, 31, .inl t_now_rows)), ((a_t_now 4), .inl (g.2.2.1 0, 31, .inl t_now_sizes)), ((a_t_now 5), .inl (g.2.2.1 0, 31, .inl t_now_rooms))] sz)) 0 0 (va_A [((a_t 0), .inr (6, [.ref (a_t_tape 0), .ref (a_t_reader 0), .ref (a_t_now 0), .ref (a_t 4), .ref (a_t_choices 0), .ref (a_t_ways 0), .ref (a_t_stress 0)])), ((a_t_now 0), .inr (1, [.ref (a_t_now 1), .ref (a_t_now 2), .ref (a_t_now 3), .ref (a_t_now 4), .ref (a_t_now 5), .int t_now_told, .int t_now_lines, .int t_now_kinds, .int t_now_acts])), ((a_t_now 3), .inl (g.2.2.1 0, 31, .inl t_now_rows)), ((a_t_now 4), .inl (g.2.2.1 0, 31, .inl t_now_sizes)), ((a_t_now 5), .inl (g.2.2.1 0, 31, .inl t_now_rooms))] sz) := by
  refine rw_meti (by decide) (Nat.le_of_ble_eq_true rfl) (lv0 := [(0, .ref ((a_t 0))), (1, .int v1)]) rfl ?_
  intro p e s m args below meth c ls Q A cx hret hG hAb hb0 hA hP hD hl
  have hx := cx.1
  have hb := cx.2.1
  have hG0 := hG
  have hGk : ∀ {H : Heap} {locs : List Loc}, va_S A s.heap H locs → GE g s H := fun hS => hG0.keptS hAb hS
  have hSb : ∀ {H : Heap} {locs : List Loc}, va_S A s.heap H locs → va_S (fun a => g.1 ≤ a) s.heap H locs := fun hS => ⟨hS.1, fun q h1 h2 => hS.2.1 q h1 (fun z => h2 (hAb q z)), fun l hl => hAb _ (hS.2.2 l hl)⟩
  have hS : va_S A s.heap s.heap [] := va_S.rf
  have hrt : ∀ (u : Nat → Nat) (pc : Nat) (ls : Array Slot) (v : Int32) (x_t_now_rows : Nat → Int32) (x_t_now_sizes : Nat → Int32) (x_t_now_rooms : Nat → Int32) (x_t_now_acts : Int32) (H : Heap) (locs : List Loc), decode cX7_whirl pc = .ok (.ireturn, 1) → some (v, x_t_now_rows, x_t_now_sizes, x_t_now_rooms, x_t_now_acts) = some (o, o_t_now_rows, o_t_now_sizes, o_t_now_rooms, o_t_now_acts) → va_P g.2.1 vwCl [((a_t 0), .inr (6, [.ref (a_t_tape 0), .ref (a_t_reader 0), .ref (a_t_now 0), .ref (a_t 4), .ref (a_t_choices 0), .ref (a_t_ways 0), .ref (a_t_stress 0)])), ((a_t_now 0), .inr (1, [.ref (a_t_now 1), .ref (a_t_now 2), .ref (a_t_now 3), .ref (a_t_now 4), .ref (a_t_now 5), .int t_now_told, .int t_now_lines, .int t_now_kinds, .int x_t_now_acts])), ((a_t_now 3), .inl (g.2.2.1 0, 31, .inl x_t_now_rows)), ((a_t_now 4), .inl (g.2.2.1 0, 31, .inl x_t_now_sizes)), ((a_t_now 5), .inl (g.2.2.1 0, 31, .inl x_t_now_rooms))] H → va_D A [((a_t 0), .inr (6, [.ref (a_t_tape 0), .ref (a_t_reader 0), .ref (a_t_now 0), .ref (a_t 4), .ref (a_t_choices 0), .ref (a_t_ways 0), .ref (a_t_stress 0)])), ((a_t_now 0), .inr (1, [.ref (a_t_now 1), .ref (a_t_now 2), .ref (a_t_now 3), .ref (a_t_now 4), .ref (a_t_now 5), .int t_now_told, .int t_now_lines, .int t_now_kinds, .int x_t_now_acts])), ((a_t_now 3), .inl (g.2.2.1 0, 31, .inl x_t_now_rows)), ((a_t_now 4), .inl (g.2.2.1 0, 31, .inl x_t_now_sizes)), ((a_t_now 5), .inl (g.2.2.1 0, 31, .inl x_t_now_rooms))] → va_S A s.heap H locs → W p l e ⟨2, 0, 0, 48⟩ s m args below meth c H locs 0 0 Q (F0 m pc ls [.int v]) := by
    intro u pc ls v x_t_now_rows x_t_now_sizes x_t_now_rooms x_t_now_acts H locs hd h hP hD hS
    cases h
    exact hret u _ _ _ _ _ hd rfl hP hD hS
  unfold fX7_whirl at h
  refine lv_aload_n hx hb dX7_whirl_0 rfl (lv_at hl 0 rfl) ?_
  refine xa_get (C := RX7) (T := TX7) (N := 7) cx hG hP 0 rfl rfl uX7 2 (by decide) lf_X7_30 rfl dX7_whirl_1 ?_
  refine xa_getN (C := RX1) (T := TX1) (N := 9) cx hG hP 1 rfl rfl uX1 5 (by decide) nf_5 rfl dX7_whirl_4 ?_
  refine lv_if_eq (tgt := 20) hx hb dX7_whirl_7 (by decide) (fun c1 => ?_) (fun c1 => ?_)
  · have h := itp c1 h
    refine lv_bipush (v := -2) hx hb dX7_whirl_20 (by decide) ?_
    exact hrt (fun _ => 0) _ _ ((-2)) t_now_rows t_now_sizes t_now_rooms t_now_acts _ _ dX7_whirl_22 h (hP.sub [0, 1, 2, 3, 4] rfl) (hD.sub [0, 1, 2, 3, 4] (by decide) rfl) hS
  · have h := itn c1 h
    refine lv_iload_n hx hb dX7_whirl_10 rfl (lv_at hl 1 rfl) ?_
    refine lv_iconst (v := 1) hx hb dX7_whirl_11 (by decide) ?_
    refine lv_icmp_lt (tgt := 20) hx hb dX7_whirl_12 (by decide) (fun c2 => ?_) (fun c2 => ?_)
    · have h := itp c2 h
      refine lv_bipush (v := -2) hx hb dX7_whirl_20 (by decide) ?_
      exact hrt (fun _ => 0) _ _ ((-2)) t_now_rows t_now_sizes t_now_rooms t_now_acts _ _ dX7_whirl_22 h (hP.sub [0, 1, 2, 3, 4] rfl) (hD.sub [0, 1, 2, 3, 4] (by decide) rfl) hS
    · have h := itn c2 h
      refine lv_iload_n hx hb dX7_whirl_15 rfl (lv_at hl 1 rfl) ?_
      refine lv_iconst (v := 3) hx hb dX7_whirl_16 (by decide) ?_
      refine lv_icmp_le (tgt := 23) hx hb dX7_whirl_17 (by decide) (fun c3 => ?_) (fun c3 => ?_)
      · have h := itp c3 h
        refine lv_aload_n hx hb dX7_whirl_23 rfl (lv_at hl 0 rfl) ?_
        refine xa_get (C := RX7) (T := TX7) (N := 7) cx hG hP 0 rfl rfl uX7 2 (by decide) lf_X7_30 rfl dX7_whirl_24 ?_
        obtain ⟨r4, hr5, h⟩ := bnd h
        refine ro_i (runVN (As := []) (rest := []) hG cx hl.1 (ctX1_plies l g a_t_now t_now_told t_now_lines t_now_kinds t_now_acts t_now_sizes r4 hr5) kmX1_plies kvX1_plies nm_17 ⟨rfl, rfl⟩ ⟨Nat.le_of_ble_eq_true rfl, Nat.le_of_ble_eq_true rfl⟩ (roV (q0 := 1) (ci := 1) hG (hP.sub [1, 3] rfl) hP rfl rfl) rfl rfl (Nat.le_of_ble_eq_true rfl) dX7_whirl_27 ⟨Nat.le_of_ble_eq_true rfl, Nat.le_of_ble_eq_true rfl⟩) ?_
        refine lv_istore_n (lv' := [(2, .int r4), (0, .ref ((a_t 0))), (1, .int v1)]) hx hb dX7_whirl_30 rfl hl (by decide) rfl (fun ls hl => ?_)
        refine lv_iload_n hx hb dX7_whirl_31 rfl (lv_at hl 0 rfl) ?_
        refine lv_if_eq (tgt := 45) hx hb dX7_whirl_32 (by decide) (fun c6 => ?_) (fun c6 => ?_)
        · have h := itp c6 h
          refine lv_bipush (v := -5) hx hb dX7_whirl_45 (by decide) ?_
          exact hrt (fun _ => 0) _ _ ((-5)) t_now_rows t_now_sizes t_now_rooms t_now_acts _ _ dX7_whirl_47 h (hP.sub [0, 1, 2, 3, 4] rfl) (hD.sub [0, 1, 2, 3, 4] (by decide) rfl) hS
        · have h := itn c6 h
          refine lv_aload_n hx hb dX7_whirl_35 rfl (lv_at hl 1 rfl) ?_
          refine xa_get (C := RX7) (T := TX7) (N := 7) cx hG hP 0 rfl rfl uX7 2 (by decide) lf_X7_30 rfl dX7_whirl_36 ?_
          refine ro_z (runVN (As := []) (rest := []) hG cx hl.1 (ctX1_isFull l g a_t_now t_now_told t_now_lines t_now_kinds t_now_acts (fX1_isFull t_now_acts) rfl) kmX1_isFull kvX1_isFull nm_96 ⟨rfl, rfl⟩ ⟨Nat.le_of_ble_eq_true rfl, Nat.le_of_ble_eq_true rfl⟩ (roV (q0 := 1) (ci := 1) hG (hP.sub [1] rfl) hP rfl rfl) rfl rfl (Nat.le_of_ble_eq_true rfl) dX7_whirl_39 ⟨Nat.le_of_ble_eq_true rfl, Nat.le_of_ble_eq_true rfl⟩) (fun hz7 => ?_)
          refine lv_if_eq (tgt := 48) hx hb dX7_whirl_42 (by decide) (fun c8 => ?_) (fun c8 => ?_)
          · have h := itp c8 h
            refine lv_aload_n hx hb dX7_whirl_48 rfl (lv_at hl 1 rfl) ?_
            refine xa_get (C := RX7) (T := TX7) (N := 7) cx hG hP 0 rfl rfl uX7 2 (by decide) lf_X7_30 rfl dX7_whirl_49 ?_
            refine lv_aload_n hx hb dX7_whirl_52 rfl (lv_at hl 1 rfl) ?_
            refine xa_get (C := RX7) (T := TX7) (N := 7) cx hG hP 0 rfl rfl uX7 2 (by decide) lf_X7_30 rfl dX7_whirl_53 ?_
            obtain ⟨r9, hr10, h⟩ := bnd h
            refine ro_i (runVN (As := []) (rest := [.ref ((a_t_now 0))]) hG cx hl.1 (ctX1_row l g a_t_now t_now_told t_now_lines t_now_kinds t_now_acts t_now_rows r9 hr10) kmX1_row kvX1_row nm_25 ⟨rfl, rfl⟩ ⟨Nat.le_of_ble_eq_true rfl, Nat.le_of_ble_eq_true rfl⟩ (roV (q0 := 1) (ci := 1) hG (hP.sub [1, 2] rfl) hP rfl rfl) rfl rfl (Nat.le_of_ble_eq_true rfl) dX7_whirl_56 ⟨Nat.le_of_ble_eq_true rfl, Nat.le_of_ble_eq_true rfl⟩) ?_
            refine lv_iload_n hx hb dX7_whirl_59 rfl (lv_at hl 0 rfl) ?_
            refine lv_iload_n hx hb dX7_whirl_60 rfl (lv_at hl 2 rfl) ?_
            obtain ⟨r11, hr12, h⟩ := bnd h
            refine ro_i (runSN (As := [.int r9, .int r4, .int v1]) (rest := [.ref ((a_t_now 0))]) hG cx hl.1 (ctX3_whirled l g r9 r4 v1 r11 hr12) kmX3_whirled ksX3_whirled nm_101 ⟨rfl, rfl⟩ ⟨Nat.le_of_ble_eq_true rfl, Nat.le_of_ble_eq_true rfl⟩ (roS hG (hP.sub [] rfl)) rfl rfl (Nat.le_of_ble_eq_true rfl) dX7_whirl_61 ⟨Nat.le_of_ble_eq_true rfl, Nat.le_of_ble_eq_true rfl⟩) ?_
            refine lv_iload_n hx hb dX7_whirl_64 rfl (lv_at hl 0 rfl) ?_
            refine lv_aload_n hx hb dX7_whirl_65 rfl (lv_at hl 1 rfl) ?_
            refine xa_get (C := RX7) (T := TX7) (N := 7) cx hG hP 0 rfl rfl uX7 2 (by decide) lf_X7_30 rfl dX7_whirl_66 ?_
            obtain ⟨r13, hr14, h⟩ := bnd h
            refine ro_i (runVN (As := []) (rest := [.int r4, .int r11, .ref ((a_t_now 0))]) hG cx hl.1 (ctX1_roomNow l g a_t_now t_now_told t_now_lines t_now_kinds t_now_acts t_now_rooms r13 hr14) kmX1_roomNow kvX1_roomNow nm_16 ⟨rfl, rfl⟩ ⟨Nat.le_of_ble_eq_true rfl, Nat.le_of_ble_eq_true rfl⟩ (roV (q0 := 1) (ci := 1) hG (hP.sub [1, 4] rfl) hP rfl rfl) rfl rfl (Nat.le_of_ble_eq_true rfl) dX7_whirl_69 ⟨Nat.le_of_ble_eq_true rfl, Nat.le_of_ble_eq_true rfl⟩) ?_
            obtain ⟨w16, w17, w18, w19, hr15, h⟩ := ob4_out h
            refine rw_v (WN := fun u20 => [((a_t 0), .inr (6, [.ref (a_t_tape 0), .ref (a_t_reader 0), .ref (a_t_now 0), .ref (a_t 4), .ref (a_t_choices 0), .ref (a_t_ways 0), .ref (a_t_stress 0)])), ((a_t_now 0), .inr (1, [.ref (a_t_now 1), .ref (a_t_now 2), .ref (a_t_now 3), .ref (a_t_now 4), .ref (a_t_now 5), .int t_now_told, .int t_now_lines, .int t_now_kinds, .int w19])), ((a_t_now 3), .inl (g.2.2.1 0, 31, .inl w16)), ((a_t_now 4), .inl (g.2.2.1 0, 31, .inl w17)), ((a_t_now 5), .inl (g.2.2.1 0, 31, .inl w18))]) (wr := [((a_t 0), .inr (6, [.ref (a_t_tape 0), .ref (a_t_reader 0), .ref (a_t_now 0), .ref (a_t 4), .ref (a_t_choices 0), .ref (a_t_ways 0), .ref (a_t_stress 0)]))]) (runVN (As := [.int r11, .int r4, .int r13]) (rest := []) hG cx hl.1 (ctX1_act l g s.heap.size a_t_now t_now_told t_now_lines t_now_kinds t_now_acts t_now_rows t_now_sizes t_now_rooms r11 r4 r13 w16 w17 w18 w19 hr15) kmX1_act kvX1_act nm_98 ⟨rfl, rfl⟩ ⟨Nat.le_of_ble_eq_true rfl, Nat.le_of_ble_eq_true rfl⟩ (rwV (q0 := 1) (ci := 1) hG (hP.sub [1, 2, 3, 4] rfl) (hD.sub [1, 2, 3, 4] (by decide) rfl) hAb hb0 hS hP rfl rfl) rfl rfl (Nat.le_of_ble_eq_true rfl) dX7_whirl_72 ⟨Nat.le_of_ble_eq_true rfl, Nat.le_of_ble_eq_true rfl⟩) hP hD hS hA [1, 2, 3, 4] [0] rfl rfl (by decide) (by decide) (fun _ => rfl) (fun u20 H locs hP hD hS => ?_)
            have hG := hGk hS
            refine lv_iload_n hx hb dX7_whirl_75 rfl (lv_at hl 0 rfl) ?_
            exact hrt (fun _ => 0) _ _ r4 w16 w17 w18 w19 _ _ dX7_whirl_76 h (hP.sub [0, 1, 2, 3, 4] rfl) (hD.sub [0, 1, 2, 3, 4] (by decide) rfl) hS
          · have h := itn c8 h
            refine lv_bipush (v := -5) hx hb dX7_whirl_45 (by decide) ?_
            exact hrt (fun _ => 0) _ _ ((-5)) t_now_rows t_now_sizes t_now_rooms t_now_acts _ _ dX7_whirl_47 h (hP.sub [0, 1, 2, 3, 4] rfl) (hD.sub [0, 1, 2, 3, 4] (by decide) rfl) hS
      · have h := itn c3 h
        refine lv_bipush (v := -2) hx hb dX7_whirl_20 (by decide) ?_
        exact hrt (fun _ => 0) _ _ ((-2)) t_now_rows t_now_sizes t_now_rooms t_now_acts _ _ dX7_whirl_22 h (hP.sub [0, 1, 2, 3, 4] rfl) (hD.sub [0, 1, 2, 3, 4] (by decide) rfl) hS
-- X7_upset
theorem dX7_upset_0 : decode cX7_upset 0 = .ok (.aload_n 0, 1) := by decide +kernel
theorem dX7_upset_1 : decode cX7_upset 1 = .ok (.getfield 30, 3) := by decide +kernel
theorem dX7_upset_4 : decode cX7_upset 4 = .ok (.getfield 139, 3) := by decide +kernel
theorem dX7_upset_7 : decode cX7_upset 7 = .ok (.ifCond .eq 27, 3) := by decide +kernel
theorem dX7_upset_10 : decode cX7_upset 10 = .ok (.aload_n 0, 1) := by decide +kernel
theorem dX7_upset_11 : decode cX7_upset 11 = .ok (.aload_n 0, 1) := by decide +kernel
theorem dX7_upset_12 : decode cX7_upset 12 = .ok (.getfield 30, 3) := by decide +kernel
theorem dX7_upset_15 : decode cX7_upset 15 = .ok (.invokevirtual 132, 3) := by decide +kernel
theorem dX7_upset_18 : decode cX7_upset 18 = .ok (.aload_n 0, 1) := by decide +kernel
theorem dX7_upset_19 : decode cX7_upset 19 = .ok (.getfield 30, 3) := by decide +kernel
theorem dX7_upset_22 : decode cX7_upset 22 = .ok (.invokevirtual 97, 3) := by decide +kernel
theorem dX7_upset_25 : decode cX7_upset 25 = .ok (.invokestatic 354, 3) := by decide +kernel
theorem dX7_upset_28 : decode cX7_upset 28 = .ok (.invokevirtual 348, 3) := by decide +kernel
theorem dX7_upset_31 : decode cX7_upset 31 = .ok (.goto 5, 3) := by decide +kernel
theorem dX7_upset_34 : decode cX7_upset 34 = .ok (.bipush (-2), 2) := by decide +kernel
theorem dX7_upset_36 : decode cX7_upset 36 = .ok (.ireturn, 1) := by decide +kernel
noncomputable def fX7_upset  (t_now_rows : Nat → Int32) (t_now_sizes : Nat → Int32) (t_now_rooms : Nat → Int32) (t_now_told : Int32) (t_now_acts : Int32) : Option (Int32 × (Nat → Int32) × (Nat → Int32) × (Nat → Int32) × Int32) := (if t_now_told = 0 then some ((-2), t_now_rows, t_now_sizes, t_now_rooms, t_now_acts) else (fX1_row t_now_rows t_now_acts).bind fun r2 => (fX1_plies t_now_sizes t_now_acts).bind fun r4 => (fX3_overturned r2 r4).bind fun r6 => ob5 (fX7_relay t_now_rows t_now_sizes t_now_rooms t_now_acts r6) fun r9 w10 w11 w12 w13 => some (r9, w10, w11, w12, w13))
set_option maxHeartbeats 4000000 in
set_option maxRecDepth 100000 in
theorem ctX7_upset (l : Launch) (g : GT) (sz : Nat) (a_t : Nat → Nat) (a_t_tape : Nat → Nat) (a_t_reader : Nat → Nat) (a_t_now : Nat → Nat) (a_t_choices : Nat → Nat) (a_t_ways : Nat → Nat) (a_t_stress : Nat → Nat) (t_now_told : Int32) (t_now_lines : Int32) (t_now_kinds : Int32) (t_now_acts : Int32) (t_now_rows : Nat → Int32) (t_now_sizes : Nat → Int32) (t_now_rooms : Nat → Int32) (o : Int32) (o_t_now_rows : Nat → Int32) (o_t_now_sizes : Nat → Int32) (o_t_now_rooms : Nat → Int32) (o_t_now_acts : Int32) (h : fX7_upset t_now_rows t_now_sizes t_now_rooms t_now_told t_now_acts = some (o, o_t_now_rows, o_t_now_sizes, o_t_now_rooms, o_t_now_acts)) : Met l yX7_upset (Cond.code yX7_upset cX7_upset 1 (some .int) :: Tw) ⟨3, 0, 0, 67⟩ (va_Pc [.ref ((a_t 0))] (rwB g [((a_t 0), .inr (6, [.ref (a_t_tape 0), .ref (a_t_reader 0), .ref (a_t_now 0), .ref (a_t 4), .ref (a_t_choices 0), .ref (a_t_ways 0), .ref (a_t_stress 0)])), ((a_t_now 0), .inr (1, [.ref (a_t_now 1), .ref (a_t_now 2), .ref (a_t_now 3), .ref (a_t_now 4), .ref (a_t_now 5), .int t_now_told, .int t_now_lines, .int t_now_kinds, .int t_now_acts])), ((a_t_now 3), .inl (g.2.2.1 0, 31, .inl t_now_rows)), ((a_t_now 4), .inl (g.2.2.1 0, 31, .inl t_now_sizes)), ((a_t_now 5), .inl (g.2.2.1 0, 31, .inl t_now_rooms))] sz)) (va_Qi (fun x (_ : Nat → Nat) => x = o) (fun u => rwE g (va_A [((a_t 0), .inr (6, [.ref (a_t_tape 0), .ref (a_t_reader 0), .ref (a_t_now 0), .ref (a_t 4), .ref (a_t_choices 0), .ref (a_t_ways 0), .ref (a_t_stress 0)])), ((a_t_now 0), .inr (1, [.ref (a_t_now 1), .ref (a_t_now 2), .ref (a_t_now 3), .ref (a_t_now 4), .ref (a_t_now 5), .int t_now_told, .int t_now_lines, .int t_now_kinds, .int t_now_acts])), ((a_t_now 3), .inl (g.2.2.1 0, 31, .inl t_now_rows)), ((a_t_now 4), .inl (g.2.2.1 0, 31, .inl t_now_sizes)), ((a_t_now 5), .inl (g.2.2.1 0, 31, .inl t_now_rooms))] sz) [((a_t 0), .inr (6, [.ref (a_t_tape 0), .ref (a_t_reader 0), .ref (a_t_now 0), .ref (a_t 4), .ref (a_t_choices 0), .ref (a_t_ways 0), .ref (a_t_stress 0)])), ((a_t_now 0), .inr (1, [.ref (a_t_now 1), .ref (a_t_now 2), .ref (a_t_now 3), .ref (a_t_now 4), .ref (a_t_now 5), .int t_now_told, .int t_now_lines, .int t_now_kinds, .int o_t_now_acts])), ((a_t_now 3), .inl (g.2.2.1 0, 31, .inl o_t_now_rows)), ((a_t_now 4), .inl (g.2.2.1 0, 31, .inl o_t_now_sizes)), ((a_t_now 5), .inl (g.2.2.1 0, 31, .inl o_t_now_rooms))]) (va_A [((a_t 0), .inr (6, [.ref (a_t_tape 0), .ref (a_t_reader 0), .ref (a_t_now 0), .ref (a_t 4), .ref (a_t_choices 0), .ref (a_t_ways 0), .ref (a_t_stress 0)])), ((a_t_now 0), .inr (1, [.ref (a_t_now 1), .ref (a_t_now 2), .ref (a_t_now 3), .ref (a_t_now 4), .ref (a_t_now 5), .int t_now_told, .int t_now_lines, .int t_now_kinds, .int t_now_acts])), ((a_t_now 3), .inl (g.2.2.1 0, 31, .inl t_now_rows)), ((a_t_now 4), .inl (g.2.2.1 0, 31, .inl t_now_sizes)), ((a_t_now 5), .inl (g.2.2.1 0, 31, .inl t_now_rooms))] sz)) 0 0 (va_A [((a_t 0), .inr (6, [.ref (a_t_tape 0), .ref (a_t_reader 0), .ref (a_t_now 0), .ref (a_t 4), .ref (a_t_choices 0), .ref (a_t_ways 0), .ref (a_t_stress 0)])), ((a_t_now 0), .inr (1, [.ref (a_t_now 1), .ref (a_t_now 2), .ref (a_t_now 3), .ref (a_t_now 4), .ref (a_t_now 5), .int t_now_told, .int t_now_lines, .int t_now_kinds, .int t_now_acts])), ((a_t_now 3), .inl (g.2.2.1 0, 31, .inl t_now_rows)), ((a_t_now 4), .inl (g.2.2.1 0, 31, .inl t_now_sizes)), ((a_t_now 5), .inl (g.2.2.1 0, 31, .inl t_now_rooms))] sz) := by
  refine rw_meti (by decide) (Nat.le_of_ble_eq_true rfl) (lv0 := [(0, .ref ((a_t 0)))]) rfl ?_
  intro p e s m args below meth c ls Q A cx hret hG hAb hb0 hA hP hD hl
  have hx := cx.1
  have hb := cx.2.1
  have hG0 := hG
  have hGk : ∀ {H : Heap} {locs : List Loc}, va_S A s.heap H locs → GE g s H := fun hS => hG0.keptS hAb hS
  have hSb : ∀ {H : Heap} {locs : List Loc}, va_S A s.heap H locs → va_S (fun a => g.1 ≤ a) s.heap H locs := fun hS => ⟨hS.1, fun q h1 h2 => hS.2.1 q h1 (fun z => h2 (hAb q z)), fun l hl => hAb _ (hS.2.2 l hl)⟩
  have hS : va_S A s.heap s.heap [] := va_S.rf
  have hrt : ∀ (u : Nat → Nat) (pc : Nat) (ls : Array Slot) (v : Int32) (x_t_now_rows : Nat → Int32) (x_t_now_sizes : Nat → Int32) (x_t_now_rooms : Nat → Int32) (x_t_now_acts : Int32) (H : Heap) (locs : List Loc), decode cX7_upset pc = .ok (.ireturn, 1) → some (v, x_t_now_rows, x_t_now_sizes, x_t_now_rooms, x_t_now_acts) = some (o, o_t_now_rows, o_t_now_sizes, o_t_now_rooms, o_t_now_acts) → va_P g.2.1 vwCl [((a_t 0), .inr (6, [.ref (a_t_tape 0), .ref (a_t_reader 0), .ref (a_t_now 0), .ref (a_t 4), .ref (a_t_choices 0), .ref (a_t_ways 0), .ref (a_t_stress 0)])), ((a_t_now 0), .inr (1, [.ref (a_t_now 1), .ref (a_t_now 2), .ref (a_t_now 3), .ref (a_t_now 4), .ref (a_t_now 5), .int t_now_told, .int t_now_lines, .int t_now_kinds, .int x_t_now_acts])), ((a_t_now 3), .inl (g.2.2.1 0, 31, .inl x_t_now_rows)), ((a_t_now 4), .inl (g.2.2.1 0, 31, .inl x_t_now_sizes)), ((a_t_now 5), .inl (g.2.2.1 0, 31, .inl x_t_now_rooms))] H → va_D A [((a_t 0), .inr (6, [.ref (a_t_tape 0), .ref (a_t_reader 0), .ref (a_t_now 0), .ref (a_t 4), .ref (a_t_choices 0), .ref (a_t_ways 0), .ref (a_t_stress 0)])), ((a_t_now 0), .inr (1, [.ref (a_t_now 1), .ref (a_t_now 2), .ref (a_t_now 3), .ref (a_t_now 4), .ref (a_t_now 5), .int t_now_told, .int t_now_lines, .int t_now_kinds, .int x_t_now_acts])), ((a_t_now 3), .inl (g.2.2.1 0, 31, .inl x_t_now_rows)), ((a_t_now 4), .inl (g.2.2.1 0, 31, .inl x_t_now_sizes)), ((a_t_now 5), .inl (g.2.2.1 0, 31, .inl x_t_now_rooms))] → va_S A s.heap H locs → W p l e ⟨3, 0, 0, 67⟩ s m args below meth c H locs 0 0 Q (F0 m pc ls [.int v]) := by
    intro u pc ls v x_t_now_rows x_t_now_sizes x_t_now_rooms x_t_now_acts H locs hd h hP hD hS
    cases h
    exact hret u _ _ _ _ _ hd rfl hP hD hS
  unfold fX7_upset at h
  refine lv_aload_n hx hb dX7_upset_0 rfl (lv_at hl 0 rfl) ?_
  refine xa_get (C := RX7) (T := TX7) (N := 7) cx hG hP 0 rfl rfl uX7 2 (by decide) lf_X7_30 rfl dX7_upset_1 ?_
  refine xa_getN (C := RX1) (T := TX1) (N := 9) cx hG hP 1 rfl rfl uX1 5 (by decide) nf_5 rfl dX7_upset_4 ?_
  refine lv_if_eq (tgt := 34) hx hb dX7_upset_7 (by decide) (fun c1 => ?_) (fun c1 => ?_)
  · have h := itp c1 h
    refine lv_bipush (v := -2) hx hb dX7_upset_34 (by decide) ?_
    exact hrt (fun _ => 0) _ _ ((-2)) t_now_rows t_now_sizes t_now_rooms t_now_acts _ _ dX7_upset_36 h (hP.sub [0, 1, 2, 3, 4] rfl) (hD.sub [0, 1, 2, 3, 4] (by decide) rfl) hS
  · have h := itn c1 h
    refine lv_aload_n hx hb dX7_upset_10 rfl (lv_at hl 0 rfl) ?_
    refine lv_aload_n hx hb dX7_upset_11 rfl (lv_at hl 0 rfl) ?_
    refine xa_get (C := RX7) (T := TX7) (N := 7) cx hG hP 0 rfl rfl uX7 2 (by decide) lf_X7_30 rfl dX7_upset_12 ?_
    obtain ⟨r2, hr3, h⟩ := bnd h
    refine ro_i (runVN (As := []) (rest := [.ref ((a_t 0))]) hG cx hl.1 (ctX1_row l g a_t_now t_now_told t_now_lines t_now_kinds t_now_acts t_now_rows r2 hr3) kmX1_row kvX1_row nm_25 ⟨rfl, rfl⟩ ⟨Nat.le_of_ble_eq_true rfl, Nat.le_of_ble_eq_true rfl⟩ (roV (q0 := 1) (ci := 1) hG (hP.sub [1, 2] rfl) hP rfl rfl) rfl rfl (Nat.le_of_ble_eq_true rfl) dX7_upset_15 ⟨Nat.le_of_ble_eq_true rfl, Nat.le_of_ble_eq_true rfl⟩) ?_
    refine lv_aload_n hx hb dX7_upset_18 rfl (lv_at hl 0 rfl) ?_
    refine xa_get (C := RX7) (T := TX7) (N := 7) cx hG hP 0 rfl rfl uX7 2 (by decide) lf_X7_30 rfl dX7_upset_19 ?_
    obtain ⟨r4, hr5, h⟩ := bnd h
    refine ro_i (runVN (As := []) (rest := [.int r2, .ref ((a_t 0))]) hG cx hl.1 (ctX1_plies l g a_t_now t_now_told t_now_lines t_now_kinds t_now_acts t_now_sizes r4 hr5) kmX1_plies kvX1_plies nm_17 ⟨rfl, rfl⟩ ⟨Nat.le_of_ble_eq_true rfl, Nat.le_of_ble_eq_true rfl⟩ (roV (q0 := 1) (ci := 1) hG (hP.sub [1, 3] rfl) hP rfl rfl) rfl rfl (Nat.le_of_ble_eq_true rfl) dX7_upset_22 ⟨Nat.le_of_ble_eq_true rfl, Nat.le_of_ble_eq_true rfl⟩) ?_
    obtain ⟨r6, hr7, h⟩ := bnd h
    refine ro_i (runSN (As := [.int r2, .int r4]) (rest := [.ref ((a_t 0))]) hG cx hl.1 (ctX3_overturned l g r2 r4 r6 hr7) kmX3_overturned ksX3_overturned nm_102 ⟨rfl, rfl⟩ ⟨Nat.le_of_ble_eq_true rfl, Nat.le_of_ble_eq_true rfl⟩ (roS hG (hP.sub [] rfl)) rfl rfl (Nat.le_of_ble_eq_true rfl) dX7_upset_25 ⟨Nat.le_of_ble_eq_true rfl, Nat.le_of_ble_eq_true rfl⟩) ?_
    obtain ⟨r9, w10, w11, w12, w13, hr8, h⟩ := ob5_out h
    refine rw_i (WN := fun u14 => [((a_t 0), .inr (6, [.ref (a_t_tape 0), .ref (a_t_reader 0), .ref (a_t_now 0), .ref (a_t 4), .ref (a_t_choices 0), .ref (a_t_ways 0), .ref (a_t_stress 0)])), ((a_t_now 0), .inr (1, [.ref (a_t_now 1), .ref (a_t_now 2), .ref (a_t_now 3), .ref (a_t_now 4), .ref (a_t_now 5), .int t_now_told, .int t_now_lines, .int t_now_kinds, .int w13])), ((a_t_now 3), .inl (g.2.2.1 0, 31, .inl w10)), ((a_t_now 4), .inl (g.2.2.1 0, 31, .inl w11)), ((a_t_now 5), .inl (g.2.2.1 0, 31, .inl w12))]) (wr := []) (runV (As := [.int r6]) (rest := []) cx hl.1 (ctX7_relay l g s.heap.size a_t a_t_tape a_t_reader a_t_now a_t_choices a_t_ways a_t_stress t_now_told t_now_lines t_now_kinds t_now_acts t_now_rows t_now_sizes t_now_rooms r6 r9 w10 w11 w12 w13 hr8) kmX7_relay kvX7_relay lm_X7_348 ⟨rfl, rfl⟩ ⟨Nat.le_of_ble_eq_true rfl, Nat.le_of_ble_eq_true rfl⟩ (rwV (q0 := 0) (ci := 6) hG (hP.sub [0, 1, 2, 3, 4] rfl) (hD.sub [0, 1, 2, 3, 4] (by decide) rfl) hAb hb0 hS hP rfl rfl) rfl rfl (Nat.le_of_ble_eq_true rfl) dX7_upset_28 ⟨Nat.le_of_ble_eq_true rfl, Nat.le_of_ble_eq_true rfl⟩) hP hD hS hA [0, 1, 2, 3, 4] [] rfl rfl (by decide) (by decide) (fun _ => rfl) (fun u14 H locs hP hD hS => ?_)
    have hG := hGk hS
    refine lv_goto (tgt := 36) hx hb dX7_upset_31 (by decide) ?_
    exact hrt (fun _ => 0) _ _ r9 w10 w11 w12 w13 _ _ dX7_upset_36 h (hP.sub [0, 1, 2, 3, 4] rfl) (hD.sub [0, 1, 2, 3, 4] (by decide) rfl) hS
-- X7_undo
theorem dX7_undo_0 : decode cX7_undo 0 = .ok (.aload_n 0, 1) := by decide +kernel
theorem dX7_undo_1 : decode cX7_undo 1 = .ok (.getfield 30, 3) := by decide +kernel
theorem dX7_undo_4 : decode cX7_undo 4 = .ok (.getfield 139, 3) := by decide +kernel
theorem dX7_undo_7 : decode cX7_undo 7 = .ok (.ifCond .ne 6, 3) := by decide +kernel
theorem dX7_undo_10 : decode cX7_undo 10 = .ok (.bipush (-2), 2) := by decide +kernel
theorem dX7_undo_12 : decode cX7_undo 12 = .ok (.ireturn, 1) := by decide +kernel
theorem dX7_undo_13 : decode cX7_undo 13 = .ok (.aload_n 0, 1) := by decide +kernel
theorem dX7_undo_14 : decode cX7_undo 14 = .ok (.getfield 30, 3) := by decide +kernel
theorem dX7_undo_17 : decode cX7_undo 17 = .ok (.getfield 100, 3) := by decide +kernel
theorem dX7_undo_20 : decode cX7_undo 20 = .ok (.ifCond .ne 6, 3) := by decide +kernel
theorem dX7_undo_23 : decode cX7_undo 23 = .ok (.bipush (-5), 2) := by decide +kernel
theorem dX7_undo_25 : decode cX7_undo 25 = .ok (.ireturn, 1) := by decide +kernel
theorem dX7_undo_26 : decode cX7_undo 26 = .ok (.aload_n 0, 1) := by decide +kernel
theorem dX7_undo_27 : decode cX7_undo 27 = .ok (.getfield 30, 3) := by decide +kernel
theorem dX7_undo_30 : decode cX7_undo 30 = .ok (.dup, 1) := by decide +kernel
theorem dX7_undo_31 : decode cX7_undo 31 = .ok (.getfield 100, 3) := by decide +kernel
theorem dX7_undo_34 : decode cX7_undo 34 = .ok (.iconst 1, 1) := by decide +kernel
theorem dX7_undo_35 : decode cX7_undo 35 = .ok (.isub, 1) := by decide +kernel
theorem dX7_undo_36 : decode cX7_undo 36 = .ok (.putfield 100, 3) := by decide +kernel
theorem dX7_undo_39 : decode cX7_undo 39 = .ok (.aload_n 0, 1) := by decide +kernel
theorem dX7_undo_40 : decode cX7_undo 40 = .ok (.getfield 30, 3) := by decide +kernel
theorem dX7_undo_43 : decode cX7_undo 43 = .ok (.getfield 100, 3) := by decide +kernel
theorem dX7_undo_46 : decode cX7_undo 46 = .ok (.ireturn, 1) := by decide +kernel
noncomputable def fX7_undo  (t_now_told : Int32) (t_now_acts : Int32) : Option (Int32 × Int32) := (if t_now_told = 0 then some ((-2), t_now_acts) else (if t_now_acts = 0 then some ((-5), t_now_acts) else some ((t_now_acts - 1), t_now_acts - 1)))
set_option maxHeartbeats 4000000 in
set_option maxRecDepth 100000 in
theorem ctX7_undo (l : Launch) (g : GT) (sz : Nat) (a_t : Nat → Nat) (a_t_tape : Nat → Nat) (a_t_reader : Nat → Nat) (a_t_now : Nat → Nat) (a_t_choices : Nat → Nat) (a_t_ways : Nat → Nat) (a_t_stress : Nat → Nat) (t_now_told : Int32) (t_now_lines : Int32) (t_now_kinds : Int32) (t_now_acts : Int32) (o : Int32) (o_t_now_acts : Int32) (h : fX7_undo t_now_told t_now_acts = some (o, o_t_now_acts)) : Met l yX7_undo (Cond.code yX7_undo cX7_undo 1 (some .int) :: Tw) ⟨0, 0, 0, 0⟩ (va_Pc [.ref ((a_t 0))] (rwB g [((a_t 0), .inr (6, [.ref (a_t_tape 0), .ref (a_t_reader 0), .ref (a_t_now 0), .ref (a_t 4), .ref (a_t_choices 0), .ref (a_t_ways 0), .ref (a_t_stress 0)])), ((a_t_now 0), .inr (1, [.ref (a_t_now 1), .ref (a_t_now 2), .ref (a_t_now 3), .ref (a_t_now 4), .ref (a_t_now 5), .int t_now_told, .int t_now_lines, .int t_now_kinds, .int t_now_acts]))] sz)) (va_Qi (fun x (_ : Nat → Nat) => x = o) (fun u => rwE g (va_A [((a_t 0), .inr (6, [.ref (a_t_tape 0), .ref (a_t_reader 0), .ref (a_t_now 0), .ref (a_t 4), .ref (a_t_choices 0), .ref (a_t_ways 0), .ref (a_t_stress 0)])), ((a_t_now 0), .inr (1, [.ref (a_t_now 1), .ref (a_t_now 2), .ref (a_t_now 3), .ref (a_t_now 4), .ref (a_t_now 5), .int t_now_told, .int t_now_lines, .int t_now_kinds, .int t_now_acts]))] sz) [((a_t 0), .inr (6, [.ref (a_t_tape 0), .ref (a_t_reader 0), .ref (a_t_now 0), .ref (a_t 4), .ref (a_t_choices 0), .ref (a_t_ways 0), .ref (a_t_stress 0)])), ((a_t_now 0), .inr (1, [.ref (a_t_now 1), .ref (a_t_now 2), .ref (a_t_now 3), .ref (a_t_now 4), .ref (a_t_now 5), .int t_now_told, .int t_now_lines, .int t_now_kinds, .int o_t_now_acts]))]) (va_A [((a_t 0), .inr (6, [.ref (a_t_tape 0), .ref (a_t_reader 0), .ref (a_t_now 0), .ref (a_t 4), .ref (a_t_choices 0), .ref (a_t_ways 0), .ref (a_t_stress 0)])), ((a_t_now 0), .inr (1, [.ref (a_t_now 1), .ref (a_t_now 2), .ref (a_t_now 3), .ref (a_t_now 4), .ref (a_t_now 5), .int t_now_told, .int t_now_lines, .int t_now_kinds, .int t_now_acts]))] sz)) 0 0 (va_A [((a_t 0), .inr (6, [.ref (a_t_tape 0), .ref (a_t_reader 0), .ref (a_t_now 0), .ref (a_t 4), .ref (a_t_choices 0), .ref (a_t_ways 0), .ref (a_t_stress 0)])), ((a_t_now 0), .inr (1, [.ref (a_t_now 1), .ref (a_t_now 2), .ref (a_t_now 3), .ref (a_t_now 4), .ref (a_t_now 5), .int t_now_told, .int t_now_lines, .int t_now_kinds, .int t_now_acts]))] sz) := by
  refine rw_meti (by decide) (Nat.le_of_ble_eq_true rfl) (lv0 := [(0, .ref ((a_t 0)))]) rfl ?_
  intro p e s m args below meth c ls Q A cx hret hG hAb hb0 hA hP hD hl
  have hx := cx.1
  have hb := cx.2.1
  have hG0 := hG
  have hGk : ∀ {H : Heap} {locs : List Loc}, va_S A s.heap H locs → GE g s H := fun hS => hG0.keptS hAb hS
  have hSb : ∀ {H : Heap} {locs : List Loc}, va_S A s.heap H locs → va_S (fun a => g.1 ≤ a) s.heap H locs := fun hS => ⟨hS.1, fun q h1 h2 => hS.2.1 q h1 (fun z => h2 (hAb q z)), fun l hl => hAb _ (hS.2.2 l hl)⟩
  have hS : va_S A s.heap s.heap [] := va_S.rf
  have hrt : ∀ (u : Nat → Nat) (pc : Nat) (ls : Array Slot) (v : Int32) (x_t_now_acts : Int32) (H : Heap) (locs : List Loc), decode cX7_undo pc = .ok (.ireturn, 1) → some (v, x_t_now_acts) = some (o, o_t_now_acts) → va_P g.2.1 vwCl [((a_t 0), .inr (6, [.ref (a_t_tape 0), .ref (a_t_reader 0), .ref (a_t_now 0), .ref (a_t 4), .ref (a_t_choices 0), .ref (a_t_ways 0), .ref (a_t_stress 0)])), ((a_t_now 0), .inr (1, [.ref (a_t_now 1), .ref (a_t_now 2), .ref (a_t_now 3), .ref (a_t_now 4), .ref (a_t_now 5), .int t_now_told, .int t_now_lines, .int t_now_kinds, .int x_t_now_acts]))] H → va_D A [((a_t 0), .inr (6, [.ref (a_t_tape 0), .ref (a_t_reader 0), .ref (a_t_now 0), .ref (a_t 4), .ref (a_t_choices 0), .ref (a_t_ways 0), .ref (a_t_stress 0)])), ((a_t_now 0), .inr (1, [.ref (a_t_now 1), .ref (a_t_now 2), .ref (a_t_now 3), .ref (a_t_now 4), .ref (a_t_now 5), .int t_now_told, .int t_now_lines, .int t_now_kinds, .int x_t_now_acts]))] → va_S A s.heap H locs → W p l e ⟨0, 0, 0, 0⟩ s m args below meth c H locs 0 0 Q (F0 m pc ls [.int v]) := by
    intro u pc ls v x_t_now_acts H locs hd h hP hD hS
    cases h
    exact hret u _ _ _ _ _ hd rfl hP hD hS
  unfold fX7_undo at h
  refine lv_aload_n hx hb dX7_undo_0 rfl (lv_at hl 0 rfl) ?_
  refine xa_get (C := RX7) (T := TX7) (N := 7) cx hG hP 0 rfl rfl uX7 2 (by decide) lf_X7_30 rfl dX7_undo_1 ?_
  refine xa_getN (C := RX1) (T := TX1) (N := 9) cx hG hP 1 rfl rfl uX1 5 (by decide) nf_5 rfl dX7_undo_4 ?_
  refine lv_if_ne (tgt := 13) hx hb dX7_undo_7 (by decide) (fun c1 => ?_) (fun c1 => ?_)
  · have h := itn c1 h
    refine lv_aload_n hx hb dX7_undo_13 rfl (lv_at hl 0 rfl) ?_
    refine xa_get (C := RX7) (T := TX7) (N := 7) cx hG hP 0 rfl rfl uX7 2 (by decide) lf_X7_30 rfl dX7_undo_14 ?_
    refine xa_getN (C := RX1) (T := TX1) (N := 9) cx hG hP 1 rfl rfl uX1 8 (by decide) nf_10 rfl dX7_undo_17 ?_
    refine lv_if_ne (tgt := 26) hx hb dX7_undo_20 (by decide) (fun c2 => ?_) (fun c2 => ?_)
    · have h := itn c2 h
      refine lv_aload_n hx hb dX7_undo_26 rfl (lv_at hl 0 rfl) ?_
      refine xa_get (C := RX7) (T := TX7) (N := 7) cx hG hP 0 rfl rfl uX7 2 (by decide) lf_X7_30 rfl dX7_undo_27 ?_
      refine lv_dup hx hb dX7_undo_30 rfl ?_
      refine xa_getN (C := RX1) (T := TX1) (N := 9) cx hG hP 1 rfl rfl uX1 8 (by decide) nf_10 rfl dX7_undo_31 ?_
      refine lv_iconst (v := 1) hx hb dX7_undo_34 (by decide) ?_
      refine lv_isub hx hb dX7_undo_35 ?_
      refine xw_putN (C := RX1) (T := TX1) (N := 9) (ty := .int) (v := .int (t_now_acts - 1)) (ws' := [((a_t 0), .inr (6, [.ref (a_t_tape 0), .ref (a_t_reader 0), .ref (a_t_now 0), .ref (a_t 4), .ref (a_t_choices 0), .ref (a_t_ways 0), .ref (a_t_stress 0)])), ((a_t_now 0), .inr (1, [.ref (a_t_now 1), .ref (a_t_now 2), .ref (a_t_now 3), .ref (a_t_now 4), .ref (a_t_now 5), .int t_now_told, .int t_now_lines, .int t_now_kinds, .int (t_now_acts - 1)]))]) cx hG hP hD hS 1 rfl rfl uX1 tyX1 tyX1_ok nmX1 8 (by decide) nf_10 rfl (by decide +kernel) rfl rfl (Nat.le_of_ble_eq_true rfl) rfl dX7_undo_36 (fun H locs hP hD hS => ?_)
      have hG := hGk hS
      refine lv_aload_n hx hb dX7_undo_39 rfl (lv_at hl 0 rfl) ?_
      refine xa_get (C := RX7) (T := TX7) (N := 7) cx hG hP 0 rfl rfl uX7 2 (by decide) lf_X7_30 rfl dX7_undo_40 ?_
      refine xa_getN (C := RX1) (T := TX1) (N := 9) cx hG hP 1 rfl rfl uX1 8 (by decide) nf_10 rfl dX7_undo_43 ?_
      exact hrt (fun _ => 0) _ _ ((t_now_acts - 1)) (t_now_acts - 1) _ _ dX7_undo_46 h (hP.sub [0, 1] rfl) (hD.sub [0, 1] (by decide) rfl) hS
    · have h := itp c2 h
      refine lv_bipush (v := -5) hx hb dX7_undo_23 (by decide) ?_
      exact hrt (fun _ => 0) _ _ ((-5)) t_now_acts _ _ dX7_undo_25 h (hP.sub [0, 1] rfl) (hD.sub [0, 1] (by decide) rfl) hS
  · have h := itp c1 h
    refine lv_bipush (v := -2) hx hb dX7_undo_10 (by decide) ?_
    exact hrt (fun _ => 0) _ _ ((-2)) t_now_acts _ _ dX7_undo_12 h (hP.sub [0, 1] rfl) (hD.sub [0, 1] (by decide) rfl) hS
-- X7_anew
theorem dX7_anew_0 : decode cX7_anew 0 = .ok (.aload_n 0, 1) := by decide +kernel
theorem dX7_anew_1 : decode cX7_anew 1 = .ok (.getfield 30, 3) := by decide +kernel
theorem dX7_anew_4 : decode cX7_anew 4 = .ok (.getfield 139, 3) := by decide +kernel
theorem dX7_anew_7 : decode cX7_anew 7 = .ok (.ifCond .ne 6, 3) := by decide +kernel
theorem dX7_anew_10 : decode cX7_anew 10 = .ok (.bipush (-2), 2) := by decide +kernel
theorem dX7_anew_12 : decode cX7_anew 12 = .ok (.ireturn, 1) := by decide +kernel
theorem dX7_anew_13 : decode cX7_anew 13 = .ok (.aload_n 0, 1) := by decide +kernel
theorem dX7_anew_14 : decode cX7_anew 14 = .ok (.getfield 30, 3) := by decide +kernel
theorem dX7_anew_17 : decode cX7_anew 17 = .ok (.getfield 100, 3) := by decide +kernel
theorem dX7_anew_20 : decode cX7_anew 20 = .ok (.istore_n 1, 1) := by decide +kernel
theorem dX7_anew_21 : decode cX7_anew 21 = .ok (.aload_n 0, 1) := by decide +kernel
theorem dX7_anew_22 : decode cX7_anew 22 = .ok (.getfield 30, 3) := by decide +kernel
theorem dX7_anew_25 : decode cX7_anew 25 = .ok (.iconst 0, 1) := by decide +kernel
theorem dX7_anew_26 : decode cX7_anew 26 = .ok (.putfield 100, 3) := by decide +kernel
theorem dX7_anew_29 : decode cX7_anew 29 = .ok (.iload_n 1, 1) := by decide +kernel
theorem dX7_anew_30 : decode cX7_anew 30 = .ok (.ireturn, 1) := by decide +kernel
noncomputable def fX7_anew  (t_now_told : Int32) (t_now_acts : Int32) : Option (Int32 × Int32) := (if t_now_told = 0 then some ((-2), t_now_acts) else some (t_now_acts, 0))
set_option maxHeartbeats 4000000 in
set_option maxRecDepth 100000 in
theorem ctX7_anew (l : Launch) (g : GT) (sz : Nat) (a_t : Nat → Nat) (a_t_tape : Nat → Nat) (a_t_reader : Nat → Nat) (a_t_now : Nat → Nat) (a_t_choices : Nat → Nat) (a_t_ways : Nat → Nat) (a_t_stress : Nat → Nat) (t_now_told : Int32) (t_now_lines : Int32) (t_now_kinds : Int32) (t_now_acts : Int32) (o : Int32) (o_t_now_acts : Int32) (h : fX7_anew t_now_told t_now_acts = some (o, o_t_now_acts)) : Met l yX7_anew (Cond.code yX7_anew cX7_anew 2 (some .int) :: Tw) ⟨0, 0, 0, 0⟩ (va_Pc [.ref ((a_t 0))] (rwB g [((a_t 0), .inr (6, [.ref (a_t_tape 0), .ref (a_t_reader 0), .ref (a_t_now 0), .ref (a_t 4), .ref (a_t_choices 0), .ref (a_t_ways 0), .ref (a_t_stress 0)])), ((a_t_now 0), .inr (1, [.ref (a_t_now 1), .ref (a_t_now 2), .ref (a_t_now 3), .ref (a_t_now 4), .ref (a_t_now 5), .int t_now_told, .int t_now_lines, .int t_now_kinds, .int t_now_acts]))] sz)) (va_Qi (fun x (_ : Nat → Nat) => x = o) (fun u => rwE g (va_A [((a_t 0), .inr (6, [.ref (a_t_tape 0), .ref (a_t_reader 0), .ref (a_t_now 0), .ref (a_t 4), .ref (a_t_choices 0), .ref (a_t_ways 0), .ref (a_t_stress 0)])), ((a_t_now 0), .inr (1, [.ref (a_t_now 1), .ref (a_t_now 2), .ref (a_t_now 3), .ref (a_t_now 4), .ref (a_t_now 5), .int t_now_told, .int t_now_lines, .int t_now_kinds, .int t_now_acts]))] sz) [((a_t 0), .inr (6, [.ref (a_t_tape 0), .ref (a_t_reader 0), .ref (a_t_now 0), .ref (a_t 4), .ref (a_t_choices 0), .ref (a_t_ways 0), .ref (a_t_stress 0)])), ((a_t_now 0), .inr (1, [.ref (a_t_now 1), .ref (a_t_now 2), .ref (a_t_now 3), .ref (a_t_now 4), .ref (a_t_now 5), .int t_now_told, .int t_now_lines, .int t_now_kinds, .int o_t_now_acts]))]) (va_A [((a_t 0), .inr (6, [.ref (a_t_tape 0), .ref (a_t_reader 0), .ref (a_t_now 0), .ref (a_t 4), .ref (a_t_choices 0), .ref (a_t_ways 0), .ref (a_t_stress 0)])), ((a_t_now 0), .inr (1, [.ref (a_t_now 1), .ref (a_t_now 2), .ref (a_t_now 3), .ref (a_t_now 4), .ref (a_t_now 5), .int t_now_told, .int t_now_lines, .int t_now_kinds, .int t_now_acts]))] sz)) 0 0 (va_A [((a_t 0), .inr (6, [.ref (a_t_tape 0), .ref (a_t_reader 0), .ref (a_t_now 0), .ref (a_t 4), .ref (a_t_choices 0), .ref (a_t_ways 0), .ref (a_t_stress 0)])), ((a_t_now 0), .inr (1, [.ref (a_t_now 1), .ref (a_t_now 2), .ref (a_t_now 3), .ref (a_t_now 4), .ref (a_t_now 5), .int t_now_told, .int t_now_lines, .int t_now_kinds, .int t_now_acts]))] sz) := by
  refine rw_meti (by decide) (Nat.le_of_ble_eq_true rfl) (lv0 := [(0, .ref ((a_t 0)))]) rfl ?_
  intro p e s m args below meth c ls Q A cx hret hG hAb hb0 hA hP hD hl
  have hx := cx.1
  have hb := cx.2.1
  have hG0 := hG
  have hGk : ∀ {H : Heap} {locs : List Loc}, va_S A s.heap H locs → GE g s H := fun hS => hG0.keptS hAb hS
  have hSb : ∀ {H : Heap} {locs : List Loc}, va_S A s.heap H locs → va_S (fun a => g.1 ≤ a) s.heap H locs := fun hS => ⟨hS.1, fun q h1 h2 => hS.2.1 q h1 (fun z => h2 (hAb q z)), fun l hl => hAb _ (hS.2.2 l hl)⟩
  have hS : va_S A s.heap s.heap [] := va_S.rf
  have hrt : ∀ (u : Nat → Nat) (pc : Nat) (ls : Array Slot) (v : Int32) (x_t_now_acts : Int32) (H : Heap) (locs : List Loc), decode cX7_anew pc = .ok (.ireturn, 1) → some (v, x_t_now_acts) = some (o, o_t_now_acts) → va_P g.2.1 vwCl [((a_t 0), .inr (6, [.ref (a_t_tape 0), .ref (a_t_reader 0), .ref (a_t_now 0), .ref (a_t 4), .ref (a_t_choices 0), .ref (a_t_ways 0), .ref (a_t_stress 0)])), ((a_t_now 0), .inr (1, [.ref (a_t_now 1), .ref (a_t_now 2), .ref (a_t_now 3), .ref (a_t_now 4), .ref (a_t_now 5), .int t_now_told, .int t_now_lines, .int t_now_kinds, .int x_t_now_acts]))] H → va_D A [((a_t 0), .inr (6, [.ref (a_t_tape 0), .ref (a_t_reader 0), .ref (a_t_now 0), .ref (a_t 4), .ref (a_t_choices 0), .ref (a_t_ways 0), .ref (a_t_stress 0)])), ((a_t_now 0), .inr (1, [.ref (a_t_now 1), .ref (a_t_now 2), .ref (a_t_now 3), .ref (a_t_now 4), .ref (a_t_now 5), .int t_now_told, .int t_now_lines, .int t_now_kinds, .int x_t_now_acts]))] → va_S A s.heap H locs → W p l e ⟨0, 0, 0, 0⟩ s m args below meth c H locs 0 0 Q (F0 m pc ls [.int v]) := by
    intro u pc ls v x_t_now_acts H locs hd h hP hD hS
    cases h
    exact hret u _ _ _ _ _ hd rfl hP hD hS
  unfold fX7_anew at h
  refine lv_aload_n hx hb dX7_anew_0 rfl (lv_at hl 0 rfl) ?_
  refine xa_get (C := RX7) (T := TX7) (N := 7) cx hG hP 0 rfl rfl uX7 2 (by decide) lf_X7_30 rfl dX7_anew_1 ?_
  refine xa_getN (C := RX1) (T := TX1) (N := 9) cx hG hP 1 rfl rfl uX1 5 (by decide) nf_5 rfl dX7_anew_4 ?_
  refine lv_if_ne (tgt := 13) hx hb dX7_anew_7 (by decide) (fun c1 => ?_) (fun c1 => ?_)
  · have h := itn c1 h
    refine lv_aload_n hx hb dX7_anew_13 rfl (lv_at hl 0 rfl) ?_
    refine xa_get (C := RX7) (T := TX7) (N := 7) cx hG hP 0 rfl rfl uX7 2 (by decide) lf_X7_30 rfl dX7_anew_14 ?_
    refine xa_getN (C := RX1) (T := TX1) (N := 9) cx hG hP 1 rfl rfl uX1 8 (by decide) nf_10 rfl dX7_anew_17 ?_
    refine lv_istore_n (lv' := [(1, .int t_now_acts), (0, .ref ((a_t 0)))]) hx hb dX7_anew_20 rfl hl (by decide) rfl (fun ls hl => ?_)
    refine lv_aload_n hx hb dX7_anew_21 rfl (lv_at hl 1 rfl) ?_
    refine xa_get (C := RX7) (T := TX7) (N := 7) cx hG hP 0 rfl rfl uX7 2 (by decide) lf_X7_30 rfl dX7_anew_22 ?_
    refine lv_iconst (v := 0) hx hb dX7_anew_25 (by decide) ?_
    refine xw_putN (C := RX1) (T := TX1) (N := 9) (ty := .int) (v := .int (0)) (ws' := [((a_t 0), .inr (6, [.ref (a_t_tape 0), .ref (a_t_reader 0), .ref (a_t_now 0), .ref (a_t 4), .ref (a_t_choices 0), .ref (a_t_ways 0), .ref (a_t_stress 0)])), ((a_t_now 0), .inr (1, [.ref (a_t_now 1), .ref (a_t_now 2), .ref (a_t_now 3), .ref (a_t_now 4), .ref (a_t_now 5), .int t_now_told, .int t_now_lines, .int t_now_kinds, .int 0]))]) cx hG hP hD hS 1 rfl rfl uX1 tyX1 tyX1_ok nmX1 8 (by decide) nf_10 rfl (by decide +kernel) rfl rfl (Nat.le_of_ble_eq_true rfl) rfl dX7_anew_26 (fun H locs hP hD hS => ?_)
    have hG := hGk hS
    refine lv_iload_n hx hb dX7_anew_29 rfl (lv_at hl 0 rfl) ?_
    exact hrt (fun _ => 0) _ _ t_now_acts (0) _ _ dX7_anew_30 h (hP.sub [0, 1] rfl) (hD.sub [0, 1] (by decide) rfl) hS
  · have h := itp c1 h
    refine lv_bipush (v := -2) hx hb dX7_anew_10 (by decide) ?_
    exact hrt (fun _ => 0) _ _ ((-2)) t_now_acts _ _ dX7_anew_12 h (hP.sub [0, 1] rfl) (hD.sub [0, 1] (by decide) rfl) hS
-- X7_isImage
theorem dX7_isImage_0 : decode cX7_isImage 0 = .ok (.iload_n 1, 1) := by decide +kernel
theorem dX7_isImage_1 : decode cX7_isImage 1 = .ok (.ifCond .lt 25, 3) := by decide +kernel
theorem dX7_isImage_4 : decode cX7_isImage 4 = .ok (.iload_n 1, 1) := by decide +kernel
theorem dX7_isImage_5 : decode cX7_isImage 5 = .ok (.aload_n 0, 1) := by decide +kernel
theorem dX7_isImage_6 : decode cX7_isImage 6 = .ok (.getfield 34, 3) := by decide +kernel
theorem dX7_isImage_9 : decode cX7_isImage 9 = .ok (.arraylength, 1) := by decide +kernel
theorem dX7_isImage_10 : decode cX7_isImage 10 = .ok (.if_icmp .ge 16, 3) := by decide +kernel
theorem dX7_isImage_13 : decode cX7_isImage 13 = .ok (.aload_n 0, 1) := by decide +kernel
theorem dX7_isImage_14 : decode cX7_isImage 14 = .ok (.getfield 34, 3) := by decide +kernel
theorem dX7_isImage_17 : decode cX7_isImage 17 = .ok (.iload_n 1, 1) := by decide +kernel
theorem dX7_isImage_18 : decode cX7_isImage 18 = .ok (.aaload, 1) := by decide +kernel
theorem dX7_isImage_19 : decode cX7_isImage 19 = .ok (.ifnull 7, 3) := by decide +kernel
theorem dX7_isImage_22 : decode cX7_isImage 22 = .ok (.iconst 1, 1) := by decide +kernel
theorem dX7_isImage_23 : decode cX7_isImage 23 = .ok (.goto 4, 3) := by decide +kernel
theorem dX7_isImage_26 : decode cX7_isImage 26 = .ok (.iconst 0, 1) := by decide +kernel
theorem dX7_isImage_27 : decode cX7_isImage 27 = .ok (.ireturn, 1) := by decide +kernel
noncomputable def fX7_isImage  (v1 : Int32) : Option (Int32) := (if v1 < 0 then some (0) else (if 3 ≤ v1 then some (0) else (if v1 = 0 then some (1) else (if v1 = 1 then some (1) else (if v1 = 2 then some (1) else none)))))
set_option maxHeartbeats 4000000 in
set_option maxRecDepth 100000 in
theorem ctX7_isImage (l : Launch) (g : GT) (a_t : Nat → Nat) (a_t_tape : Nat → Nat) (a_t_reader : Nat → Nat) (a_t_now : Nat → Nat) (a_t_choices : Nat → Nat) (a_t_ways : Nat → Nat) (a_t_stress : Nat → Nat) (a_t_images_0 : Nat → Nat) (a_t_images_1 : Nat → Nat) (a_t_images_2 : Nat → Nat) (v1 : Int32) (o : Int32) (h : fX7_isImage v1 = some o) : Met l yX7_isImage (Cond.code yX7_isImage cX7_isImage 2 (some .boolean) :: Tw) ⟨0, 0, 0, 0⟩ (va_Pc [.ref ((a_t 0)), .int v1] (roB g [((a_t 0), .inr (6, [.ref (a_t_tape 0), .ref (a_t_reader 0), .ref (a_t_now 0), .ref (a_t 4), .ref (a_t_choices 0), .ref (a_t_ways 0), .ref (a_t_stress 0)])), ((a_t 4), .inl (g.2.2.1 4, 3, .inr (.inr (.inr (.inr (iF (a_t_images_0 0) (a_t_images_1 0) (a_t_images_2 0)))))))])) (vp_Si (fun x => x = o ∧ (x = 0 ∨ x = 1))) 0 0 (fun _ => False) := by
  refine ro_metz (by decide) (Nat.le_of_ble_eq_true rfl) (lv0 := [(0, .ref ((a_t 0))), (1, .int v1)]) rfl ?_
  intro p e s m args below meth c ls Q cx hret hG hP hl
  have hx := cx.1
  have hb := cx.2.1
  have hG0 := hG
  unfold fX7_isImage at h
  refine lv_iload_n hx hb dX7_isImage_0 rfl (lv_at hl 1 rfl) ?_
  refine lv_if_lt (tgt := 26) hx hb dX7_isImage_1 (by decide) (fun c1 => ?_) (fun c1 => ?_)
  · have h := itp c1 h
    refine lv_iconst (v := 0) hx hb dX7_isImage_26 (by decide) ?_
    exact hret _ _ _ dX7_isImage_27 (by decide) (Option.some.inj h)
  · have h := itn c1 h
    refine lv_iload_n hx hb dX7_isImage_4 rfl (lv_at hl 1 rfl) ?_
    refine lv_aload_n hx hb dX7_isImage_5 rfl (lv_at hl 0 rfl) ?_
    refine xa_get (C := RX7) (T := TX7) (N := 7) cx hG hP 0 rfl rfl uX7 3 (by decide) lf_X7_34 rfl dX7_isImage_6 ?_
    refine xa_len cx hG hP 1 rfl 4 rfl (v := 3) rfl dX7_isImage_9 ?_
    refine lv_icmp_ge (tgt := 26) hx hb dX7_isImage_10 (by decide) (fun c2 => ?_) (fun c2 => ?_)
    · have h := itp c2 h
      refine lv_iconst (v := 0) hx hb dX7_isImage_26 (by decide) ?_
      exact hret _ _ _ dX7_isImage_27 (by decide) (Option.some.inj h)
    · have h := itn c2 h
      refine lv_aload_n hx hb dX7_isImage_13 rfl (lv_at hl 0 rfl) ?_
      refine xa_get (C := RX7) (T := TX7) (N := 7) cx hG hP 0 rfl rfl uX7 3 (by decide) lf_X7_34 rfl dX7_isImage_14 ?_
      refine lv_iload_n hx hb dX7_isImage_17 rfl (lv_at hl 1 rfl) ?_
      by_cases e3 : v1 = 0
      · have h := itp e3 h
        refine xa_ald3 (k := 0) cx hG hP 1 rfl (by rw [e3]; decide) rfl dX7_isImage_18 ?_
        refine lv_ifnull hx hb dX7_isImage_19 ?_
        refine lv_iconst (v := 1) hx hb dX7_isImage_22 (by decide) ?_
        refine lv_goto (tgt := 27) hx hb dX7_isImage_23 (by decide) ?_
        exact hret _ _ _ dX7_isImage_27 (by decide) (Option.some.inj h)
      · have h := itn e3 h
        by_cases e4 : v1 = 1
        · have h := itp e4 h
          refine xa_ald3 (k := 1) cx hG hP 1 rfl (by rw [e4]; decide) rfl dX7_isImage_18 ?_
          refine lv_ifnull hx hb dX7_isImage_19 ?_
          refine lv_iconst (v := 1) hx hb dX7_isImage_22 (by decide) ?_
          refine lv_goto (tgt := 27) hx hb dX7_isImage_23 (by decide) ?_
          exact hret _ _ _ dX7_isImage_27 (by decide) (Option.some.inj h)
        · have h := itn e4 h
          by_cases e5 : v1 = 2
          · have h := itp e5 h
            refine xa_ald3 (k := 2) cx hG hP 1 rfl (by rw [e5]; decide) rfl dX7_isImage_18 ?_
            refine lv_ifnull hx hb dX7_isImage_19 ?_
            refine lv_iconst (v := 1) hx hb dX7_isImage_22 (by decide) ?_
            refine lv_goto (tgt := 27) hx hb dX7_isImage_23 (by decide) ?_
            exact hret _ _ _ dX7_isImage_27 (by decide) (Option.some.inj h)
          · have h := itn e5 h
            cases h
-- X7_image
theorem dX7_image_0 : decode cX7_image 0 = .ok (.aload_n 0, 1) := by decide +kernel
theorem dX7_image_1 : decode cX7_image 1 = .ok (.getfield 30, 3) := by decide +kernel
theorem dX7_image_4 : decode cX7_image 4 = .ok (.getfield 139, 3) := by decide +kernel
theorem dX7_image_7 : decode cX7_image 7 = .ok (.ifCond .eq 11, 3) := by decide +kernel
theorem dX7_image_10 : decode cX7_image 10 = .ok (.aload_n 0, 1) := by decide +kernel
theorem dX7_image_11 : decode cX7_image 11 = .ok (.iload_n 1, 1) := by decide +kernel
theorem dX7_image_12 : decode cX7_image 12 = .ok (.invokevirtual 357, 3) := by decide +kernel
theorem dX7_image_15 : decode cX7_image 15 = .ok (.ifCond .ne 6, 3) := by decide +kernel
theorem dX7_image_18 : decode cX7_image 18 = .ok (.bipush (-2), 2) := by decide +kernel
theorem dX7_image_20 : decode cX7_image 20 = .ok (.ireturn, 1) := by decide +kernel
theorem dX7_image_21 : decode cX7_image 21 = .ok (.aload_n 0, 1) := by decide +kernel
theorem dX7_image_22 : decode cX7_image 22 = .ok (.getfield 34, 3) := by decide +kernel
theorem dX7_image_25 : decode cX7_image 25 = .ok (.iload_n 1, 1) := by decide +kernel
theorem dX7_image_26 : decode cX7_image 26 = .ok (.aaload, 1) := by decide +kernel
theorem dX7_image_27 : decode cX7_image 27 = .ok (.aload_n 0, 1) := by decide +kernel
theorem dX7_image_28 : decode cX7_image 28 = .ok (.getfield 30, 3) := by decide +kernel
theorem dX7_image_31 : decode cX7_image 31 = .ok (.invokevirtual 74, 3) := by decide +kernel
theorem dX7_image_34 : decode cX7_image 34 = .ok (.iconst 0, 1) := by decide +kernel
theorem dX7_image_35 : decode cX7_image 35 = .ok (.ireturn, 1) := by decide +kernel
noncomputable def fX7_image  (t_now_numbers : Nat → Int32) (t_now_cells : Nat → Int32) (t_now_rows : Nat → Int32) (t_now_sizes : Nat → Int32) (t_now_rooms : Nat → Int32) (t_now_told : Int32) (t_now_lines : Int32) (t_now_kinds : Int32) (t_now_acts : Int32) (t_images_0_numbers : Nat → Int32) (t_images_0_cells : Nat → Int32) (t_images_0_rows : Nat → Int32) (t_images_0_sizes : Nat → Int32) (t_images_0_rooms : Nat → Int32) (t_images_0_told : Int32) (t_images_0_lines : Int32) (t_images_0_kinds : Int32) (t_images_0_acts : Int32) (t_images_1_numbers : Nat → Int32) (t_images_1_cells : Nat → Int32) (t_images_1_rows : Nat → Int32) (t_images_1_sizes : Nat → Int32) (t_images_1_rooms : Nat → Int32) (t_images_1_told : Int32) (t_images_1_lines : Int32) (t_images_1_kinds : Int32) (t_images_1_acts : Int32) (t_images_2_numbers : Nat → Int32) (t_images_2_cells : Nat → Int32) (t_images_2_rows : Nat → Int32) (t_images_2_sizes : Nat → Int32) (t_images_2_rooms : Nat → Int32) (t_images_2_told : Int32) (t_images_2_lines : Int32) (t_images_2_kinds : Int32) (t_images_2_acts : Int32) (v1 : Int32) : Option (Int32 × (Nat → Int32) × (Nat → Int32) × (Nat → Int32) × (Nat → Int32) × (Nat → Int32) × Int32 × Int32 × Int32 × Int32 × (Nat → Int32) × (Nat → Int32) × (Nat → Int32) × (Nat → Int32) × (Nat → Int32) × Int32 × Int32 × Int32 × Int32 × (Nat → Int32) × (Nat → Int32) × (Nat → Int32) × (Nat → Int32) × (Nat → Int32) × Int32 × Int32 × Int32 × Int32) := (if t_now_told = 0 then some ((-2), t_images_0_numbers, t_images_0_cells, t_images_0_rows, t_images_0_sizes, t_images_0_rooms, t_images_0_told, t_images_0_lines, t_images_0_kinds, t_images_0_acts, t_images_1_numbers, t_images_1_cells, t_images_1_rows, t_images_1_sizes, t_images_1_rooms, t_images_1_told, t_images_1_lines, t_images_1_kinds, t_images_1_acts, t_images_2_numbers, t_images_2_cells, t_images_2_rows, t_images_2_sizes, t_images_2_rooms, t_images_2_told, t_images_2_lines, t_images_2_kinds, t_images_2_acts) else (fX7_isImage v1).bind fun r2 => (if r2 = 0 then some ((-2), t_images_0_numbers, t_images_0_cells, t_images_0_rows, t_images_0_sizes, t_images_0_rooms, t_images_0_told, t_images_0_lines, t_images_0_kinds, t_images_0_acts, t_images_1_numbers, t_images_1_cells, t_images_1_rows, t_images_1_sizes, t_images_1_rooms, t_images_1_told, t_images_1_lines, t_images_1_kinds, t_images_1_acts, t_images_2_numbers, t_images_2_cells, t_images_2_rows, t_images_2_sizes, t_images_2_rooms, t_images_2_told, t_images_2_lines, t_images_2_kinds, t_images_2_acts) else (if v1 = 0 then ob9 (fX1_copy t_images_0_numbers t_images_0_cells t_images_0_rows t_images_0_sizes t_images_0_rooms t_images_0_told t_images_0_lines t_images_0_kinds t_images_0_acts t_now_numbers t_now_cells t_now_rows t_now_sizes t_now_rooms t_now_told t_now_lines t_now_kinds t_now_acts) fun w8 w9 w10 w11 w12 w13 w14 w15 w16 => some ((0), w8, w9, w10, w11, w12, w13, w14, w15, w16, t_images_1_numbers, t_images_1_cells, t_images_1_rows, t_images_1_sizes, t_images_1_rooms, t_images_1_told, t_images_1_lines, t_images_1_kinds, t_images_1_acts, t_images_2_numbers, t_images_2_cells, t_images_2_rows, t_images_2_sizes, t_images_2_rooms, t_images_2_told, t_images_2_lines, t_images_2_kinds, t_images_2_acts) else (if v1 = 1 then ob9 (fX1_copy t_images_1_numbers t_images_1_cells t_images_1_rows t_images_1_sizes t_images_1_rooms t_images_1_told t_images_1_lines t_images_1_kinds t_images_1_acts t_now_numbers t_now_cells t_now_rows t_now_sizes t_now_rooms t_now_told t_now_lines t_now_kinds t_now_acts) fun w20 w21 w22 w23 w24 w25 w26 w27 w28 => some ((0), t_images_0_numbers, t_images_0_cells, t_images_0_rows, t_images_0_sizes, t_images_0_rooms, t_images_0_told, t_images_0_lines, t_images_0_kinds, t_images_0_acts, w20, w21, w22, w23, w24, w25, w26, w27, w28, t_images_2_numbers, t_images_2_cells, t_images_2_rows, t_images_2_sizes, t_images_2_rooms, t_images_2_told, t_images_2_lines, t_images_2_kinds, t_images_2_acts) else (if v1 = 2 then ob9 (fX1_copy t_images_2_numbers t_images_2_cells t_images_2_rows t_images_2_sizes t_images_2_rooms t_images_2_told t_images_2_lines t_images_2_kinds t_images_2_acts t_now_numbers t_now_cells t_now_rows t_now_sizes t_now_rooms t_now_told t_now_lines t_now_kinds t_now_acts) fun w32 w33 w34 w35 w36 w37 w38 w39 w40 => some ((0), t_images_0_numbers, t_images_0_cells, t_images_0_rows, t_images_0_sizes, t_images_0_rooms, t_images_0_told, t_images_0_lines, t_images_0_kinds, t_images_0_acts, t_images_1_numbers, t_images_1_cells, t_images_1_rows, t_images_1_sizes, t_images_1_rooms, t_images_1_told, t_images_1_lines, t_images_1_kinds, t_images_1_acts, w32, w33, w34, w35, w36, w37, w38, w39, w40) else none)))))
set_option maxHeartbeats 4000000 in
set_option maxRecDepth 100000 in
theorem ctX7_image (l : Launch) (g : GT) (sz : Nat) (a_t : Nat → Nat) (a_t_tape : Nat → Nat) (a_t_reader : Nat → Nat) (a_t_now : Nat → Nat) (a_t_choices : Nat → Nat) (a_t_ways : Nat → Nat) (a_t_stress : Nat → Nat) (a_t_images_0 : Nat → Nat) (a_t_images_1 : Nat → Nat) (a_t_images_2 : Nat → Nat) (t_now_told : Int32) (t_now_lines : Int32) (t_now_kinds : Int32) (t_now_acts : Int32) (t_now_numbers : Nat → Int32) (t_now_cells : Nat → Int32) (t_now_rows : Nat → Int32) (t_now_sizes : Nat → Int32) (t_now_rooms : Nat → Int32) (t_images_0_told : Int32) (t_images_0_lines : Int32) (t_images_0_kinds : Int32) (t_images_0_acts : Int32) (t_images_0_numbers : Nat → Int32) (t_images_0_cells : Nat → Int32) (t_images_0_rows : Nat → Int32) (t_images_0_sizes : Nat → Int32) (t_images_0_rooms : Nat → Int32) (t_images_1_told : Int32) (t_images_1_lines : Int32) (t_images_1_kinds : Int32) (t_images_1_acts : Int32) (t_images_1_numbers : Nat → Int32) (t_images_1_cells : Nat → Int32) (t_images_1_rows : Nat → Int32) (t_images_1_sizes : Nat → Int32) (t_images_1_rooms : Nat → Int32) (t_images_2_told : Int32) (t_images_2_lines : Int32) (t_images_2_kinds : Int32) (t_images_2_acts : Int32) (t_images_2_numbers : Nat → Int32) (t_images_2_cells : Nat → Int32) (t_images_2_rows : Nat → Int32) (t_images_2_sizes : Nat → Int32) (t_images_2_rooms : Nat → Int32) (v1 : Int32) (o : Int32) (o_t_images_0_numbers : Nat → Int32) (o_t_images_0_cells : Nat → Int32) (o_t_images_0_rows : Nat → Int32) (o_t_images_0_sizes : Nat → Int32) (o_t_images_0_rooms : Nat → Int32) (o_t_images_0_told : Int32) (o_t_images_0_lines : Int32) (o_t_images_0_kinds : Int32) (o_t_images_0_acts : Int32) (o_t_images_1_numbers : Nat → Int32) (o_t_images_1_cells : Nat → Int32) (o_t_images_1_rows : Nat → Int32) (o_t_images_1_sizes : Nat → Int32) (o_t_images_1_rooms : Nat → Int32) (o_t_images_1_told : Int32) (o_t_images_1_lines : Int32) (o_t_images_1_kinds : Int32) (o_t_images_1_acts : Int32) (o_t_images_2_numbers : Nat → Int32) (o_t_images_2_cells : Nat → Int32) (o_t_images_2_rows : Nat → Int32) (o_t_images_2_sizes : Nat → Int32) (o_t_images_2_rooms : Nat → Int32) (o_t_images_2_told : Int32) (o_t_images_2_lines : Int32) (o_t_images_2_kinds : Int32) (o_t_images_2_acts : Int32) (h : fX7_image t_now_numbers t_now_cells t_now_rows t_now_sizes t_now_rooms t_now_told t_now_lines t_now_kinds t_now_acts t_images_0_numbers t_images_0_cells t_images_0_rows t_images_0_sizes t_images_0_rooms t_images_0_told t_images_0_lines t_images_0_kinds t_images_0_acts t_images_1_numbers t_images_1_cells t_images_1_rows t_images_1_sizes t_images_1_rooms t_images_1_told t_images_1_lines t_images_1_kinds t_images_1_acts t_images_2_numbers t_images_2_cells t_images_2_rows t_images_2_sizes t_images_2_rooms t_images_2_told t_images_2_lines t_images_2_kinds t_images_2_acts v1 = some (o, o_t_images_0_numbers, o_t_images_0_cells, o_t_images_0_rows, o_t_images_0_sizes, o_t_images_0_rooms, o_t_images_0_told, o_t_images_0_lines, o_t_images_0_kinds, o_t_images_0_acts, o_t_images_1_numbers, o_t_images_1_cells, o_t_images_1_rows, o_t_images_1_sizes, o_t_images_1_rooms, o_t_images_1_told, o_t_images_1_lines, o_t_images_1_kinds, o_t_images_1_acts, o_t_images_2_numbers, o_t_images_2_cells, o_t_images_2_rows, o_t_images_2_sizes, o_t_images_2_rooms, o_t_images_2_told, o_t_images_2_lines, o_t_images_2_kinds, o_t_images_2_acts)) : Met l yX7_image (Cond.code yX7_image cX7_image 2 (some .int) :: Tw) ⟨2, 0, 0, 61⟩ (va_Pc [.ref ((a_t 0)), .int v1] (rwB g [((a_t 0), .inr (6, [.ref (a_t_tape 0), .ref (a_t_reader 0), .ref (a_t_now 0), .ref (a_t 4), .ref (a_t_choices 0), .ref (a_t_ways 0), .ref (a_t_stress 0)])), ((a_t_now 0), .inr (1, [.ref (a_t_now 1), .ref (a_t_now 2), .ref (a_t_now 3), .ref (a_t_now 4), .ref (a_t_now 5), .int t_now_told, .int t_now_lines, .int t_now_kinds, .int t_now_acts])), ((a_t_now 1), .inl (g.2.2.1 0, 15, .inl t_now_numbers)), ((a_t_now 2), .inl (g.2.2.1 0, 144, .inl t_now_cells)), ((a_t_now 3), .inl (g.2.2.1 0, 31, .inl t_now_rows)), ((a_t_now 4), .inl (g.2.2.1 0, 31, .inl t_now_sizes)), ((a_t_now 5), .inl (g.2.2.1 0, 31, .inl t_now_rooms)), ((a_t 4), .inl (g.2.2.1 4, 3, .inr (.inr (.inr (.inr (iF (a_t_images_0 0) (a_t_images_1 0) (a_t_images_2 0))))))), ((a_t_images_0 0), .inr (1, [.ref (a_t_images_0 1), .ref (a_t_images_0 2), .ref (a_t_images_0 3), .ref (a_t_images_0 4), .ref (a_t_images_0 5), .int t_images_0_told, .int t_images_0_lines, .int t_images_0_kinds, .int t_images_0_acts])), ((a_t_images_0 1), .inl (g.2.2.1 0, 15, .inl t_images_0_numbers)), ((a_t_images_0 2), .inl (g.2.2.1 0, 144, .inl t_images_0_cells)), ((a_t_images_0 3), .inl (g.2.2.1 0, 31, .inl t_images_0_rows)), ((a_t_images_0 4), .inl (g.2.2.1 0, 31, .inl t_images_0_sizes)), ((a_t_images_0 5), .inl (g.2.2.1 0, 31, .inl t_images_0_rooms)), ((a_t_images_1 0), .inr (1, [.ref (a_t_images_1 1), .ref (a_t_images_1 2), .ref (a_t_images_1 3), .ref (a_t_images_1 4), .ref (a_t_images_1 5), .int t_images_1_told, .int t_images_1_lines, .int t_images_1_kinds, .int t_images_1_acts])), ((a_t_images_1 1), .inl (g.2.2.1 0, 15, .inl t_images_1_numbers)), ((a_t_images_1 2), .inl (g.2.2.1 0, 144, .inl t_images_1_cells)), ((a_t_images_1 3), .inl (g.2.2.1 0, 31, .inl t_images_1_rows)), ((a_t_images_1 4), .inl (g.2.2.1 0, 31, .inl t_images_1_sizes)), ((a_t_images_1 5), .inl (g.2.2.1 0, 31, .inl t_images_1_rooms)), ((a_t_images_2 0), .inr (1, [.ref (a_t_images_2 1), .ref (a_t_images_2 2), .ref (a_t_images_2 3), .ref (a_t_images_2 4), .ref (a_t_images_2 5), .int t_images_2_told, .int t_images_2_lines, .int t_images_2_kinds, .int t_images_2_acts])), ((a_t_images_2 1), .inl (g.2.2.1 0, 15, .inl t_images_2_numbers)), ((a_t_images_2 2), .inl (g.2.2.1 0, 144, .inl t_images_2_cells)), ((a_t_images_2 3), .inl (g.2.2.1 0, 31, .inl t_images_2_rows)), ((a_t_images_2 4), .inl (g.2.2.1 0, 31, .inl t_images_2_sizes)), ((a_t_images_2 5), .inl (g.2.2.1 0, 31, .inl t_images_2_rooms))] sz)) (va_Qi (fun x (_ : Nat → Nat) => x = o) (fun u => rwE g (va_A [((a_t 0), .inr (6, [.ref (a_t_tape 0), .ref (a_t_reader 0), .ref (a_t_now 0), .ref (a_t 4), .ref (a_t_choices 0), .ref (a_t_ways 0), .ref (a_t_stress 0)])), ((a_t_now 0), .inr (1, [.ref (a_t_now 1), .ref (a_t_now 2), .ref (a_t_now 3), .ref (a_t_now 4), .ref (a_t_now 5), .int t_now_told, .int t_now_lines, .int t_now_kinds, .int t_now_acts])), ((a_t_now 1), .inl (g.2.2.1 0, 15, .inl t_now_numbers)), ((a_t_now 2), .inl (g.2.2.1 0, 144, .inl t_now_cells)), ((a_t_now 3), .inl (g.2.2.1 0, 31, .inl t_now_rows)), ((a_t_now 4), .inl (g.2.2.1 0, 31, .inl t_now_sizes)), ((a_t_now 5), .inl (g.2.2.1 0, 31, .inl t_now_rooms)), ((a_t 4), .inl (g.2.2.1 4, 3, .inr (.inr (.inr (.inr (iF (a_t_images_0 0) (a_t_images_1 0) (a_t_images_2 0))))))), ((a_t_images_0 0), .inr (1, [.ref (a_t_images_0 1), .ref (a_t_images_0 2), .ref (a_t_images_0 3), .ref (a_t_images_0 4), .ref (a_t_images_0 5), .int t_images_0_told, .int t_images_0_lines, .int t_images_0_kinds, .int t_images_0_acts])), ((a_t_images_0 1), .inl (g.2.2.1 0, 15, .inl t_images_0_numbers)), ((a_t_images_0 2), .inl (g.2.2.1 0, 144, .inl t_images_0_cells)), ((a_t_images_0 3), .inl (g.2.2.1 0, 31, .inl t_images_0_rows)), ((a_t_images_0 4), .inl (g.2.2.1 0, 31, .inl t_images_0_sizes)), ((a_t_images_0 5), .inl (g.2.2.1 0, 31, .inl t_images_0_rooms)), ((a_t_images_1 0), .inr (1, [.ref (a_t_images_1 1), .ref (a_t_images_1 2), .ref (a_t_images_1 3), .ref (a_t_images_1 4), .ref (a_t_images_1 5), .int t_images_1_told, .int t_images_1_lines, .int t_images_1_kinds, .int t_images_1_acts])), ((a_t_images_1 1), .inl (g.2.2.1 0, 15, .inl t_images_1_numbers)), ((a_t_images_1 2), .inl (g.2.2.1 0, 144, .inl t_images_1_cells)), ((a_t_images_1 3), .inl (g.2.2.1 0, 31, .inl t_images_1_rows)), ((a_t_images_1 4), .inl (g.2.2.1 0, 31, .inl t_images_1_sizes)), ((a_t_images_1 5), .inl (g.2.2.1 0, 31, .inl t_images_1_rooms)), ((a_t_images_2 0), .inr (1, [.ref (a_t_images_2 1), .ref (a_t_images_2 2), .ref (a_t_images_2 3), .ref (a_t_images_2 4), .ref (a_t_images_2 5), .int t_images_2_told, .int t_images_2_lines, .int t_images_2_kinds, .int t_images_2_acts])), ((a_t_images_2 1), .inl (g.2.2.1 0, 15, .inl t_images_2_numbers)), ((a_t_images_2 2), .inl (g.2.2.1 0, 144, .inl t_images_2_cells)), ((a_t_images_2 3), .inl (g.2.2.1 0, 31, .inl t_images_2_rows)), ((a_t_images_2 4), .inl (g.2.2.1 0, 31, .inl t_images_2_sizes)), ((a_t_images_2 5), .inl (g.2.2.1 0, 31, .inl t_images_2_rooms))] sz) [((a_t 0), .inr (6, [.ref (a_t_tape 0), .ref (a_t_reader 0), .ref (a_t_now 0), .ref (a_t 4), .ref (a_t_choices 0), .ref (a_t_ways 0), .ref (a_t_stress 0)])), ((a_t_now 0), .inr (1, [.ref (a_t_now 1), .ref (a_t_now 2), .ref (a_t_now 3), .ref (a_t_now 4), .ref (a_t_now 5), .int t_now_told, .int t_now_lines, .int t_now_kinds, .int t_now_acts])), ((a_t_now 1), .inl (g.2.2.1 0, 15, .inl t_now_numbers)), ((a_t_now 2), .inl (g.2.2.1 0, 144, .inl t_now_cells)), ((a_t_now 3), .inl (g.2.2.1 0, 31, .inl t_now_rows)), ((a_t_now 4), .inl (g.2.2.1 0, 31, .inl t_now_sizes)), ((a_t_now 5), .inl (g.2.2.1 0, 31, .inl t_now_rooms)), ((a_t 4), .inl (g.2.2.1 4, 3, .inr (.inr (.inr (.inr (iF (a_t_images_0 0) (a_t_images_1 0) (a_t_images_2 0))))))), ((a_t_images_0 0), .inr (1, [.ref (a_t_images_0 1), .ref (a_t_images_0 2), .ref (a_t_images_0 3), .ref (a_t_images_0 4), .ref (a_t_images_0 5), .int o_t_images_0_told, .int o_t_images_0_lines, .int o_t_images_0_kinds, .int o_t_images_0_acts])), ((a_t_images_0 1), .inl (g.2.2.1 0, 15, .inl o_t_images_0_numbers)), ((a_t_images_0 2), .inl (g.2.2.1 0, 144, .inl o_t_images_0_cells)), ((a_t_images_0 3), .inl (g.2.2.1 0, 31, .inl o_t_images_0_rows)), ((a_t_images_0 4), .inl (g.2.2.1 0, 31, .inl o_t_images_0_sizes)), ((a_t_images_0 5), .inl (g.2.2.1 0, 31, .inl o_t_images_0_rooms)), ((a_t_images_1 0), .inr (1, [.ref (a_t_images_1 1), .ref (a_t_images_1 2), .ref (a_t_images_1 3), .ref (a_t_images_1 4), .ref (a_t_images_1 5), .int o_t_images_1_told, .int o_t_images_1_lines, .int o_t_images_1_kinds, .int o_t_images_1_acts])), ((a_t_images_1 1), .inl (g.2.2.1 0, 15, .inl o_t_images_1_numbers)), ((a_t_images_1 2), .inl (g.2.2.1 0, 144, .inl o_t_images_1_cells)), ((a_t_images_1 3), .inl (g.2.2.1 0, 31, .inl o_t_images_1_rows)), ((a_t_images_1 4), .inl (g.2.2.1 0, 31, .inl o_t_images_1_sizes)), ((a_t_images_1 5), .inl (g.2.2.1 0, 31, .inl o_t_images_1_rooms)), ((a_t_images_2 0), .inr (1, [.ref (a_t_images_2 1), .ref (a_t_images_2 2), .ref (a_t_images_2 3), .ref (a_t_images_2 4), .ref (a_t_images_2 5), .int o_t_images_2_told, .int o_t_images_2_lines, .int o_t_images_2_kinds, .int o_t_images_2_acts])), ((a_t_images_2 1), .inl (g.2.2.1 0, 15, .inl o_t_images_2_numbers)), ((a_t_images_2 2), .inl (g.2.2.1 0, 144, .inl o_t_images_2_cells)), ((a_t_images_2 3), .inl (g.2.2.1 0, 31, .inl o_t_images_2_rows)), ((a_t_images_2 4), .inl (g.2.2.1 0, 31, .inl o_t_images_2_sizes)), ((a_t_images_2 5), .inl (g.2.2.1 0, 31, .inl o_t_images_2_rooms))]) (va_A [((a_t 0), .inr (6, [.ref (a_t_tape 0), .ref (a_t_reader 0), .ref (a_t_now 0), .ref (a_t 4), .ref (a_t_choices 0), .ref (a_t_ways 0), .ref (a_t_stress 0)])), ((a_t_now 0), .inr (1, [.ref (a_t_now 1), .ref (a_t_now 2), .ref (a_t_now 3), .ref (a_t_now 4), .ref (a_t_now 5), .int t_now_told, .int t_now_lines, .int t_now_kinds, .int t_now_acts])), ((a_t_now 1), .inl (g.2.2.1 0, 15, .inl t_now_numbers)), ((a_t_now 2), .inl (g.2.2.1 0, 144, .inl t_now_cells)), ((a_t_now 3), .inl (g.2.2.1 0, 31, .inl t_now_rows)), ((a_t_now 4), .inl (g.2.2.1 0, 31, .inl t_now_sizes)), ((a_t_now 5), .inl (g.2.2.1 0, 31, .inl t_now_rooms)), ((a_t 4), .inl (g.2.2.1 4, 3, .inr (.inr (.inr (.inr (iF (a_t_images_0 0) (a_t_images_1 0) (a_t_images_2 0))))))), ((a_t_images_0 0), .inr (1, [.ref (a_t_images_0 1), .ref (a_t_images_0 2), .ref (a_t_images_0 3), .ref (a_t_images_0 4), .ref (a_t_images_0 5), .int t_images_0_told, .int t_images_0_lines, .int t_images_0_kinds, .int t_images_0_acts])), ((a_t_images_0 1), .inl (g.2.2.1 0, 15, .inl t_images_0_numbers)), ((a_t_images_0 2), .inl (g.2.2.1 0, 144, .inl t_images_0_cells)), ((a_t_images_0 3), .inl (g.2.2.1 0, 31, .inl t_images_0_rows)), ((a_t_images_0 4), .inl (g.2.2.1 0, 31, .inl t_images_0_sizes)), ((a_t_images_0 5), .inl (g.2.2.1 0, 31, .inl t_images_0_rooms)), ((a_t_images_1 0), .inr (1, [.ref (a_t_images_1 1), .ref (a_t_images_1 2), .ref (a_t_images_1 3), .ref (a_t_images_1 4), .ref (a_t_images_1 5), .int t_images_1_told, .int t_images_1_lines, .int t_images_1_kinds, .int t_images_1_acts])), ((a_t_images_1 1), .inl (g.2.2.1 0, 15, .inl t_images_1_numbers)), ((a_t_images_1 2), .inl (g.2.2.1 0, 144, .inl t_images_1_cells)), ((a_t_images_1 3), .inl (g.2.2.1 0, 31, .inl t_images_1_rows)), ((a_t_images_1 4), .inl (g.2.2.1 0, 31, .inl t_images_1_sizes)), ((a_t_images_1 5), .inl (g.2.2.1 0, 31, .inl t_images_1_rooms)), ((a_t_images_2 0), .inr (1, [.ref (a_t_images_2 1), .ref (a_t_images_2 2), .ref (a_t_images_2 3), .ref (a_t_images_2 4), .ref (a_t_images_2 5), .int t_images_2_told, .int t_images_2_lines, .int t_images_2_kinds, .int t_images_2_acts])), ((a_t_images_2 1), .inl (g.2.2.1 0, 15, .inl t_images_2_numbers)), ((a_t_images_2 2), .inl (g.2.2.1 0, 144, .inl t_images_2_cells)), ((a_t_images_2 3), .inl (g.2.2.1 0, 31, .inl t_images_2_rows)), ((a_t_images_2 4), .inl (g.2.2.1 0, 31, .inl t_images_2_sizes)), ((a_t_images_2 5), .inl (g.2.2.1 0, 31, .inl t_images_2_rooms))] sz)) 0 0 (va_A [((a_t 0), .inr (6, [.ref (a_t_tape 0), .ref (a_t_reader 0), .ref (a_t_now 0), .ref (a_t 4), .ref (a_t_choices 0), .ref (a_t_ways 0), .ref (a_t_stress 0)])), ((a_t_now 0), .inr (1, [.ref (a_t_now 1), .ref (a_t_now 2), .ref (a_t_now 3), .ref (a_t_now 4), .ref (a_t_now 5), .int t_now_told, .int t_now_lines, .int t_now_kinds, .int t_now_acts])), ((a_t_now 1), .inl (g.2.2.1 0, 15, .inl t_now_numbers)), ((a_t_now 2), .inl (g.2.2.1 0, 144, .inl t_now_cells)), ((a_t_now 3), .inl (g.2.2.1 0, 31, .inl t_now_rows)), ((a_t_now 4), .inl (g.2.2.1 0, 31, .inl t_now_sizes)), ((a_t_now 5), .inl (g.2.2.1 0, 31, .inl t_now_rooms)), ((a_t 4), .inl (g.2.2.1 4, 3, .inr (.inr (.inr (.inr (iF (a_t_images_0 0) (a_t_images_1 0) (a_t_images_2 0))))))), ((a_t_images_0 0), .inr (1, [.ref (a_t_images_0 1), .ref (a_t_images_0 2), .ref (a_t_images_0 3), .ref (a_t_images_0 4), .ref (a_t_images_0 5), .int t_images_0_told, .int t_images_0_lines, .int t_images_0_kinds, .int t_images_0_acts])), ((a_t_images_0 1), .inl (g.2.2.1 0, 15, .inl t_images_0_numbers)), ((a_t_images_0 2), .inl (g.2.2.1 0, 144, .inl t_images_0_cells)), ((a_t_images_0 3), .inl (g.2.2.1 0, 31, .inl t_images_0_rows)), ((a_t_images_0 4), .inl (g.2.2.1 0, 31, .inl t_images_0_sizes)), ((a_t_images_0 5), .inl (g.2.2.1 0, 31, .inl t_images_0_rooms)), ((a_t_images_1 0), .inr (1, [.ref (a_t_images_1 1), .ref (a_t_images_1 2), .ref (a_t_images_1 3), .ref (a_t_images_1 4), .ref (a_t_images_1 5), .int t_images_1_told, .int t_images_1_lines, .int t_images_1_kinds, .int t_images_1_acts])), ((a_t_images_1 1), .inl (g.2.2.1 0, 15, .inl t_images_1_numbers)), ((a_t_images_1 2), .inl (g.2.2.1 0, 144, .inl t_images_1_cells)), ((a_t_images_1 3), .inl (g.2.2.1 0, 31, .inl t_images_1_rows)), ((a_t_images_1 4), .inl (g.2.2.1 0, 31, .inl t_images_1_sizes)), ((a_t_images_1 5), .inl (g.2.2.1 0, 31, .inl t_images_1_rooms)), ((a_t_images_2 0), .inr (1, [.ref (a_t_images_2 1), .ref (a_t_images_2 2), .ref (a_t_images_2 3), .ref (a_t_images_2 4), .ref (a_t_images_2 5), .int t_images_2_told, .int t_images_2_lines, .int t_images_2_kinds, .int t_images_2_acts])), ((a_t_images_2 1), .inl (g.2.2.1 0, 15, .inl t_images_2_numbers)), ((a_t_images_2 2), .inl (g.2.2.1 0, 144, .inl t_images_2_cells)), ((a_t_images_2 3), .inl (g.2.2.1 0, 31, .inl t_images_2_rows)), ((a_t_images_2 4), .inl (g.2.2.1 0, 31, .inl t_images_2_sizes)), ((a_t_images_2 5), .inl (g.2.2.1 0, 31, .inl t_images_2_rooms))] sz) := by
  refine rw_meti (by decide) (Nat.le_of_ble_eq_true rfl) (lv0 := [(0, .ref ((a_t 0))), (1, .int v1)]) rfl ?_
  intro p e s m args below meth c ls Q A cx hret hG hAb hb0 hA hP hD hl
  have hx := cx.1
  have hb := cx.2.1
  have hG0 := hG
  have hGk : ∀ {H : Heap} {locs : List Loc}, va_S A s.heap H locs → GE g s H := fun hS => hG0.keptS hAb hS
  have hSb : ∀ {H : Heap} {locs : List Loc}, va_S A s.heap H locs → va_S (fun a => g.1 ≤ a) s.heap H locs := fun hS => ⟨hS.1, fun q h1 h2 => hS.2.1 q h1 (fun z => h2 (hAb q z)), fun l hl => hAb _ (hS.2.2 l hl)⟩
  have hS : va_S A s.heap s.heap [] := va_S.rf
  have hrt : ∀ (u : Nat → Nat) (pc : Nat) (ls : Array Slot) (v : Int32) (x_t_images_0_numbers : Nat → Int32) (x_t_images_0_cells : Nat → Int32) (x_t_images_0_rows : Nat → Int32) (x_t_images_0_sizes : Nat → Int32) (x_t_images_0_rooms : Nat → Int32) (x_t_images_0_told : Int32) (x_t_images_0_lines : Int32) (x_t_images_0_kinds : Int32) (x_t_images_0_acts : Int32) (x_t_images_1_numbers : Nat → Int32) (x_t_images_1_cells : Nat → Int32) (x_t_images_1_rows : Nat → Int32) (x_t_images_1_sizes : Nat → Int32) (x_t_images_1_rooms : Nat → Int32) (x_t_images_1_told : Int32) (x_t_images_1_lines : Int32) (x_t_images_1_kinds : Int32) (x_t_images_1_acts : Int32) (x_t_images_2_numbers : Nat → Int32) (x_t_images_2_cells : Nat → Int32) (x_t_images_2_rows : Nat → Int32) (x_t_images_2_sizes : Nat → Int32) (x_t_images_2_rooms : Nat → Int32) (x_t_images_2_told : Int32) (x_t_images_2_lines : Int32) (x_t_images_2_kinds : Int32) (x_t_images_2_acts : Int32) (H : Heap) (locs : List Loc), decode cX7_image pc = .ok (.ireturn, 1) → some (v, x_t_images_0_numbers, x_t_images_0_cells, x_t_images_0_rows, x_t_images_0_sizes, x_t_images_0_rooms, x_t_images_0_told, x_t_images_0_lines, x_t_images_0_kinds, x_t_images_0_acts, x_t_images_1_numbers, x_t_images_1_cells, x_t_images_1_rows, x_t_images_1_sizes, x_t_images_1_rooms, x_t_images_1_told, x_t_images_1_lines, x_t_images_1_kinds, x_t_images_1_acts, x_t_images_2_numbers, x_t_images_2_cells, x_t_images_2_rows, x_t_images_2_sizes, x_t_images_2_rooms, x_t_images_2_told, x_t_images_2_lines, x_t_images_2_kinds, x_t_images_2_acts) = some (o, o_t_images_0_numbers, o_t_images_0_cells, o_t_images_0_rows, o_t_images_0_sizes, o_t_images_0_rooms, o_t_images_0_told, o_t_images_0_lines, o_t_images_0_kinds, o_t_images_0_acts, o_t_images_1_numbers, o_t_images_1_cells, o_t_images_1_rows, o_t_images_1_sizes, o_t_images_1_rooms, o_t_images_1_told, o_t_images_1_lines, o_t_images_1_kinds, o_t_images_1_acts, o_t_images_2_numbers, o_t_images_2_cells, o_t_images_2_rows, o_t_images_2_sizes, o_t_images_2_rooms, o_t_images_2_told, o_t_images_2_lines, o_t_images_2_kinds, o_t_images_2_acts) → va_P g.2.1 vwCl [((a_t 0), .inr (6, [.ref (a_t_tape 0), .ref (a_t_reader 0), .ref (a_t_now 0), .ref (a_t 4), .ref (a_t_choices 0), .ref (a_t_ways 0), .ref (a_t_stress 0)])), ((a_t_now 0), .inr (1, [.ref (a_t_now 1), .ref (a_t_now 2), .ref (a_t_now 3), .ref (a_t_now 4), .ref (a_t_now 5), .int t_now_told, .int t_now_lines, .int t_now_kinds, .int t_now_acts])), ((a_t_now 1), .inl (g.2.2.1 0, 15, .inl t_now_numbers)), ((a_t_now 2), .inl (g.2.2.1 0, 144, .inl t_now_cells)), ((a_t_now 3), .inl (g.2.2.1 0, 31, .inl t_now_rows)), ((a_t_now 4), .inl (g.2.2.1 0, 31, .inl t_now_sizes)), ((a_t_now 5), .inl (g.2.2.1 0, 31, .inl t_now_rooms)), ((a_t 4), .inl (g.2.2.1 4, 3, .inr (.inr (.inr (.inr (iF (a_t_images_0 0) (a_t_images_1 0) (a_t_images_2 0))))))), ((a_t_images_0 0), .inr (1, [.ref (a_t_images_0 1), .ref (a_t_images_0 2), .ref (a_t_images_0 3), .ref (a_t_images_0 4), .ref (a_t_images_0 5), .int x_t_images_0_told, .int x_t_images_0_lines, .int x_t_images_0_kinds, .int x_t_images_0_acts])), ((a_t_images_0 1), .inl (g.2.2.1 0, 15, .inl x_t_images_0_numbers)), ((a_t_images_0 2), .inl (g.2.2.1 0, 144, .inl x_t_images_0_cells)), ((a_t_images_0 3), .inl (g.2.2.1 0, 31, .inl x_t_images_0_rows)), ((a_t_images_0 4), .inl (g.2.2.1 0, 31, .inl x_t_images_0_sizes)), ((a_t_images_0 5), .inl (g.2.2.1 0, 31, .inl x_t_images_0_rooms)), ((a_t_images_1 0), .inr (1, [.ref (a_t_images_1 1), .ref (a_t_images_1 2), .ref (a_t_images_1 3), .ref (a_t_images_1 4), .ref (a_t_images_1 5), .int x_t_images_1_told, .int x_t_images_1_lines, .int x_t_images_1_kinds, .int x_t_images_1_acts])), ((a_t_images_1 1), .inl (g.2.2.1 0, 15, .inl x_t_images_1_numbers)), ((a_t_images_1 2), .inl (g.2.2.1 0, 144, .inl x_t_images_1_cells)), ((a_t_images_1 3), .inl (g.2.2.1 0, 31, .inl x_t_images_1_rows)), ((a_t_images_1 4), .inl (g.2.2.1 0, 31, .inl x_t_images_1_sizes)), ((a_t_images_1 5), .inl (g.2.2.1 0, 31, .inl x_t_images_1_rooms)), ((a_t_images_2 0), .inr (1, [.ref (a_t_images_2 1), .ref (a_t_images_2 2), .ref (a_t_images_2 3), .ref (a_t_images_2 4), .ref (a_t_images_2 5), .int x_t_images_2_told, .int x_t_images_2_lines, .int x_t_images_2_kinds, .int x_t_images_2_acts])), ((a_t_images_2 1), .inl (g.2.2.1 0, 15, .inl x_t_images_2_numbers)), ((a_t_images_2 2), .inl (g.2.2.1 0, 144, .inl x_t_images_2_cells)), ((a_t_images_2 3), .inl (g.2.2.1 0, 31, .inl x_t_images_2_rows)), ((a_t_images_2 4), .inl (g.2.2.1 0, 31, .inl x_t_images_2_sizes)), ((a_t_images_2 5), .inl (g.2.2.1 0, 31, .inl x_t_images_2_rooms))] H → va_D A [((a_t 0), .inr (6, [.ref (a_t_tape 0), .ref (a_t_reader 0), .ref (a_t_now 0), .ref (a_t 4), .ref (a_t_choices 0), .ref (a_t_ways 0), .ref (a_t_stress 0)])), ((a_t_now 0), .inr (1, [.ref (a_t_now 1), .ref (a_t_now 2), .ref (a_t_now 3), .ref (a_t_now 4), .ref (a_t_now 5), .int t_now_told, .int t_now_lines, .int t_now_kinds, .int t_now_acts])), ((a_t_now 1), .inl (g.2.2.1 0, 15, .inl t_now_numbers)), ((a_t_now 2), .inl (g.2.2.1 0, 144, .inl t_now_cells)), ((a_t_now 3), .inl (g.2.2.1 0, 31, .inl t_now_rows)), ((a_t_now 4), .inl (g.2.2.1 0, 31, .inl t_now_sizes)), ((a_t_now 5), .inl (g.2.2.1 0, 31, .inl t_now_rooms)), ((a_t 4), .inl (g.2.2.1 4, 3, .inr (.inr (.inr (.inr (iF (a_t_images_0 0) (a_t_images_1 0) (a_t_images_2 0))))))), ((a_t_images_0 0), .inr (1, [.ref (a_t_images_0 1), .ref (a_t_images_0 2), .ref (a_t_images_0 3), .ref (a_t_images_0 4), .ref (a_t_images_0 5), .int x_t_images_0_told, .int x_t_images_0_lines, .int x_t_images_0_kinds, .int x_t_images_0_acts])), ((a_t_images_0 1), .inl (g.2.2.1 0, 15, .inl x_t_images_0_numbers)), ((a_t_images_0 2), .inl (g.2.2.1 0, 144, .inl x_t_images_0_cells)), ((a_t_images_0 3), .inl (g.2.2.1 0, 31, .inl x_t_images_0_rows)), ((a_t_images_0 4), .inl (g.2.2.1 0, 31, .inl x_t_images_0_sizes)), ((a_t_images_0 5), .inl (g.2.2.1 0, 31, .inl x_t_images_0_rooms)), ((a_t_images_1 0), .inr (1, [.ref (a_t_images_1 1), .ref (a_t_images_1 2), .ref (a_t_images_1 3), .ref (a_t_images_1 4), .ref (a_t_images_1 5), .int x_t_images_1_told, .int x_t_images_1_lines, .int x_t_images_1_kinds, .int x_t_images_1_acts])), ((a_t_images_1 1), .inl (g.2.2.1 0, 15, .inl x_t_images_1_numbers)), ((a_t_images_1 2), .inl (g.2.2.1 0, 144, .inl x_t_images_1_cells)), ((a_t_images_1 3), .inl (g.2.2.1 0, 31, .inl x_t_images_1_rows)), ((a_t_images_1 4), .inl (g.2.2.1 0, 31, .inl x_t_images_1_sizes)), ((a_t_images_1 5), .inl (g.2.2.1 0, 31, .inl x_t_images_1_rooms)), ((a_t_images_2 0), .inr (1, [.ref (a_t_images_2 1), .ref (a_t_images_2 2), .ref (a_t_images_2 3), .ref (a_t_images_2 4), .ref (a_t_images_2 5), .int x_t_images_2_told, .int x_t_images_2_lines, .int x_t_images_2_kinds, .int x_t_images_2_acts])), ((a_t_images_2 1), .inl (g.2.2.1 0, 15, .inl x_t_images_2_numbers)), ((a_t_images_2 2), .inl (g.2.2.1 0, 144, .inl x_t_images_2_cells)), ((a_t_images_2 3), .inl (g.2.2.1 0, 31, .inl x_t_images_2_rows)), ((a_t_images_2 4), .inl (g.2.2.1 0, 31, .inl x_t_images_2_sizes)), ((a_t_images_2 5), .inl (g.2.2.1 0, 31, .inl x_t_images_2_rooms))] → va_S A s.heap H locs → W p l e ⟨2, 0, 0, 61⟩ s m args below meth c H locs 0 0 Q (F0 m pc ls [.int v]) := by
    intro u pc ls v x_t_images_0_numbers x_t_images_0_cells x_t_images_0_rows x_t_images_0_sizes x_t_images_0_rooms x_t_images_0_told x_t_images_0_lines x_t_images_0_kinds x_t_images_0_acts x_t_images_1_numbers x_t_images_1_cells x_t_images_1_rows x_t_images_1_sizes x_t_images_1_rooms x_t_images_1_told x_t_images_1_lines x_t_images_1_kinds x_t_images_1_acts x_t_images_2_numbers x_t_images_2_cells x_t_images_2_rows x_t_images_2_sizes x_t_images_2_rooms x_t_images_2_told x_t_images_2_lines x_t_images_2_kinds x_t_images_2_acts H locs hd h hP hD hS
    cases h
    exact hret u _ _ _ _ _ hd rfl hP hD hS
  unfold fX7_image at h
  refine lv_aload_n hx hb dX7_image_0 rfl (lv_at hl 0 rfl) ?_
  refine xa_get (C := RX7) (T := TX7) (N := 7) cx hG hP 0 rfl rfl uX7 2 (by decide) lf_X7_30 rfl dX7_image_1 ?_
  refine xa_getN (C := RX1) (T := TX1) (N := 9) cx hG hP 1 rfl rfl uX1 5 (by decide) nf_5 rfl dX7_image_4 ?_
  refine lv_if_eq (tgt := 18) hx hb dX7_image_7 (by decide) (fun c1 => ?_) (fun c1 => ?_)
  · have h := itp c1 h
    refine lv_bipush (v := -2) hx hb dX7_image_18 (by decide) ?_
    exact hrt (fun _ => 0) _ _ ((-2)) t_images_0_numbers t_images_0_cells t_images_0_rows t_images_0_sizes t_images_0_rooms t_images_0_told t_images_0_lines t_images_0_kinds t_images_0_acts t_images_1_numbers t_images_1_cells t_images_1_rows t_images_1_sizes t_images_1_rooms t_images_1_told t_images_1_lines t_images_1_kinds t_images_1_acts t_images_2_numbers t_images_2_cells t_images_2_rows t_images_2_sizes t_images_2_rooms t_images_2_told t_images_2_lines t_images_2_kinds t_images_2_acts _ _ dX7_image_20 h (hP.sub [0, 1, 2, 3, 4, 5, 6, 7, 8, 9, 10, 11, 12, 13, 14, 15, 16, 17, 18, 19, 20, 21, 22, 23, 24, 25] rfl) (hD.sub [0, 1, 2, 3, 4, 5, 6, 7, 8, 9, 10, 11, 12, 13, 14, 15, 16, 17, 18, 19, 20, 21, 22, 23, 24, 25] (by decide) rfl) hS
  · have h := itn c1 h
    refine lv_aload_n hx hb dX7_image_10 rfl (lv_at hl 0 rfl) ?_
    refine lv_iload_n hx hb dX7_image_11 rfl (lv_at hl 1 rfl) ?_
    obtain ⟨r2, hr3, h⟩ := bnd h
    refine ro_z (runV (As := [.int v1]) (rest := []) cx hl.1 (ctX7_isImage l g a_t a_t_tape a_t_reader a_t_now a_t_choices a_t_ways a_t_stress a_t_images_0 a_t_images_1 a_t_images_2 v1 r2 hr3) kmX7_isImage kvX7_isImage lm_X7_357 ⟨rfl, rfl⟩ ⟨Nat.le_of_ble_eq_true rfl, Nat.le_of_ble_eq_true rfl⟩ (roV (q0 := 0) (ci := 6) hG (hP.sub [0, 7] rfl) hP rfl rfl) rfl rfl (Nat.le_of_ble_eq_true rfl) dX7_image_12 ⟨Nat.le_of_ble_eq_true rfl, Nat.le_of_ble_eq_true rfl⟩) (fun hz4 => ?_)
    refine lv_if_ne (tgt := 21) hx hb dX7_image_15 (by decide) (fun c5 => ?_) (fun c5 => ?_)
    · have h := itn c5 h
      refine lv_aload_n hx hb dX7_image_21 rfl (lv_at hl 0 rfl) ?_
      refine xa_get (C := RX7) (T := TX7) (N := 7) cx hG hP 0 rfl rfl uX7 3 (by decide) lf_X7_34 rfl dX7_image_22 ?_
      refine lv_iload_n hx hb dX7_image_25 rfl (lv_at hl 1 rfl) ?_
      by_cases e6 : v1 = 0
      · have h := itp e6 h
        refine xa_ald3 (k := 0) cx hG hP 7 rfl (by rw [e6]; decide) rfl dX7_image_26 ?_
        refine lv_aload_n hx hb dX7_image_27 rfl (lv_at hl 0 rfl) ?_
        refine xa_get (C := RX7) (T := TX7) (N := 7) cx hG hP 0 rfl rfl uX7 2 (by decide) lf_X7_30 rfl dX7_image_28 ?_
        obtain ⟨w8, w9, w10, w11, w12, w13, w14, w15, w16, hr7, h⟩ := ob9_out h
        refine rw_v (WN := fun u17 => [((a_t 0), .inr (6, [.ref (a_t_tape 0), .ref (a_t_reader 0), .ref (a_t_now 0), .ref (a_t 4), .ref (a_t_choices 0), .ref (a_t_ways 0), .ref (a_t_stress 0)])), ((a_t 4), .inl (g.2.2.1 4, 3, .inr (.inr (.inr (.inr (iF (a_t_images_0 0) (a_t_images_1 0) (a_t_images_2 0))))))), ((a_t_images_1 0), .inr (1, [.ref (a_t_images_1 1), .ref (a_t_images_1 2), .ref (a_t_images_1 3), .ref (a_t_images_1 4), .ref (a_t_images_1 5), .int t_images_1_told, .int t_images_1_lines, .int t_images_1_kinds, .int t_images_1_acts])), ((a_t_images_1 1), .inl (g.2.2.1 0, 15, .inl t_images_1_numbers)), ((a_t_images_1 2), .inl (g.2.2.1 0, 144, .inl t_images_1_cells)), ((a_t_images_1 3), .inl (g.2.2.1 0, 31, .inl t_images_1_rows)), ((a_t_images_1 4), .inl (g.2.2.1 0, 31, .inl t_images_1_sizes)), ((a_t_images_1 5), .inl (g.2.2.1 0, 31, .inl t_images_1_rooms)), ((a_t_images_2 0), .inr (1, [.ref (a_t_images_2 1), .ref (a_t_images_2 2), .ref (a_t_images_2 3), .ref (a_t_images_2 4), .ref (a_t_images_2 5), .int t_images_2_told, .int t_images_2_lines, .int t_images_2_kinds, .int t_images_2_acts])), ((a_t_images_2 1), .inl (g.2.2.1 0, 15, .inl t_images_2_numbers)), ((a_t_images_2 2), .inl (g.2.2.1 0, 144, .inl t_images_2_cells)), ((a_t_images_2 3), .inl (g.2.2.1 0, 31, .inl t_images_2_rows)), ((a_t_images_2 4), .inl (g.2.2.1 0, 31, .inl t_images_2_sizes)), ((a_t_images_2 5), .inl (g.2.2.1 0, 31, .inl t_images_2_rooms)), ((a_t_images_0 0), .inr (1, [.ref (a_t_images_0 1), .ref (a_t_images_0 2), .ref (a_t_images_0 3), .ref (a_t_images_0 4), .ref (a_t_images_0 5), .int w13, .int w14, .int w15, .int w16])), ((a_t_images_0 1), .inl (g.2.2.1 0, 15, .inl w8)), ((a_t_images_0 2), .inl (g.2.2.1 0, 144, .inl w9)), ((a_t_images_0 3), .inl (g.2.2.1 0, 31, .inl w10)), ((a_t_images_0 4), .inl (g.2.2.1 0, 31, .inl w11)), ((a_t_images_0 5), .inl (g.2.2.1 0, 31, .inl w12)), ((a_t_now 0), .inr (1, [.ref (a_t_now 1), .ref (a_t_now 2), .ref (a_t_now 3), .ref (a_t_now 4), .ref (a_t_now 5), .int t_now_told, .int t_now_lines, .int t_now_kinds, .int t_now_acts])), ((a_t_now 1), .inl (g.2.2.1 0, 15, .inl t_now_numbers)), ((a_t_now 2), .inl (g.2.2.1 0, 144, .inl t_now_cells)), ((a_t_now 3), .inl (g.2.2.1 0, 31, .inl t_now_rows)), ((a_t_now 4), .inl (g.2.2.1 0, 31, .inl t_now_sizes)), ((a_t_now 5), .inl (g.2.2.1 0, 31, .inl t_now_rooms))]) (wr := [((a_t 0), .inr (6, [.ref (a_t_tape 0), .ref (a_t_reader 0), .ref (a_t_now 0), .ref (a_t 4), .ref (a_t_choices 0), .ref (a_t_ways 0), .ref (a_t_stress 0)])), ((a_t 4), .inl (g.2.2.1 4, 3, .inr (.inr (.inr (.inr (iF (a_t_images_0 0) (a_t_images_1 0) (a_t_images_2 0))))))), ((a_t_images_1 0), .inr (1, [.ref (a_t_images_1 1), .ref (a_t_images_1 2), .ref (a_t_images_1 3), .ref (a_t_images_1 4), .ref (a_t_images_1 5), .int t_images_1_told, .int t_images_1_lines, .int t_images_1_kinds, .int t_images_1_acts])), ((a_t_images_1 1), .inl (g.2.2.1 0, 15, .inl t_images_1_numbers)), ((a_t_images_1 2), .inl (g.2.2.1 0, 144, .inl t_images_1_cells)), ((a_t_images_1 3), .inl (g.2.2.1 0, 31, .inl t_images_1_rows)), ((a_t_images_1 4), .inl (g.2.2.1 0, 31, .inl t_images_1_sizes)), ((a_t_images_1 5), .inl (g.2.2.1 0, 31, .inl t_images_1_rooms)), ((a_t_images_2 0), .inr (1, [.ref (a_t_images_2 1), .ref (a_t_images_2 2), .ref (a_t_images_2 3), .ref (a_t_images_2 4), .ref (a_t_images_2 5), .int t_images_2_told, .int t_images_2_lines, .int t_images_2_kinds, .int t_images_2_acts])), ((a_t_images_2 1), .inl (g.2.2.1 0, 15, .inl t_images_2_numbers)), ((a_t_images_2 2), .inl (g.2.2.1 0, 144, .inl t_images_2_cells)), ((a_t_images_2 3), .inl (g.2.2.1 0, 31, .inl t_images_2_rows)), ((a_t_images_2 4), .inl (g.2.2.1 0, 31, .inl t_images_2_sizes)), ((a_t_images_2 5), .inl (g.2.2.1 0, 31, .inl t_images_2_rooms))]) (runVN (As := [.ref ((a_t_now 0))]) (rest := []) hG cx hl.1 (ctX1_copy l g s.heap.size a_t_images_0 a_t_now t_images_0_told t_images_0_lines t_images_0_kinds t_images_0_acts t_images_0_numbers t_images_0_cells t_images_0_rows t_images_0_sizes t_images_0_rooms t_now_told t_now_lines t_now_kinds t_now_acts t_now_numbers t_now_cells t_now_rows t_now_sizes t_now_rooms w8 w9 w10 w11 w12 w13 w14 w15 w16 hr7) kmX1_copy kvX1_copy nm_14 ⟨rfl, rfl⟩ ⟨Nat.le_of_ble_eq_true rfl, Nat.le_of_ble_eq_true rfl⟩ (rwV (q0 := 8) (ci := 1) hG (hP.sub [8, 9, 10, 11, 12, 13, 1, 2, 3, 4, 5, 6] rfl) (hD.sub [8, 9, 10, 11, 12, 13, 1, 2, 3, 4, 5, 6] (by decide) rfl) hAb hb0 hS hP rfl rfl) rfl rfl (Nat.le_of_ble_eq_true rfl) dX7_image_31 ⟨Nat.le_of_ble_eq_true rfl, Nat.le_of_ble_eq_true rfl⟩) hP hD hS hA [8, 9, 10, 11, 12, 13, 1, 2, 3, 4, 5, 6] [0, 7, 14, 15, 16, 17, 18, 19, 20, 21, 22, 23, 24, 25] rfl rfl (by decide) (by decide) (fun _ => rfl) (fun u17 H locs hP hD hS => ?_)
        have hG := hGk hS
        refine lv_iconst (v := 0) hx hb dX7_image_34 (by decide) ?_
        exact hrt (fun _ => 0) _ _ ((0)) w8 w9 w10 w11 w12 w13 w14 w15 w16 t_images_1_numbers t_images_1_cells t_images_1_rows t_images_1_sizes t_images_1_rooms t_images_1_told t_images_1_lines t_images_1_kinds t_images_1_acts t_images_2_numbers t_images_2_cells t_images_2_rows t_images_2_sizes t_images_2_rooms t_images_2_told t_images_2_lines t_images_2_kinds t_images_2_acts _ _ dX7_image_35 h (hP.sub [0, 20, 21, 22, 23, 24, 25, 1, 14, 15, 16, 17, 18, 19, 2, 3, 4, 5, 6, 7, 8, 9, 10, 11, 12, 13] rfl) (hD.sub [0, 20, 21, 22, 23, 24, 25, 1, 14, 15, 16, 17, 18, 19, 2, 3, 4, 5, 6, 7, 8, 9, 10, 11, 12, 13] (by decide) rfl) hS
      · have h := itn e6 h
        by_cases e18 : v1 = 1
        · have h := itp e18 h
          refine xa_ald3 (k := 1) cx hG hP 7 rfl (by rw [e18]; decide) rfl dX7_image_26 ?_
          refine lv_aload_n hx hb dX7_image_27 rfl (lv_at hl 0 rfl) ?_
          refine xa_get (C := RX7) (T := TX7) (N := 7) cx hG hP 0 rfl rfl uX7 2 (by decide) lf_X7_30 rfl dX7_image_28 ?_
          obtain ⟨w20, w21, w22, w23, w24, w25, w26, w27, w28, hr19, h⟩ := ob9_out h
          refine rw_v (WN := fun u29 => [((a_t 0), .inr (6, [.ref (a_t_tape 0), .ref (a_t_reader 0), .ref (a_t_now 0), .ref (a_t 4), .ref (a_t_choices 0), .ref (a_t_ways 0), .ref (a_t_stress 0)])), ((a_t 4), .inl (g.2.2.1 4, 3, .inr (.inr (.inr (.inr (iF (a_t_images_0 0) (a_t_images_1 0) (a_t_images_2 0))))))), ((a_t_images_0 0), .inr (1, [.ref (a_t_images_0 1), .ref (a_t_images_0 2), .ref (a_t_images_0 3), .ref (a_t_images_0 4), .ref (a_t_images_0 5), .int t_images_0_told, .int t_images_0_lines, .int t_images_0_kinds, .int t_images_0_acts])), ((a_t_images_0 1), .inl (g.2.2.1 0, 15, .inl t_images_0_numbers)), ((a_t_images_0 2), .inl (g.2.2.1 0, 144, .inl t_images_0_cells)), ((a_t_images_0 3), .inl (g.2.2.1 0, 31, .inl t_images_0_rows)), ((a_t_images_0 4), .inl (g.2.2.1 0, 31, .inl t_images_0_sizes)), ((a_t_images_0 5), .inl (g.2.2.1 0, 31, .inl t_images_0_rooms)), ((a_t_images_2 0), .inr (1, [.ref (a_t_images_2 1), .ref (a_t_images_2 2), .ref (a_t_images_2 3), .ref (a_t_images_2 4), .ref (a_t_images_2 5), .int t_images_2_told, .int t_images_2_lines, .int t_images_2_kinds, .int t_images_2_acts])), ((a_t_images_2 1), .inl (g.2.2.1 0, 15, .inl t_images_2_numbers)), ((a_t_images_2 2), .inl (g.2.2.1 0, 144, .inl t_images_2_cells)), ((a_t_images_2 3), .inl (g.2.2.1 0, 31, .inl t_images_2_rows)), ((a_t_images_2 4), .inl (g.2.2.1 0, 31, .inl t_images_2_sizes)), ((a_t_images_2 5), .inl (g.2.2.1 0, 31, .inl t_images_2_rooms)), ((a_t_images_1 0), .inr (1, [.ref (a_t_images_1 1), .ref (a_t_images_1 2), .ref (a_t_images_1 3), .ref (a_t_images_1 4), .ref (a_t_images_1 5), .int w25, .int w26, .int w27, .int w28])), ((a_t_images_1 1), .inl (g.2.2.1 0, 15, .inl w20)), ((a_t_images_1 2), .inl (g.2.2.1 0, 144, .inl w21)), ((a_t_images_1 3), .inl (g.2.2.1 0, 31, .inl w22)), ((a_t_images_1 4), .inl (g.2.2.1 0, 31, .inl w23)), ((a_t_images_1 5), .inl (g.2.2.1 0, 31, .inl w24)), ((a_t_now 0), .inr (1, [.ref (a_t_now 1), .ref (a_t_now 2), .ref (a_t_now 3), .ref (a_t_now 4), .ref (a_t_now 5), .int t_now_told, .int t_now_lines, .int t_now_kinds, .int t_now_acts])), ((a_t_now 1), .inl (g.2.2.1 0, 15, .inl t_now_numbers)), ((a_t_now 2), .inl (g.2.2.1 0, 144, .inl t_now_cells)), ((a_t_now 3), .inl (g.2.2.1 0, 31, .inl t_now_rows)), ((a_t_now 4), .inl (g.2.2.1 0, 31, .inl t_now_sizes)), ((a_t_now 5), .inl (g.2.2.1 0, 31, .inl t_now_rooms))]) (wr := [((a_t 0), .inr (6, [.ref (a_t_tape 0), .ref (a_t_reader 0), .ref (a_t_now 0), .ref (a_t 4), .ref (a_t_choices 0), .ref (a_t_ways 0), .ref (a_t_stress 0)])), ((a_t 4), .inl (g.2.2.1 4, 3, .inr (.inr (.inr (.inr (iF (a_t_images_0 0) (a_t_images_1 0) (a_t_images_2 0))))))), ((a_t_images_0 0), .inr (1, [.ref (a_t_images_0 1), .ref (a_t_images_0 2), .ref (a_t_images_0 3), .ref (a_t_images_0 4), .ref (a_t_images_0 5), .int t_images_0_told, .int t_images_0_lines, .int t_images_0_kinds, .int t_images_0_acts])), ((a_t_images_0 1), .inl (g.2.2.1 0, 15, .inl t_images_0_numbers)), ((a_t_images_0 2), .inl (g.2.2.1 0, 144, .inl t_images_0_cells)), ((a_t_images_0 3), .inl (g.2.2.1 0, 31, .inl t_images_0_rows)), ((a_t_images_0 4), .inl (g.2.2.1 0, 31, .inl t_images_0_sizes)), ((a_t_images_0 5), .inl (g.2.2.1 0, 31, .inl t_images_0_rooms)), ((a_t_images_2 0), .inr (1, [.ref (a_t_images_2 1), .ref (a_t_images_2 2), .ref (a_t_images_2 3), .ref (a_t_images_2 4), .ref (a_t_images_2 5), .int t_images_2_told, .int t_images_2_lines, .int t_images_2_kinds, .int t_images_2_acts])), ((a_t_images_2 1), .inl (g.2.2.1 0, 15, .inl t_images_2_numbers)), ((a_t_images_2 2), .inl (g.2.2.1 0, 144, .inl t_images_2_cells)), ((a_t_images_2 3), .inl (g.2.2.1 0, 31, .inl t_images_2_rows)), ((a_t_images_2 4), .inl (g.2.2.1 0, 31, .inl t_images_2_sizes)), ((a_t_images_2 5), .inl (g.2.2.1 0, 31, .inl t_images_2_rooms))]) (runVN (As := [.ref ((a_t_now 0))]) (rest := []) hG cx hl.1 (ctX1_copy l g s.heap.size a_t_images_1 a_t_now t_images_1_told t_images_1_lines t_images_1_kinds t_images_1_acts t_images_1_numbers t_images_1_cells t_images_1_rows t_images_1_sizes t_images_1_rooms t_now_told t_now_lines t_now_kinds t_now_acts t_now_numbers t_now_cells t_now_rows t_now_sizes t_now_rooms w20 w21 w22 w23 w24 w25 w26 w27 w28 hr19) kmX1_copy kvX1_copy nm_14 ⟨rfl, rfl⟩ ⟨Nat.le_of_ble_eq_true rfl, Nat.le_of_ble_eq_true rfl⟩ (rwV (q0 := 14) (ci := 1) hG (hP.sub [14, 15, 16, 17, 18, 19, 1, 2, 3, 4, 5, 6] rfl) (hD.sub [14, 15, 16, 17, 18, 19, 1, 2, 3, 4, 5, 6] (by decide) rfl) hAb hb0 hS hP rfl rfl) rfl rfl (Nat.le_of_ble_eq_true rfl) dX7_image_31 ⟨Nat.le_of_ble_eq_true rfl, Nat.le_of_ble_eq_true rfl⟩) hP hD hS hA [14, 15, 16, 17, 18, 19, 1, 2, 3, 4, 5, 6] [0, 7, 8, 9, 10, 11, 12, 13, 20, 21, 22, 23, 24, 25] rfl rfl (by decide) (by decide) (fun _ => rfl) (fun u29 H locs hP hD hS => ?_)
          have hG := hGk hS
          refine lv_iconst (v := 0) hx hb dX7_image_34 (by decide) ?_
          exact hrt (fun _ => 0) _ _ ((0)) t_images_0_numbers t_images_0_cells t_images_0_rows t_images_0_sizes t_images_0_rooms t_images_0_told t_images_0_lines t_images_0_kinds t_images_0_acts w20 w21 w22 w23 w24 w25 w26 w27 w28 t_images_2_numbers t_images_2_cells t_images_2_rows t_images_2_sizes t_images_2_rooms t_images_2_told t_images_2_lines t_images_2_kinds t_images_2_acts _ _ dX7_image_35 h (hP.sub [0, 20, 21, 22, 23, 24, 25, 1, 2, 3, 4, 5, 6, 7, 14, 15, 16, 17, 18, 19, 8, 9, 10, 11, 12, 13] rfl) (hD.sub [0, 20, 21, 22, 23, 24, 25, 1, 2, 3, 4, 5, 6, 7, 14, 15, 16, 17, 18, 19, 8, 9, 10, 11, 12, 13] (by decide) rfl) hS
        · have h := itn e18 h
          by_cases e30 : v1 = 2
          · have h := itp e30 h
            refine xa_ald3 (k := 2) cx hG hP 7 rfl (by rw [e30]; decide) rfl dX7_image_26 ?_
            refine lv_aload_n hx hb dX7_image_27 rfl (lv_at hl 0 rfl) ?_
            refine xa_get (C := RX7) (T := TX7) (N := 7) cx hG hP 0 rfl rfl uX7 2 (by decide) lf_X7_30 rfl dX7_image_28 ?_
            obtain ⟨w32, w33, w34, w35, w36, w37, w38, w39, w40, hr31, h⟩ := ob9_out h
            refine rw_v (WN := fun u41 => [((a_t 0), .inr (6, [.ref (a_t_tape 0), .ref (a_t_reader 0), .ref (a_t_now 0), .ref (a_t 4), .ref (a_t_choices 0), .ref (a_t_ways 0), .ref (a_t_stress 0)])), ((a_t 4), .inl (g.2.2.1 4, 3, .inr (.inr (.inr (.inr (iF (a_t_images_0 0) (a_t_images_1 0) (a_t_images_2 0))))))), ((a_t_images_0 0), .inr (1, [.ref (a_t_images_0 1), .ref (a_t_images_0 2), .ref (a_t_images_0 3), .ref (a_t_images_0 4), .ref (a_t_images_0 5), .int t_images_0_told, .int t_images_0_lines, .int t_images_0_kinds, .int t_images_0_acts])), ((a_t_images_0 1), .inl (g.2.2.1 0, 15, .inl t_images_0_numbers)), ((a_t_images_0 2), .inl (g.2.2.1 0, 144, .inl t_images_0_cells)), ((a_t_images_0 3), .inl (g.2.2.1 0, 31, .inl t_images_0_rows)), ((a_t_images_0 4), .inl (g.2.2.1 0, 31, .inl t_images_0_sizes)), ((a_t_images_0 5), .inl (g.2.2.1 0, 31, .inl t_images_0_rooms)), ((a_t_images_1 0), .inr (1, [.ref (a_t_images_1 1), .ref (a_t_images_1 2), .ref (a_t_images_1 3), .ref (a_t_images_1 4), .ref (a_t_images_1 5), .int t_images_1_told, .int t_images_1_lines, .int t_images_1_kinds, .int t_images_1_acts])), ((a_t_images_1 1), .inl (g.2.2.1 0, 15, .inl t_images_1_numbers)), ((a_t_images_1 2), .inl (g.2.2.1 0, 144, .inl t_images_1_cells)), ((a_t_images_1 3), .inl (g.2.2.1 0, 31, .inl t_images_1_rows)), ((a_t_images_1 4), .inl (g.2.2.1 0, 31, .inl t_images_1_sizes)), ((a_t_images_1 5), .inl (g.2.2.1 0, 31, .inl t_images_1_rooms)), ((a_t_images_2 0), .inr (1, [.ref (a_t_images_2 1), .ref (a_t_images_2 2), .ref (a_t_images_2 3), .ref (a_t_images_2 4), .ref (a_t_images_2 5), .int w37, .int w38, .int w39, .int w40])), ((a_t_images_2 1), .inl (g.2.2.1 0, 15, .inl w32)), ((a_t_images_2 2), .inl (g.2.2.1 0, 144, .inl w33)), ((a_t_images_2 3), .inl (g.2.2.1 0, 31, .inl w34)), ((a_t_images_2 4), .inl (g.2.2.1 0, 31, .inl w35)), ((a_t_images_2 5), .inl (g.2.2.1 0, 31, .inl w36)), ((a_t_now 0), .inr (1, [.ref (a_t_now 1), .ref (a_t_now 2), .ref (a_t_now 3), .ref (a_t_now 4), .ref (a_t_now 5), .int t_now_told, .int t_now_lines, .int t_now_kinds, .int t_now_acts])), ((a_t_now 1), .inl (g.2.2.1 0, 15, .inl t_now_numbers)), ((a_t_now 2), .inl (g.2.2.1 0, 144, .inl t_now_cells)), ((a_t_now 3), .inl (g.2.2.1 0, 31, .inl t_now_rows)), ((a_t_now 4), .inl (g.2.2.1 0, 31, .inl t_now_sizes)), ((a_t_now 5), .inl (g.2.2.1 0, 31, .inl t_now_rooms))]) (wr := [((a_t 0), .inr (6, [.ref (a_t_tape 0), .ref (a_t_reader 0), .ref (a_t_now 0), .ref (a_t 4), .ref (a_t_choices 0), .ref (a_t_ways 0), .ref (a_t_stress 0)])), ((a_t 4), .inl (g.2.2.1 4, 3, .inr (.inr (.inr (.inr (iF (a_t_images_0 0) (a_t_images_1 0) (a_t_images_2 0))))))), ((a_t_images_0 0), .inr (1, [.ref (a_t_images_0 1), .ref (a_t_images_0 2), .ref (a_t_images_0 3), .ref (a_t_images_0 4), .ref (a_t_images_0 5), .int t_images_0_told, .int t_images_0_lines, .int t_images_0_kinds, .int t_images_0_acts])), ((a_t_images_0 1), .inl (g.2.2.1 0, 15, .inl t_images_0_numbers)), ((a_t_images_0 2), .inl (g.2.2.1 0, 144, .inl t_images_0_cells)), ((a_t_images_0 3), .inl (g.2.2.1 0, 31, .inl t_images_0_rows)), ((a_t_images_0 4), .inl (g.2.2.1 0, 31, .inl t_images_0_sizes)), ((a_t_images_0 5), .inl (g.2.2.1 0, 31, .inl t_images_0_rooms)), ((a_t_images_1 0), .inr (1, [.ref (a_t_images_1 1), .ref (a_t_images_1 2), .ref (a_t_images_1 3), .ref (a_t_images_1 4), .ref (a_t_images_1 5), .int t_images_1_told, .int t_images_1_lines, .int t_images_1_kinds, .int t_images_1_acts])), ((a_t_images_1 1), .inl (g.2.2.1 0, 15, .inl t_images_1_numbers)), ((a_t_images_1 2), .inl (g.2.2.1 0, 144, .inl t_images_1_cells)), ((a_t_images_1 3), .inl (g.2.2.1 0, 31, .inl t_images_1_rows)), ((a_t_images_1 4), .inl (g.2.2.1 0, 31, .inl t_images_1_sizes)), ((a_t_images_1 5), .inl (g.2.2.1 0, 31, .inl t_images_1_rooms))]) (runVN (As := [.ref ((a_t_now 0))]) (rest := []) hG cx hl.1 (ctX1_copy l g s.heap.size a_t_images_2 a_t_now t_images_2_told t_images_2_lines t_images_2_kinds t_images_2_acts t_images_2_numbers t_images_2_cells t_images_2_rows t_images_2_sizes t_images_2_rooms t_now_told t_now_lines t_now_kinds t_now_acts t_now_numbers t_now_cells t_now_rows t_now_sizes t_now_rooms w32 w33 w34 w35 w36 w37 w38 w39 w40 hr31) kmX1_copy kvX1_copy nm_14 ⟨rfl, rfl⟩ ⟨Nat.le_of_ble_eq_true rfl, Nat.le_of_ble_eq_true rfl⟩ (rwV (q0 := 20) (ci := 1) hG (hP.sub [20, 21, 22, 23, 24, 25, 1, 2, 3, 4, 5, 6] rfl) (hD.sub [20, 21, 22, 23, 24, 25, 1, 2, 3, 4, 5, 6] (by decide) rfl) hAb hb0 hS hP rfl rfl) rfl rfl (Nat.le_of_ble_eq_true rfl) dX7_image_31 ⟨Nat.le_of_ble_eq_true rfl, Nat.le_of_ble_eq_true rfl⟩) hP hD hS hA [20, 21, 22, 23, 24, 25, 1, 2, 3, 4, 5, 6] [0, 7, 8, 9, 10, 11, 12, 13, 14, 15, 16, 17, 18, 19] rfl rfl (by decide) (by decide) (fun _ => rfl) (fun u41 H locs hP hD hS => ?_)
            have hG := hGk hS
            refine lv_iconst (v := 0) hx hb dX7_image_34 (by decide) ?_
            exact hrt (fun _ => 0) _ _ ((0)) t_images_0_numbers t_images_0_cells t_images_0_rows t_images_0_sizes t_images_0_rooms t_images_0_told t_images_0_lines t_images_0_kinds t_images_0_acts t_images_1_numbers t_images_1_cells t_images_1_rows t_images_1_sizes t_images_1_rooms t_images_1_told t_images_1_lines t_images_1_kinds t_images_1_acts w32 w33 w34 w35 w36 w37 w38 w39 w40 _ _ dX7_image_35 h (hP.sub [0, 20, 21, 22, 23, 24, 25, 1, 2, 3, 4, 5, 6, 7, 8, 9, 10, 11, 12, 13, 14, 15, 16, 17, 18, 19] rfl) (hD.sub [0, 20, 21, 22, 23, 24, 25, 1, 2, 3, 4, 5, 6, 7, 8, 9, 10, 11, 12, 13, 14, 15, 16, 17, 18, 19] (by decide) rfl) hS
          · have h := itn e30 h
            cases h
    · have h := itp c5 h
      refine lv_bipush (v := -2) hx hb dX7_image_18 (by decide) ?_
      exact hrt (fun _ => 0) _ _ ((-2)) t_images_0_numbers t_images_0_cells t_images_0_rows t_images_0_sizes t_images_0_rooms t_images_0_told t_images_0_lines t_images_0_kinds t_images_0_acts t_images_1_numbers t_images_1_cells t_images_1_rows t_images_1_sizes t_images_1_rooms t_images_1_told t_images_1_lines t_images_1_kinds t_images_1_acts t_images_2_numbers t_images_2_cells t_images_2_rows t_images_2_sizes t_images_2_rooms t_images_2_told t_images_2_lines t_images_2_kinds t_images_2_acts _ _ dX7_image_20 h (hP.sub [0, 1, 2, 3, 4, 5, 6, 7, 8, 9, 10, 11, 12, 13, 14, 15, 16, 17, 18, 19, 20, 21, 22, 23, 24, 25] rfl) (hD.sub [0, 1, 2, 3, 4, 5, 6, 7, 8, 9, 10, 11, 12, 13, 14, 15, 16, 17, 18, 19, 20, 21, 22, 23, 24, 25] (by decide) rfl) hS
-- X7_back
theorem dX7_back_0 : decode cX7_back 0 = .ok (.aload_n 0, 1) := by decide +kernel
theorem dX7_back_1 : decode cX7_back 1 = .ok (.iload_n 1, 1) := by decide +kernel
theorem dX7_back_2 : decode cX7_back 2 = .ok (.invokevirtual 357, 3) := by decide +kernel
theorem dX7_back_5 : decode cX7_back 5 = .ok (.ifCond .ne 6, 3) := by decide +kernel
theorem dX7_back_8 : decode cX7_back 8 = .ok (.bipush (-2), 2) := by decide +kernel
theorem dX7_back_10 : decode cX7_back 10 = .ok (.ireturn, 1) := by decide +kernel
theorem dX7_back_11 : decode cX7_back 11 = .ok (.aload_n 0, 1) := by decide +kernel
theorem dX7_back_12 : decode cX7_back 12 = .ok (.getfield 34, 3) := by decide +kernel
theorem dX7_back_15 : decode cX7_back 15 = .ok (.iload_n 1, 1) := by decide +kernel
theorem dX7_back_16 : decode cX7_back 16 = .ok (.aaload, 1) := by decide +kernel
theorem dX7_back_17 : decode cX7_back 17 = .ok (.getfield 139, 3) := by decide +kernel
theorem dX7_back_20 : decode cX7_back 20 = .ok (.ifCond .ne 6, 3) := by decide +kernel
theorem dX7_back_23 : decode cX7_back 23 = .ok (.bipush (-6), 2) := by decide +kernel
theorem dX7_back_25 : decode cX7_back 25 = .ok (.ireturn, 1) := by decide +kernel
theorem dX7_back_26 : decode cX7_back 26 = .ok (.aload_n 0, 1) := by decide +kernel
theorem dX7_back_27 : decode cX7_back 27 = .ok (.getfield 30, 3) := by decide +kernel
theorem dX7_back_30 : decode cX7_back 30 = .ok (.aload_n 0, 1) := by decide +kernel
theorem dX7_back_31 : decode cX7_back 31 = .ok (.getfield 34, 3) := by decide +kernel
theorem dX7_back_34 : decode cX7_back 34 = .ok (.iload_n 1, 1) := by decide +kernel
theorem dX7_back_35 : decode cX7_back 35 = .ok (.aaload, 1) := by decide +kernel
theorem dX7_back_36 : decode cX7_back 36 = .ok (.invokevirtual 74, 3) := by decide +kernel
theorem dX7_back_39 : decode cX7_back 39 = .ok (.aload_n 0, 1) := by decide +kernel
theorem dX7_back_40 : decode cX7_back 40 = .ok (.getfield 41, 3) := by decide +kernel
theorem dX7_back_43 : decode cX7_back 43 = .ok (.invokevirtual 78, 3) := by decide +kernel
theorem dX7_back_46 : decode cX7_back 46 = .ok (.iconst 0, 1) := by decide +kernel
theorem dX7_back_47 : decode cX7_back 47 = .ok (.ireturn, 1) := by decide +kernel
noncomputable def fX7_back  (t_now_numbers : Nat → Int32) (t_now_cells : Nat → Int32) (t_now_rows : Nat → Int32) (t_now_sizes : Nat → Int32) (t_now_rooms : Nat → Int32) (t_now_told : Int32) (t_now_lines : Int32) (t_now_kinds : Int32) (t_now_acts : Int32) (t_images_0_numbers : Nat → Int32) (t_images_0_cells : Nat → Int32) (t_images_0_rows : Nat → Int32) (t_images_0_sizes : Nat → Int32) (t_images_0_rooms : Nat → Int32) (t_images_0_told : Int32) (t_images_0_lines : Int32) (t_images_0_kinds : Int32) (t_images_0_acts : Int32) (t_images_1_numbers : Nat → Int32) (t_images_1_cells : Nat → Int32) (t_images_1_rows : Nat → Int32) (t_images_1_sizes : Nat → Int32) (t_images_1_rooms : Nat → Int32) (t_images_1_told : Int32) (t_images_1_lines : Int32) (t_images_1_kinds : Int32) (t_images_1_acts : Int32) (t_images_2_numbers : Nat → Int32) (t_images_2_cells : Nat → Int32) (t_images_2_rows : Nat → Int32) (t_images_2_sizes : Nat → Int32) (t_images_2_rooms : Nat → Int32) (t_images_2_told : Int32) (t_images_2_lines : Int32) (t_images_2_kinds : Int32) (t_images_2_acts : Int32) (t_choices_ready : Int32) (v1 : Int32) : Option (Int32 × (Nat → Int32) × (Nat → Int32) × (Nat → Int32) × (Nat → Int32) × (Nat → Int32) × Int32 × Int32 × Int32 × Int32 × Int32) := (fX7_isImage v1).bind fun r1 => (if r1 = 0 then some ((-2), t_now_numbers, t_now_cells, t_now_rows, t_now_sizes, t_now_rooms, t_now_told, t_now_lines, t_now_kinds, t_now_acts, t_choices_ready) else (if v1 = 0 then (if t_images_0_told = 0 then some ((-6), t_now_numbers, t_now_cells, t_now_rows, t_now_sizes, t_now_rooms, t_now_told, t_now_lines, t_now_kinds, t_now_acts, t_choices_ready) else (if v1 = 0 then ob9 (fX1_copy t_now_numbers t_now_cells t_now_rows t_now_sizes t_now_rooms t_now_told t_now_lines t_now_kinds t_now_acts t_images_0_numbers t_images_0_cells t_images_0_rows t_images_0_sizes t_images_0_rooms t_images_0_told t_images_0_lines t_images_0_kinds t_images_0_acts) fun w9 w10 w11 w12 w13 w14 w15 w16 w17 => (fX0_forget t_choices_ready).bind fun w20 => some ((0), w9, w10, w11, w12, w13, w14, w15, w16, w17, w20) else (if v1 = 1 then ob9 (fX1_copy t_now_numbers t_now_cells t_now_rows t_now_sizes t_now_rooms t_now_told t_now_lines t_now_kinds t_now_acts t_images_1_numbers t_images_1_cells t_images_1_rows t_images_1_sizes t_images_1_rooms t_images_1_told t_images_1_lines t_images_1_kinds t_images_1_acts) fun w24 w25 w26 w27 w28 w29 w30 w31 w32 => (fX0_forget t_choices_ready).bind fun w35 => some ((0), w24, w25, w26, w27, w28, w29, w30, w31, w32, w35) else (if v1 = 2 then ob9 (fX1_copy t_now_numbers t_now_cells t_now_rows t_now_sizes t_now_rooms t_now_told t_now_lines t_now_kinds t_now_acts t_images_2_numbers t_images_2_cells t_images_2_rows t_images_2_sizes t_images_2_rooms t_images_2_told t_images_2_lines t_images_2_kinds t_images_2_acts) fun w39 w40 w41 w42 w43 w44 w45 w46 w47 => (fX0_forget t_choices_ready).bind fun w50 => some ((0), w39, w40, w41, w42, w43, w44, w45, w46, w47, w50) else none)))) else (if v1 = 1 then (if t_images_1_told = 0 then some ((-6), t_now_numbers, t_now_cells, t_now_rows, t_now_sizes, t_now_rooms, t_now_told, t_now_lines, t_now_kinds, t_now_acts, t_choices_ready) else (if v1 = 0 then ob9 (fX1_copy t_now_numbers t_now_cells t_now_rows t_now_sizes t_now_rooms t_now_told t_now_lines t_now_kinds t_now_acts t_images_0_numbers t_images_0_cells t_images_0_rows t_images_0_sizes t_images_0_rooms t_images_0_told t_images_0_lines t_images_0_kinds t_images_0_acts) fun w56 w57 w58 w59 w60 w61 w62 w63 w64 => (fX0_forget t_choices_ready).bind fun w67 => some ((0), w56, w57, w58, w59, w60, w61, w62, w63, w64, w67) else (if v1 = 1 then ob9 (fX1_copy t_now_numbers t_now_cells t_now_rows t_now_sizes t_now_rooms t_now_told t_now_lines t_now_kinds t_now_acts t_images_1_numbers t_images_1_cells t_images_1_rows t_images_1_sizes t_images_1_rooms t_images_1_told t_images_1_lines t_images_1_kinds t_images_1_acts) fun w71 w72 w73 w74 w75 w76 w77 w78 w79 => (fX0_forget t_choices_ready).bind fun w82 => some ((0), w71, w72, w73, w74, w75, w76, w77, w78, w79, w82) else (if v1 = 2 then ob9 (fX1_copy t_now_numbers t_now_cells t_now_rows t_now_sizes t_now_rooms t_now_told t_now_lines t_now_kinds t_now_acts t_images_2_numbers t_images_2_cells t_images_2_rows t_images_2_sizes t_images_2_rooms t_images_2_told t_images_2_lines t_images_2_kinds t_images_2_acts) fun w86 w87 w88 w89 w90 w91 w92 w93 w94 => (fX0_forget t_choices_ready).bind fun w97 => some ((0), w86, w87, w88, w89, w90, w91, w92, w93, w94, w97) else none)))) else (if v1 = 2 then (if t_images_2_told = 0 then some ((-6), t_now_numbers, t_now_cells, t_now_rows, t_now_sizes, t_now_rooms, t_now_told, t_now_lines, t_now_kinds, t_now_acts, t_choices_ready) else (if v1 = 0 then ob9 (fX1_copy t_now_numbers t_now_cells t_now_rows t_now_sizes t_now_rooms t_now_told t_now_lines t_now_kinds t_now_acts t_images_0_numbers t_images_0_cells t_images_0_rows t_images_0_sizes t_images_0_rooms t_images_0_told t_images_0_lines t_images_0_kinds t_images_0_acts) fun w103 w104 w105 w106 w107 w108 w109 w110 w111 => (fX0_forget t_choices_ready).bind fun w114 => some ((0), w103, w104, w105, w106, w107, w108, w109, w110, w111, w114) else (if v1 = 1 then ob9 (fX1_copy t_now_numbers t_now_cells t_now_rows t_now_sizes t_now_rooms t_now_told t_now_lines t_now_kinds t_now_acts t_images_1_numbers t_images_1_cells t_images_1_rows t_images_1_sizes t_images_1_rooms t_images_1_told t_images_1_lines t_images_1_kinds t_images_1_acts) fun w118 w119 w120 w121 w122 w123 w124 w125 w126 => (fX0_forget t_choices_ready).bind fun w129 => some ((0), w118, w119, w120, w121, w122, w123, w124, w125, w126, w129) else (if v1 = 2 then ob9 (fX1_copy t_now_numbers t_now_cells t_now_rows t_now_sizes t_now_rooms t_now_told t_now_lines t_now_kinds t_now_acts t_images_2_numbers t_images_2_cells t_images_2_rows t_images_2_sizes t_images_2_rooms t_images_2_told t_images_2_lines t_images_2_kinds t_images_2_acts) fun w133 w134 w135 w136 w137 w138 w139 w140 w141 => (fX0_forget t_choices_ready).bind fun w144 => some ((0), w133, w134, w135, w136, w137, w138, w139, w140, w141, w144) else none)))) else none))))
set_option maxHeartbeats 4000000 in
set_option maxRecDepth 100000 in
theorem ctX7_back (l : Launch) (g : GT) (sz : Nat) (a_t : Nat → Nat) (a_t_tape : Nat → Nat) (a_t_reader : Nat → Nat) (a_t_now : Nat → Nat) (a_t_choices : Nat → Nat) (a_t_ways : Nat → Nat) (a_t_stress : Nat → Nat) (a_t_images_0 : Nat → Nat) (a_t_images_1 : Nat → Nat) (a_t_images_2 : Nat → Nat) (b_t_choices_rows : Nat) (b_t_choices_seen : Nat) (t_now_told : Int32) (t_now_lines : Int32) (t_now_kinds : Int32) (t_now_acts : Int32) (t_now_numbers : Nat → Int32) (t_now_cells : Nat → Int32) (t_now_rows : Nat → Int32) (t_now_sizes : Nat → Int32) (t_now_rooms : Nat → Int32) (t_images_0_told : Int32) (t_images_0_lines : Int32) (t_images_0_kinds : Int32) (t_images_0_acts : Int32) (t_images_0_numbers : Nat → Int32) (t_images_0_cells : Nat → Int32) (t_images_0_rows : Nat → Int32) (t_images_0_sizes : Nat → Int32) (t_images_0_rooms : Nat → Int32) (t_images_1_told : Int32) (t_images_1_lines : Int32) (t_images_1_kinds : Int32) (t_images_1_acts : Int32) (t_images_1_numbers : Nat → Int32) (t_images_1_cells : Nat → Int32) (t_images_1_rows : Nat → Int32) (t_images_1_sizes : Nat → Int32) (t_images_1_rooms : Nat → Int32) (t_images_2_told : Int32) (t_images_2_lines : Int32) (t_images_2_kinds : Int32) (t_images_2_acts : Int32) (t_images_2_numbers : Nat → Int32) (t_images_2_cells : Nat → Int32) (t_images_2_rows : Nat → Int32) (t_images_2_sizes : Nat → Int32) (t_images_2_rooms : Nat → Int32) (t_choices_size : Int32) (t_choices_ready : Int32) (t_choices_pool : Int32) (t_choices_plies : Int32) (t_choices_room : Int32) (v1 : Int32) (o : Int32) (o_t_now_numbers : Nat → Int32) (o_t_now_cells : Nat → Int32) (o_t_now_rows : Nat → Int32) (o_t_now_sizes : Nat → Int32) (o_t_now_rooms : Nat → Int32) (o_t_now_told : Int32) (o_t_now_lines : Int32) (o_t_now_kinds : Int32) (o_t_now_acts : Int32) (o_t_choices_ready : Int32) (h : fX7_back t_now_numbers t_now_cells t_now_rows t_now_sizes t_now_rooms t_now_told t_now_lines t_now_kinds t_now_acts t_images_0_numbers t_images_0_cells t_images_0_rows t_images_0_sizes t_images_0_rooms t_images_0_told t_images_0_lines t_images_0_kinds t_images_0_acts t_images_1_numbers t_images_1_cells t_images_1_rows t_images_1_sizes t_images_1_rooms t_images_1_told t_images_1_lines t_images_1_kinds t_images_1_acts t_images_2_numbers t_images_2_cells t_images_2_rows t_images_2_sizes t_images_2_rooms t_images_2_told t_images_2_lines t_images_2_kinds t_images_2_acts t_choices_ready v1 = some (o, o_t_now_numbers, o_t_now_cells, o_t_now_rows, o_t_now_sizes, o_t_now_rooms, o_t_now_told, o_t_now_lines, o_t_now_kinds, o_t_now_acts, o_t_choices_ready)) : Met l yX7_back (Cond.code yX7_back cX7_back 2 (some .int) :: Tw) ⟨2, 0, 0, 61⟩ (va_Pc [.ref ((a_t 0)), .int v1] (rwB g [((a_t 0), .inr (6, [.ref (a_t_tape 0), .ref (a_t_reader 0), .ref (a_t_now 0), .ref (a_t 4), .ref (a_t_choices 0), .ref (a_t_ways 0), .ref (a_t_stress 0)])), ((a_t_now 0), .inr (1, [.ref (a_t_now 1), .ref (a_t_now 2), .ref (a_t_now 3), .ref (a_t_now 4), .ref (a_t_now 5), .int t_now_told, .int t_now_lines, .int t_now_kinds, .int t_now_acts])), ((a_t_now 1), .inl (g.2.2.1 0, 15, .inl t_now_numbers)), ((a_t_now 2), .inl (g.2.2.1 0, 144, .inl t_now_cells)), ((a_t_now 3), .inl (g.2.2.1 0, 31, .inl t_now_rows)), ((a_t_now 4), .inl (g.2.2.1 0, 31, .inl t_now_sizes)), ((a_t_now 5), .inl (g.2.2.1 0, 31, .inl t_now_rooms)), ((a_t 4), .inl (g.2.2.1 4, 3, .inr (.inr (.inr (.inr (iF (a_t_images_0 0) (a_t_images_1 0) (a_t_images_2 0))))))), ((a_t_images_0 0), .inr (1, [.ref (a_t_images_0 1), .ref (a_t_images_0 2), .ref (a_t_images_0 3), .ref (a_t_images_0 4), .ref (a_t_images_0 5), .int t_images_0_told, .int t_images_0_lines, .int t_images_0_kinds, .int t_images_0_acts])), ((a_t_images_0 1), .inl (g.2.2.1 0, 15, .inl t_images_0_numbers)), ((a_t_images_0 2), .inl (g.2.2.1 0, 144, .inl t_images_0_cells)), ((a_t_images_0 3), .inl (g.2.2.1 0, 31, .inl t_images_0_rows)), ((a_t_images_0 4), .inl (g.2.2.1 0, 31, .inl t_images_0_sizes)), ((a_t_images_0 5), .inl (g.2.2.1 0, 31, .inl t_images_0_rooms)), ((a_t_images_1 0), .inr (1, [.ref (a_t_images_1 1), .ref (a_t_images_1 2), .ref (a_t_images_1 3), .ref (a_t_images_1 4), .ref (a_t_images_1 5), .int t_images_1_told, .int t_images_1_lines, .int t_images_1_kinds, .int t_images_1_acts])), ((a_t_images_1 1), .inl (g.2.2.1 0, 15, .inl t_images_1_numbers)), ((a_t_images_1 2), .inl (g.2.2.1 0, 144, .inl t_images_1_cells)), ((a_t_images_1 3), .inl (g.2.2.1 0, 31, .inl t_images_1_rows)), ((a_t_images_1 4), .inl (g.2.2.1 0, 31, .inl t_images_1_sizes)), ((a_t_images_1 5), .inl (g.2.2.1 0, 31, .inl t_images_1_rooms)), ((a_t_images_2 0), .inr (1, [.ref (a_t_images_2 1), .ref (a_t_images_2 2), .ref (a_t_images_2 3), .ref (a_t_images_2 4), .ref (a_t_images_2 5), .int t_images_2_told, .int t_images_2_lines, .int t_images_2_kinds, .int t_images_2_acts])), ((a_t_images_2 1), .inl (g.2.2.1 0, 15, .inl t_images_2_numbers)), ((a_t_images_2 2), .inl (g.2.2.1 0, 144, .inl t_images_2_cells)), ((a_t_images_2 3), .inl (g.2.2.1 0, 31, .inl t_images_2_rows)), ((a_t_images_2 4), .inl (g.2.2.1 0, 31, .inl t_images_2_sizes)), ((a_t_images_2 5), .inl (g.2.2.1 0, 31, .inl t_images_2_rooms)), ((a_t_choices 0), .inr (0, [.ref b_t_choices_rows, .ref b_t_choices_seen, .int t_choices_size, .int t_choices_ready, .int t_choices_pool, .int t_choices_plies, .int t_choices_room]))] sz)) (va_Qi (fun x (_ : Nat → Nat) => x = o) (fun u => rwE g (va_A [((a_t 0), .inr (6, [.ref (a_t_tape 0), .ref (a_t_reader 0), .ref (a_t_now 0), .ref (a_t 4), .ref (a_t_choices 0), .ref (a_t_ways 0), .ref (a_t_stress 0)])), ((a_t_now 0), .inr (1, [.ref (a_t_now 1), .ref (a_t_now 2), .ref (a_t_now 3), .ref (a_t_now 4), .ref (a_t_now 5), .int t_now_told, .int t_now_lines, .int t_now_kinds, .int t_now_acts])), ((a_t_now 1), .inl (g.2.2.1 0, 15, .inl t_now_numbers)), ((a_t_now 2), .inl (g.2.2.1 0, 144, .inl t_now_cells)), ((a_t_now 3), .inl (g.2.2.1 0, 31, .inl t_now_rows)), ((a_t_now 4), .inl (g.2.2.1 0, 31, .inl t_now_sizes)), ((a_t_now 5), .inl (g.2.2.1 0, 31, .inl t_now_rooms)), ((a_t 4), .inl (g.2.2.1 4, 3, .inr (.inr (.inr (.inr (iF (a_t_images_0 0) (a_t_images_1 0) (a_t_images_2 0))))))), ((a_t_images_0 0), .inr (1, [.ref (a_t_images_0 1), .ref (a_t_images_0 2), .ref (a_t_images_0 3), .ref (a_t_images_0 4), .ref (a_t_images_0 5), .int t_images_0_told, .int t_images_0_lines, .int t_images_0_kinds, .int t_images_0_acts])), ((a_t_images_0 1), .inl (g.2.2.1 0, 15, .inl t_images_0_numbers)), ((a_t_images_0 2), .inl (g.2.2.1 0, 144, .inl t_images_0_cells)), ((a_t_images_0 3), .inl (g.2.2.1 0, 31, .inl t_images_0_rows)), ((a_t_images_0 4), .inl (g.2.2.1 0, 31, .inl t_images_0_sizes)), ((a_t_images_0 5), .inl (g.2.2.1 0, 31, .inl t_images_0_rooms)), ((a_t_images_1 0), .inr (1, [.ref (a_t_images_1 1), .ref (a_t_images_1 2), .ref (a_t_images_1 3), .ref (a_t_images_1 4), .ref (a_t_images_1 5), .int t_images_1_told, .int t_images_1_lines, .int t_images_1_kinds, .int t_images_1_acts])), ((a_t_images_1 1), .inl (g.2.2.1 0, 15, .inl t_images_1_numbers)), ((a_t_images_1 2), .inl (g.2.2.1 0, 144, .inl t_images_1_cells)), ((a_t_images_1 3), .inl (g.2.2.1 0, 31, .inl t_images_1_rows)), ((a_t_images_1 4), .inl (g.2.2.1 0, 31, .inl t_images_1_sizes)), ((a_t_images_1 5), .inl (g.2.2.1 0, 31, .inl t_images_1_rooms)), ((a_t_images_2 0), .inr (1, [.ref (a_t_images_2 1), .ref (a_t_images_2 2), .ref (a_t_images_2 3), .ref (a_t_images_2 4), .ref (a_t_images_2 5), .int t_images_2_told, .int t_images_2_lines, .int t_images_2_kinds, .int t_images_2_acts])), ((a_t_images_2 1), .inl (g.2.2.1 0, 15, .inl t_images_2_numbers)), ((a_t_images_2 2), .inl (g.2.2.1 0, 144, .inl t_images_2_cells)), ((a_t_images_2 3), .inl (g.2.2.1 0, 31, .inl t_images_2_rows)), ((a_t_images_2 4), .inl (g.2.2.1 0, 31, .inl t_images_2_sizes)), ((a_t_images_2 5), .inl (g.2.2.1 0, 31, .inl t_images_2_rooms)), ((a_t_choices 0), .inr (0, [.ref b_t_choices_rows, .ref b_t_choices_seen, .int t_choices_size, .int t_choices_ready, .int t_choices_pool, .int t_choices_plies, .int t_choices_room]))] sz) [((a_t 0), .inr (6, [.ref (a_t_tape 0), .ref (a_t_reader 0), .ref (a_t_now 0), .ref (a_t 4), .ref (a_t_choices 0), .ref (a_t_ways 0), .ref (a_t_stress 0)])), ((a_t_now 0), .inr (1, [.ref (a_t_now 1), .ref (a_t_now 2), .ref (a_t_now 3), .ref (a_t_now 4), .ref (a_t_now 5), .int o_t_now_told, .int o_t_now_lines, .int o_t_now_kinds, .int o_t_now_acts])), ((a_t_now 1), .inl (g.2.2.1 0, 15, .inl o_t_now_numbers)), ((a_t_now 2), .inl (g.2.2.1 0, 144, .inl o_t_now_cells)), ((a_t_now 3), .inl (g.2.2.1 0, 31, .inl o_t_now_rows)), ((a_t_now 4), .inl (g.2.2.1 0, 31, .inl o_t_now_sizes)), ((a_t_now 5), .inl (g.2.2.1 0, 31, .inl o_t_now_rooms)), ((a_t 4), .inl (g.2.2.1 4, 3, .inr (.inr (.inr (.inr (iF (a_t_images_0 0) (a_t_images_1 0) (a_t_images_2 0))))))), ((a_t_images_0 0), .inr (1, [.ref (a_t_images_0 1), .ref (a_t_images_0 2), .ref (a_t_images_0 3), .ref (a_t_images_0 4), .ref (a_t_images_0 5), .int t_images_0_told, .int t_images_0_lines, .int t_images_0_kinds, .int t_images_0_acts])), ((a_t_images_0 1), .inl (g.2.2.1 0, 15, .inl t_images_0_numbers)), ((a_t_images_0 2), .inl (g.2.2.1 0, 144, .inl t_images_0_cells)), ((a_t_images_0 3), .inl (g.2.2.1 0, 31, .inl t_images_0_rows)), ((a_t_images_0 4), .inl (g.2.2.1 0, 31, .inl t_images_0_sizes)), ((a_t_images_0 5), .inl (g.2.2.1 0, 31, .inl t_images_0_rooms)), ((a_t_images_1 0), .inr (1, [.ref (a_t_images_1 1), .ref (a_t_images_1 2), .ref (a_t_images_1 3), .ref (a_t_images_1 4), .ref (a_t_images_1 5), .int t_images_1_told, .int t_images_1_lines, .int t_images_1_kinds, .int t_images_1_acts])), ((a_t_images_1 1), .inl (g.2.2.1 0, 15, .inl t_images_1_numbers)), ((a_t_images_1 2), .inl (g.2.2.1 0, 144, .inl t_images_1_cells)), ((a_t_images_1 3), .inl (g.2.2.1 0, 31, .inl t_images_1_rows)), ((a_t_images_1 4), .inl (g.2.2.1 0, 31, .inl t_images_1_sizes)), ((a_t_images_1 5), .inl (g.2.2.1 0, 31, .inl t_images_1_rooms)), ((a_t_images_2 0), .inr (1, [.ref (a_t_images_2 1), .ref (a_t_images_2 2), .ref (a_t_images_2 3), .ref (a_t_images_2 4), .ref (a_t_images_2 5), .int t_images_2_told, .int t_images_2_lines, .int t_images_2_kinds, .int t_images_2_acts])), ((a_t_images_2 1), .inl (g.2.2.1 0, 15, .inl t_images_2_numbers)), ((a_t_images_2 2), .inl (g.2.2.1 0, 144, .inl t_images_2_cells)), ((a_t_images_2 3), .inl (g.2.2.1 0, 31, .inl t_images_2_rows)), ((a_t_images_2 4), .inl (g.2.2.1 0, 31, .inl t_images_2_sizes)), ((a_t_images_2 5), .inl (g.2.2.1 0, 31, .inl t_images_2_rooms)), ((a_t_choices 0), .inr (0, [.ref b_t_choices_rows, .ref b_t_choices_seen, .int t_choices_size, .int o_t_choices_ready, .int t_choices_pool, .int t_choices_plies, .int t_choices_room]))]) (va_A [((a_t 0), .inr (6, [.ref (a_t_tape 0), .ref (a_t_reader 0), .ref (a_t_now 0), .ref (a_t 4), .ref (a_t_choices 0), .ref (a_t_ways 0), .ref (a_t_stress 0)])), ((a_t_now 0), .inr (1, [.ref (a_t_now 1), .ref (a_t_now 2), .ref (a_t_now 3), .ref (a_t_now 4), .ref (a_t_now 5), .int t_now_told, .int t_now_lines, .int t_now_kinds, .int t_now_acts])), ((a_t_now 1), .inl (g.2.2.1 0, 15, .inl t_now_numbers)), ((a_t_now 2), .inl (g.2.2.1 0, 144, .inl t_now_cells)), ((a_t_now 3), .inl (g.2.2.1 0, 31, .inl t_now_rows)), ((a_t_now 4), .inl (g.2.2.1 0, 31, .inl t_now_sizes)), ((a_t_now 5), .inl (g.2.2.1 0, 31, .inl t_now_rooms)), ((a_t 4), .inl (g.2.2.1 4, 3, .inr (.inr (.inr (.inr (iF (a_t_images_0 0) (a_t_images_1 0) (a_t_images_2 0))))))), ((a_t_images_0 0), .inr (1, [.ref (a_t_images_0 1), .ref (a_t_images_0 2), .ref (a_t_images_0 3), .ref (a_t_images_0 4), .ref (a_t_images_0 5), .int t_images_0_told, .int t_images_0_lines, .int t_images_0_kinds, .int t_images_0_acts])), ((a_t_images_0 1), .inl (g.2.2.1 0, 15, .inl t_images_0_numbers)), ((a_t_images_0 2), .inl (g.2.2.1 0, 144, .inl t_images_0_cells)), ((a_t_images_0 3), .inl (g.2.2.1 0, 31, .inl t_images_0_rows)), ((a_t_images_0 4), .inl (g.2.2.1 0, 31, .inl t_images_0_sizes)), ((a_t_images_0 5), .inl (g.2.2.1 0, 31, .inl t_images_0_rooms)), ((a_t_images_1 0), .inr (1, [.ref (a_t_images_1 1), .ref (a_t_images_1 2), .ref (a_t_images_1 3), .ref (a_t_images_1 4), .ref (a_t_images_1 5), .int t_images_1_told, .int t_images_1_lines, .int t_images_1_kinds, .int t_images_1_acts])), ((a_t_images_1 1), .inl (g.2.2.1 0, 15, .inl t_images_1_numbers)), ((a_t_images_1 2), .inl (g.2.2.1 0, 144, .inl t_images_1_cells)), ((a_t_images_1 3), .inl (g.2.2.1 0, 31, .inl t_images_1_rows)), ((a_t_images_1 4), .inl (g.2.2.1 0, 31, .inl t_images_1_sizes)), ((a_t_images_1 5), .inl (g.2.2.1 0, 31, .inl t_images_1_rooms)), ((a_t_images_2 0), .inr (1, [.ref (a_t_images_2 1), .ref (a_t_images_2 2), .ref (a_t_images_2 3), .ref (a_t_images_2 4), .ref (a_t_images_2 5), .int t_images_2_told, .int t_images_2_lines, .int t_images_2_kinds, .int t_images_2_acts])), ((a_t_images_2 1), .inl (g.2.2.1 0, 15, .inl t_images_2_numbers)), ((a_t_images_2 2), .inl (g.2.2.1 0, 144, .inl t_images_2_cells)), ((a_t_images_2 3), .inl (g.2.2.1 0, 31, .inl t_images_2_rows)), ((a_t_images_2 4), .inl (g.2.2.1 0, 31, .inl t_images_2_sizes)), ((a_t_images_2 5), .inl (g.2.2.1 0, 31, .inl t_images_2_rooms)), ((a_t_choices 0), .inr (0, [.ref b_t_choices_rows, .ref b_t_choices_seen, .int t_choices_size, .int t_choices_ready, .int t_choices_pool, .int t_choices_plies, .int t_choices_room]))] sz)) 0 0 (va_A [((a_t 0), .inr (6, [.ref (a_t_tape 0), .ref (a_t_reader 0), .ref (a_t_now 0), .ref (a_t 4), .ref (a_t_choices 0), .ref (a_t_ways 0), .ref (a_t_stress 0)])), ((a_t_now 0), .inr (1, [.ref (a_t_now 1), .ref (a_t_now 2), .ref (a_t_now 3), .ref (a_t_now 4), .ref (a_t_now 5), .int t_now_told, .int t_now_lines, .int t_now_kinds, .int t_now_acts])), ((a_t_now 1), .inl (g.2.2.1 0, 15, .inl t_now_numbers)), ((a_t_now 2), .inl (g.2.2.1 0, 144, .inl t_now_cells)), ((a_t_now 3), .inl (g.2.2.1 0, 31, .inl t_now_rows)), ((a_t_now 4), .inl (g.2.2.1 0, 31, .inl t_now_sizes)), ((a_t_now 5), .inl (g.2.2.1 0, 31, .inl t_now_rooms)), ((a_t 4), .inl (g.2.2.1 4, 3, .inr (.inr (.inr (.inr (iF (a_t_images_0 0) (a_t_images_1 0) (a_t_images_2 0))))))), ((a_t_images_0 0), .inr (1, [.ref (a_t_images_0 1), .ref (a_t_images_0 2), .ref (a_t_images_0 3), .ref (a_t_images_0 4), .ref (a_t_images_0 5), .int t_images_0_told, .int t_images_0_lines, .int t_images_0_kinds, .int t_images_0_acts])), ((a_t_images_0 1), .inl (g.2.2.1 0, 15, .inl t_images_0_numbers)), ((a_t_images_0 2), .inl (g.2.2.1 0, 144, .inl t_images_0_cells)), ((a_t_images_0 3), .inl (g.2.2.1 0, 31, .inl t_images_0_rows)), ((a_t_images_0 4), .inl (g.2.2.1 0, 31, .inl t_images_0_sizes)), ((a_t_images_0 5), .inl (g.2.2.1 0, 31, .inl t_images_0_rooms)), ((a_t_images_1 0), .inr (1, [.ref (a_t_images_1 1), .ref (a_t_images_1 2), .ref (a_t_images_1 3), .ref (a_t_images_1 4), .ref (a_t_images_1 5), .int t_images_1_told, .int t_images_1_lines, .int t_images_1_kinds, .int t_images_1_acts])), ((a_t_images_1 1), .inl (g.2.2.1 0, 15, .inl t_images_1_numbers)), ((a_t_images_1 2), .inl (g.2.2.1 0, 144, .inl t_images_1_cells)), ((a_t_images_1 3), .inl (g.2.2.1 0, 31, .inl t_images_1_rows)), ((a_t_images_1 4), .inl (g.2.2.1 0, 31, .inl t_images_1_sizes)), ((a_t_images_1 5), .inl (g.2.2.1 0, 31, .inl t_images_1_rooms)), ((a_t_images_2 0), .inr (1, [.ref (a_t_images_2 1), .ref (a_t_images_2 2), .ref (a_t_images_2 3), .ref (a_t_images_2 4), .ref (a_t_images_2 5), .int t_images_2_told, .int t_images_2_lines, .int t_images_2_kinds, .int t_images_2_acts])), ((a_t_images_2 1), .inl (g.2.2.1 0, 15, .inl t_images_2_numbers)), ((a_t_images_2 2), .inl (g.2.2.1 0, 144, .inl t_images_2_cells)), ((a_t_images_2 3), .inl (g.2.2.1 0, 31, .inl t_images_2_rows)), ((a_t_images_2 4), .inl (g.2.2.1 0, 31, .inl t_images_2_sizes)), ((a_t_images_2 5), .inl (g.2.2.1 0, 31, .inl t_images_2_rooms)), ((a_t_choices 0), .inr (0, [.ref b_t_choices_rows, .ref b_t_choices_seen, .int t_choices_size, .int t_choices_ready, .int t_choices_pool, .int t_choices_plies, .int t_choices_room]))] sz) := by
  refine rw_meti (by decide) (Nat.le_of_ble_eq_true rfl) (lv0 := [(0, .ref ((a_t 0))), (1, .int v1)]) rfl ?_
  intro p e s m args below meth c ls Q A cx hret hG hAb hb0 hA hP hD hl
  have hx := cx.1
  have hb := cx.2.1
  have hG0 := hG
  have hGk : ∀ {H : Heap} {locs : List Loc}, va_S A s.heap H locs → GE g s H := fun hS => hG0.keptS hAb hS
  have hSb : ∀ {H : Heap} {locs : List Loc}, va_S A s.heap H locs → va_S (fun a => g.1 ≤ a) s.heap H locs := fun hS => ⟨hS.1, fun q h1 h2 => hS.2.1 q h1 (fun z => h2 (hAb q z)), fun l hl => hAb _ (hS.2.2 l hl)⟩
  have hS : va_S A s.heap s.heap [] := va_S.rf
  have hrt : ∀ (u : Nat → Nat) (pc : Nat) (ls : Array Slot) (v : Int32) (x_t_now_numbers : Nat → Int32) (x_t_now_cells : Nat → Int32) (x_t_now_rows : Nat → Int32) (x_t_now_sizes : Nat → Int32) (x_t_now_rooms : Nat → Int32) (x_t_now_told : Int32) (x_t_now_lines : Int32) (x_t_now_kinds : Int32) (x_t_now_acts : Int32) (x_t_choices_ready : Int32) (H : Heap) (locs : List Loc), decode cX7_back pc = .ok (.ireturn, 1) → some (v, x_t_now_numbers, x_t_now_cells, x_t_now_rows, x_t_now_sizes, x_t_now_rooms, x_t_now_told, x_t_now_lines, x_t_now_kinds, x_t_now_acts, x_t_choices_ready) = some (o, o_t_now_numbers, o_t_now_cells, o_t_now_rows, o_t_now_sizes, o_t_now_rooms, o_t_now_told, o_t_now_lines, o_t_now_kinds, o_t_now_acts, o_t_choices_ready) → va_P g.2.1 vwCl [((a_t 0), .inr (6, [.ref (a_t_tape 0), .ref (a_t_reader 0), .ref (a_t_now 0), .ref (a_t 4), .ref (a_t_choices 0), .ref (a_t_ways 0), .ref (a_t_stress 0)])), ((a_t_now 0), .inr (1, [.ref (a_t_now 1), .ref (a_t_now 2), .ref (a_t_now 3), .ref (a_t_now 4), .ref (a_t_now 5), .int x_t_now_told, .int x_t_now_lines, .int x_t_now_kinds, .int x_t_now_acts])), ((a_t_now 1), .inl (g.2.2.1 0, 15, .inl x_t_now_numbers)), ((a_t_now 2), .inl (g.2.2.1 0, 144, .inl x_t_now_cells)), ((a_t_now 3), .inl (g.2.2.1 0, 31, .inl x_t_now_rows)), ((a_t_now 4), .inl (g.2.2.1 0, 31, .inl x_t_now_sizes)), ((a_t_now 5), .inl (g.2.2.1 0, 31, .inl x_t_now_rooms)), ((a_t 4), .inl (g.2.2.1 4, 3, .inr (.inr (.inr (.inr (iF (a_t_images_0 0) (a_t_images_1 0) (a_t_images_2 0))))))), ((a_t_images_0 0), .inr (1, [.ref (a_t_images_0 1), .ref (a_t_images_0 2), .ref (a_t_images_0 3), .ref (a_t_images_0 4), .ref (a_t_images_0 5), .int t_images_0_told, .int t_images_0_lines, .int t_images_0_kinds, .int t_images_0_acts])), ((a_t_images_0 1), .inl (g.2.2.1 0, 15, .inl t_images_0_numbers)), ((a_t_images_0 2), .inl (g.2.2.1 0, 144, .inl t_images_0_cells)), ((a_t_images_0 3), .inl (g.2.2.1 0, 31, .inl t_images_0_rows)), ((a_t_images_0 4), .inl (g.2.2.1 0, 31, .inl t_images_0_sizes)), ((a_t_images_0 5), .inl (g.2.2.1 0, 31, .inl t_images_0_rooms)), ((a_t_images_1 0), .inr (1, [.ref (a_t_images_1 1), .ref (a_t_images_1 2), .ref (a_t_images_1 3), .ref (a_t_images_1 4), .ref (a_t_images_1 5), .int t_images_1_told, .int t_images_1_lines, .int t_images_1_kinds, .int t_images_1_acts])), ((a_t_images_1 1), .inl (g.2.2.1 0, 15, .inl t_images_1_numbers)), ((a_t_images_1 2), .inl (g.2.2.1 0, 144, .inl t_images_1_cells)), ((a_t_images_1 3), .inl (g.2.2.1 0, 31, .inl t_images_1_rows)), ((a_t_images_1 4), .inl (g.2.2.1 0, 31, .inl t_images_1_sizes)), ((a_t_images_1 5), .inl (g.2.2.1 0, 31, .inl t_images_1_rooms)), ((a_t_images_2 0), .inr (1, [.ref (a_t_images_2 1), .ref (a_t_images_2 2), .ref (a_t_images_2 3), .ref (a_t_images_2 4), .ref (a_t_images_2 5), .int t_images_2_told, .int t_images_2_lines, .int t_images_2_kinds, .int t_images_2_acts])), ((a_t_images_2 1), .inl (g.2.2.1 0, 15, .inl t_images_2_numbers)), ((a_t_images_2 2), .inl (g.2.2.1 0, 144, .inl t_images_2_cells)), ((a_t_images_2 3), .inl (g.2.2.1 0, 31, .inl t_images_2_rows)), ((a_t_images_2 4), .inl (g.2.2.1 0, 31, .inl t_images_2_sizes)), ((a_t_images_2 5), .inl (g.2.2.1 0, 31, .inl t_images_2_rooms)), ((a_t_choices 0), .inr (0, [.ref b_t_choices_rows, .ref b_t_choices_seen, .int t_choices_size, .int x_t_choices_ready, .int t_choices_pool, .int t_choices_plies, .int t_choices_room]))] H → va_D A [((a_t 0), .inr (6, [.ref (a_t_tape 0), .ref (a_t_reader 0), .ref (a_t_now 0), .ref (a_t 4), .ref (a_t_choices 0), .ref (a_t_ways 0), .ref (a_t_stress 0)])), ((a_t_now 0), .inr (1, [.ref (a_t_now 1), .ref (a_t_now 2), .ref (a_t_now 3), .ref (a_t_now 4), .ref (a_t_now 5), .int x_t_now_told, .int x_t_now_lines, .int x_t_now_kinds, .int x_t_now_acts])), ((a_t_now 1), .inl (g.2.2.1 0, 15, .inl x_t_now_numbers)), ((a_t_now 2), .inl (g.2.2.1 0, 144, .inl x_t_now_cells)), ((a_t_now 3), .inl (g.2.2.1 0, 31, .inl x_t_now_rows)), ((a_t_now 4), .inl (g.2.2.1 0, 31, .inl x_t_now_sizes)), ((a_t_now 5), .inl (g.2.2.1 0, 31, .inl x_t_now_rooms)), ((a_t 4), .inl (g.2.2.1 4, 3, .inr (.inr (.inr (.inr (iF (a_t_images_0 0) (a_t_images_1 0) (a_t_images_2 0))))))), ((a_t_images_0 0), .inr (1, [.ref (a_t_images_0 1), .ref (a_t_images_0 2), .ref (a_t_images_0 3), .ref (a_t_images_0 4), .ref (a_t_images_0 5), .int t_images_0_told, .int t_images_0_lines, .int t_images_0_kinds, .int t_images_0_acts])), ((a_t_images_0 1), .inl (g.2.2.1 0, 15, .inl t_images_0_numbers)), ((a_t_images_0 2), .inl (g.2.2.1 0, 144, .inl t_images_0_cells)), ((a_t_images_0 3), .inl (g.2.2.1 0, 31, .inl t_images_0_rows)), ((a_t_images_0 4), .inl (g.2.2.1 0, 31, .inl t_images_0_sizes)), ((a_t_images_0 5), .inl (g.2.2.1 0, 31, .inl t_images_0_rooms)), ((a_t_images_1 0), .inr (1, [.ref (a_t_images_1 1), .ref (a_t_images_1 2), .ref (a_t_images_1 3), .ref (a_t_images_1 4), .ref (a_t_images_1 5), .int t_images_1_told, .int t_images_1_lines, .int t_images_1_kinds, .int t_images_1_acts])), ((a_t_images_1 1), .inl (g.2.2.1 0, 15, .inl t_images_1_numbers)), ((a_t_images_1 2), .inl (g.2.2.1 0, 144, .inl t_images_1_cells)), ((a_t_images_1 3), .inl (g.2.2.1 0, 31, .inl t_images_1_rows)), ((a_t_images_1 4), .inl (g.2.2.1 0, 31, .inl t_images_1_sizes)), ((a_t_images_1 5), .inl (g.2.2.1 0, 31, .inl t_images_1_rooms)), ((a_t_images_2 0), .inr (1, [.ref (a_t_images_2 1), .ref (a_t_images_2 2), .ref (a_t_images_2 3), .ref (a_t_images_2 4), .ref (a_t_images_2 5), .int t_images_2_told, .int t_images_2_lines, .int t_images_2_kinds, .int t_images_2_acts])), ((a_t_images_2 1), .inl (g.2.2.1 0, 15, .inl t_images_2_numbers)), ((a_t_images_2 2), .inl (g.2.2.1 0, 144, .inl t_images_2_cells)), ((a_t_images_2 3), .inl (g.2.2.1 0, 31, .inl t_images_2_rows)), ((a_t_images_2 4), .inl (g.2.2.1 0, 31, .inl t_images_2_sizes)), ((a_t_images_2 5), .inl (g.2.2.1 0, 31, .inl t_images_2_rooms)), ((a_t_choices 0), .inr (0, [.ref b_t_choices_rows, .ref b_t_choices_seen, .int t_choices_size, .int x_t_choices_ready, .int t_choices_pool, .int t_choices_plies, .int t_choices_room]))] → va_S A s.heap H locs → W p l e ⟨2, 0, 0, 61⟩ s m args below meth c H locs 0 0 Q (F0 m pc ls [.int v]) := by
    intro u pc ls v x_t_now_numbers x_t_now_cells x_t_now_rows x_t_now_sizes x_t_now_rooms x_t_now_told x_t_now_lines x_t_now_kinds x_t_now_acts x_t_choices_ready H locs hd h hP hD hS
    cases h
    exact hret u _ _ _ _ _ hd rfl hP hD hS
  unfold fX7_back at h
  refine lv_aload_n hx hb dX7_back_0 rfl (lv_at hl 0 rfl) ?_
  refine lv_iload_n hx hb dX7_back_1 rfl (lv_at hl 1 rfl) ?_
  obtain ⟨r1, hr2, h⟩ := bnd h
  refine ro_z (runV (As := [.int v1]) (rest := []) cx hl.1 (ctX7_isImage l g a_t a_t_tape a_t_reader a_t_now a_t_choices a_t_ways a_t_stress a_t_images_0 a_t_images_1 a_t_images_2 v1 r1 hr2) kmX7_isImage kvX7_isImage lm_X7_357 ⟨rfl, rfl⟩ ⟨Nat.le_of_ble_eq_true rfl, Nat.le_of_ble_eq_true rfl⟩ (roV (q0 := 0) (ci := 6) hG (hP.sub [0, 7] rfl) hP rfl rfl) rfl rfl (Nat.le_of_ble_eq_true rfl) dX7_back_2 ⟨Nat.le_of_ble_eq_true rfl, Nat.le_of_ble_eq_true rfl⟩) (fun hz3 => ?_)
  refine lv_if_ne (tgt := 11) hx hb dX7_back_5 (by decide) (fun c4 => ?_) (fun c4 => ?_)
  · have h := itn c4 h
    refine lv_aload_n hx hb dX7_back_11 rfl (lv_at hl 0 rfl) ?_
    refine xa_get (C := RX7) (T := TX7) (N := 7) cx hG hP 0 rfl rfl uX7 3 (by decide) lf_X7_34 rfl dX7_back_12 ?_
    refine lv_iload_n hx hb dX7_back_15 rfl (lv_at hl 1 rfl) ?_
    by_cases e5 : v1 = 0
    · have h := itp e5 h
      refine xa_ald3 (k := 0) cx hG hP 7 rfl (by rw [e5]; decide) rfl dX7_back_16 ?_
      refine xa_getN (C := RX1) (T := TX1) (N := 9) cx hG hP 8 rfl rfl uX1 5 (by decide) nf_5 rfl dX7_back_17 ?_
      refine lv_if_ne (tgt := 26) hx hb dX7_back_20 (by decide) (fun c6 => ?_) (fun c6 => ?_)
      · have h := itn c6 h
        refine lv_aload_n hx hb dX7_back_26 rfl (lv_at hl 0 rfl) ?_
        refine xa_get (C := RX7) (T := TX7) (N := 7) cx hG hP 0 rfl rfl uX7 2 (by decide) lf_X7_30 rfl dX7_back_27 ?_
        refine lv_aload_n hx hb dX7_back_30 rfl (lv_at hl 0 rfl) ?_
        refine xa_get (C := RX7) (T := TX7) (N := 7) cx hG hP 0 rfl rfl uX7 3 (by decide) lf_X7_34 rfl dX7_back_31 ?_
        refine lv_iload_n hx hb dX7_back_34 rfl (lv_at hl 1 rfl) ?_
        by_cases e7 : v1 = 0
        · have h := itp e7 h
          refine xa_ald3 (k := 0) cx hG hP 7 rfl (by rw [e7]; decide) rfl dX7_back_35 ?_
          obtain ⟨w9, w10, w11, w12, w13, w14, w15, w16, w17, hr8, h⟩ := ob9_out h
          refine rw_v (WN := fun u18 => [((a_t 0), .inr (6, [.ref (a_t_tape 0), .ref (a_t_reader 0), .ref (a_t_now 0), .ref (a_t 4), .ref (a_t_choices 0), .ref (a_t_ways 0), .ref (a_t_stress 0)])), ((a_t 4), .inl (g.2.2.1 4, 3, .inr (.inr (.inr (.inr (iF (a_t_images_0 0) (a_t_images_1 0) (a_t_images_2 0))))))), ((a_t_images_1 0), .inr (1, [.ref (a_t_images_1 1), .ref (a_t_images_1 2), .ref (a_t_images_1 3), .ref (a_t_images_1 4), .ref (a_t_images_1 5), .int t_images_1_told, .int t_images_1_lines, .int t_images_1_kinds, .int t_images_1_acts])), ((a_t_images_1 1), .inl (g.2.2.1 0, 15, .inl t_images_1_numbers)), ((a_t_images_1 2), .inl (g.2.2.1 0, 144, .inl t_images_1_cells)), ((a_t_images_1 3), .inl (g.2.2.1 0, 31, .inl t_images_1_rows)), ((a_t_images_1 4), .inl (g.2.2.1 0, 31, .inl t_images_1_sizes)), ((a_t_images_1 5), .inl (g.2.2.1 0, 31, .inl t_images_1_rooms)), ((a_t_images_2 0), .inr (1, [.ref (a_t_images_2 1), .ref (a_t_images_2 2), .ref (a_t_images_2 3), .ref (a_t_images_2 4), .ref (a_t_images_2 5), .int t_images_2_told, .int t_images_2_lines, .int t_images_2_kinds, .int t_images_2_acts])), ((a_t_images_2 1), .inl (g.2.2.1 0, 15, .inl t_images_2_numbers)), ((a_t_images_2 2), .inl (g.2.2.1 0, 144, .inl t_images_2_cells)), ((a_t_images_2 3), .inl (g.2.2.1 0, 31, .inl t_images_2_rows)), ((a_t_images_2 4), .inl (g.2.2.1 0, 31, .inl t_images_2_sizes)), ((a_t_images_2 5), .inl (g.2.2.1 0, 31, .inl t_images_2_rooms)), ((a_t_choices 0), .inr (0, [.ref b_t_choices_rows, .ref b_t_choices_seen, .int t_choices_size, .int t_choices_ready, .int t_choices_pool, .int t_choices_plies, .int t_choices_room])), ((a_t_now 0), .inr (1, [.ref (a_t_now 1), .ref (a_t_now 2), .ref (a_t_now 3), .ref (a_t_now 4), .ref (a_t_now 5), .int w14, .int w15, .int w16, .int w17])), ((a_t_now 1), .inl (g.2.2.1 0, 15, .inl w9)), ((a_t_now 2), .inl (g.2.2.1 0, 144, .inl w10)), ((a_t_now 3), .inl (g.2.2.1 0, 31, .inl w11)), ((a_t_now 4), .inl (g.2.2.1 0, 31, .inl w12)), ((a_t_now 5), .inl (g.2.2.1 0, 31, .inl w13)), ((a_t_images_0 0), .inr (1, [.ref (a_t_images_0 1), .ref (a_t_images_0 2), .ref (a_t_images_0 3), .ref (a_t_images_0 4), .ref (a_t_images_0 5), .int t_images_0_told, .int t_images_0_lines, .int t_images_0_kinds, .int t_images_0_acts])), ((a_t_images_0 1), .inl (g.2.2.1 0, 15, .inl t_images_0_numbers)), ((a_t_images_0 2), .inl (g.2.2.1 0, 144, .inl t_images_0_cells)), ((a_t_images_0 3), .inl (g.2.2.1 0, 31, .inl t_images_0_rows)), ((a_t_images_0 4), .inl (g.2.2.1 0, 31, .inl t_images_0_sizes)), ((a_t_images_0 5), .inl (g.2.2.1 0, 31, .inl t_images_0_rooms))]) (wr := [((a_t 0), .inr (6, [.ref (a_t_tape 0), .ref (a_t_reader 0), .ref (a_t_now 0), .ref (a_t 4), .ref (a_t_choices 0), .ref (a_t_ways 0), .ref (a_t_stress 0)])), ((a_t 4), .inl (g.2.2.1 4, 3, .inr (.inr (.inr (.inr (iF (a_t_images_0 0) (a_t_images_1 0) (a_t_images_2 0))))))), ((a_t_images_1 0), .inr (1, [.ref (a_t_images_1 1), .ref (a_t_images_1 2), .ref (a_t_images_1 3), .ref (a_t_images_1 4), .ref (a_t_images_1 5), .int t_images_1_told, .int t_images_1_lines, .int t_images_1_kinds, .int t_images_1_acts])), ((a_t_images_1 1), .inl (g.2.2.1 0, 15, .inl t_images_1_numbers)), ((a_t_images_1 2), .inl (g.2.2.1 0, 144, .inl t_images_1_cells)), ((a_t_images_1 3), .inl (g.2.2.1 0, 31, .inl t_images_1_rows)), ((a_t_images_1 4), .inl (g.2.2.1 0, 31, .inl t_images_1_sizes)), ((a_t_images_1 5), .inl (g.2.2.1 0, 31, .inl t_images_1_rooms)), ((a_t_images_2 0), .inr (1, [.ref (a_t_images_2 1), .ref (a_t_images_2 2), .ref (a_t_images_2 3), .ref (a_t_images_2 4), .ref (a_t_images_2 5), .int t_images_2_told, .int t_images_2_lines, .int t_images_2_kinds, .int t_images_2_acts])), ((a_t_images_2 1), .inl (g.2.2.1 0, 15, .inl t_images_2_numbers)), ((a_t_images_2 2), .inl (g.2.2.1 0, 144, .inl t_images_2_cells)), ((a_t_images_2 3), .inl (g.2.2.1 0, 31, .inl t_images_2_rows)), ((a_t_images_2 4), .inl (g.2.2.1 0, 31, .inl t_images_2_sizes)), ((a_t_images_2 5), .inl (g.2.2.1 0, 31, .inl t_images_2_rooms)), ((a_t_choices 0), .inr (0, [.ref b_t_choices_rows, .ref b_t_choices_seen, .int t_choices_size, .int t_choices_ready, .int t_choices_pool, .int t_choices_plies, .int t_choices_room]))]) (runVN (As := [.ref ((a_t_images_0 0))]) (rest := []) hG cx hl.1 (ctX1_copy l g s.heap.size a_t_now a_t_images_0 t_now_told t_now_lines t_now_kinds t_now_acts t_now_numbers t_now_cells t_now_rows t_now_sizes t_now_rooms t_images_0_told t_images_0_lines t_images_0_kinds t_images_0_acts t_images_0_numbers t_images_0_cells t_images_0_rows t_images_0_sizes t_images_0_rooms w9 w10 w11 w12 w13 w14 w15 w16 w17 hr8) kmX1_copy kvX1_copy nm_14 ⟨rfl, rfl⟩ ⟨Nat.le_of_ble_eq_true rfl, Nat.le_of_ble_eq_true rfl⟩ (rwV (q0 := 1) (ci := 1) hG (hP.sub [1, 2, 3, 4, 5, 6, 8, 9, 10, 11, 12, 13] rfl) (hD.sub [1, 2, 3, 4, 5, 6, 8, 9, 10, 11, 12, 13] (by decide) rfl) hAb hb0 hS hP rfl rfl) rfl rfl (Nat.le_of_ble_eq_true rfl) dX7_back_36 ⟨Nat.le_of_ble_eq_true rfl, Nat.le_of_ble_eq_true rfl⟩) hP hD hS hA [1, 2, 3, 4, 5, 6, 8, 9, 10, 11, 12, 13] [0, 7, 14, 15, 16, 17, 18, 19, 20, 21, 22, 23, 24, 25, 26] rfl rfl (by decide) (by decide) (fun _ => rfl) (fun u18 H locs hP hD hS => ?_)
          have hG := hGk hS
          refine lv_aload_n hx hb dX7_back_39 rfl (lv_at hl 0 rfl) ?_
          refine xa_get (C := RX7) (T := TX7) (N := 7) cx hG hP 0 rfl rfl uX7 4 (by decide) lf_X7_41 rfl dX7_back_40 ?_
          obtain ⟨w20, hr19, h⟩ := bnd h
          refine rw_v (WN := fun u21 => [((a_t 0), .inr (6, [.ref (a_t_tape 0), .ref (a_t_reader 0), .ref (a_t_now 0), .ref (a_t 4), .ref (a_t_choices 0), .ref (a_t_ways 0), .ref (a_t_stress 0)])), ((a_t 4), .inl (g.2.2.1 4, 3, .inr (.inr (.inr (.inr (iF (a_t_images_0 0) (a_t_images_1 0) (a_t_images_2 0))))))), ((a_t_images_1 0), .inr (1, [.ref (a_t_images_1 1), .ref (a_t_images_1 2), .ref (a_t_images_1 3), .ref (a_t_images_1 4), .ref (a_t_images_1 5), .int t_images_1_told, .int t_images_1_lines, .int t_images_1_kinds, .int t_images_1_acts])), ((a_t_images_1 1), .inl (g.2.2.1 0, 15, .inl t_images_1_numbers)), ((a_t_images_1 2), .inl (g.2.2.1 0, 144, .inl t_images_1_cells)), ((a_t_images_1 3), .inl (g.2.2.1 0, 31, .inl t_images_1_rows)), ((a_t_images_1 4), .inl (g.2.2.1 0, 31, .inl t_images_1_sizes)), ((a_t_images_1 5), .inl (g.2.2.1 0, 31, .inl t_images_1_rooms)), ((a_t_images_2 0), .inr (1, [.ref (a_t_images_2 1), .ref (a_t_images_2 2), .ref (a_t_images_2 3), .ref (a_t_images_2 4), .ref (a_t_images_2 5), .int t_images_2_told, .int t_images_2_lines, .int t_images_2_kinds, .int t_images_2_acts])), ((a_t_images_2 1), .inl (g.2.2.1 0, 15, .inl t_images_2_numbers)), ((a_t_images_2 2), .inl (g.2.2.1 0, 144, .inl t_images_2_cells)), ((a_t_images_2 3), .inl (g.2.2.1 0, 31, .inl t_images_2_rows)), ((a_t_images_2 4), .inl (g.2.2.1 0, 31, .inl t_images_2_sizes)), ((a_t_images_2 5), .inl (g.2.2.1 0, 31, .inl t_images_2_rooms)), ((a_t_now 0), .inr (1, [.ref (a_t_now 1), .ref (a_t_now 2), .ref (a_t_now 3), .ref (a_t_now 4), .ref (a_t_now 5), .int w14, .int w15, .int w16, .int w17])), ((a_t_now 1), .inl (g.2.2.1 0, 15, .inl w9)), ((a_t_now 2), .inl (g.2.2.1 0, 144, .inl w10)), ((a_t_now 3), .inl (g.2.2.1 0, 31, .inl w11)), ((a_t_now 4), .inl (g.2.2.1 0, 31, .inl w12)), ((a_t_now 5), .inl (g.2.2.1 0, 31, .inl w13)), ((a_t_images_0 0), .inr (1, [.ref (a_t_images_0 1), .ref (a_t_images_0 2), .ref (a_t_images_0 3), .ref (a_t_images_0 4), .ref (a_t_images_0 5), .int t_images_0_told, .int t_images_0_lines, .int t_images_0_kinds, .int t_images_0_acts])), ((a_t_images_0 1), .inl (g.2.2.1 0, 15, .inl t_images_0_numbers)), ((a_t_images_0 2), .inl (g.2.2.1 0, 144, .inl t_images_0_cells)), ((a_t_images_0 3), .inl (g.2.2.1 0, 31, .inl t_images_0_rows)), ((a_t_images_0 4), .inl (g.2.2.1 0, 31, .inl t_images_0_sizes)), ((a_t_images_0 5), .inl (g.2.2.1 0, 31, .inl t_images_0_rooms)), ((a_t_choices 0), .inr (0, [.ref b_t_choices_rows, .ref b_t_choices_seen, .int t_choices_size, .int w20, .int t_choices_pool, .int t_choices_plies, .int t_choices_room]))]) (wr := [((a_t 0), .inr (6, [.ref (a_t_tape 0), .ref (a_t_reader 0), .ref (a_t_now 0), .ref (a_t 4), .ref (a_t_choices 0), .ref (a_t_ways 0), .ref (a_t_stress 0)])), ((a_t 4), .inl (g.2.2.1 4, 3, .inr (.inr (.inr (.inr (iF (a_t_images_0 0) (a_t_images_1 0) (a_t_images_2 0))))))), ((a_t_images_1 0), .inr (1, [.ref (a_t_images_1 1), .ref (a_t_images_1 2), .ref (a_t_images_1 3), .ref (a_t_images_1 4), .ref (a_t_images_1 5), .int t_images_1_told, .int t_images_1_lines, .int t_images_1_kinds, .int t_images_1_acts])), ((a_t_images_1 1), .inl (g.2.2.1 0, 15, .inl t_images_1_numbers)), ((a_t_images_1 2), .inl (g.2.2.1 0, 144, .inl t_images_1_cells)), ((a_t_images_1 3), .inl (g.2.2.1 0, 31, .inl t_images_1_rows)), ((a_t_images_1 4), .inl (g.2.2.1 0, 31, .inl t_images_1_sizes)), ((a_t_images_1 5), .inl (g.2.2.1 0, 31, .inl t_images_1_rooms)), ((a_t_images_2 0), .inr (1, [.ref (a_t_images_2 1), .ref (a_t_images_2 2), .ref (a_t_images_2 3), .ref (a_t_images_2 4), .ref (a_t_images_2 5), .int t_images_2_told, .int t_images_2_lines, .int t_images_2_kinds, .int t_images_2_acts])), ((a_t_images_2 1), .inl (g.2.2.1 0, 15, .inl t_images_2_numbers)), ((a_t_images_2 2), .inl (g.2.2.1 0, 144, .inl t_images_2_cells)), ((a_t_images_2 3), .inl (g.2.2.1 0, 31, .inl t_images_2_rows)), ((a_t_images_2 4), .inl (g.2.2.1 0, 31, .inl t_images_2_sizes)), ((a_t_images_2 5), .inl (g.2.2.1 0, 31, .inl t_images_2_rooms)), ((a_t_now 0), .inr (1, [.ref (a_t_now 1), .ref (a_t_now 2), .ref (a_t_now 3), .ref (a_t_now 4), .ref (a_t_now 5), .int w14, .int w15, .int w16, .int w17])), ((a_t_now 1), .inl (g.2.2.1 0, 15, .inl w9)), ((a_t_now 2), .inl (g.2.2.1 0, 144, .inl w10)), ((a_t_now 3), .inl (g.2.2.1 0, 31, .inl w11)), ((a_t_now 4), .inl (g.2.2.1 0, 31, .inl w12)), ((a_t_now 5), .inl (g.2.2.1 0, 31, .inl w13)), ((a_t_images_0 0), .inr (1, [.ref (a_t_images_0 1), .ref (a_t_images_0 2), .ref (a_t_images_0 3), .ref (a_t_images_0 4), .ref (a_t_images_0 5), .int t_images_0_told, .int t_images_0_lines, .int t_images_0_kinds, .int t_images_0_acts])), ((a_t_images_0 1), .inl (g.2.2.1 0, 15, .inl t_images_0_numbers)), ((a_t_images_0 2), .inl (g.2.2.1 0, 144, .inl t_images_0_cells)), ((a_t_images_0 3), .inl (g.2.2.1 0, 31, .inl t_images_0_rows)), ((a_t_images_0 4), .inl (g.2.2.1 0, 31, .inl t_images_0_sizes)), ((a_t_images_0 5), .inl (g.2.2.1 0, 31, .inl t_images_0_rooms))]) (runVN (As := []) (rest := []) hG cx hl.1 (ctX0_forget l g H.size a_t_choices b_t_choices_rows b_t_choices_seen t_choices_size t_choices_ready t_choices_pool t_choices_plies t_choices_room w20 hr19) kmX0_forget kvX0_forget nm_15 ⟨rfl, rfl⟩ ⟨Nat.le_of_ble_eq_true rfl, Nat.le_of_ble_eq_true rfl⟩ (rwV (q0 := 14) (ci := 0) hG (hP.sub [14] rfl) (hD.sub [14] (by decide) rfl) hAb hb0 hS hP rfl rfl) rfl rfl (Nat.le_of_ble_eq_true rfl) dX7_back_43 ⟨Nat.le_of_ble_eq_true rfl, Nat.le_of_ble_eq_true rfl⟩) hP hD hS hA [14] [0, 1, 2, 3, 4, 5, 6, 7, 8, 9, 10, 11, 12, 13, 15, 16, 17, 18, 19, 20, 21, 22, 23, 24, 25, 26] rfl rfl (by decide) (by decide) (fun _ => rfl) (fun u21 H locs hP hD hS => ?_)
          have hG := hGk hS
          refine lv_iconst (v := 0) hx hb dX7_back_46 (by decide) ?_
          exact hrt (fun _ => 0) _ _ ((0)) w9 w10 w11 w12 w13 w14 w15 w16 w17 w20 _ _ dX7_back_47 h (hP.sub [0, 14, 15, 16, 17, 18, 19, 1, 20, 21, 22, 23, 24, 25, 2, 3, 4, 5, 6, 7, 8, 9, 10, 11, 12, 13, 26] rfl) (hD.sub [0, 14, 15, 16, 17, 18, 19, 1, 20, 21, 22, 23, 24, 25, 2, 3, 4, 5, 6, 7, 8, 9, 10, 11, 12, 13, 26] (by decide) rfl) hS
        · have h := itn e7 h
          by_cases e22 : v1 = 1
          · have h := itp e22 h
            refine xa_ald3 (k := 1) cx hG hP 7 rfl (by rw [e22]; decide) rfl dX7_back_35 ?_
            obtain ⟨w24, w25, w26, w27, w28, w29, w30, w31, w32, hr23, h⟩ := ob9_out h
            refine rw_v (WN := fun u33 => [((a_t 0), .inr (6, [.ref (a_t_tape 0), .ref (a_t_reader 0), .ref (a_t_now 0), .ref (a_t 4), .ref (a_t_choices 0), .ref (a_t_ways 0), .ref (a_t_stress 0)])), ((a_t 4), .inl (g.2.2.1 4, 3, .inr (.inr (.inr (.inr (iF (a_t_images_0 0) (a_t_images_1 0) (a_t_images_2 0))))))), ((a_t_images_0 0), .inr (1, [.ref (a_t_images_0 1), .ref (a_t_images_0 2), .ref (a_t_images_0 3), .ref (a_t_images_0 4), .ref (a_t_images_0 5), .int t_images_0_told, .int t_images_0_lines, .int t_images_0_kinds, .int t_images_0_acts])), ((a_t_images_0 1), .inl (g.2.2.1 0, 15, .inl t_images_0_numbers)), ((a_t_images_0 2), .inl (g.2.2.1 0, 144, .inl t_images_0_cells)), ((a_t_images_0 3), .inl (g.2.2.1 0, 31, .inl t_images_0_rows)), ((a_t_images_0 4), .inl (g.2.2.1 0, 31, .inl t_images_0_sizes)), ((a_t_images_0 5), .inl (g.2.2.1 0, 31, .inl t_images_0_rooms)), ((a_t_images_2 0), .inr (1, [.ref (a_t_images_2 1), .ref (a_t_images_2 2), .ref (a_t_images_2 3), .ref (a_t_images_2 4), .ref (a_t_images_2 5), .int t_images_2_told, .int t_images_2_lines, .int t_images_2_kinds, .int t_images_2_acts])), ((a_t_images_2 1), .inl (g.2.2.1 0, 15, .inl t_images_2_numbers)), ((a_t_images_2 2), .inl (g.2.2.1 0, 144, .inl t_images_2_cells)), ((a_t_images_2 3), .inl (g.2.2.1 0, 31, .inl t_images_2_rows)), ((a_t_images_2 4), .inl (g.2.2.1 0, 31, .inl t_images_2_sizes)), ((a_t_images_2 5), .inl (g.2.2.1 0, 31, .inl t_images_2_rooms)), ((a_t_choices 0), .inr (0, [.ref b_t_choices_rows, .ref b_t_choices_seen, .int t_choices_size, .int t_choices_ready, .int t_choices_pool, .int t_choices_plies, .int t_choices_room])), ((a_t_now 0), .inr (1, [.ref (a_t_now 1), .ref (a_t_now 2), .ref (a_t_now 3), .ref (a_t_now 4), .ref (a_t_now 5), .int w29, .int w30, .int w31, .int w32])), ((a_t_now 1), .inl (g.2.2.1 0, 15, .inl w24)), ((a_t_now 2), .inl (g.2.2.1 0, 144, .inl w25)), ((a_t_now 3), .inl (g.2.2.1 0, 31, .inl w26)), ((a_t_now 4), .inl (g.2.2.1 0, 31, .inl w27)), ((a_t_now 5), .inl (g.2.2.1 0, 31, .inl w28)), ((a_t_images_1 0), .inr (1, [.ref (a_t_images_1 1), .ref (a_t_images_1 2), .ref (a_t_images_1 3), .ref (a_t_images_1 4), .ref (a_t_images_1 5), .int t_images_1_told, .int t_images_1_lines, .int t_images_1_kinds, .int t_images_1_acts])), ((a_t_images_1 1), .inl (g.2.2.1 0, 15, .inl t_images_1_numbers)), ((a_t_images_1 2), .inl (g.2.2.1 0, 144, .inl t_images_1_cells)), ((a_t_images_1 3), .inl (g.2.2.1 0, 31, .inl t_images_1_rows)), ((a_t_images_1 4), .inl (g.2.2.1 0, 31, .inl t_images_1_sizes)), ((a_t_images_1 5), .inl (g.2.2.1 0, 31, .inl t_images_1_rooms))]) (wr := [((a_t 0), .inr (6, [.ref (a_t_tape 0), .ref (a_t_reader 0), .ref (a_t_now 0), .ref (a_t 4), .ref (a_t_choices 0), .ref (a_t_ways 0), .ref (a_t_stress 0)])), ((a_t 4), .inl (g.2.2.1 4, 3, .inr (.inr (.inr (.inr (iF (a_t_images_0 0) (a_t_images_1 0) (a_t_images_2 0))))))), ((a_t_images_0 0), .inr (1, [.ref (a_t_images_0 1), .ref (a_t_images_0 2), .ref (a_t_images_0 3), .ref (a_t_images_0 4), .ref (a_t_images_0 5), .int t_images_0_told, .int t_images_0_lines, .int t_images_0_kinds, .int t_images_0_acts])), ((a_t_images_0 1), .inl (g.2.2.1 0, 15, .inl t_images_0_numbers)), ((a_t_images_0 2), .inl (g.2.2.1 0, 144, .inl t_images_0_cells)), ((a_t_images_0 3), .inl (g.2.2.1 0, 31, .inl t_images_0_rows)), ((a_t_images_0 4), .inl (g.2.2.1 0, 31, .inl t_images_0_sizes)), ((a_t_images_0 5), .inl (g.2.2.1 0, 31, .inl t_images_0_rooms)), ((a_t_images_2 0), .inr (1, [.ref (a_t_images_2 1), .ref (a_t_images_2 2), .ref (a_t_images_2 3), .ref (a_t_images_2 4), .ref (a_t_images_2 5), .int t_images_2_told, .int t_images_2_lines, .int t_images_2_kinds, .int t_images_2_acts])), ((a_t_images_2 1), .inl (g.2.2.1 0, 15, .inl t_images_2_numbers)), ((a_t_images_2 2), .inl (g.2.2.1 0, 144, .inl t_images_2_cells)), ((a_t_images_2 3), .inl (g.2.2.1 0, 31, .inl t_images_2_rows)), ((a_t_images_2 4), .inl (g.2.2.1 0, 31, .inl t_images_2_sizes)), ((a_t_images_2 5), .inl (g.2.2.1 0, 31, .inl t_images_2_rooms)), ((a_t_choices 0), .inr (0, [.ref b_t_choices_rows, .ref b_t_choices_seen, .int t_choices_size, .int t_choices_ready, .int t_choices_pool, .int t_choices_plies, .int t_choices_room]))]) (runVN (As := [.ref ((a_t_images_1 0))]) (rest := []) hG cx hl.1 (ctX1_copy l g s.heap.size a_t_now a_t_images_1 t_now_told t_now_lines t_now_kinds t_now_acts t_now_numbers t_now_cells t_now_rows t_now_sizes t_now_rooms t_images_1_told t_images_1_lines t_images_1_kinds t_images_1_acts t_images_1_numbers t_images_1_cells t_images_1_rows t_images_1_sizes t_images_1_rooms w24 w25 w26 w27 w28 w29 w30 w31 w32 hr23) kmX1_copy kvX1_copy nm_14 ⟨rfl, rfl⟩ ⟨Nat.le_of_ble_eq_true rfl, Nat.le_of_ble_eq_true rfl⟩ (rwV (q0 := 1) (ci := 1) hG (hP.sub [1, 2, 3, 4, 5, 6, 14, 15, 16, 17, 18, 19] rfl) (hD.sub [1, 2, 3, 4, 5, 6, 14, 15, 16, 17, 18, 19] (by decide) rfl) hAb hb0 hS hP rfl rfl) rfl rfl (Nat.le_of_ble_eq_true rfl) dX7_back_36 ⟨Nat.le_of_ble_eq_true rfl, Nat.le_of_ble_eq_true rfl⟩) hP hD hS hA [1, 2, 3, 4, 5, 6, 14, 15, 16, 17, 18, 19] [0, 7, 8, 9, 10, 11, 12, 13, 20, 21, 22, 23, 24, 25, 26] rfl rfl (by decide) (by decide) (fun _ => rfl) (fun u33 H locs hP hD hS => ?_)
            have hG := hGk hS
            refine lv_aload_n hx hb dX7_back_39 rfl (lv_at hl 0 rfl) ?_
            refine xa_get (C := RX7) (T := TX7) (N := 7) cx hG hP 0 rfl rfl uX7 4 (by decide) lf_X7_41 rfl dX7_back_40 ?_
            obtain ⟨w35, hr34, h⟩ := bnd h
            refine rw_v (WN := fun u36 => [((a_t 0), .inr (6, [.ref (a_t_tape 0), .ref (a_t_reader 0), .ref (a_t_now 0), .ref (a_t 4), .ref (a_t_choices 0), .ref (a_t_ways 0), .ref (a_t_stress 0)])), ((a_t 4), .inl (g.2.2.1 4, 3, .inr (.inr (.inr (.inr (iF (a_t_images_0 0) (a_t_images_1 0) (a_t_images_2 0))))))), ((a_t_images_0 0), .inr (1, [.ref (a_t_images_0 1), .ref (a_t_images_0 2), .ref (a_t_images_0 3), .ref (a_t_images_0 4), .ref (a_t_images_0 5), .int t_images_0_told, .int t_images_0_lines, .int t_images_0_kinds, .int t_images_0_acts])), ((a_t_images_0 1), .inl (g.2.2.1 0, 15, .inl t_images_0_numbers)), ((a_t_images_0 2), .inl (g.2.2.1 0, 144, .inl t_images_0_cells)), ((a_t_images_0 3), .inl (g.2.2.1 0, 31, .inl t_images_0_rows)), ((a_t_images_0 4), .inl (g.2.2.1 0, 31, .inl t_images_0_sizes)), ((a_t_images_0 5), .inl (g.2.2.1 0, 31, .inl t_images_0_rooms)), ((a_t_images_2 0), .inr (1, [.ref (a_t_images_2 1), .ref (a_t_images_2 2), .ref (a_t_images_2 3), .ref (a_t_images_2 4), .ref (a_t_images_2 5), .int t_images_2_told, .int t_images_2_lines, .int t_images_2_kinds, .int t_images_2_acts])), ((a_t_images_2 1), .inl (g.2.2.1 0, 15, .inl t_images_2_numbers)), ((a_t_images_2 2), .inl (g.2.2.1 0, 144, .inl t_images_2_cells)), ((a_t_images_2 3), .inl (g.2.2.1 0, 31, .inl t_images_2_rows)), ((a_t_images_2 4), .inl (g.2.2.1 0, 31, .inl t_images_2_sizes)), ((a_t_images_2 5), .inl (g.2.2.1 0, 31, .inl t_images_2_rooms)), ((a_t_now 0), .inr (1, [.ref (a_t_now 1), .ref (a_t_now 2), .ref (a_t_now 3), .ref (a_t_now 4), .ref (a_t_now 5), .int w29, .int w30, .int w31, .int w32])), ((a_t_now 1), .inl (g.2.2.1 0, 15, .inl w24)), ((a_t_now 2), .inl (g.2.2.1 0, 144, .inl w25)), ((a_t_now 3), .inl (g.2.2.1 0, 31, .inl w26)), ((a_t_now 4), .inl (g.2.2.1 0, 31, .inl w27)), ((a_t_now 5), .inl (g.2.2.1 0, 31, .inl w28)), ((a_t_images_1 0), .inr (1, [.ref (a_t_images_1 1), .ref (a_t_images_1 2), .ref (a_t_images_1 3), .ref (a_t_images_1 4), .ref (a_t_images_1 5), .int t_images_1_told, .int t_images_1_lines, .int t_images_1_kinds, .int t_images_1_acts])), ((a_t_images_1 1), .inl (g.2.2.1 0, 15, .inl t_images_1_numbers)), ((a_t_images_1 2), .inl (g.2.2.1 0, 144, .inl t_images_1_cells)), ((a_t_images_1 3), .inl (g.2.2.1 0, 31, .inl t_images_1_rows)), ((a_t_images_1 4), .inl (g.2.2.1 0, 31, .inl t_images_1_sizes)), ((a_t_images_1 5), .inl (g.2.2.1 0, 31, .inl t_images_1_rooms)), ((a_t_choices 0), .inr (0, [.ref b_t_choices_rows, .ref b_t_choices_seen, .int t_choices_size, .int w35, .int t_choices_pool, .int t_choices_plies, .int t_choices_room]))]) (wr := [((a_t 0), .inr (6, [.ref (a_t_tape 0), .ref (a_t_reader 0), .ref (a_t_now 0), .ref (a_t 4), .ref (a_t_choices 0), .ref (a_t_ways 0), .ref (a_t_stress 0)])), ((a_t 4), .inl (g.2.2.1 4, 3, .inr (.inr (.inr (.inr (iF (a_t_images_0 0) (a_t_images_1 0) (a_t_images_2 0))))))), ((a_t_images_0 0), .inr (1, [.ref (a_t_images_0 1), .ref (a_t_images_0 2), .ref (a_t_images_0 3), .ref (a_t_images_0 4), .ref (a_t_images_0 5), .int t_images_0_told, .int t_images_0_lines, .int t_images_0_kinds, .int t_images_0_acts])), ((a_t_images_0 1), .inl (g.2.2.1 0, 15, .inl t_images_0_numbers)), ((a_t_images_0 2), .inl (g.2.2.1 0, 144, .inl t_images_0_cells)), ((a_t_images_0 3), .inl (g.2.2.1 0, 31, .inl t_images_0_rows)), ((a_t_images_0 4), .inl (g.2.2.1 0, 31, .inl t_images_0_sizes)), ((a_t_images_0 5), .inl (g.2.2.1 0, 31, .inl t_images_0_rooms)), ((a_t_images_2 0), .inr (1, [.ref (a_t_images_2 1), .ref (a_t_images_2 2), .ref (a_t_images_2 3), .ref (a_t_images_2 4), .ref (a_t_images_2 5), .int t_images_2_told, .int t_images_2_lines, .int t_images_2_kinds, .int t_images_2_acts])), ((a_t_images_2 1), .inl (g.2.2.1 0, 15, .inl t_images_2_numbers)), ((a_t_images_2 2), .inl (g.2.2.1 0, 144, .inl t_images_2_cells)), ((a_t_images_2 3), .inl (g.2.2.1 0, 31, .inl t_images_2_rows)), ((a_t_images_2 4), .inl (g.2.2.1 0, 31, .inl t_images_2_sizes)), ((a_t_images_2 5), .inl (g.2.2.1 0, 31, .inl t_images_2_rooms)), ((a_t_now 0), .inr (1, [.ref (a_t_now 1), .ref (a_t_now 2), .ref (a_t_now 3), .ref (a_t_now 4), .ref (a_t_now 5), .int w29, .int w30, .int w31, .int w32])), ((a_t_now 1), .inl (g.2.2.1 0, 15, .inl w24)), ((a_t_now 2), .inl (g.2.2.1 0, 144, .inl w25)), ((a_t_now 3), .inl (g.2.2.1 0, 31, .inl w26)), ((a_t_now 4), .inl (g.2.2.1 0, 31, .inl w27)), ((a_t_now 5), .inl (g.2.2.1 0, 31, .inl w28)), ((a_t_images_1 0), .inr (1, [.ref (a_t_images_1 1), .ref (a_t_images_1 2), .ref (a_t_images_1 3), .ref (a_t_images_1 4), .ref (a_t_images_1 5), .int t_images_1_told, .int t_images_1_lines, .int t_images_1_kinds, .int t_images_1_acts])), ((a_t_images_1 1), .inl (g.2.2.1 0, 15, .inl t_images_1_numbers)), ((a_t_images_1 2), .inl (g.2.2.1 0, 144, .inl t_images_1_cells)), ((a_t_images_1 3), .inl (g.2.2.1 0, 31, .inl t_images_1_rows)), ((a_t_images_1 4), .inl (g.2.2.1 0, 31, .inl t_images_1_sizes)), ((a_t_images_1 5), .inl (g.2.2.1 0, 31, .inl t_images_1_rooms))]) (runVN (As := []) (rest := []) hG cx hl.1 (ctX0_forget l g H.size a_t_choices b_t_choices_rows b_t_choices_seen t_choices_size t_choices_ready t_choices_pool t_choices_plies t_choices_room w35 hr34) kmX0_forget kvX0_forget nm_15 ⟨rfl, rfl⟩ ⟨Nat.le_of_ble_eq_true rfl, Nat.le_of_ble_eq_true rfl⟩ (rwV (q0 := 14) (ci := 0) hG (hP.sub [14] rfl) (hD.sub [14] (by decide) rfl) hAb hb0 hS hP rfl rfl) rfl rfl (Nat.le_of_ble_eq_true rfl) dX7_back_43 ⟨Nat.le_of_ble_eq_true rfl, Nat.le_of_ble_eq_true rfl⟩) hP hD hS hA [14] [0, 1, 2, 3, 4, 5, 6, 7, 8, 9, 10, 11, 12, 13, 15, 16, 17, 18, 19, 20, 21, 22, 23, 24, 25, 26] rfl rfl (by decide) (by decide) (fun _ => rfl) (fun u36 H locs hP hD hS => ?_)
            have hG := hGk hS
            refine lv_iconst (v := 0) hx hb dX7_back_46 (by decide) ?_
            exact hrt (fun _ => 0) _ _ ((0)) w24 w25 w26 w27 w28 w29 w30 w31 w32 w35 _ _ dX7_back_47 h (hP.sub [0, 14, 15, 16, 17, 18, 19, 1, 2, 3, 4, 5, 6, 7, 20, 21, 22, 23, 24, 25, 8, 9, 10, 11, 12, 13, 26] rfl) (hD.sub [0, 14, 15, 16, 17, 18, 19, 1, 2, 3, 4, 5, 6, 7, 20, 21, 22, 23, 24, 25, 8, 9, 10, 11, 12, 13, 26] (by decide) rfl) hS
          · have h := itn e22 h
            by_cases e37 : v1 = 2
            · have h := itp e37 h
              refine xa_ald3 (k := 2) cx hG hP 7 rfl (by rw [e37]; decide) rfl dX7_back_35 ?_
              obtain ⟨w39, w40, w41, w42, w43, w44, w45, w46, w47, hr38, h⟩ := ob9_out h
              refine rw_v (WN := fun u48 => [((a_t 0), .inr (6, [.ref (a_t_tape 0), .ref (a_t_reader 0), .ref (a_t_now 0), .ref (a_t 4), .ref (a_t_choices 0), .ref (a_t_ways 0), .ref (a_t_stress 0)])), ((a_t 4), .inl (g.2.2.1 4, 3, .inr (.inr (.inr (.inr (iF (a_t_images_0 0) (a_t_images_1 0) (a_t_images_2 0))))))), ((a_t_images_0 0), .inr (1, [.ref (a_t_images_0 1), .ref (a_t_images_0 2), .ref (a_t_images_0 3), .ref (a_t_images_0 4), .ref (a_t_images_0 5), .int t_images_0_told, .int t_images_0_lines, .int t_images_0_kinds, .int t_images_0_acts])), ((a_t_images_0 1), .inl (g.2.2.1 0, 15, .inl t_images_0_numbers)), ((a_t_images_0 2), .inl (g.2.2.1 0, 144, .inl t_images_0_cells)), ((a_t_images_0 3), .inl (g.2.2.1 0, 31, .inl t_images_0_rows)), ((a_t_images_0 4), .inl (g.2.2.1 0, 31, .inl t_images_0_sizes)), ((a_t_images_0 5), .inl (g.2.2.1 0, 31, .inl t_images_0_rooms)), ((a_t_images_1 0), .inr (1, [.ref (a_t_images_1 1), .ref (a_t_images_1 2), .ref (a_t_images_1 3), .ref (a_t_images_1 4), .ref (a_t_images_1 5), .int t_images_1_told, .int t_images_1_lines, .int t_images_1_kinds, .int t_images_1_acts])), ((a_t_images_1 1), .inl (g.2.2.1 0, 15, .inl t_images_1_numbers)), ((a_t_images_1 2), .inl (g.2.2.1 0, 144, .inl t_images_1_cells)), ((a_t_images_1 3), .inl (g.2.2.1 0, 31, .inl t_images_1_rows)), ((a_t_images_1 4), .inl (g.2.2.1 0, 31, .inl t_images_1_sizes)), ((a_t_images_1 5), .inl (g.2.2.1 0, 31, .inl t_images_1_rooms)), ((a_t_choices 0), .inr (0, [.ref b_t_choices_rows, .ref b_t_choices_seen, .int t_choices_size, .int t_choices_ready, .int t_choices_pool, .int t_choices_plies, .int t_choices_room])), ((a_t_now 0), .inr (1, [.ref (a_t_now 1), .ref (a_t_now 2), .ref (a_t_now 3), .ref (a_t_now 4), .ref (a_t_now 5), .int w44, .int w45, .int w46, .int w47])), ((a_t_now 1), .inl (g.2.2.1 0, 15, .inl w39)), ((a_t_now 2), .inl (g.2.2.1 0, 144, .inl w40)), ((a_t_now 3), .inl (g.2.2.1 0, 31, .inl w41)), ((a_t_now 4), .inl (g.2.2.1 0, 31, .inl w42)), ((a_t_now 5), .inl (g.2.2.1 0, 31, .inl w43)), ((a_t_images_2 0), .inr (1, [.ref (a_t_images_2 1), .ref (a_t_images_2 2), .ref (a_t_images_2 3), .ref (a_t_images_2 4), .ref (a_t_images_2 5), .int t_images_2_told, .int t_images_2_lines, .int t_images_2_kinds, .int t_images_2_acts])), ((a_t_images_2 1), .inl (g.2.2.1 0, 15, .inl t_images_2_numbers)), ((a_t_images_2 2), .inl (g.2.2.1 0, 144, .inl t_images_2_cells)), ((a_t_images_2 3), .inl (g.2.2.1 0, 31, .inl t_images_2_rows)), ((a_t_images_2 4), .inl (g.2.2.1 0, 31, .inl t_images_2_sizes)), ((a_t_images_2 5), .inl (g.2.2.1 0, 31, .inl t_images_2_rooms))]) (wr := [((a_t 0), .inr (6, [.ref (a_t_tape 0), .ref (a_t_reader 0), .ref (a_t_now 0), .ref (a_t 4), .ref (a_t_choices 0), .ref (a_t_ways 0), .ref (a_t_stress 0)])), ((a_t 4), .inl (g.2.2.1 4, 3, .inr (.inr (.inr (.inr (iF (a_t_images_0 0) (a_t_images_1 0) (a_t_images_2 0))))))), ((a_t_images_0 0), .inr (1, [.ref (a_t_images_0 1), .ref (a_t_images_0 2), .ref (a_t_images_0 3), .ref (a_t_images_0 4), .ref (a_t_images_0 5), .int t_images_0_told, .int t_images_0_lines, .int t_images_0_kinds, .int t_images_0_acts])), ((a_t_images_0 1), .inl (g.2.2.1 0, 15, .inl t_images_0_numbers)), ((a_t_images_0 2), .inl (g.2.2.1 0, 144, .inl t_images_0_cells)), ((a_t_images_0 3), .inl (g.2.2.1 0, 31, .inl t_images_0_rows)), ((a_t_images_0 4), .inl (g.2.2.1 0, 31, .inl t_images_0_sizes)), ((a_t_images_0 5), .inl (g.2.2.1 0, 31, .inl t_images_0_rooms)), ((a_t_images_1 0), .inr (1, [.ref (a_t_images_1 1), .ref (a_t_images_1 2), .ref (a_t_images_1 3), .ref (a_t_images_1 4), .ref (a_t_images_1 5), .int t_images_1_told, .int t_images_1_lines, .int t_images_1_kinds, .int t_images_1_acts])), ((a_t_images_1 1), .inl (g.2.2.1 0, 15, .inl t_images_1_numbers)), ((a_t_images_1 2), .inl (g.2.2.1 0, 144, .inl t_images_1_cells)), ((a_t_images_1 3), .inl (g.2.2.1 0, 31, .inl t_images_1_rows)), ((a_t_images_1 4), .inl (g.2.2.1 0, 31, .inl t_images_1_sizes)), ((a_t_images_1 5), .inl (g.2.2.1 0, 31, .inl t_images_1_rooms)), ((a_t_choices 0), .inr (0, [.ref b_t_choices_rows, .ref b_t_choices_seen, .int t_choices_size, .int t_choices_ready, .int t_choices_pool, .int t_choices_plies, .int t_choices_room]))]) (runVN (As := [.ref ((a_t_images_2 0))]) (rest := []) hG cx hl.1 (ctX1_copy l g s.heap.size a_t_now a_t_images_2 t_now_told t_now_lines t_now_kinds t_now_acts t_now_numbers t_now_cells t_now_rows t_now_sizes t_now_rooms t_images_2_told t_images_2_lines t_images_2_kinds t_images_2_acts t_images_2_numbers t_images_2_cells t_images_2_rows t_images_2_sizes t_images_2_rooms w39 w40 w41 w42 w43 w44 w45 w46 w47 hr38) kmX1_copy kvX1_copy nm_14 ⟨rfl, rfl⟩ ⟨Nat.le_of_ble_eq_true rfl, Nat.le_of_ble_eq_true rfl⟩ (rwV (q0 := 1) (ci := 1) hG (hP.sub [1, 2, 3, 4, 5, 6, 20, 21, 22, 23, 24, 25] rfl) (hD.sub [1, 2, 3, 4, 5, 6, 20, 21, 22, 23, 24, 25] (by decide) rfl) hAb hb0 hS hP rfl rfl) rfl rfl (Nat.le_of_ble_eq_true rfl) dX7_back_36 ⟨Nat.le_of_ble_eq_true rfl, Nat.le_of_ble_eq_true rfl⟩) hP hD hS hA [1, 2, 3, 4, 5, 6, 20, 21, 22, 23, 24, 25] [0, 7, 8, 9, 10, 11, 12, 13, 14, 15, 16, 17, 18, 19, 26] rfl rfl (by decide) (by decide) (fun _ => rfl) (fun u48 H locs hP hD hS => ?_)
              have hG := hGk hS
              refine lv_aload_n hx hb dX7_back_39 rfl (lv_at hl 0 rfl) ?_
              refine xa_get (C := RX7) (T := TX7) (N := 7) cx hG hP 0 rfl rfl uX7 4 (by decide) lf_X7_41 rfl dX7_back_40 ?_
              obtain ⟨w50, hr49, h⟩ := bnd h
              refine rw_v (WN := fun u51 => [((a_t 0), .inr (6, [.ref (a_t_tape 0), .ref (a_t_reader 0), .ref (a_t_now 0), .ref (a_t 4), .ref (a_t_choices 0), .ref (a_t_ways 0), .ref (a_t_stress 0)])), ((a_t 4), .inl (g.2.2.1 4, 3, .inr (.inr (.inr (.inr (iF (a_t_images_0 0) (a_t_images_1 0) (a_t_images_2 0))))))), ((a_t_images_0 0), .inr (1, [.ref (a_t_images_0 1), .ref (a_t_images_0 2), .ref (a_t_images_0 3), .ref (a_t_images_0 4), .ref (a_t_images_0 5), .int t_images_0_told, .int t_images_0_lines, .int t_images_0_kinds, .int t_images_0_acts])), ((a_t_images_0 1), .inl (g.2.2.1 0, 15, .inl t_images_0_numbers)), ((a_t_images_0 2), .inl (g.2.2.1 0, 144, .inl t_images_0_cells)), ((a_t_images_0 3), .inl (g.2.2.1 0, 31, .inl t_images_0_rows)), ((a_t_images_0 4), .inl (g.2.2.1 0, 31, .inl t_images_0_sizes)), ((a_t_images_0 5), .inl (g.2.2.1 0, 31, .inl t_images_0_rooms)), ((a_t_images_1 0), .inr (1, [.ref (a_t_images_1 1), .ref (a_t_images_1 2), .ref (a_t_images_1 3), .ref (a_t_images_1 4), .ref (a_t_images_1 5), .int t_images_1_told, .int t_images_1_lines, .int t_images_1_kinds, .int t_images_1_acts])), ((a_t_images_1 1), .inl (g.2.2.1 0, 15, .inl t_images_1_numbers)), ((a_t_images_1 2), .inl (g.2.2.1 0, 144, .inl t_images_1_cells)), ((a_t_images_1 3), .inl (g.2.2.1 0, 31, .inl t_images_1_rows)), ((a_t_images_1 4), .inl (g.2.2.1 0, 31, .inl t_images_1_sizes)), ((a_t_images_1 5), .inl (g.2.2.1 0, 31, .inl t_images_1_rooms)), ((a_t_now 0), .inr (1, [.ref (a_t_now 1), .ref (a_t_now 2), .ref (a_t_now 3), .ref (a_t_now 4), .ref (a_t_now 5), .int w44, .int w45, .int w46, .int w47])), ((a_t_now 1), .inl (g.2.2.1 0, 15, .inl w39)), ((a_t_now 2), .inl (g.2.2.1 0, 144, .inl w40)), ((a_t_now 3), .inl (g.2.2.1 0, 31, .inl w41)), ((a_t_now 4), .inl (g.2.2.1 0, 31, .inl w42)), ((a_t_now 5), .inl (g.2.2.1 0, 31, .inl w43)), ((a_t_images_2 0), .inr (1, [.ref (a_t_images_2 1), .ref (a_t_images_2 2), .ref (a_t_images_2 3), .ref (a_t_images_2 4), .ref (a_t_images_2 5), .int t_images_2_told, .int t_images_2_lines, .int t_images_2_kinds, .int t_images_2_acts])), ((a_t_images_2 1), .inl (g.2.2.1 0, 15, .inl t_images_2_numbers)), ((a_t_images_2 2), .inl (g.2.2.1 0, 144, .inl t_images_2_cells)), ((a_t_images_2 3), .inl (g.2.2.1 0, 31, .inl t_images_2_rows)), ((a_t_images_2 4), .inl (g.2.2.1 0, 31, .inl t_images_2_sizes)), ((a_t_images_2 5), .inl (g.2.2.1 0, 31, .inl t_images_2_rooms)), ((a_t_choices 0), .inr (0, [.ref b_t_choices_rows, .ref b_t_choices_seen, .int t_choices_size, .int w50, .int t_choices_pool, .int t_choices_plies, .int t_choices_room]))]) (wr := [((a_t 0), .inr (6, [.ref (a_t_tape 0), .ref (a_t_reader 0), .ref (a_t_now 0), .ref (a_t 4), .ref (a_t_choices 0), .ref (a_t_ways 0), .ref (a_t_stress 0)])), ((a_t 4), .inl (g.2.2.1 4, 3, .inr (.inr (.inr (.inr (iF (a_t_images_0 0) (a_t_images_1 0) (a_t_images_2 0))))))), ((a_t_images_0 0), .inr (1, [.ref (a_t_images_0 1), .ref (a_t_images_0 2), .ref (a_t_images_0 3), .ref (a_t_images_0 4), .ref (a_t_images_0 5), .int t_images_0_told, .int t_images_0_lines, .int t_images_0_kinds, .int t_images_0_acts])), ((a_t_images_0 1), .inl (g.2.2.1 0, 15, .inl t_images_0_numbers)), ((a_t_images_0 2), .inl (g.2.2.1 0, 144, .inl t_images_0_cells)), ((a_t_images_0 3), .inl (g.2.2.1 0, 31, .inl t_images_0_rows)), ((a_t_images_0 4), .inl (g.2.2.1 0, 31, .inl t_images_0_sizes)), ((a_t_images_0 5), .inl (g.2.2.1 0, 31, .inl t_images_0_rooms)), ((a_t_images_1 0), .inr (1, [.ref (a_t_images_1 1), .ref (a_t_images_1 2), .ref (a_t_images_1 3), .ref (a_t_images_1 4), .ref (a_t_images_1 5), .int t_images_1_told, .int t_images_1_lines, .int t_images_1_kinds, .int t_images_1_acts])), ((a_t_images_1 1), .inl (g.2.2.1 0, 15, .inl t_images_1_numbers)), ((a_t_images_1 2), .inl (g.2.2.1 0, 144, .inl t_images_1_cells)), ((a_t_images_1 3), .inl (g.2.2.1 0, 31, .inl t_images_1_rows)), ((a_t_images_1 4), .inl (g.2.2.1 0, 31, .inl t_images_1_sizes)), ((a_t_images_1 5), .inl (g.2.2.1 0, 31, .inl t_images_1_rooms)), ((a_t_now 0), .inr (1, [.ref (a_t_now 1), .ref (a_t_now 2), .ref (a_t_now 3), .ref (a_t_now 4), .ref (a_t_now 5), .int w44, .int w45, .int w46, .int w47])), ((a_t_now 1), .inl (g.2.2.1 0, 15, .inl w39)), ((a_t_now 2), .inl (g.2.2.1 0, 144, .inl w40)), ((a_t_now 3), .inl (g.2.2.1 0, 31, .inl w41)), ((a_t_now 4), .inl (g.2.2.1 0, 31, .inl w42)), ((a_t_now 5), .inl (g.2.2.1 0, 31, .inl w43)), ((a_t_images_2 0), .inr (1, [.ref (a_t_images_2 1), .ref (a_t_images_2 2), .ref (a_t_images_2 3), .ref (a_t_images_2 4), .ref (a_t_images_2 5), .int t_images_2_told, .int t_images_2_lines, .int t_images_2_kinds, .int t_images_2_acts])), ((a_t_images_2 1), .inl (g.2.2.1 0, 15, .inl t_images_2_numbers)), ((a_t_images_2 2), .inl (g.2.2.1 0, 144, .inl t_images_2_cells)), ((a_t_images_2 3), .inl (g.2.2.1 0, 31, .inl t_images_2_rows)), ((a_t_images_2 4), .inl (g.2.2.1 0, 31, .inl t_images_2_sizes)), ((a_t_images_2 5), .inl (g.2.2.1 0, 31, .inl t_images_2_rooms))]) (runVN (As := []) (rest := []) hG cx hl.1 (ctX0_forget l g H.size a_t_choices b_t_choices_rows b_t_choices_seen t_choices_size t_choices_ready t_choices_pool t_choices_plies t_choices_room w50 hr49) kmX0_forget kvX0_forget nm_15 ⟨rfl, rfl⟩ ⟨Nat.le_of_ble_eq_true rfl, Nat.le_of_ble_eq_true rfl⟩ (rwV (q0 := 14) (ci := 0) hG (hP.sub [14] rfl) (hD.sub [14] (by decide) rfl) hAb hb0 hS hP rfl rfl) rfl rfl (Nat.le_of_ble_eq_true rfl) dX7_back_43 ⟨Nat.le_of_ble_eq_true rfl, Nat.le_of_ble_eq_true rfl⟩) hP hD hS hA [14] [0, 1, 2, 3, 4, 5, 6, 7, 8, 9, 10, 11, 12, 13, 15, 16, 17, 18, 19, 20, 21, 22, 23, 24, 25, 26] rfl rfl (by decide) (by decide) (fun _ => rfl) (fun u51 H locs hP hD hS => ?_)
              have hG := hGk hS
              refine lv_iconst (v := 0) hx hb dX7_back_46 (by decide) ?_
              exact hrt (fun _ => 0) _ _ ((0)) w39 w40 w41 w42 w43 w44 w45 w46 w47 w50 _ _ dX7_back_47 h (hP.sub [0, 14, 15, 16, 17, 18, 19, 1, 2, 3, 4, 5, 6, 7, 8, 9, 10, 11, 12, 13, 20, 21, 22, 23, 24, 25, 26] rfl) (hD.sub [0, 14, 15, 16, 17, 18, 19, 1, 2, 3, 4, 5, 6, 7, 8, 9, 10, 11, 12, 13, 20, 21, 22, 23, 24, 25, 26] (by decide) rfl) hS
            · have h := itn e37 h
              cases h
      · have h := itp c6 h
        refine lv_bipush (v := -6) hx hb dX7_back_23 (by decide) ?_
        exact hrt (fun _ => 0) _ _ ((-6)) t_now_numbers t_now_cells t_now_rows t_now_sizes t_now_rooms t_now_told t_now_lines t_now_kinds t_now_acts t_choices_ready _ _ dX7_back_25 h (hP.sub [0, 1, 2, 3, 4, 5, 6, 7, 8, 9, 10, 11, 12, 13, 14, 15, 16, 17, 18, 19, 20, 21, 22, 23, 24, 25, 26] rfl) (hD.sub [0, 1, 2, 3, 4, 5, 6, 7, 8, 9, 10, 11, 12, 13, 14, 15, 16, 17, 18, 19, 20, 21, 22, 23, 24, 25, 26] (by decide) rfl) hS
    · have h := itn e5 h
      by_cases e52 : v1 = 1
      · have h := itp e52 h
        refine xa_ald3 (k := 1) cx hG hP 7 rfl (by rw [e52]; decide) rfl dX7_back_16 ?_
        refine xa_getN (C := RX1) (T := TX1) (N := 9) cx hG hP 14 rfl rfl uX1 5 (by decide) nf_5 rfl dX7_back_17 ?_
        refine lv_if_ne (tgt := 26) hx hb dX7_back_20 (by decide) (fun c53 => ?_) (fun c53 => ?_)
        · have h := itn c53 h
          refine lv_aload_n hx hb dX7_back_26 rfl (lv_at hl 0 rfl) ?_
          refine xa_get (C := RX7) (T := TX7) (N := 7) cx hG hP 0 rfl rfl uX7 2 (by decide) lf_X7_30 rfl dX7_back_27 ?_
          refine lv_aload_n hx hb dX7_back_30 rfl (lv_at hl 0 rfl) ?_
          refine xa_get (C := RX7) (T := TX7) (N := 7) cx hG hP 0 rfl rfl uX7 3 (by decide) lf_X7_34 rfl dX7_back_31 ?_
          refine lv_iload_n hx hb dX7_back_34 rfl (lv_at hl 1 rfl) ?_
          by_cases e54 : v1 = 0
          · have h := itp e54 h
            refine xa_ald3 (k := 0) cx hG hP 7 rfl (by rw [e54]; decide) rfl dX7_back_35 ?_
            obtain ⟨w56, w57, w58, w59, w60, w61, w62, w63, w64, hr55, h⟩ := ob9_out h
            refine rw_v (WN := fun u65 => [((a_t 0), .inr (6, [.ref (a_t_tape 0), .ref (a_t_reader 0), .ref (a_t_now 0), .ref (a_t 4), .ref (a_t_choices 0), .ref (a_t_ways 0), .ref (a_t_stress 0)])), ((a_t 4), .inl (g.2.2.1 4, 3, .inr (.inr (.inr (.inr (iF (a_t_images_0 0) (a_t_images_1 0) (a_t_images_2 0))))))), ((a_t_images_1 0), .inr (1, [.ref (a_t_images_1 1), .ref (a_t_images_1 2), .ref (a_t_images_1 3), .ref (a_t_images_1 4), .ref (a_t_images_1 5), .int t_images_1_told, .int t_images_1_lines, .int t_images_1_kinds, .int t_images_1_acts])), ((a_t_images_1 1), .inl (g.2.2.1 0, 15, .inl t_images_1_numbers)), ((a_t_images_1 2), .inl (g.2.2.1 0, 144, .inl t_images_1_cells)), ((a_t_images_1 3), .inl (g.2.2.1 0, 31, .inl t_images_1_rows)), ((a_t_images_1 4), .inl (g.2.2.1 0, 31, .inl t_images_1_sizes)), ((a_t_images_1 5), .inl (g.2.2.1 0, 31, .inl t_images_1_rooms)), ((a_t_images_2 0), .inr (1, [.ref (a_t_images_2 1), .ref (a_t_images_2 2), .ref (a_t_images_2 3), .ref (a_t_images_2 4), .ref (a_t_images_2 5), .int t_images_2_told, .int t_images_2_lines, .int t_images_2_kinds, .int t_images_2_acts])), ((a_t_images_2 1), .inl (g.2.2.1 0, 15, .inl t_images_2_numbers)), ((a_t_images_2 2), .inl (g.2.2.1 0, 144, .inl t_images_2_cells)), ((a_t_images_2 3), .inl (g.2.2.1 0, 31, .inl t_images_2_rows)), ((a_t_images_2 4), .inl (g.2.2.1 0, 31, .inl t_images_2_sizes)), ((a_t_images_2 5), .inl (g.2.2.1 0, 31, .inl t_images_2_rooms)), ((a_t_choices 0), .inr (0, [.ref b_t_choices_rows, .ref b_t_choices_seen, .int t_choices_size, .int t_choices_ready, .int t_choices_pool, .int t_choices_plies, .int t_choices_room])), ((a_t_now 0), .inr (1, [.ref (a_t_now 1), .ref (a_t_now 2), .ref (a_t_now 3), .ref (a_t_now 4), .ref (a_t_now 5), .int w61, .int w62, .int w63, .int w64])), ((a_t_now 1), .inl (g.2.2.1 0, 15, .inl w56)), ((a_t_now 2), .inl (g.2.2.1 0, 144, .inl w57)), ((a_t_now 3), .inl (g.2.2.1 0, 31, .inl w58)), ((a_t_now 4), .inl (g.2.2.1 0, 31, .inl w59)), ((a_t_now 5), .inl (g.2.2.1 0, 31, .inl w60)), ((a_t_images_0 0), .inr (1, [.ref (a_t_images_0 1), .ref (a_t_images_0 2), .ref (a_t_images_0 3), .ref (a_t_images_0 4), .ref (a_t_images_0 5), .int t_images_0_told, .int t_images_0_lines, .int t_images_0_kinds, .int t_images_0_acts])), ((a_t_images_0 1), .inl (g.2.2.1 0, 15, .inl t_images_0_numbers)), ((a_t_images_0 2), .inl (g.2.2.1 0, 144, .inl t_images_0_cells)), ((a_t_images_0 3), .inl (g.2.2.1 0, 31, .inl t_images_0_rows)), ((a_t_images_0 4), .inl (g.2.2.1 0, 31, .inl t_images_0_sizes)), ((a_t_images_0 5), .inl (g.2.2.1 0, 31, .inl t_images_0_rooms))]) (wr := [((a_t 0), .inr (6, [.ref (a_t_tape 0), .ref (a_t_reader 0), .ref (a_t_now 0), .ref (a_t 4), .ref (a_t_choices 0), .ref (a_t_ways 0), .ref (a_t_stress 0)])), ((a_t 4), .inl (g.2.2.1 4, 3, .inr (.inr (.inr (.inr (iF (a_t_images_0 0) (a_t_images_1 0) (a_t_images_2 0))))))), ((a_t_images_1 0), .inr (1, [.ref (a_t_images_1 1), .ref (a_t_images_1 2), .ref (a_t_images_1 3), .ref (a_t_images_1 4), .ref (a_t_images_1 5), .int t_images_1_told, .int t_images_1_lines, .int t_images_1_kinds, .int t_images_1_acts])), ((a_t_images_1 1), .inl (g.2.2.1 0, 15, .inl t_images_1_numbers)), ((a_t_images_1 2), .inl (g.2.2.1 0, 144, .inl t_images_1_cells)), ((a_t_images_1 3), .inl (g.2.2.1 0, 31, .inl t_images_1_rows)), ((a_t_images_1 4), .inl (g.2.2.1 0, 31, .inl t_images_1_sizes)), ((a_t_images_1 5), .inl (g.2.2.1 0, 31, .inl t_images_1_rooms)), ((a_t_images_2 0), .inr (1, [.ref (a_t_images_2 1), .ref (a_t_images_2 2), .ref (a_t_images_2 3), .ref (a_t_images_2 4), .ref (a_t_images_2 5), .int t_images_2_told, .int t_images_2_lines, .int t_images_2_kinds, .int t_images_2_acts])), ((a_t_images_2 1), .inl (g.2.2.1 0, 15, .inl t_images_2_numbers)), ((a_t_images_2 2), .inl (g.2.2.1 0, 144, .inl t_images_2_cells)), ((a_t_images_2 3), .inl (g.2.2.1 0, 31, .inl t_images_2_rows)), ((a_t_images_2 4), .inl (g.2.2.1 0, 31, .inl t_images_2_sizes)), ((a_t_images_2 5), .inl (g.2.2.1 0, 31, .inl t_images_2_rooms)), ((a_t_choices 0), .inr (0, [.ref b_t_choices_rows, .ref b_t_choices_seen, .int t_choices_size, .int t_choices_ready, .int t_choices_pool, .int t_choices_plies, .int t_choices_room]))]) (runVN (As := [.ref ((a_t_images_0 0))]) (rest := []) hG cx hl.1 (ctX1_copy l g s.heap.size a_t_now a_t_images_0 t_now_told t_now_lines t_now_kinds t_now_acts t_now_numbers t_now_cells t_now_rows t_now_sizes t_now_rooms t_images_0_told t_images_0_lines t_images_0_kinds t_images_0_acts t_images_0_numbers t_images_0_cells t_images_0_rows t_images_0_sizes t_images_0_rooms w56 w57 w58 w59 w60 w61 w62 w63 w64 hr55) kmX1_copy kvX1_copy nm_14 ⟨rfl, rfl⟩ ⟨Nat.le_of_ble_eq_true rfl, Nat.le_of_ble_eq_true rfl⟩ (rwV (q0 := 1) (ci := 1) hG (hP.sub [1, 2, 3, 4, 5, 6, 8, 9, 10, 11, 12, 13] rfl) (hD.sub [1, 2, 3, 4, 5, 6, 8, 9, 10, 11, 12, 13] (by decide) rfl) hAb hb0 hS hP rfl rfl) rfl rfl (Nat.le_of_ble_eq_true rfl) dX7_back_36 ⟨Nat.le_of_ble_eq_true rfl, Nat.le_of_ble_eq_true rfl⟩) hP hD hS hA [1, 2, 3, 4, 5, 6, 8, 9, 10, 11, 12, 13] [0, 7, 14, 15, 16, 17, 18, 19, 20, 21, 22, 23, 24, 25, 26] rfl rfl (by decide) (by decide) (fun _ => rfl) (fun u65 H locs hP hD hS => ?_)
            have hG := hGk hS
            refine lv_aload_n hx hb dX7_back_39 rfl (lv_at hl 0 rfl) ?_
            refine xa_get (C := RX7) (T := TX7) (N := 7) cx hG hP 0 rfl rfl uX7 4 (by decide) lf_X7_41 rfl dX7_back_40 ?_
            obtain ⟨w67, hr66, h⟩ := bnd h
            refine rw_v (WN := fun u68 => [((a_t 0), .inr (6, [.ref (a_t_tape 0), .ref (a_t_reader 0), .ref (a_t_now 0), .ref (a_t 4), .ref (a_t_choices 0), .ref (a_t_ways 0), .ref (a_t_stress 0)])), ((a_t 4), .inl (g.2.2.1 4, 3, .inr (.inr (.inr (.inr (iF (a_t_images_0 0) (a_t_images_1 0) (a_t_images_2 0))))))), ((a_t_images_1 0), .inr (1, [.ref (a_t_images_1 1), .ref (a_t_images_1 2), .ref (a_t_images_1 3), .ref (a_t_images_1 4), .ref (a_t_images_1 5), .int t_images_1_told, .int t_images_1_lines, .int t_images_1_kinds, .int t_images_1_acts])), ((a_t_images_1 1), .inl (g.2.2.1 0, 15, .inl t_images_1_numbers)), ((a_t_images_1 2), .inl (g.2.2.1 0, 144, .inl t_images_1_cells)), ((a_t_images_1 3), .inl (g.2.2.1 0, 31, .inl t_images_1_rows)), ((a_t_images_1 4), .inl (g.2.2.1 0, 31, .inl t_images_1_sizes)), ((a_t_images_1 5), .inl (g.2.2.1 0, 31, .inl t_images_1_rooms)), ((a_t_images_2 0), .inr (1, [.ref (a_t_images_2 1), .ref (a_t_images_2 2), .ref (a_t_images_2 3), .ref (a_t_images_2 4), .ref (a_t_images_2 5), .int t_images_2_told, .int t_images_2_lines, .int t_images_2_kinds, .int t_images_2_acts])), ((a_t_images_2 1), .inl (g.2.2.1 0, 15, .inl t_images_2_numbers)), ((a_t_images_2 2), .inl (g.2.2.1 0, 144, .inl t_images_2_cells)), ((a_t_images_2 3), .inl (g.2.2.1 0, 31, .inl t_images_2_rows)), ((a_t_images_2 4), .inl (g.2.2.1 0, 31, .inl t_images_2_sizes)), ((a_t_images_2 5), .inl (g.2.2.1 0, 31, .inl t_images_2_rooms)), ((a_t_now 0), .inr (1, [.ref (a_t_now 1), .ref (a_t_now 2), .ref (a_t_now 3), .ref (a_t_now 4), .ref (a_t_now 5), .int w61, .int w62, .int w63, .int w64])), ((a_t_now 1), .inl (g.2.2.1 0, 15, .inl w56)), ((a_t_now 2), .inl (g.2.2.1 0, 144, .inl w57)), ((a_t_now 3), .inl (g.2.2.1 0, 31, .inl w58)), ((a_t_now 4), .inl (g.2.2.1 0, 31, .inl w59)), ((a_t_now 5), .inl (g.2.2.1 0, 31, .inl w60)), ((a_t_images_0 0), .inr (1, [.ref (a_t_images_0 1), .ref (a_t_images_0 2), .ref (a_t_images_0 3), .ref (a_t_images_0 4), .ref (a_t_images_0 5), .int t_images_0_told, .int t_images_0_lines, .int t_images_0_kinds, .int t_images_0_acts])), ((a_t_images_0 1), .inl (g.2.2.1 0, 15, .inl t_images_0_numbers)), ((a_t_images_0 2), .inl (g.2.2.1 0, 144, .inl t_images_0_cells)), ((a_t_images_0 3), .inl (g.2.2.1 0, 31, .inl t_images_0_rows)), ((a_t_images_0 4), .inl (g.2.2.1 0, 31, .inl t_images_0_sizes)), ((a_t_images_0 5), .inl (g.2.2.1 0, 31, .inl t_images_0_rooms)), ((a_t_choices 0), .inr (0, [.ref b_t_choices_rows, .ref b_t_choices_seen, .int t_choices_size, .int w67, .int t_choices_pool, .int t_choices_plies, .int t_choices_room]))]) (wr := [((a_t 0), .inr (6, [.ref (a_t_tape 0), .ref (a_t_reader 0), .ref (a_t_now 0), .ref (a_t 4), .ref (a_t_choices 0), .ref (a_t_ways 0), .ref (a_t_stress 0)])), ((a_t 4), .inl (g.2.2.1 4, 3, .inr (.inr (.inr (.inr (iF (a_t_images_0 0) (a_t_images_1 0) (a_t_images_2 0))))))), ((a_t_images_1 0), .inr (1, [.ref (a_t_images_1 1), .ref (a_t_images_1 2), .ref (a_t_images_1 3), .ref (a_t_images_1 4), .ref (a_t_images_1 5), .int t_images_1_told, .int t_images_1_lines, .int t_images_1_kinds, .int t_images_1_acts])), ((a_t_images_1 1), .inl (g.2.2.1 0, 15, .inl t_images_1_numbers)), ((a_t_images_1 2), .inl (g.2.2.1 0, 144, .inl t_images_1_cells)), ((a_t_images_1 3), .inl (g.2.2.1 0, 31, .inl t_images_1_rows)), ((a_t_images_1 4), .inl (g.2.2.1 0, 31, .inl t_images_1_sizes)), ((a_t_images_1 5), .inl (g.2.2.1 0, 31, .inl t_images_1_rooms)), ((a_t_images_2 0), .inr (1, [.ref (a_t_images_2 1), .ref (a_t_images_2 2), .ref (a_t_images_2 3), .ref (a_t_images_2 4), .ref (a_t_images_2 5), .int t_images_2_told, .int t_images_2_lines, .int t_images_2_kinds, .int t_images_2_acts])), ((a_t_images_2 1), .inl (g.2.2.1 0, 15, .inl t_images_2_numbers)), ((a_t_images_2 2), .inl (g.2.2.1 0, 144, .inl t_images_2_cells)), ((a_t_images_2 3), .inl (g.2.2.1 0, 31, .inl t_images_2_rows)), ((a_t_images_2 4), .inl (g.2.2.1 0, 31, .inl t_images_2_sizes)), ((a_t_images_2 5), .inl (g.2.2.1 0, 31, .inl t_images_2_rooms)), ((a_t_now 0), .inr (1, [.ref (a_t_now 1), .ref (a_t_now 2), .ref (a_t_now 3), .ref (a_t_now 4), .ref (a_t_now 5), .int w61, .int w62, .int w63, .int w64])), ((a_t_now 1), .inl (g.2.2.1 0, 15, .inl w56)), ((a_t_now 2), .inl (g.2.2.1 0, 144, .inl w57)), ((a_t_now 3), .inl (g.2.2.1 0, 31, .inl w58)), ((a_t_now 4), .inl (g.2.2.1 0, 31, .inl w59)), ((a_t_now 5), .inl (g.2.2.1 0, 31, .inl w60)), ((a_t_images_0 0), .inr (1, [.ref (a_t_images_0 1), .ref (a_t_images_0 2), .ref (a_t_images_0 3), .ref (a_t_images_0 4), .ref (a_t_images_0 5), .int t_images_0_told, .int t_images_0_lines, .int t_images_0_kinds, .int t_images_0_acts])), ((a_t_images_0 1), .inl (g.2.2.1 0, 15, .inl t_images_0_numbers)), ((a_t_images_0 2), .inl (g.2.2.1 0, 144, .inl t_images_0_cells)), ((a_t_images_0 3), .inl (g.2.2.1 0, 31, .inl t_images_0_rows)), ((a_t_images_0 4), .inl (g.2.2.1 0, 31, .inl t_images_0_sizes)), ((a_t_images_0 5), .inl (g.2.2.1 0, 31, .inl t_images_0_rooms))]) (runVN (As := []) (rest := []) hG cx hl.1 (ctX0_forget l g H.size a_t_choices b_t_choices_rows b_t_choices_seen t_choices_size t_choices_ready t_choices_pool t_choices_plies t_choices_room w67 hr66) kmX0_forget kvX0_forget nm_15 ⟨rfl, rfl⟩ ⟨Nat.le_of_ble_eq_true rfl, Nat.le_of_ble_eq_true rfl⟩ (rwV (q0 := 14) (ci := 0) hG (hP.sub [14] rfl) (hD.sub [14] (by decide) rfl) hAb hb0 hS hP rfl rfl) rfl rfl (Nat.le_of_ble_eq_true rfl) dX7_back_43 ⟨Nat.le_of_ble_eq_true rfl, Nat.le_of_ble_eq_true rfl⟩) hP hD hS hA [14] [0, 1, 2, 3, 4, 5, 6, 7, 8, 9, 10, 11, 12, 13, 15, 16, 17, 18, 19, 20, 21, 22, 23, 24, 25, 26] rfl rfl (by decide) (by decide) (fun _ => rfl) (fun u68 H locs hP hD hS => ?_)
            have hG := hGk hS
            refine lv_iconst (v := 0) hx hb dX7_back_46 (by decide) ?_
            exact hrt (fun _ => 0) _ _ ((0)) w56 w57 w58 w59 w60 w61 w62 w63 w64 w67 _ _ dX7_back_47 h (hP.sub [0, 14, 15, 16, 17, 18, 19, 1, 20, 21, 22, 23, 24, 25, 2, 3, 4, 5, 6, 7, 8, 9, 10, 11, 12, 13, 26] rfl) (hD.sub [0, 14, 15, 16, 17, 18, 19, 1, 20, 21, 22, 23, 24, 25, 2, 3, 4, 5, 6, 7, 8, 9, 10, 11, 12, 13, 26] (by decide) rfl) hS
          · have h := itn e54 h
            by_cases e69 : v1 = 1
            · have h := itp e69 h
              refine xa_ald3 (k := 1) cx hG hP 7 rfl (by rw [e69]; decide) rfl dX7_back_35 ?_
              obtain ⟨w71, w72, w73, w74, w75, w76, w77, w78, w79, hr70, h⟩ := ob9_out h
              refine rw_v (WN := fun u80 => [((a_t 0), .inr (6, [.ref (a_t_tape 0), .ref (a_t_reader 0), .ref (a_t_now 0), .ref (a_t 4), .ref (a_t_choices 0), .ref (a_t_ways 0), .ref (a_t_stress 0)])), ((a_t 4), .inl (g.2.2.1 4, 3, .inr (.inr (.inr (.inr (iF (a_t_images_0 0) (a_t_images_1 0) (a_t_images_2 0))))))), ((a_t_images_0 0), .inr (1, [.ref (a_t_images_0 1), .ref (a_t_images_0 2), .ref (a_t_images_0 3), .ref (a_t_images_0 4), .ref (a_t_images_0 5), .int t_images_0_told, .int t_images_0_lines, .int t_images_0_kinds, .int t_images_0_acts])), ((a_t_images_0 1), .inl (g.2.2.1 0, 15, .inl t_images_0_numbers)), ((a_t_images_0 2), .inl (g.2.2.1 0, 144, .inl t_images_0_cells)), ((a_t_images_0 3), .inl (g.2.2.1 0, 31, .inl t_images_0_rows)), ((a_t_images_0 4), .inl (g.2.2.1 0, 31, .inl t_images_0_sizes)), ((a_t_images_0 5), .inl (g.2.2.1 0, 31, .inl t_images_0_rooms)), ((a_t_images_2 0), .inr (1, [.ref (a_t_images_2 1), .ref (a_t_images_2 2), .ref (a_t_images_2 3), .ref (a_t_images_2 4), .ref (a_t_images_2 5), .int t_images_2_told, .int t_images_2_lines, .int t_images_2_kinds, .int t_images_2_acts])), ((a_t_images_2 1), .inl (g.2.2.1 0, 15, .inl t_images_2_numbers)), ((a_t_images_2 2), .inl (g.2.2.1 0, 144, .inl t_images_2_cells)), ((a_t_images_2 3), .inl (g.2.2.1 0, 31, .inl t_images_2_rows)), ((a_t_images_2 4), .inl (g.2.2.1 0, 31, .inl t_images_2_sizes)), ((a_t_images_2 5), .inl (g.2.2.1 0, 31, .inl t_images_2_rooms)), ((a_t_choices 0), .inr (0, [.ref b_t_choices_rows, .ref b_t_choices_seen, .int t_choices_size, .int t_choices_ready, .int t_choices_pool, .int t_choices_plies, .int t_choices_room])), ((a_t_now 0), .inr (1, [.ref (a_t_now 1), .ref (a_t_now 2), .ref (a_t_now 3), .ref (a_t_now 4), .ref (a_t_now 5), .int w76, .int w77, .int w78, .int w79])), ((a_t_now 1), .inl (g.2.2.1 0, 15, .inl w71)), ((a_t_now 2), .inl (g.2.2.1 0, 144, .inl w72)), ((a_t_now 3), .inl (g.2.2.1 0, 31, .inl w73)), ((a_t_now 4), .inl (g.2.2.1 0, 31, .inl w74)), ((a_t_now 5), .inl (g.2.2.1 0, 31, .inl w75)), ((a_t_images_1 0), .inr (1, [.ref (a_t_images_1 1), .ref (a_t_images_1 2), .ref (a_t_images_1 3), .ref (a_t_images_1 4), .ref (a_t_images_1 5), .int t_images_1_told, .int t_images_1_lines, .int t_images_1_kinds, .int t_images_1_acts])), ((a_t_images_1 1), .inl (g.2.2.1 0, 15, .inl t_images_1_numbers)), ((a_t_images_1 2), .inl (g.2.2.1 0, 144, .inl t_images_1_cells)), ((a_t_images_1 3), .inl (g.2.2.1 0, 31, .inl t_images_1_rows)), ((a_t_images_1 4), .inl (g.2.2.1 0, 31, .inl t_images_1_sizes)), ((a_t_images_1 5), .inl (g.2.2.1 0, 31, .inl t_images_1_rooms))]) (wr := [((a_t 0), .inr (6, [.ref (a_t_tape 0), .ref (a_t_reader 0), .ref (a_t_now 0), .ref (a_t 4), .ref (a_t_choices 0), .ref (a_t_ways 0), .ref (a_t_stress 0)])), ((a_t 4), .inl (g.2.2.1 4, 3, .inr (.inr (.inr (.inr (iF (a_t_images_0 0) (a_t_images_1 0) (a_t_images_2 0))))))), ((a_t_images_0 0), .inr (1, [.ref (a_t_images_0 1), .ref (a_t_images_0 2), .ref (a_t_images_0 3), .ref (a_t_images_0 4), .ref (a_t_images_0 5), .int t_images_0_told, .int t_images_0_lines, .int t_images_0_kinds, .int t_images_0_acts])), ((a_t_images_0 1), .inl (g.2.2.1 0, 15, .inl t_images_0_numbers)), ((a_t_images_0 2), .inl (g.2.2.1 0, 144, .inl t_images_0_cells)), ((a_t_images_0 3), .inl (g.2.2.1 0, 31, .inl t_images_0_rows)), ((a_t_images_0 4), .inl (g.2.2.1 0, 31, .inl t_images_0_sizes)), ((a_t_images_0 5), .inl (g.2.2.1 0, 31, .inl t_images_0_rooms)), ((a_t_images_2 0), .inr (1, [.ref (a_t_images_2 1), .ref (a_t_images_2 2), .ref (a_t_images_2 3), .ref (a_t_images_2 4), .ref (a_t_images_2 5), .int t_images_2_told, .int t_images_2_lines, .int t_images_2_kinds, .int t_images_2_acts])), ((a_t_images_2 1), .inl (g.2.2.1 0, 15, .inl t_images_2_numbers)), ((a_t_images_2 2), .inl (g.2.2.1 0, 144, .inl t_images_2_cells)), ((a_t_images_2 3), .inl (g.2.2.1 0, 31, .inl t_images_2_rows)), ((a_t_images_2 4), .inl (g.2.2.1 0, 31, .inl t_images_2_sizes)), ((a_t_images_2 5), .inl (g.2.2.1 0, 31, .inl t_images_2_rooms)), ((a_t_choices 0), .inr (0, [.ref b_t_choices_rows, .ref b_t_choices_seen, .int t_choices_size, .int t_choices_ready, .int t_choices_pool, .int t_choices_plies, .int t_choices_room]))]) (runVN (As := [.ref ((a_t_images_1 0))]) (rest := []) hG cx hl.1 (ctX1_copy l g s.heap.size a_t_now a_t_images_1 t_now_told t_now_lines t_now_kinds t_now_acts t_now_numbers t_now_cells t_now_rows t_now_sizes t_now_rooms t_images_1_told t_images_1_lines t_images_1_kinds t_images_1_acts t_images_1_numbers t_images_1_cells t_images_1_rows t_images_1_sizes t_images_1_rooms w71 w72 w73 w74 w75 w76 w77 w78 w79 hr70) kmX1_copy kvX1_copy nm_14 ⟨rfl, rfl⟩ ⟨Nat.le_of_ble_eq_true rfl, Nat.le_of_ble_eq_true rfl⟩ (rwV (q0 := 1) (ci := 1) hG (hP.sub [1, 2, 3, 4, 5, 6, 14, 15, 16, 17, 18, 19] rfl) (hD.sub [1, 2, 3, 4, 5, 6, 14, 15, 16, 17, 18, 19] (by decide) rfl) hAb hb0 hS hP rfl rfl) rfl rfl (Nat.le_of_ble_eq_true rfl) dX7_back_36 ⟨Nat.le_of_ble_eq_true rfl, Nat.le_of_ble_eq_true rfl⟩) hP hD hS hA [1, 2, 3, 4, 5, 6, 14, 15, 16, 17, 18, 19] [0, 7, 8, 9, 10, 11, 12, 13, 20, 21, 22, 23, 24, 25, 26] rfl rfl (by decide) (by decide) (fun _ => rfl) (fun u80 H locs hP hD hS => ?_)
              have hG := hGk hS
              refine lv_aload_n hx hb dX7_back_39 rfl (lv_at hl 0 rfl) ?_
              refine xa_get (C := RX7) (T := TX7) (N := 7) cx hG hP 0 rfl rfl uX7 4 (by decide) lf_X7_41 rfl dX7_back_40 ?_
              obtain ⟨w82, hr81, h⟩ := bnd h
              refine rw_v (WN := fun u83 => [((a_t 0), .inr (6, [.ref (a_t_tape 0), .ref (a_t_reader 0), .ref (a_t_now 0), .ref (a_t 4), .ref (a_t_choices 0), .ref (a_t_ways 0), .ref (a_t_stress 0)])), ((a_t 4), .inl (g.2.2.1 4, 3, .inr (.inr (.inr (.inr (iF (a_t_images_0 0) (a_t_images_1 0) (a_t_images_2 0))))))), ((a_t_images_0 0), .inr (1, [.ref (a_t_images_0 1), .ref (a_t_images_0 2), .ref (a_t_images_0 3), .ref (a_t_images_0 4), .ref (a_t_images_0 5), .int t_images_0_told, .int t_images_0_lines, .int t_images_0_kinds, .int t_images_0_acts])), ((a_t_images_0 1), .inl (g.2.2.1 0, 15, .inl t_images_0_numbers)), ((a_t_images_0 2), .inl (g.2.2.1 0, 144, .inl t_images_0_cells)), ((a_t_images_0 3), .inl (g.2.2.1 0, 31, .inl t_images_0_rows)), ((a_t_images_0 4), .inl (g.2.2.1 0, 31, .inl t_images_0_sizes)), ((a_t_images_0 5), .inl (g.2.2.1 0, 31, .inl t_images_0_rooms)), ((a_t_images_2 0), .inr (1, [.ref (a_t_images_2 1), .ref (a_t_images_2 2), .ref (a_t_images_2 3), .ref (a_t_images_2 4), .ref (a_t_images_2 5), .int t_images_2_told, .int t_images_2_lines, .int t_images_2_kinds, .int t_images_2_acts])), ((a_t_images_2 1), .inl (g.2.2.1 0, 15, .inl t_images_2_numbers)), ((a_t_images_2 2), .inl (g.2.2.1 0, 144, .inl t_images_2_cells)), ((a_t_images_2 3), .inl (g.2.2.1 0, 31, .inl t_images_2_rows)), ((a_t_images_2 4), .inl (g.2.2.1 0, 31, .inl t_images_2_sizes)), ((a_t_images_2 5), .inl (g.2.2.1 0, 31, .inl t_images_2_rooms)), ((a_t_now 0), .inr (1, [.ref (a_t_now 1), .ref (a_t_now 2), .ref (a_t_now 3), .ref (a_t_now 4), .ref (a_t_now 5), .int w76, .int w77, .int w78, .int w79])), ((a_t_now 1), .inl (g.2.2.1 0, 15, .inl w71)), ((a_t_now 2), .inl (g.2.2.1 0, 144, .inl w72)), ((a_t_now 3), .inl (g.2.2.1 0, 31, .inl w73)), ((a_t_now 4), .inl (g.2.2.1 0, 31, .inl w74)), ((a_t_now 5), .inl (g.2.2.1 0, 31, .inl w75)), ((a_t_images_1 0), .inr (1, [.ref (a_t_images_1 1), .ref (a_t_images_1 2), .ref (a_t_images_1 3), .ref (a_t_images_1 4), .ref (a_t_images_1 5), .int t_images_1_told, .int t_images_1_lines, .int t_images_1_kinds, .int t_images_1_acts])), ((a_t_images_1 1), .inl (g.2.2.1 0, 15, .inl t_images_1_numbers)), ((a_t_images_1 2), .inl (g.2.2.1 0, 144, .inl t_images_1_cells)), ((a_t_images_1 3), .inl (g.2.2.1 0, 31, .inl t_images_1_rows)), ((a_t_images_1 4), .inl (g.2.2.1 0, 31, .inl t_images_1_sizes)), ((a_t_images_1 5), .inl (g.2.2.1 0, 31, .inl t_images_1_rooms)), ((a_t_choices 0), .inr (0, [.ref b_t_choices_rows, .ref b_t_choices_seen, .int t_choices_size, .int w82, .int t_choices_pool, .int t_choices_plies, .int t_choices_room]))]) (wr := [((a_t 0), .inr (6, [.ref (a_t_tape 0), .ref (a_t_reader 0), .ref (a_t_now 0), .ref (a_t 4), .ref (a_t_choices 0), .ref (a_t_ways 0), .ref (a_t_stress 0)])), ((a_t 4), .inl (g.2.2.1 4, 3, .inr (.inr (.inr (.inr (iF (a_t_images_0 0) (a_t_images_1 0) (a_t_images_2 0))))))), ((a_t_images_0 0), .inr (1, [.ref (a_t_images_0 1), .ref (a_t_images_0 2), .ref (a_t_images_0 3), .ref (a_t_images_0 4), .ref (a_t_images_0 5), .int t_images_0_told, .int t_images_0_lines, .int t_images_0_kinds, .int t_images_0_acts])), ((a_t_images_0 1), .inl (g.2.2.1 0, 15, .inl t_images_0_numbers)), ((a_t_images_0 2), .inl (g.2.2.1 0, 144, .inl t_images_0_cells)), ((a_t_images_0 3), .inl (g.2.2.1 0, 31, .inl t_images_0_rows)), ((a_t_images_0 4), .inl (g.2.2.1 0, 31, .inl t_images_0_sizes)), ((a_t_images_0 5), .inl (g.2.2.1 0, 31, .inl t_images_0_rooms)), ((a_t_images_2 0), .inr (1, [.ref (a_t_images_2 1), .ref (a_t_images_2 2), .ref (a_t_images_2 3), .ref (a_t_images_2 4), .ref (a_t_images_2 5), .int t_images_2_told, .int t_images_2_lines, .int t_images_2_kinds, .int t_images_2_acts])), ((a_t_images_2 1), .inl (g.2.2.1 0, 15, .inl t_images_2_numbers)), ((a_t_images_2 2), .inl (g.2.2.1 0, 144, .inl t_images_2_cells)), ((a_t_images_2 3), .inl (g.2.2.1 0, 31, .inl t_images_2_rows)), ((a_t_images_2 4), .inl (g.2.2.1 0, 31, .inl t_images_2_sizes)), ((a_t_images_2 5), .inl (g.2.2.1 0, 31, .inl t_images_2_rooms)), ((a_t_now 0), .inr (1, [.ref (a_t_now 1), .ref (a_t_now 2), .ref (a_t_now 3), .ref (a_t_now 4), .ref (a_t_now 5), .int w76, .int w77, .int w78, .int w79])), ((a_t_now 1), .inl (g.2.2.1 0, 15, .inl w71)), ((a_t_now 2), .inl (g.2.2.1 0, 144, .inl w72)), ((a_t_now 3), .inl (g.2.2.1 0, 31, .inl w73)), ((a_t_now 4), .inl (g.2.2.1 0, 31, .inl w74)), ((a_t_now 5), .inl (g.2.2.1 0, 31, .inl w75)), ((a_t_images_1 0), .inr (1, [.ref (a_t_images_1 1), .ref (a_t_images_1 2), .ref (a_t_images_1 3), .ref (a_t_images_1 4), .ref (a_t_images_1 5), .int t_images_1_told, .int t_images_1_lines, .int t_images_1_kinds, .int t_images_1_acts])), ((a_t_images_1 1), .inl (g.2.2.1 0, 15, .inl t_images_1_numbers)), ((a_t_images_1 2), .inl (g.2.2.1 0, 144, .inl t_images_1_cells)), ((a_t_images_1 3), .inl (g.2.2.1 0, 31, .inl t_images_1_rows)), ((a_t_images_1 4), .inl (g.2.2.1 0, 31, .inl t_images_1_sizes)), ((a_t_images_1 5), .inl (g.2.2.1 0, 31, .inl t_images_1_rooms))]) (runVN (As := []) (rest := []) hG cx hl.1 (ctX0_forget l g H.size a_t_choices b_t_choices_rows b_t_choices_seen t_choices_size t_choices_ready t_choices_pool t_choices_plies t_choices_room w82 hr81) kmX0_forget kvX0_forget nm_15 ⟨rfl, rfl⟩ ⟨Nat.le_of_ble_eq_true rfl, Nat.le_of_ble_eq_true rfl⟩ (rwV (q0 := 14) (ci := 0) hG (hP.sub [14] rfl) (hD.sub [14] (by decide) rfl) hAb hb0 hS hP rfl rfl) rfl rfl (Nat.le_of_ble_eq_true rfl) dX7_back_43 ⟨Nat.le_of_ble_eq_true rfl, Nat.le_of_ble_eq_true rfl⟩) hP hD hS hA [14] [0, 1, 2, 3, 4, 5, 6, 7, 8, 9, 10, 11, 12, 13, 15, 16, 17, 18, 19, 20, 21, 22, 23, 24, 25, 26] rfl rfl (by decide) (by decide) (fun _ => rfl) (fun u83 H locs hP hD hS => ?_)
              have hG := hGk hS
              refine lv_iconst (v := 0) hx hb dX7_back_46 (by decide) ?_
              exact hrt (fun _ => 0) _ _ ((0)) w71 w72 w73 w74 w75 w76 w77 w78 w79 w82 _ _ dX7_back_47 h (hP.sub [0, 14, 15, 16, 17, 18, 19, 1, 2, 3, 4, 5, 6, 7, 20, 21, 22, 23, 24, 25, 8, 9, 10, 11, 12, 13, 26] rfl) (hD.sub [0, 14, 15, 16, 17, 18, 19, 1, 2, 3, 4, 5, 6, 7, 20, 21, 22, 23, 24, 25, 8, 9, 10, 11, 12, 13, 26] (by decide) rfl) hS
            · have h := itn e69 h
              by_cases e84 : v1 = 2
              · have h := itp e84 h
                refine xa_ald3 (k := 2) cx hG hP 7 rfl (by rw [e84]; decide) rfl dX7_back_35 ?_
                obtain ⟨w86, w87, w88, w89, w90, w91, w92, w93, w94, hr85, h⟩ := ob9_out h
                refine rw_v (WN := fun u95 => [((a_t 0), .inr (6, [.ref (a_t_tape 0), .ref (a_t_reader 0), .ref (a_t_now 0), .ref (a_t 4), .ref (a_t_choices 0), .ref (a_t_ways 0), .ref (a_t_stress 0)])), ((a_t 4), .inl (g.2.2.1 4, 3, .inr (.inr (.inr (.inr (iF (a_t_images_0 0) (a_t_images_1 0) (a_t_images_2 0))))))), ((a_t_images_0 0), .inr (1, [.ref (a_t_images_0 1), .ref (a_t_images_0 2), .ref (a_t_images_0 3), .ref (a_t_images_0 4), .ref (a_t_images_0 5), .int t_images_0_told, .int t_images_0_lines, .int t_images_0_kinds, .int t_images_0_acts])), ((a_t_images_0 1), .inl (g.2.2.1 0, 15, .inl t_images_0_numbers)), ((a_t_images_0 2), .inl (g.2.2.1 0, 144, .inl t_images_0_cells)), ((a_t_images_0 3), .inl (g.2.2.1 0, 31, .inl t_images_0_rows)), ((a_t_images_0 4), .inl (g.2.2.1 0, 31, .inl t_images_0_sizes)), ((a_t_images_0 5), .inl (g.2.2.1 0, 31, .inl t_images_0_rooms)), ((a_t_images_1 0), .inr (1, [.ref (a_t_images_1 1), .ref (a_t_images_1 2), .ref (a_t_images_1 3), .ref (a_t_images_1 4), .ref (a_t_images_1 5), .int t_images_1_told, .int t_images_1_lines, .int t_images_1_kinds, .int t_images_1_acts])), ((a_t_images_1 1), .inl (g.2.2.1 0, 15, .inl t_images_1_numbers)), ((a_t_images_1 2), .inl (g.2.2.1 0, 144, .inl t_images_1_cells)), ((a_t_images_1 3), .inl (g.2.2.1 0, 31, .inl t_images_1_rows)), ((a_t_images_1 4), .inl (g.2.2.1 0, 31, .inl t_images_1_sizes)), ((a_t_images_1 5), .inl (g.2.2.1 0, 31, .inl t_images_1_rooms)), ((a_t_choices 0), .inr (0, [.ref b_t_choices_rows, .ref b_t_choices_seen, .int t_choices_size, .int t_choices_ready, .int t_choices_pool, .int t_choices_plies, .int t_choices_room])), ((a_t_now 0), .inr (1, [.ref (a_t_now 1), .ref (a_t_now 2), .ref (a_t_now 3), .ref (a_t_now 4), .ref (a_t_now 5), .int w91, .int w92, .int w93, .int w94])), ((a_t_now 1), .inl (g.2.2.1 0, 15, .inl w86)), ((a_t_now 2), .inl (g.2.2.1 0, 144, .inl w87)), ((a_t_now 3), .inl (g.2.2.1 0, 31, .inl w88)), ((a_t_now 4), .inl (g.2.2.1 0, 31, .inl w89)), ((a_t_now 5), .inl (g.2.2.1 0, 31, .inl w90)), ((a_t_images_2 0), .inr (1, [.ref (a_t_images_2 1), .ref (a_t_images_2 2), .ref (a_t_images_2 3), .ref (a_t_images_2 4), .ref (a_t_images_2 5), .int t_images_2_told, .int t_images_2_lines, .int t_images_2_kinds, .int t_images_2_acts])), ((a_t_images_2 1), .inl (g.2.2.1 0, 15, .inl t_images_2_numbers)), ((a_t_images_2 2), .inl (g.2.2.1 0, 144, .inl t_images_2_cells)), ((a_t_images_2 3), .inl (g.2.2.1 0, 31, .inl t_images_2_rows)), ((a_t_images_2 4), .inl (g.2.2.1 0, 31, .inl t_images_2_sizes)), ((a_t_images_2 5), .inl (g.2.2.1 0, 31, .inl t_images_2_rooms))]) (wr := [((a_t 0), .inr (6, [.ref (a_t_tape 0), .ref (a_t_reader 0), .ref (a_t_now 0), .ref (a_t 4), .ref (a_t_choices 0), .ref (a_t_ways 0), .ref (a_t_stress 0)])), ((a_t 4), .inl (g.2.2.1 4, 3, .inr (.inr (.inr (.inr (iF (a_t_images_0 0) (a_t_images_1 0) (a_t_images_2 0))))))), ((a_t_images_0 0), .inr (1, [.ref (a_t_images_0 1), .ref (a_t_images_0 2), .ref (a_t_images_0 3), .ref (a_t_images_0 4), .ref (a_t_images_0 5), .int t_images_0_told, .int t_images_0_lines, .int t_images_0_kinds, .int t_images_0_acts])), ((a_t_images_0 1), .inl (g.2.2.1 0, 15, .inl t_images_0_numbers)), ((a_t_images_0 2), .inl (g.2.2.1 0, 144, .inl t_images_0_cells)), ((a_t_images_0 3), .inl (g.2.2.1 0, 31, .inl t_images_0_rows)), ((a_t_images_0 4), .inl (g.2.2.1 0, 31, .inl t_images_0_sizes)), ((a_t_images_0 5), .inl (g.2.2.1 0, 31, .inl t_images_0_rooms)), ((a_t_images_1 0), .inr (1, [.ref (a_t_images_1 1), .ref (a_t_images_1 2), .ref (a_t_images_1 3), .ref (a_t_images_1 4), .ref (a_t_images_1 5), .int t_images_1_told, .int t_images_1_lines, .int t_images_1_kinds, .int t_images_1_acts])), ((a_t_images_1 1), .inl (g.2.2.1 0, 15, .inl t_images_1_numbers)), ((a_t_images_1 2), .inl (g.2.2.1 0, 144, .inl t_images_1_cells)), ((a_t_images_1 3), .inl (g.2.2.1 0, 31, .inl t_images_1_rows)), ((a_t_images_1 4), .inl (g.2.2.1 0, 31, .inl t_images_1_sizes)), ((a_t_images_1 5), .inl (g.2.2.1 0, 31, .inl t_images_1_rooms)), ((a_t_choices 0), .inr (0, [.ref b_t_choices_rows, .ref b_t_choices_seen, .int t_choices_size, .int t_choices_ready, .int t_choices_pool, .int t_choices_plies, .int t_choices_room]))]) (runVN (As := [.ref ((a_t_images_2 0))]) (rest := []) hG cx hl.1 (ctX1_copy l g s.heap.size a_t_now a_t_images_2 t_now_told t_now_lines t_now_kinds t_now_acts t_now_numbers t_now_cells t_now_rows t_now_sizes t_now_rooms t_images_2_told t_images_2_lines t_images_2_kinds t_images_2_acts t_images_2_numbers t_images_2_cells t_images_2_rows t_images_2_sizes t_images_2_rooms w86 w87 w88 w89 w90 w91 w92 w93 w94 hr85) kmX1_copy kvX1_copy nm_14 ⟨rfl, rfl⟩ ⟨Nat.le_of_ble_eq_true rfl, Nat.le_of_ble_eq_true rfl⟩ (rwV (q0 := 1) (ci := 1) hG (hP.sub [1, 2, 3, 4, 5, 6, 20, 21, 22, 23, 24, 25] rfl) (hD.sub [1, 2, 3, 4, 5, 6, 20, 21, 22, 23, 24, 25] (by decide) rfl) hAb hb0 hS hP rfl rfl) rfl rfl (Nat.le_of_ble_eq_true rfl) dX7_back_36 ⟨Nat.le_of_ble_eq_true rfl, Nat.le_of_ble_eq_true rfl⟩) hP hD hS hA [1, 2, 3, 4, 5, 6, 20, 21, 22, 23, 24, 25] [0, 7, 8, 9, 10, 11, 12, 13, 14, 15, 16, 17, 18, 19, 26] rfl rfl (by decide) (by decide) (fun _ => rfl) (fun u95 H locs hP hD hS => ?_)
                have hG := hGk hS
                refine lv_aload_n hx hb dX7_back_39 rfl (lv_at hl 0 rfl) ?_
                refine xa_get (C := RX7) (T := TX7) (N := 7) cx hG hP 0 rfl rfl uX7 4 (by decide) lf_X7_41 rfl dX7_back_40 ?_
                obtain ⟨w97, hr96, h⟩ := bnd h
                refine rw_v (WN := fun u98 => [((a_t 0), .inr (6, [.ref (a_t_tape 0), .ref (a_t_reader 0), .ref (a_t_now 0), .ref (a_t 4), .ref (a_t_choices 0), .ref (a_t_ways 0), .ref (a_t_stress 0)])), ((a_t 4), .inl (g.2.2.1 4, 3, .inr (.inr (.inr (.inr (iF (a_t_images_0 0) (a_t_images_1 0) (a_t_images_2 0))))))), ((a_t_images_0 0), .inr (1, [.ref (a_t_images_0 1), .ref (a_t_images_0 2), .ref (a_t_images_0 3), .ref (a_t_images_0 4), .ref (a_t_images_0 5), .int t_images_0_told, .int t_images_0_lines, .int t_images_0_kinds, .int t_images_0_acts])), ((a_t_images_0 1), .inl (g.2.2.1 0, 15, .inl t_images_0_numbers)), ((a_t_images_0 2), .inl (g.2.2.1 0, 144, .inl t_images_0_cells)), ((a_t_images_0 3), .inl (g.2.2.1 0, 31, .inl t_images_0_rows)), ((a_t_images_0 4), .inl (g.2.2.1 0, 31, .inl t_images_0_sizes)), ((a_t_images_0 5), .inl (g.2.2.1 0, 31, .inl t_images_0_rooms)), ((a_t_images_1 0), .inr (1, [.ref (a_t_images_1 1), .ref (a_t_images_1 2), .ref (a_t_images_1 3), .ref (a_t_images_1 4), .ref (a_t_images_1 5), .int t_images_1_told, .int t_images_1_lines, .int t_images_1_kinds, .int t_images_1_acts])), ((a_t_images_1 1), .inl (g.2.2.1 0, 15, .inl t_images_1_numbers)), ((a_t_images_1 2), .inl (g.2.2.1 0, 144, .inl t_images_1_cells)), ((a_t_images_1 3), .inl (g.2.2.1 0, 31, .inl t_images_1_rows)), ((a_t_images_1 4), .inl (g.2.2.1 0, 31, .inl t_images_1_sizes)), ((a_t_images_1 5), .inl (g.2.2.1 0, 31, .inl t_images_1_rooms)), ((a_t_now 0), .inr (1, [.ref (a_t_now 1), .ref (a_t_now 2), .ref (a_t_now 3), .ref (a_t_now 4), .ref (a_t_now 5), .int w91, .int w92, .int w93, .int w94])), ((a_t_now 1), .inl (g.2.2.1 0, 15, .inl w86)), ((a_t_now 2), .inl (g.2.2.1 0, 144, .inl w87)), ((a_t_now 3), .inl (g.2.2.1 0, 31, .inl w88)), ((a_t_now 4), .inl (g.2.2.1 0, 31, .inl w89)), ((a_t_now 5), .inl (g.2.2.1 0, 31, .inl w90)), ((a_t_images_2 0), .inr (1, [.ref (a_t_images_2 1), .ref (a_t_images_2 2), .ref (a_t_images_2 3), .ref (a_t_images_2 4), .ref (a_t_images_2 5), .int t_images_2_told, .int t_images_2_lines, .int t_images_2_kinds, .int t_images_2_acts])), ((a_t_images_2 1), .inl (g.2.2.1 0, 15, .inl t_images_2_numbers)), ((a_t_images_2 2), .inl (g.2.2.1 0, 144, .inl t_images_2_cells)), ((a_t_images_2 3), .inl (g.2.2.1 0, 31, .inl t_images_2_rows)), ((a_t_images_2 4), .inl (g.2.2.1 0, 31, .inl t_images_2_sizes)), ((a_t_images_2 5), .inl (g.2.2.1 0, 31, .inl t_images_2_rooms)), ((a_t_choices 0), .inr (0, [.ref b_t_choices_rows, .ref b_t_choices_seen, .int t_choices_size, .int w97, .int t_choices_pool, .int t_choices_plies, .int t_choices_room]))]) (wr := [((a_t 0), .inr (6, [.ref (a_t_tape 0), .ref (a_t_reader 0), .ref (a_t_now 0), .ref (a_t 4), .ref (a_t_choices 0), .ref (a_t_ways 0), .ref (a_t_stress 0)])), ((a_t 4), .inl (g.2.2.1 4, 3, .inr (.inr (.inr (.inr (iF (a_t_images_0 0) (a_t_images_1 0) (a_t_images_2 0))))))), ((a_t_images_0 0), .inr (1, [.ref (a_t_images_0 1), .ref (a_t_images_0 2), .ref (a_t_images_0 3), .ref (a_t_images_0 4), .ref (a_t_images_0 5), .int t_images_0_told, .int t_images_0_lines, .int t_images_0_kinds, .int t_images_0_acts])), ((a_t_images_0 1), .inl (g.2.2.1 0, 15, .inl t_images_0_numbers)), ((a_t_images_0 2), .inl (g.2.2.1 0, 144, .inl t_images_0_cells)), ((a_t_images_0 3), .inl (g.2.2.1 0, 31, .inl t_images_0_rows)), ((a_t_images_0 4), .inl (g.2.2.1 0, 31, .inl t_images_0_sizes)), ((a_t_images_0 5), .inl (g.2.2.1 0, 31, .inl t_images_0_rooms)), ((a_t_images_1 0), .inr (1, [.ref (a_t_images_1 1), .ref (a_t_images_1 2), .ref (a_t_images_1 3), .ref (a_t_images_1 4), .ref (a_t_images_1 5), .int t_images_1_told, .int t_images_1_lines, .int t_images_1_kinds, .int t_images_1_acts])), ((a_t_images_1 1), .inl (g.2.2.1 0, 15, .inl t_images_1_numbers)), ((a_t_images_1 2), .inl (g.2.2.1 0, 144, .inl t_images_1_cells)), ((a_t_images_1 3), .inl (g.2.2.1 0, 31, .inl t_images_1_rows)), ((a_t_images_1 4), .inl (g.2.2.1 0, 31, .inl t_images_1_sizes)), ((a_t_images_1 5), .inl (g.2.2.1 0, 31, .inl t_images_1_rooms)), ((a_t_now 0), .inr (1, [.ref (a_t_now 1), .ref (a_t_now 2), .ref (a_t_now 3), .ref (a_t_now 4), .ref (a_t_now 5), .int w91, .int w92, .int w93, .int w94])), ((a_t_now 1), .inl (g.2.2.1 0, 15, .inl w86)), ((a_t_now 2), .inl (g.2.2.1 0, 144, .inl w87)), ((a_t_now 3), .inl (g.2.2.1 0, 31, .inl w88)), ((a_t_now 4), .inl (g.2.2.1 0, 31, .inl w89)), ((a_t_now 5), .inl (g.2.2.1 0, 31, .inl w90)), ((a_t_images_2 0), .inr (1, [.ref (a_t_images_2 1), .ref (a_t_images_2 2), .ref (a_t_images_2 3), .ref (a_t_images_2 4), .ref (a_t_images_2 5), .int t_images_2_told, .int t_images_2_lines, .int t_images_2_kinds, .int t_images_2_acts])), ((a_t_images_2 1), .inl (g.2.2.1 0, 15, .inl t_images_2_numbers)), ((a_t_images_2 2), .inl (g.2.2.1 0, 144, .inl t_images_2_cells)), ((a_t_images_2 3), .inl (g.2.2.1 0, 31, .inl t_images_2_rows)), ((a_t_images_2 4), .inl (g.2.2.1 0, 31, .inl t_images_2_sizes)), ((a_t_images_2 5), .inl (g.2.2.1 0, 31, .inl t_images_2_rooms))]) (runVN (As := []) (rest := []) hG cx hl.1 (ctX0_forget l g H.size a_t_choices b_t_choices_rows b_t_choices_seen t_choices_size t_choices_ready t_choices_pool t_choices_plies t_choices_room w97 hr96) kmX0_forget kvX0_forget nm_15 ⟨rfl, rfl⟩ ⟨Nat.le_of_ble_eq_true rfl, Nat.le_of_ble_eq_true rfl⟩ (rwV (q0 := 14) (ci := 0) hG (hP.sub [14] rfl) (hD.sub [14] (by decide) rfl) hAb hb0 hS hP rfl rfl) rfl rfl (Nat.le_of_ble_eq_true rfl) dX7_back_43 ⟨Nat.le_of_ble_eq_true rfl, Nat.le_of_ble_eq_true rfl⟩) hP hD hS hA [14] [0, 1, 2, 3, 4, 5, 6, 7, 8, 9, 10, 11, 12, 13, 15, 16, 17, 18, 19, 20, 21, 22, 23, 24, 25, 26] rfl rfl (by decide) (by decide) (fun _ => rfl) (fun u98 H locs hP hD hS => ?_)
                have hG := hGk hS
                refine lv_iconst (v := 0) hx hb dX7_back_46 (by decide) ?_
                exact hrt (fun _ => 0) _ _ ((0)) w86 w87 w88 w89 w90 w91 w92 w93 w94 w97 _ _ dX7_back_47 h (hP.sub [0, 14, 15, 16, 17, 18, 19, 1, 2, 3, 4, 5, 6, 7, 8, 9, 10, 11, 12, 13, 20, 21, 22, 23, 24, 25, 26] rfl) (hD.sub [0, 14, 15, 16, 17, 18, 19, 1, 2, 3, 4, 5, 6, 7, 8, 9, 10, 11, 12, 13, 20, 21, 22, 23, 24, 25, 26] (by decide) rfl) hS
              · have h := itn e84 h
                cases h
        · have h := itp c53 h
          refine lv_bipush (v := -6) hx hb dX7_back_23 (by decide) ?_
          exact hrt (fun _ => 0) _ _ ((-6)) t_now_numbers t_now_cells t_now_rows t_now_sizes t_now_rooms t_now_told t_now_lines t_now_kinds t_now_acts t_choices_ready _ _ dX7_back_25 h (hP.sub [0, 1, 2, 3, 4, 5, 6, 7, 8, 9, 10, 11, 12, 13, 14, 15, 16, 17, 18, 19, 20, 21, 22, 23, 24, 25, 26] rfl) (hD.sub [0, 1, 2, 3, 4, 5, 6, 7, 8, 9, 10, 11, 12, 13, 14, 15, 16, 17, 18, 19, 20, 21, 22, 23, 24, 25, 26] (by decide) rfl) hS
      · have h := itn e52 h
        by_cases e99 : v1 = 2
        · have h := itp e99 h
          refine xa_ald3 (k := 2) cx hG hP 7 rfl (by rw [e99]; decide) rfl dX7_back_16 ?_
          refine xa_getN (C := RX1) (T := TX1) (N := 9) cx hG hP 20 rfl rfl uX1 5 (by decide) nf_5 rfl dX7_back_17 ?_
          refine lv_if_ne (tgt := 26) hx hb dX7_back_20 (by decide) (fun c100 => ?_) (fun c100 => ?_)
          · have h := itn c100 h
            refine lv_aload_n hx hb dX7_back_26 rfl (lv_at hl 0 rfl) ?_
            refine xa_get (C := RX7) (T := TX7) (N := 7) cx hG hP 0 rfl rfl uX7 2 (by decide) lf_X7_30 rfl dX7_back_27 ?_
            refine lv_aload_n hx hb dX7_back_30 rfl (lv_at hl 0 rfl) ?_
            refine xa_get (C := RX7) (T := TX7) (N := 7) cx hG hP 0 rfl rfl uX7 3 (by decide) lf_X7_34 rfl dX7_back_31 ?_
            refine lv_iload_n hx hb dX7_back_34 rfl (lv_at hl 1 rfl) ?_
            by_cases e101 : v1 = 0
            · have h := itp e101 h
              refine xa_ald3 (k := 0) cx hG hP 7 rfl (by rw [e101]; decide) rfl dX7_back_35 ?_
              obtain ⟨w103, w104, w105, w106, w107, w108, w109, w110, w111, hr102, h⟩ := ob9_out h
              refine rw_v (WN := fun u112 => [((a_t 0), .inr (6, [.ref (a_t_tape 0), .ref (a_t_reader 0), .ref (a_t_now 0), .ref (a_t 4), .ref (a_t_choices 0), .ref (a_t_ways 0), .ref (a_t_stress 0)])), ((a_t 4), .inl (g.2.2.1 4, 3, .inr (.inr (.inr (.inr (iF (a_t_images_0 0) (a_t_images_1 0) (a_t_images_2 0))))))), ((a_t_images_1 0), .inr (1, [.ref (a_t_images_1 1), .ref (a_t_images_1 2), .ref (a_t_images_1 3), .ref (a_t_images_1 4), .ref (a_t_images_1 5), .int t_images_1_told, .int t_images_1_lines, .int t_images_1_kinds, .int t_images_1_acts])), ((a_t_images_1 1), .inl (g.2.2.1 0, 15, .inl t_images_1_numbers)), ((a_t_images_1 2), .inl (g.2.2.1 0, 144, .inl t_images_1_cells)), ((a_t_images_1 3), .inl (g.2.2.1 0, 31, .inl t_images_1_rows)), ((a_t_images_1 4), .inl (g.2.2.1 0, 31, .inl t_images_1_sizes)), ((a_t_images_1 5), .inl (g.2.2.1 0, 31, .inl t_images_1_rooms)), ((a_t_images_2 0), .inr (1, [.ref (a_t_images_2 1), .ref (a_t_images_2 2), .ref (a_t_images_2 3), .ref (a_t_images_2 4), .ref (a_t_images_2 5), .int t_images_2_told, .int t_images_2_lines, .int t_images_2_kinds, .int t_images_2_acts])), ((a_t_images_2 1), .inl (g.2.2.1 0, 15, .inl t_images_2_numbers)), ((a_t_images_2 2), .inl (g.2.2.1 0, 144, .inl t_images_2_cells)), ((a_t_images_2 3), .inl (g.2.2.1 0, 31, .inl t_images_2_rows)), ((a_t_images_2 4), .inl (g.2.2.1 0, 31, .inl t_images_2_sizes)), ((a_t_images_2 5), .inl (g.2.2.1 0, 31, .inl t_images_2_rooms)), ((a_t_choices 0), .inr (0, [.ref b_t_choices_rows, .ref b_t_choices_seen, .int t_choices_size, .int t_choices_ready, .int t_choices_pool, .int t_choices_plies, .int t_choices_room])), ((a_t_now 0), .inr (1, [.ref (a_t_now 1), .ref (a_t_now 2), .ref (a_t_now 3), .ref (a_t_now 4), .ref (a_t_now 5), .int w108, .int w109, .int w110, .int w111])), ((a_t_now 1), .inl (g.2.2.1 0, 15, .inl w103)), ((a_t_now 2), .inl (g.2.2.1 0, 144, .inl w104)), ((a_t_now 3), .inl (g.2.2.1 0, 31, .inl w105)), ((a_t_now 4), .inl (g.2.2.1 0, 31, .inl w106)), ((a_t_now 5), .inl (g.2.2.1 0, 31, .inl w107)), ((a_t_images_0 0), .inr (1, [.ref (a_t_images_0 1), .ref (a_t_images_0 2), .ref (a_t_images_0 3), .ref (a_t_images_0 4), .ref (a_t_images_0 5), .int t_images_0_told, .int t_images_0_lines, .int t_images_0_kinds, .int t_images_0_acts])), ((a_t_images_0 1), .inl (g.2.2.1 0, 15, .inl t_images_0_numbers)), ((a_t_images_0 2), .inl (g.2.2.1 0, 144, .inl t_images_0_cells)), ((a_t_images_0 3), .inl (g.2.2.1 0, 31, .inl t_images_0_rows)), ((a_t_images_0 4), .inl (g.2.2.1 0, 31, .inl t_images_0_sizes)), ((a_t_images_0 5), .inl (g.2.2.1 0, 31, .inl t_images_0_rooms))]) (wr := [((a_t 0), .inr (6, [.ref (a_t_tape 0), .ref (a_t_reader 0), .ref (a_t_now 0), .ref (a_t 4), .ref (a_t_choices 0), .ref (a_t_ways 0), .ref (a_t_stress 0)])), ((a_t 4), .inl (g.2.2.1 4, 3, .inr (.inr (.inr (.inr (iF (a_t_images_0 0) (a_t_images_1 0) (a_t_images_2 0))))))), ((a_t_images_1 0), .inr (1, [.ref (a_t_images_1 1), .ref (a_t_images_1 2), .ref (a_t_images_1 3), .ref (a_t_images_1 4), .ref (a_t_images_1 5), .int t_images_1_told, .int t_images_1_lines, .int t_images_1_kinds, .int t_images_1_acts])), ((a_t_images_1 1), .inl (g.2.2.1 0, 15, .inl t_images_1_numbers)), ((a_t_images_1 2), .inl (g.2.2.1 0, 144, .inl t_images_1_cells)), ((a_t_images_1 3), .inl (g.2.2.1 0, 31, .inl t_images_1_rows)), ((a_t_images_1 4), .inl (g.2.2.1 0, 31, .inl t_images_1_sizes)), ((a_t_images_1 5), .inl (g.2.2.1 0, 31, .inl t_images_1_rooms)), ((a_t_images_2 0), .inr (1, [.ref (a_t_images_2 1), .ref (a_t_images_2 2), .ref (a_t_images_2 3), .ref (a_t_images_2 4), .ref (a_t_images_2 5), .int t_images_2_told, .int t_images_2_lines, .int t_images_2_kinds, .int t_images_2_acts])), ((a_t_images_2 1), .inl (g.2.2.1 0, 15, .inl t_images_2_numbers)), ((a_t_images_2 2), .inl (g.2.2.1 0, 144, .inl t_images_2_cells)), ((a_t_images_2 3), .inl (g.2.2.1 0, 31, .inl t_images_2_rows)), ((a_t_images_2 4), .inl (g.2.2.1 0, 31, .inl t_images_2_sizes)), ((a_t_images_2 5), .inl (g.2.2.1 0, 31, .inl t_images_2_rooms)), ((a_t_choices 0), .inr (0, [.ref b_t_choices_rows, .ref b_t_choices_seen, .int t_choices_size, .int t_choices_ready, .int t_choices_pool, .int t_choices_plies, .int t_choices_room]))]) (runVN (As := [.ref ((a_t_images_0 0))]) (rest := []) hG cx hl.1 (ctX1_copy l g s.heap.size a_t_now a_t_images_0 t_now_told t_now_lines t_now_kinds t_now_acts t_now_numbers t_now_cells t_now_rows t_now_sizes t_now_rooms t_images_0_told t_images_0_lines t_images_0_kinds t_images_0_acts t_images_0_numbers t_images_0_cells t_images_0_rows t_images_0_sizes t_images_0_rooms w103 w104 w105 w106 w107 w108 w109 w110 w111 hr102) kmX1_copy kvX1_copy nm_14 ⟨rfl, rfl⟩ ⟨Nat.le_of_ble_eq_true rfl, Nat.le_of_ble_eq_true rfl⟩ (rwV (q0 := 1) (ci := 1) hG (hP.sub [1, 2, 3, 4, 5, 6, 8, 9, 10, 11, 12, 13] rfl) (hD.sub [1, 2, 3, 4, 5, 6, 8, 9, 10, 11, 12, 13] (by decide) rfl) hAb hb0 hS hP rfl rfl) rfl rfl (Nat.le_of_ble_eq_true rfl) dX7_back_36 ⟨Nat.le_of_ble_eq_true rfl, Nat.le_of_ble_eq_true rfl⟩) hP hD hS hA [1, 2, 3, 4, 5, 6, 8, 9, 10, 11, 12, 13] [0, 7, 14, 15, 16, 17, 18, 19, 20, 21, 22, 23, 24, 25, 26] rfl rfl (by decide) (by decide) (fun _ => rfl) (fun u112 H locs hP hD hS => ?_)
              have hG := hGk hS
              refine lv_aload_n hx hb dX7_back_39 rfl (lv_at hl 0 rfl) ?_
              refine xa_get (C := RX7) (T := TX7) (N := 7) cx hG hP 0 rfl rfl uX7 4 (by decide) lf_X7_41 rfl dX7_back_40 ?_
              obtain ⟨w114, hr113, h⟩ := bnd h
              refine rw_v (WN := fun u115 => [((a_t 0), .inr (6, [.ref (a_t_tape 0), .ref (a_t_reader 0), .ref (a_t_now 0), .ref (a_t 4), .ref (a_t_choices 0), .ref (a_t_ways 0), .ref (a_t_stress 0)])), ((a_t 4), .inl (g.2.2.1 4, 3, .inr (.inr (.inr (.inr (iF (a_t_images_0 0) (a_t_images_1 0) (a_t_images_2 0))))))), ((a_t_images_1 0), .inr (1, [.ref (a_t_images_1 1), .ref (a_t_images_1 2), .ref (a_t_images_1 3), .ref (a_t_images_1 4), .ref (a_t_images_1 5), .int t_images_1_told, .int t_images_1_lines, .int t_images_1_kinds, .int t_images_1_acts])), ((a_t_images_1 1), .inl (g.2.2.1 0, 15, .inl t_images_1_numbers)), ((a_t_images_1 2), .inl (g.2.2.1 0, 144, .inl t_images_1_cells)), ((a_t_images_1 3), .inl (g.2.2.1 0, 31, .inl t_images_1_rows)), ((a_t_images_1 4), .inl (g.2.2.1 0, 31, .inl t_images_1_sizes)), ((a_t_images_1 5), .inl (g.2.2.1 0, 31, .inl t_images_1_rooms)), ((a_t_images_2 0), .inr (1, [.ref (a_t_images_2 1), .ref (a_t_images_2 2), .ref (a_t_images_2 3), .ref (a_t_images_2 4), .ref (a_t_images_2 5), .int t_images_2_told, .int t_images_2_lines, .int t_images_2_kinds, .int t_images_2_acts])), ((a_t_images_2 1), .inl (g.2.2.1 0, 15, .inl t_images_2_numbers)), ((a_t_images_2 2), .inl (g.2.2.1 0, 144, .inl t_images_2_cells)), ((a_t_images_2 3), .inl (g.2.2.1 0, 31, .inl t_images_2_rows)), ((a_t_images_2 4), .inl (g.2.2.1 0, 31, .inl t_images_2_sizes)), ((a_t_images_2 5), .inl (g.2.2.1 0, 31, .inl t_images_2_rooms)), ((a_t_now 0), .inr (1, [.ref (a_t_now 1), .ref (a_t_now 2), .ref (a_t_now 3), .ref (a_t_now 4), .ref (a_t_now 5), .int w108, .int w109, .int w110, .int w111])), ((a_t_now 1), .inl (g.2.2.1 0, 15, .inl w103)), ((a_t_now 2), .inl (g.2.2.1 0, 144, .inl w104)), ((a_t_now 3), .inl (g.2.2.1 0, 31, .inl w105)), ((a_t_now 4), .inl (g.2.2.1 0, 31, .inl w106)), ((a_t_now 5), .inl (g.2.2.1 0, 31, .inl w107)), ((a_t_images_0 0), .inr (1, [.ref (a_t_images_0 1), .ref (a_t_images_0 2), .ref (a_t_images_0 3), .ref (a_t_images_0 4), .ref (a_t_images_0 5), .int t_images_0_told, .int t_images_0_lines, .int t_images_0_kinds, .int t_images_0_acts])), ((a_t_images_0 1), .inl (g.2.2.1 0, 15, .inl t_images_0_numbers)), ((a_t_images_0 2), .inl (g.2.2.1 0, 144, .inl t_images_0_cells)), ((a_t_images_0 3), .inl (g.2.2.1 0, 31, .inl t_images_0_rows)), ((a_t_images_0 4), .inl (g.2.2.1 0, 31, .inl t_images_0_sizes)), ((a_t_images_0 5), .inl (g.2.2.1 0, 31, .inl t_images_0_rooms)), ((a_t_choices 0), .inr (0, [.ref b_t_choices_rows, .ref b_t_choices_seen, .int t_choices_size, .int w114, .int t_choices_pool, .int t_choices_plies, .int t_choices_room]))]) (wr := [((a_t 0), .inr (6, [.ref (a_t_tape 0), .ref (a_t_reader 0), .ref (a_t_now 0), .ref (a_t 4), .ref (a_t_choices 0), .ref (a_t_ways 0), .ref (a_t_stress 0)])), ((a_t 4), .inl (g.2.2.1 4, 3, .inr (.inr (.inr (.inr (iF (a_t_images_0 0) (a_t_images_1 0) (a_t_images_2 0))))))), ((a_t_images_1 0), .inr (1, [.ref (a_t_images_1 1), .ref (a_t_images_1 2), .ref (a_t_images_1 3), .ref (a_t_images_1 4), .ref (a_t_images_1 5), .int t_images_1_told, .int t_images_1_lines, .int t_images_1_kinds, .int t_images_1_acts])), ((a_t_images_1 1), .inl (g.2.2.1 0, 15, .inl t_images_1_numbers)), ((a_t_images_1 2), .inl (g.2.2.1 0, 144, .inl t_images_1_cells)), ((a_t_images_1 3), .inl (g.2.2.1 0, 31, .inl t_images_1_rows)), ((a_t_images_1 4), .inl (g.2.2.1 0, 31, .inl t_images_1_sizes)), ((a_t_images_1 5), .inl (g.2.2.1 0, 31, .inl t_images_1_rooms)), ((a_t_images_2 0), .inr (1, [.ref (a_t_images_2 1), .ref (a_t_images_2 2), .ref (a_t_images_2 3), .ref (a_t_images_2 4), .ref (a_t_images_2 5), .int t_images_2_told, .int t_images_2_lines, .int t_images_2_kinds, .int t_images_2_acts])), ((a_t_images_2 1), .inl (g.2.2.1 0, 15, .inl t_images_2_numbers)), ((a_t_images_2 2), .inl (g.2.2.1 0, 144, .inl t_images_2_cells)), ((a_t_images_2 3), .inl (g.2.2.1 0, 31, .inl t_images_2_rows)), ((a_t_images_2 4), .inl (g.2.2.1 0, 31, .inl t_images_2_sizes)), ((a_t_images_2 5), .inl (g.2.2.1 0, 31, .inl t_images_2_rooms)), ((a_t_now 0), .inr (1, [.ref (a_t_now 1), .ref (a_t_now 2), .ref (a_t_now 3), .ref (a_t_now 4), .ref (a_t_now 5), .int w108, .int w109, .int w110, .int w111])), ((a_t_now 1), .inl (g.2.2.1 0, 15, .inl w103)), ((a_t_now 2), .inl (g.2.2.1 0, 144, .inl w104)), ((a_t_now 3), .inl (g.2.2.1 0, 31, .inl w105)), ((a_t_now 4), .inl (g.2.2.1 0, 31, .inl w106)), ((a_t_now 5), .inl (g.2.2.1 0, 31, .inl w107)), ((a_t_images_0 0), .inr (1, [.ref (a_t_images_0 1), .ref (a_t_images_0 2), .ref (a_t_images_0 3), .ref (a_t_images_0 4), .ref (a_t_images_0 5), .int t_images_0_told, .int t_images_0_lines, .int t_images_0_kinds, .int t_images_0_acts])), ((a_t_images_0 1), .inl (g.2.2.1 0, 15, .inl t_images_0_numbers)), ((a_t_images_0 2), .inl (g.2.2.1 0, 144, .inl t_images_0_cells)), ((a_t_images_0 3), .inl (g.2.2.1 0, 31, .inl t_images_0_rows)), ((a_t_images_0 4), .inl (g.2.2.1 0, 31, .inl t_images_0_sizes)), ((a_t_images_0 5), .inl (g.2.2.1 0, 31, .inl t_images_0_rooms))]) (runVN (As := []) (rest := []) hG cx hl.1 (ctX0_forget l g H.size a_t_choices b_t_choices_rows b_t_choices_seen t_choices_size t_choices_ready t_choices_pool t_choices_plies t_choices_room w114 hr113) kmX0_forget kvX0_forget nm_15 ⟨rfl, rfl⟩ ⟨Nat.le_of_ble_eq_true rfl, Nat.le_of_ble_eq_true rfl⟩ (rwV (q0 := 14) (ci := 0) hG (hP.sub [14] rfl) (hD.sub [14] (by decide) rfl) hAb hb0 hS hP rfl rfl) rfl rfl (Nat.le_of_ble_eq_true rfl) dX7_back_43 ⟨Nat.le_of_ble_eq_true rfl, Nat.le_of_ble_eq_true rfl⟩) hP hD hS hA [14] [0, 1, 2, 3, 4, 5, 6, 7, 8, 9, 10, 11, 12, 13, 15, 16, 17, 18, 19, 20, 21, 22, 23, 24, 25, 26] rfl rfl (by decide) (by decide) (fun _ => rfl) (fun u115 H locs hP hD hS => ?_)
              have hG := hGk hS
              refine lv_iconst (v := 0) hx hb dX7_back_46 (by decide) ?_
              exact hrt (fun _ => 0) _ _ ((0)) w103 w104 w105 w106 w107 w108 w109 w110 w111 w114 _ _ dX7_back_47 h (hP.sub [0, 14, 15, 16, 17, 18, 19, 1, 20, 21, 22, 23, 24, 25, 2, 3, 4, 5, 6, 7, 8, 9, 10, 11, 12, 13, 26] rfl) (hD.sub [0, 14, 15, 16, 17, 18, 19, 1, 20, 21, 22, 23, 24, 25, 2, 3, 4, 5, 6, 7, 8, 9, 10, 11, 12, 13, 26] (by decide) rfl) hS
            · have h := itn e101 h
              by_cases e116 : v1 = 1
              · have h := itp e116 h
                refine xa_ald3 (k := 1) cx hG hP 7 rfl (by rw [e116]; decide) rfl dX7_back_35 ?_
                obtain ⟨w118, w119, w120, w121, w122, w123, w124, w125, w126, hr117, h⟩ := ob9_out h
                refine rw_v (WN := fun u127 => [((a_t 0), .inr (6, [.ref (a_t_tape 0), .ref (a_t_reader 0), .ref (a_t_now 0), .ref (a_t 4), .ref (a_t_choices 0), .ref (a_t_ways 0), .ref (a_t_stress 0)])), ((a_t 4), .inl (g.2.2.1 4, 3, .inr (.inr (.inr (.inr (iF (a_t_images_0 0) (a_t_images_1 0) (a_t_images_2 0))))))), ((a_t_images_0 0), .inr (1, [.ref (a_t_images_0 1), .ref (a_t_images_0 2), .ref (a_t_images_0 3), .ref (a_t_images_0 4), .ref (a_t_images_0 5), .int t_images_0_told, .int t_images_0_lines, .int t_images_0_kinds, .int t_images_0_acts])), ((a_t_images_0 1), .inl (g.2.2.1 0, 15, .inl t_images_0_numbers)), ((a_t_images_0 2), .inl (g.2.2.1 0, 144, .inl t_images_0_cells)), ((a_t_images_0 3), .inl (g.2.2.1 0, 31, .inl t_images_0_rows)), ((a_t_images_0 4), .inl (g.2.2.1 0, 31, .inl t_images_0_sizes)), ((a_t_images_0 5), .inl (g.2.2.1 0, 31, .inl t_images_0_rooms)), ((a_t_images_2 0), .inr (1, [.ref (a_t_images_2 1), .ref (a_t_images_2 2), .ref (a_t_images_2 3), .ref (a_t_images_2 4), .ref (a_t_images_2 5), .int t_images_2_told, .int t_images_2_lines, .int t_images_2_kinds, .int t_images_2_acts])), ((a_t_images_2 1), .inl (g.2.2.1 0, 15, .inl t_images_2_numbers)), ((a_t_images_2 2), .inl (g.2.2.1 0, 144, .inl t_images_2_cells)), ((a_t_images_2 3), .inl (g.2.2.1 0, 31, .inl t_images_2_rows)), ((a_t_images_2 4), .inl (g.2.2.1 0, 31, .inl t_images_2_sizes)), ((a_t_images_2 5), .inl (g.2.2.1 0, 31, .inl t_images_2_rooms)), ((a_t_choices 0), .inr (0, [.ref b_t_choices_rows, .ref b_t_choices_seen, .int t_choices_size, .int t_choices_ready, .int t_choices_pool, .int t_choices_plies, .int t_choices_room])), ((a_t_now 0), .inr (1, [.ref (a_t_now 1), .ref (a_t_now 2), .ref (a_t_now 3), .ref (a_t_now 4), .ref (a_t_now 5), .int w123, .int w124, .int w125, .int w126])), ((a_t_now 1), .inl (g.2.2.1 0, 15, .inl w118)), ((a_t_now 2), .inl (g.2.2.1 0, 144, .inl w119)), ((a_t_now 3), .inl (g.2.2.1 0, 31, .inl w120)), ((a_t_now 4), .inl (g.2.2.1 0, 31, .inl w121)), ((a_t_now 5), .inl (g.2.2.1 0, 31, .inl w122)), ((a_t_images_1 0), .inr (1, [.ref (a_t_images_1 1), .ref (a_t_images_1 2), .ref (a_t_images_1 3), .ref (a_t_images_1 4), .ref (a_t_images_1 5), .int t_images_1_told, .int t_images_1_lines, .int t_images_1_kinds, .int t_images_1_acts])), ((a_t_images_1 1), .inl (g.2.2.1 0, 15, .inl t_images_1_numbers)), ((a_t_images_1 2), .inl (g.2.2.1 0, 144, .inl t_images_1_cells)), ((a_t_images_1 3), .inl (g.2.2.1 0, 31, .inl t_images_1_rows)), ((a_t_images_1 4), .inl (g.2.2.1 0, 31, .inl t_images_1_sizes)), ((a_t_images_1 5), .inl (g.2.2.1 0, 31, .inl t_images_1_rooms))]) (wr := [((a_t 0), .inr (6, [.ref (a_t_tape 0), .ref (a_t_reader 0), .ref (a_t_now 0), .ref (a_t 4), .ref (a_t_choices 0), .ref (a_t_ways 0), .ref (a_t_stress 0)])), ((a_t 4), .inl (g.2.2.1 4, 3, .inr (.inr (.inr (.inr (iF (a_t_images_0 0) (a_t_images_1 0) (a_t_images_2 0))))))), ((a_t_images_0 0), .inr (1, [.ref (a_t_images_0 1), .ref (a_t_images_0 2), .ref (a_t_images_0 3), .ref (a_t_images_0 4), .ref (a_t_images_0 5), .int t_images_0_told, .int t_images_0_lines, .int t_images_0_kinds, .int t_images_0_acts])), ((a_t_images_0 1), .inl (g.2.2.1 0, 15, .inl t_images_0_numbers)), ((a_t_images_0 2), .inl (g.2.2.1 0, 144, .inl t_images_0_cells)), ((a_t_images_0 3), .inl (g.2.2.1 0, 31, .inl t_images_0_rows)), ((a_t_images_0 4), .inl (g.2.2.1 0, 31, .inl t_images_0_sizes)), ((a_t_images_0 5), .inl (g.2.2.1 0, 31, .inl t_images_0_rooms)), ((a_t_images_2 0), .inr (1, [.ref (a_t_images_2 1), .ref (a_t_images_2 2), .ref (a_t_images_2 3), .ref (a_t_images_2 4), .ref (a_t_images_2 5), .int t_images_2_told, .int t_images_2_lines, .int t_images_2_kinds, .int t_images_2_acts])), ((a_t_images_2 1), .inl (g.2.2.1 0, 15, .inl t_images_2_numbers)), ((a_t_images_2 2), .inl (g.2.2.1 0, 144, .inl t_images_2_cells)), ((a_t_images_2 3), .inl (g.2.2.1 0, 31, .inl t_images_2_rows)), ((a_t_images_2 4), .inl (g.2.2.1 0, 31, .inl t_images_2_sizes)), ((a_t_images_2 5), .inl (g.2.2.1 0, 31, .inl t_images_2_rooms)), ((a_t_choices 0), .inr (0, [.ref b_t_choices_rows, .ref b_t_choices_seen, .int t_choices_size, .int t_choices_ready, .int t_choices_pool, .int t_choices_plies, .int t_choices_room]))]) (runVN (As := [.ref ((a_t_images_1 0))]) (rest := []) hG cx hl.1 (ctX1_copy l g s.heap.size a_t_now a_t_images_1 t_now_told t_now_lines t_now_kinds t_now_acts t_now_numbers t_now_cells t_now_rows t_now_sizes t_now_rooms t_images_1_told t_images_1_lines t_images_1_kinds t_images_1_acts t_images_1_numbers t_images_1_cells t_images_1_rows t_images_1_sizes t_images_1_rooms w118 w119 w120 w121 w122 w123 w124 w125 w126 hr117) kmX1_copy kvX1_copy nm_14 ⟨rfl, rfl⟩ ⟨Nat.le_of_ble_eq_true rfl, Nat.le_of_ble_eq_true rfl⟩ (rwV (q0 := 1) (ci := 1) hG (hP.sub [1, 2, 3, 4, 5, 6, 14, 15, 16, 17, 18, 19] rfl) (hD.sub [1, 2, 3, 4, 5, 6, 14, 15, 16, 17, 18, 19] (by decide) rfl) hAb hb0 hS hP rfl rfl) rfl rfl (Nat.le_of_ble_eq_true rfl) dX7_back_36 ⟨Nat.le_of_ble_eq_true rfl, Nat.le_of_ble_eq_true rfl⟩) hP hD hS hA [1, 2, 3, 4, 5, 6, 14, 15, 16, 17, 18, 19] [0, 7, 8, 9, 10, 11, 12, 13, 20, 21, 22, 23, 24, 25, 26] rfl rfl (by decide) (by decide) (fun _ => rfl) (fun u127 H locs hP hD hS => ?_)
                have hG := hGk hS
                refine lv_aload_n hx hb dX7_back_39 rfl (lv_at hl 0 rfl) ?_
                refine xa_get (C := RX7) (T := TX7) (N := 7) cx hG hP 0 rfl rfl uX7 4 (by decide) lf_X7_41 rfl dX7_back_40 ?_
                obtain ⟨w129, hr128, h⟩ := bnd h
                refine rw_v (WN := fun u130 => [((a_t 0), .inr (6, [.ref (a_t_tape 0), .ref (a_t_reader 0), .ref (a_t_now 0), .ref (a_t 4), .ref (a_t_choices 0), .ref (a_t_ways 0), .ref (a_t_stress 0)])), ((a_t 4), .inl (g.2.2.1 4, 3, .inr (.inr (.inr (.inr (iF (a_t_images_0 0) (a_t_images_1 0) (a_t_images_2 0))))))), ((a_t_images_0 0), .inr (1, [.ref (a_t_images_0 1), .ref (a_t_images_0 2), .ref (a_t_images_0 3), .ref (a_t_images_0 4), .ref (a_t_images_0 5), .int t_images_0_told, .int t_images_0_lines, .int t_images_0_kinds, .int t_images_0_acts])), ((a_t_images_0 1), .inl (g.2.2.1 0, 15, .inl t_images_0_numbers)), ((a_t_images_0 2), .inl (g.2.2.1 0, 144, .inl t_images_0_cells)), ((a_t_images_0 3), .inl (g.2.2.1 0, 31, .inl t_images_0_rows)), ((a_t_images_0 4), .inl (g.2.2.1 0, 31, .inl t_images_0_sizes)), ((a_t_images_0 5), .inl (g.2.2.1 0, 31, .inl t_images_0_rooms)), ((a_t_images_2 0), .inr (1, [.ref (a_t_images_2 1), .ref (a_t_images_2 2), .ref (a_t_images_2 3), .ref (a_t_images_2 4), .ref (a_t_images_2 5), .int t_images_2_told, .int t_images_2_lines, .int t_images_2_kinds, .int t_images_2_acts])), ((a_t_images_2 1), .inl (g.2.2.1 0, 15, .inl t_images_2_numbers)), ((a_t_images_2 2), .inl (g.2.2.1 0, 144, .inl t_images_2_cells)), ((a_t_images_2 3), .inl (g.2.2.1 0, 31, .inl t_images_2_rows)), ((a_t_images_2 4), .inl (g.2.2.1 0, 31, .inl t_images_2_sizes)), ((a_t_images_2 5), .inl (g.2.2.1 0, 31, .inl t_images_2_rooms)), ((a_t_now 0), .inr (1, [.ref (a_t_now 1), .ref (a_t_now 2), .ref (a_t_now 3), .ref (a_t_now 4), .ref (a_t_now 5), .int w123, .int w124, .int w125, .int w126])), ((a_t_now 1), .inl (g.2.2.1 0, 15, .inl w118)), ((a_t_now 2), .inl (g.2.2.1 0, 144, .inl w119)), ((a_t_now 3), .inl (g.2.2.1 0, 31, .inl w120)), ((a_t_now 4), .inl (g.2.2.1 0, 31, .inl w121)), ((a_t_now 5), .inl (g.2.2.1 0, 31, .inl w122)), ((a_t_images_1 0), .inr (1, [.ref (a_t_images_1 1), .ref (a_t_images_1 2), .ref (a_t_images_1 3), .ref (a_t_images_1 4), .ref (a_t_images_1 5), .int t_images_1_told, .int t_images_1_lines, .int t_images_1_kinds, .int t_images_1_acts])), ((a_t_images_1 1), .inl (g.2.2.1 0, 15, .inl t_images_1_numbers)), ((a_t_images_1 2), .inl (g.2.2.1 0, 144, .inl t_images_1_cells)), ((a_t_images_1 3), .inl (g.2.2.1 0, 31, .inl t_images_1_rows)), ((a_t_images_1 4), .inl (g.2.2.1 0, 31, .inl t_images_1_sizes)), ((a_t_images_1 5), .inl (g.2.2.1 0, 31, .inl t_images_1_rooms)), ((a_t_choices 0), .inr (0, [.ref b_t_choices_rows, .ref b_t_choices_seen, .int t_choices_size, .int w129, .int t_choices_pool, .int t_choices_plies, .int t_choices_room]))]) (wr := [((a_t 0), .inr (6, [.ref (a_t_tape 0), .ref (a_t_reader 0), .ref (a_t_now 0), .ref (a_t 4), .ref (a_t_choices 0), .ref (a_t_ways 0), .ref (a_t_stress 0)])), ((a_t 4), .inl (g.2.2.1 4, 3, .inr (.inr (.inr (.inr (iF (a_t_images_0 0) (a_t_images_1 0) (a_t_images_2 0))))))), ((a_t_images_0 0), .inr (1, [.ref (a_t_images_0 1), .ref (a_t_images_0 2), .ref (a_t_images_0 3), .ref (a_t_images_0 4), .ref (a_t_images_0 5), .int t_images_0_told, .int t_images_0_lines, .int t_images_0_kinds, .int t_images_0_acts])), ((a_t_images_0 1), .inl (g.2.2.1 0, 15, .inl t_images_0_numbers)), ((a_t_images_0 2), .inl (g.2.2.1 0, 144, .inl t_images_0_cells)), ((a_t_images_0 3), .inl (g.2.2.1 0, 31, .inl t_images_0_rows)), ((a_t_images_0 4), .inl (g.2.2.1 0, 31, .inl t_images_0_sizes)), ((a_t_images_0 5), .inl (g.2.2.1 0, 31, .inl t_images_0_rooms)), ((a_t_images_2 0), .inr (1, [.ref (a_t_images_2 1), .ref (a_t_images_2 2), .ref (a_t_images_2 3), .ref (a_t_images_2 4), .ref (a_t_images_2 5), .int t_images_2_told, .int t_images_2_lines, .int t_images_2_kinds, .int t_images_2_acts])), ((a_t_images_2 1), .inl (g.2.2.1 0, 15, .inl t_images_2_numbers)), ((a_t_images_2 2), .inl (g.2.2.1 0, 144, .inl t_images_2_cells)), ((a_t_images_2 3), .inl (g.2.2.1 0, 31, .inl t_images_2_rows)), ((a_t_images_2 4), .inl (g.2.2.1 0, 31, .inl t_images_2_sizes)), ((a_t_images_2 5), .inl (g.2.2.1 0, 31, .inl t_images_2_rooms)), ((a_t_now 0), .inr (1, [.ref (a_t_now 1), .ref (a_t_now 2), .ref (a_t_now 3), .ref (a_t_now 4), .ref (a_t_now 5), .int w123, .int w124, .int w125, .int w126])), ((a_t_now 1), .inl (g.2.2.1 0, 15, .inl w118)), ((a_t_now 2), .inl (g.2.2.1 0, 144, .inl w119)), ((a_t_now 3), .inl (g.2.2.1 0, 31, .inl w120)), ((a_t_now 4), .inl (g.2.2.1 0, 31, .inl w121)), ((a_t_now 5), .inl (g.2.2.1 0, 31, .inl w122)), ((a_t_images_1 0), .inr (1, [.ref (a_t_images_1 1), .ref (a_t_images_1 2), .ref (a_t_images_1 3), .ref (a_t_images_1 4), .ref (a_t_images_1 5), .int t_images_1_told, .int t_images_1_lines, .int t_images_1_kinds, .int t_images_1_acts])), ((a_t_images_1 1), .inl (g.2.2.1 0, 15, .inl t_images_1_numbers)), ((a_t_images_1 2), .inl (g.2.2.1 0, 144, .inl t_images_1_cells)), ((a_t_images_1 3), .inl (g.2.2.1 0, 31, .inl t_images_1_rows)), ((a_t_images_1 4), .inl (g.2.2.1 0, 31, .inl t_images_1_sizes)), ((a_t_images_1 5), .inl (g.2.2.1 0, 31, .inl t_images_1_rooms))]) (runVN (As := []) (rest := []) hG cx hl.1 (ctX0_forget l g H.size a_t_choices b_t_choices_rows b_t_choices_seen t_choices_size t_choices_ready t_choices_pool t_choices_plies t_choices_room w129 hr128) kmX0_forget kvX0_forget nm_15 ⟨rfl, rfl⟩ ⟨Nat.le_of_ble_eq_true rfl, Nat.le_of_ble_eq_true rfl⟩ (rwV (q0 := 14) (ci := 0) hG (hP.sub [14] rfl) (hD.sub [14] (by decide) rfl) hAb hb0 hS hP rfl rfl) rfl rfl (Nat.le_of_ble_eq_true rfl) dX7_back_43 ⟨Nat.le_of_ble_eq_true rfl, Nat.le_of_ble_eq_true rfl⟩) hP hD hS hA [14] [0, 1, 2, 3, 4, 5, 6, 7, 8, 9, 10, 11, 12, 13, 15, 16, 17, 18, 19, 20, 21, 22, 23, 24, 25, 26] rfl rfl (by decide) (by decide) (fun _ => rfl) (fun u130 H locs hP hD hS => ?_)
                have hG := hGk hS
                refine lv_iconst (v := 0) hx hb dX7_back_46 (by decide) ?_
                exact hrt (fun _ => 0) _ _ ((0)) w118 w119 w120 w121 w122 w123 w124 w125 w126 w129 _ _ dX7_back_47 h (hP.sub [0, 14, 15, 16, 17, 18, 19, 1, 2, 3, 4, 5, 6, 7, 20, 21, 22, 23, 24, 25, 8, 9, 10, 11, 12, 13, 26] rfl) (hD.sub [0, 14, 15, 16, 17, 18, 19, 1, 2, 3, 4, 5, 6, 7, 20, 21, 22, 23, 24, 25, 8, 9, 10, 11, 12, 13, 26] (by decide) rfl) hS
              · have h := itn e116 h
                by_cases e131 : v1 = 2
                · have h := itp e131 h
                  refine xa_ald3 (k := 2) cx hG hP 7 rfl (by rw [e131]; decide) rfl dX7_back_35 ?_
                  obtain ⟨w133, w134, w135, w136, w137, w138, w139, w140, w141, hr132, h⟩ := ob9_out h
                  refine rw_v (WN := fun u142 => [((a_t 0), .inr (6, [.ref (a_t_tape 0), .ref (a_t_reader 0), .ref (a_t_now 0), .ref (a_t 4), .ref (a_t_choices 0), .ref (a_t_ways 0), .ref (a_t_stress 0)])), ((a_t 4), .inl (g.2.2.1 4, 3, .inr (.inr (.inr (.inr (iF (a_t_images_0 0) (a_t_images_1 0) (a_t_images_2 0))))))), ((a_t_images_0 0), .inr (1, [.ref (a_t_images_0 1), .ref (a_t_images_0 2), .ref (a_t_images_0 3), .ref (a_t_images_0 4), .ref (a_t_images_0 5), .int t_images_0_told, .int t_images_0_lines, .int t_images_0_kinds, .int t_images_0_acts])), ((a_t_images_0 1), .inl (g.2.2.1 0, 15, .inl t_images_0_numbers)), ((a_t_images_0 2), .inl (g.2.2.1 0, 144, .inl t_images_0_cells)), ((a_t_images_0 3), .inl (g.2.2.1 0, 31, .inl t_images_0_rows)), ((a_t_images_0 4), .inl (g.2.2.1 0, 31, .inl t_images_0_sizes)), ((a_t_images_0 5), .inl (g.2.2.1 0, 31, .inl t_images_0_rooms)), ((a_t_images_1 0), .inr (1, [.ref (a_t_images_1 1), .ref (a_t_images_1 2), .ref (a_t_images_1 3), .ref (a_t_images_1 4), .ref (a_t_images_1 5), .int t_images_1_told, .int t_images_1_lines, .int t_images_1_kinds, .int t_images_1_acts])), ((a_t_images_1 1), .inl (g.2.2.1 0, 15, .inl t_images_1_numbers)), ((a_t_images_1 2), .inl (g.2.2.1 0, 144, .inl t_images_1_cells)), ((a_t_images_1 3), .inl (g.2.2.1 0, 31, .inl t_images_1_rows)), ((a_t_images_1 4), .inl (g.2.2.1 0, 31, .inl t_images_1_sizes)), ((a_t_images_1 5), .inl (g.2.2.1 0, 31, .inl t_images_1_rooms)), ((a_t_choices 0), .inr (0, [.ref b_t_choices_rows, .ref b_t_choices_seen, .int t_choices_size, .int t_choices_ready, .int t_choices_pool, .int t_choices_plies, .int t_choices_room])), ((a_t_now 0), .inr (1, [.ref (a_t_now 1), .ref (a_t_now 2), .ref (a_t_now 3), .ref (a_t_now 4), .ref (a_t_now 5), .int w138, .int w139, .int w140, .int w141])), ((a_t_now 1), .inl (g.2.2.1 0, 15, .inl w133)), ((a_t_now 2), .inl (g.2.2.1 0, 144, .inl w134)), ((a_t_now 3), .inl (g.2.2.1 0, 31, .inl w135)), ((a_t_now 4), .inl (g.2.2.1 0, 31, .inl w136)), ((a_t_now 5), .inl (g.2.2.1 0, 31, .inl w137)), ((a_t_images_2 0), .inr (1, [.ref (a_t_images_2 1), .ref (a_t_images_2 2), .ref (a_t_images_2 3), .ref (a_t_images_2 4), .ref (a_t_images_2 5), .int t_images_2_told, .int t_images_2_lines, .int t_images_2_kinds, .int t_images_2_acts])), ((a_t_images_2 1), .inl (g.2.2.1 0, 15, .inl t_images_2_numbers)), ((a_t_images_2 2), .inl (g.2.2.1 0, 144, .inl t_images_2_cells)), ((a_t_images_2 3), .inl (g.2.2.1 0, 31, .inl t_images_2_rows)), ((a_t_images_2 4), .inl (g.2.2.1 0, 31, .inl t_images_2_sizes)), ((a_t_images_2 5), .inl (g.2.2.1 0, 31, .inl t_images_2_rooms))]) (wr := [((a_t 0), .inr (6, [.ref (a_t_tape 0), .ref (a_t_reader 0), .ref (a_t_now 0), .ref (a_t 4), .ref (a_t_choices 0), .ref (a_t_ways 0), .ref (a_t_stress 0)])), ((a_t 4), .inl (g.2.2.1 4, 3, .inr (.inr (.inr (.inr (iF (a_t_images_0 0) (a_t_images_1 0) (a_t_images_2 0))))))), ((a_t_images_0 0), .inr (1, [.ref (a_t_images_0 1), .ref (a_t_images_0 2), .ref (a_t_images_0 3), .ref (a_t_images_0 4), .ref (a_t_images_0 5), .int t_images_0_told, .int t_images_0_lines, .int t_images_0_kinds, .int t_images_0_acts])), ((a_t_images_0 1), .inl (g.2.2.1 0, 15, .inl t_images_0_numbers)), ((a_t_images_0 2), .inl (g.2.2.1 0, 144, .inl t_images_0_cells)), ((a_t_images_0 3), .inl (g.2.2.1 0, 31, .inl t_images_0_rows)), ((a_t_images_0 4), .inl (g.2.2.1 0, 31, .inl t_images_0_sizes)), ((a_t_images_0 5), .inl (g.2.2.1 0, 31, .inl t_images_0_rooms)), ((a_t_images_1 0), .inr (1, [.ref (a_t_images_1 1), .ref (a_t_images_1 2), .ref (a_t_images_1 3), .ref (a_t_images_1 4), .ref (a_t_images_1 5), .int t_images_1_told, .int t_images_1_lines, .int t_images_1_kinds, .int t_images_1_acts])), ((a_t_images_1 1), .inl (g.2.2.1 0, 15, .inl t_images_1_numbers)), ((a_t_images_1 2), .inl (g.2.2.1 0, 144, .inl t_images_1_cells)), ((a_t_images_1 3), .inl (g.2.2.1 0, 31, .inl t_images_1_rows)), ((a_t_images_1 4), .inl (g.2.2.1 0, 31, .inl t_images_1_sizes)), ((a_t_images_1 5), .inl (g.2.2.1 0, 31, .inl t_images_1_rooms)), ((a_t_choices 0), .inr (0, [.ref b_t_choices_rows, .ref b_t_choices_seen, .int t_choices_size, .int t_choices_ready, .int t_choices_pool, .int t_choices_plies, .int t_choices_room]))]) (runVN (As := [.ref ((a_t_images_2 0))]) (rest := []) hG cx hl.1 (ctX1_copy l g s.heap.size a_t_now a_t_images_2 t_now_told t_now_lines t_now_kinds t_now_acts t_now_numbers t_now_cells t_now_rows t_now_sizes t_now_rooms t_images_2_told t_images_2_lines t_images_2_kinds t_images_2_acts t_images_2_numbers t_images_2_cells t_images_2_rows t_images_2_sizes t_images_2_rooms w133 w134 w135 w136 w137 w138 w139 w140 w141 hr132) kmX1_copy kvX1_copy nm_14 ⟨rfl, rfl⟩ ⟨Nat.le_of_ble_eq_true rfl, Nat.le_of_ble_eq_true rfl⟩ (rwV (q0 := 1) (ci := 1) hG (hP.sub [1, 2, 3, 4, 5, 6, 20, 21, 22, 23, 24, 25] rfl) (hD.sub [1, 2, 3, 4, 5, 6, 20, 21, 22, 23, 24, 25] (by decide) rfl) hAb hb0 hS hP rfl rfl) rfl rfl (Nat.le_of_ble_eq_true rfl) dX7_back_36 ⟨Nat.le_of_ble_eq_true rfl, Nat.le_of_ble_eq_true rfl⟩) hP hD hS hA [1, 2, 3, 4, 5, 6, 20, 21, 22, 23, 24, 25] [0, 7, 8, 9, 10, 11, 12, 13, 14, 15, 16, 17, 18, 19, 26] rfl rfl (by decide) (by decide) (fun _ => rfl) (fun u142 H locs hP hD hS => ?_)
                  have hG := hGk hS
                  refine lv_aload_n hx hb dX7_back_39 rfl (lv_at hl 0 rfl) ?_
                  refine xa_get (C := RX7) (T := TX7) (N := 7) cx hG hP 0 rfl rfl uX7 4 (by decide) lf_X7_41 rfl dX7_back_40 ?_
                  obtain ⟨w144, hr143, h⟩ := bnd h
                  refine rw_v (WN := fun u145 => [((a_t 0), .inr (6, [.ref (a_t_tape 0), .ref (a_t_reader 0), .ref (a_t_now 0), .ref (a_t 4), .ref (a_t_choices 0), .ref (a_t_ways 0), .ref (a_t_stress 0)])), ((a_t 4), .inl (g.2.2.1 4, 3, .inr (.inr (.inr (.inr (iF (a_t_images_0 0) (a_t_images_1 0) (a_t_images_2 0))))))), ((a_t_images_0 0), .inr (1, [.ref (a_t_images_0 1), .ref (a_t_images_0 2), .ref (a_t_images_0 3), .ref (a_t_images_0 4), .ref (a_t_images_0 5), .int t_images_0_told, .int t_images_0_lines, .int t_images_0_kinds, .int t_images_0_acts])), ((a_t_images_0 1), .inl (g.2.2.1 0, 15, .inl t_images_0_numbers)), ((a_t_images_0 2), .inl (g.2.2.1 0, 144, .inl t_images_0_cells)), ((a_t_images_0 3), .inl (g.2.2.1 0, 31, .inl t_images_0_rows)), ((a_t_images_0 4), .inl (g.2.2.1 0, 31, .inl t_images_0_sizes)), ((a_t_images_0 5), .inl (g.2.2.1 0, 31, .inl t_images_0_rooms)), ((a_t_images_1 0), .inr (1, [.ref (a_t_images_1 1), .ref (a_t_images_1 2), .ref (a_t_images_1 3), .ref (a_t_images_1 4), .ref (a_t_images_1 5), .int t_images_1_told, .int t_images_1_lines, .int t_images_1_kinds, .int t_images_1_acts])), ((a_t_images_1 1), .inl (g.2.2.1 0, 15, .inl t_images_1_numbers)), ((a_t_images_1 2), .inl (g.2.2.1 0, 144, .inl t_images_1_cells)), ((a_t_images_1 3), .inl (g.2.2.1 0, 31, .inl t_images_1_rows)), ((a_t_images_1 4), .inl (g.2.2.1 0, 31, .inl t_images_1_sizes)), ((a_t_images_1 5), .inl (g.2.2.1 0, 31, .inl t_images_1_rooms)), ((a_t_now 0), .inr (1, [.ref (a_t_now 1), .ref (a_t_now 2), .ref (a_t_now 3), .ref (a_t_now 4), .ref (a_t_now 5), .int w138, .int w139, .int w140, .int w141])), ((a_t_now 1), .inl (g.2.2.1 0, 15, .inl w133)), ((a_t_now 2), .inl (g.2.2.1 0, 144, .inl w134)), ((a_t_now 3), .inl (g.2.2.1 0, 31, .inl w135)), ((a_t_now 4), .inl (g.2.2.1 0, 31, .inl w136)), ((a_t_now 5), .inl (g.2.2.1 0, 31, .inl w137)), ((a_t_images_2 0), .inr (1, [.ref (a_t_images_2 1), .ref (a_t_images_2 2), .ref (a_t_images_2 3), .ref (a_t_images_2 4), .ref (a_t_images_2 5), .int t_images_2_told, .int t_images_2_lines, .int t_images_2_kinds, .int t_images_2_acts])), ((a_t_images_2 1), .inl (g.2.2.1 0, 15, .inl t_images_2_numbers)), ((a_t_images_2 2), .inl (g.2.2.1 0, 144, .inl t_images_2_cells)), ((a_t_images_2 3), .inl (g.2.2.1 0, 31, .inl t_images_2_rows)), ((a_t_images_2 4), .inl (g.2.2.1 0, 31, .inl t_images_2_sizes)), ((a_t_images_2 5), .inl (g.2.2.1 0, 31, .inl t_images_2_rooms)), ((a_t_choices 0), .inr (0, [.ref b_t_choices_rows, .ref b_t_choices_seen, .int t_choices_size, .int w144, .int t_choices_pool, .int t_choices_plies, .int t_choices_room]))]) (wr := [((a_t 0), .inr (6, [.ref (a_t_tape 0), .ref (a_t_reader 0), .ref (a_t_now 0), .ref (a_t 4), .ref (a_t_choices 0), .ref (a_t_ways 0), .ref (a_t_stress 0)])), ((a_t 4), .inl (g.2.2.1 4, 3, .inr (.inr (.inr (.inr (iF (a_t_images_0 0) (a_t_images_1 0) (a_t_images_2 0))))))), ((a_t_images_0 0), .inr (1, [.ref (a_t_images_0 1), .ref (a_t_images_0 2), .ref (a_t_images_0 3), .ref (a_t_images_0 4), .ref (a_t_images_0 5), .int t_images_0_told, .int t_images_0_lines, .int t_images_0_kinds, .int t_images_0_acts])), ((a_t_images_0 1), .inl (g.2.2.1 0, 15, .inl t_images_0_numbers)), ((a_t_images_0 2), .inl (g.2.2.1 0, 144, .inl t_images_0_cells)), ((a_t_images_0 3), .inl (g.2.2.1 0, 31, .inl t_images_0_rows)), ((a_t_images_0 4), .inl (g.2.2.1 0, 31, .inl t_images_0_sizes)), ((a_t_images_0 5), .inl (g.2.2.1 0, 31, .inl t_images_0_rooms)), ((a_t_images_1 0), .inr (1, [.ref (a_t_images_1 1), .ref (a_t_images_1 2), .ref (a_t_images_1 3), .ref (a_t_images_1 4), .ref (a_t_images_1 5), .int t_images_1_told, .int t_images_1_lines, .int t_images_1_kinds, .int t_images_1_acts])), ((a_t_images_1 1), .inl (g.2.2.1 0, 15, .inl t_images_1_numbers)), ((a_t_images_1 2), .inl (g.2.2.1 0, 144, .inl t_images_1_cells)), ((a_t_images_1 3), .inl (g.2.2.1 0, 31, .inl t_images_1_rows)), ((a_t_images_1 4), .inl (g.2.2.1 0, 31, .inl t_images_1_sizes)), ((a_t_images_1 5), .inl (g.2.2.1 0, 31, .inl t_images_1_rooms)), ((a_t_now 0), .inr (1, [.ref (a_t_now 1), .ref (a_t_now 2), .ref (a_t_now 3), .ref (a_t_now 4), .ref (a_t_now 5), .int w138, .int w139, .int w140, .int w141])), ((a_t_now 1), .inl (g.2.2.1 0, 15, .inl w133)), ((a_t_now 2), .inl (g.2.2.1 0, 144, .inl w134)), ((a_t_now 3), .inl (g.2.2.1 0, 31, .inl w135)), ((a_t_now 4), .inl (g.2.2.1 0, 31, .inl w136)), ((a_t_now 5), .inl (g.2.2.1 0, 31, .inl w137)), ((a_t_images_2 0), .inr (1, [.ref (a_t_images_2 1), .ref (a_t_images_2 2), .ref (a_t_images_2 3), .ref (a_t_images_2 4), .ref (a_t_images_2 5), .int t_images_2_told, .int t_images_2_lines, .int t_images_2_kinds, .int t_images_2_acts])), ((a_t_images_2 1), .inl (g.2.2.1 0, 15, .inl t_images_2_numbers)), ((a_t_images_2 2), .inl (g.2.2.1 0, 144, .inl t_images_2_cells)), ((a_t_images_2 3), .inl (g.2.2.1 0, 31, .inl t_images_2_rows)), ((a_t_images_2 4), .inl (g.2.2.1 0, 31, .inl t_images_2_sizes)), ((a_t_images_2 5), .inl (g.2.2.1 0, 31, .inl t_images_2_rooms))]) (runVN (As := []) (rest := []) hG cx hl.1 (ctX0_forget l g H.size a_t_choices b_t_choices_rows b_t_choices_seen t_choices_size t_choices_ready t_choices_pool t_choices_plies t_choices_room w144 hr143) kmX0_forget kvX0_forget nm_15 ⟨rfl, rfl⟩ ⟨Nat.le_of_ble_eq_true rfl, Nat.le_of_ble_eq_true rfl⟩ (rwV (q0 := 14) (ci := 0) hG (hP.sub [14] rfl) (hD.sub [14] (by decide) rfl) hAb hb0 hS hP rfl rfl) rfl rfl (Nat.le_of_ble_eq_true rfl) dX7_back_43 ⟨Nat.le_of_ble_eq_true rfl, Nat.le_of_ble_eq_true rfl⟩) hP hD hS hA [14] [0, 1, 2, 3, 4, 5, 6, 7, 8, 9, 10, 11, 12, 13, 15, 16, 17, 18, 19, 20, 21, 22, 23, 24, 25, 26] rfl rfl (by decide) (by decide) (fun _ => rfl) (fun u145 H locs hP hD hS => ?_)
                  have hG := hGk hS
                  refine lv_iconst (v := 0) hx hb dX7_back_46 (by decide) ?_
                  exact hrt (fun _ => 0) _ _ ((0)) w133 w134 w135 w136 w137 w138 w139 w140 w141 w144 _ _ dX7_back_47 h (hP.sub [0, 14, 15, 16, 17, 18, 19, 1, 2, 3, 4, 5, 6, 7, 8, 9, 10, 11, 12, 13, 20, 21, 22, 23, 24, 25, 26] rfl) (hD.sub [0, 14, 15, 16, 17, 18, 19, 1, 2, 3, 4, 5, 6, 7, 8, 9, 10, 11, 12, 13, 20, 21, 22, 23, 24, 25, 26] (by decide) rfl) hS
                · have h := itn e131 h
                  cases h
          · have h := itp c100 h
            refine lv_bipush (v := -6) hx hb dX7_back_23 (by decide) ?_
            exact hrt (fun _ => 0) _ _ ((-6)) t_now_numbers t_now_cells t_now_rows t_now_sizes t_now_rooms t_now_told t_now_lines t_now_kinds t_now_acts t_choices_ready _ _ dX7_back_25 h (hP.sub [0, 1, 2, 3, 4, 5, 6, 7, 8, 9, 10, 11, 12, 13, 14, 15, 16, 17, 18, 19, 20, 21, 22, 23, 24, 25, 26] rfl) (hD.sub [0, 1, 2, 3, 4, 5, 6, 7, 8, 9, 10, 11, 12, 13, 14, 15, 16, 17, 18, 19, 20, 21, 22, 23, 24, 25, 26] (by decide) rfl) hS
        · have h := itn e99 h
          cases h
  · have h := itp c4 h
    refine lv_bipush (v := -2) hx hb dX7_back_8 (by decide) ?_
    exact hrt (fun _ => 0) _ _ ((-2)) t_now_numbers t_now_cells t_now_rows t_now_sizes t_now_rooms t_now_told t_now_lines t_now_kinds t_now_acts t_choices_ready _ _ dX7_back_10 h (hP.sub [0, 1, 2, 3, 4, 5, 6, 7, 8, 9, 10, 11, 12, 13, 14, 15, 16, 17, 18, 19, 20, 21, 22, 23, 24, 25, 26] rfl) (hD.sub [0, 1, 2, 3, 4, 5, 6, 7, 8, 9, 10, 11, 12, 13, 14, 15, 16, 17, 18, 19, 20, 21, 22, 23, 24, 25, 26] (by decide) rfl) hS
-- X7_turned
theorem dX7_turned_0 : decode cX7_turned 0 = .ok (.aload_n 0, 1) := by decide +kernel
theorem dX7_turned_1 : decode cX7_turned 1 = .ok (.getfield 30, 3) := by decide +kernel
theorem dX7_turned_4 : decode cX7_turned 4 = .ok (.getfield 139, 3) := by decide +kernel
theorem dX7_turned_7 : decode cX7_turned 7 = .ok (.ifCond .eq 11, 3) := by decide +kernel
theorem dX7_turned_10 : decode cX7_turned 10 = .ok (.aload_n 0, 1) := by decide +kernel
theorem dX7_turned_11 : decode cX7_turned 11 = .ok (.iload_n 1, 1) := by decide +kernel
theorem dX7_turned_12 : decode cX7_turned 12 = .ok (.invokevirtual 357, 3) := by decide +kernel
theorem dX7_turned_15 : decode cX7_turned 15 = .ok (.ifCond .ne 6, 3) := by decide +kernel
theorem dX7_turned_18 : decode cX7_turned 18 = .ok (.bipush (-2), 2) := by decide +kernel
theorem dX7_turned_20 : decode cX7_turned 20 = .ok (.ireturn, 1) := by decide +kernel
theorem dX7_turned_21 : decode cX7_turned 21 = .ok (.aload_n 0, 1) := by decide +kernel
theorem dX7_turned_22 : decode cX7_turned 22 = .ok (.getfield 34, 3) := by decide +kernel
theorem dX7_turned_25 : decode cX7_turned 25 = .ok (.iload_n 1, 1) := by decide +kernel
theorem dX7_turned_26 : decode cX7_turned 26 = .ok (.aaload, 1) := by decide +kernel
theorem dX7_turned_27 : decode cX7_turned 27 = .ok (.getfield 139, 3) := by decide +kernel
theorem dX7_turned_30 : decode cX7_turned 30 = .ok (.ifCond .ne 6, 3) := by decide +kernel
theorem dX7_turned_33 : decode cX7_turned 33 = .ok (.bipush (-6), 2) := by decide +kernel
theorem dX7_turned_35 : decode cX7_turned 35 = .ok (.ireturn, 1) := by decide +kernel
theorem dX7_turned_36 : decode cX7_turned 36 = .ok (.aload_n 0, 1) := by decide +kernel
theorem dX7_turned_37 : decode cX7_turned 37 = .ok (.getfield 30, 3) := by decide +kernel
theorem dX7_turned_40 : decode cX7_turned 40 = .ok (.invokevirtual 97, 3) := by decide +kernel
theorem dX7_turned_43 : decode cX7_turned 43 = .ok (.istore_n 2, 1) := by decide +kernel
theorem dX7_turned_44 : decode cX7_turned 44 = .ok (.aload_n 0, 1) := by decide +kernel
theorem dX7_turned_45 : decode cX7_turned 45 = .ok (.getfield 34, 3) := by decide +kernel
theorem dX7_turned_48 : decode cX7_turned 48 = .ok (.iload_n 1, 1) := by decide +kernel
theorem dX7_turned_49 : decode cX7_turned 49 = .ok (.aaload, 1) := by decide +kernel
theorem dX7_turned_50 : decode cX7_turned 50 = .ok (.invokevirtual 97, 3) := by decide +kernel
theorem dX7_turned_53 : decode cX7_turned 53 = .ok (.iload_n 2, 1) := by decide +kernel
theorem dX7_turned_54 : decode cX7_turned 54 = .ok (.if_icmp .eq 5, 3) := by decide +kernel
theorem dX7_turned_57 : decode cX7_turned 57 = .ok (.iconst (-1), 1) := by decide +kernel
theorem dX7_turned_58 : decode cX7_turned 58 = .ok (.ireturn, 1) := by decide +kernel
theorem dX7_turned_59 : decode cX7_turned 59 = .ok (.aload_n 0, 1) := by decide +kernel
theorem dX7_turned_60 : decode cX7_turned 60 = .ok (.getfield 30, 3) := by decide +kernel
theorem dX7_turned_63 : decode cX7_turned 63 = .ok (.invokevirtual 132, 3) := by decide +kernel
theorem dX7_turned_66 : decode cX7_turned 66 = .ok (.iload_n 2, 1) := by decide +kernel
theorem dX7_turned_67 : decode cX7_turned 67 = .ok (.invokestatic 354, 3) := by decide +kernel
theorem dX7_turned_70 : decode cX7_turned 70 = .ok (.istore_n 3, 1) := by decide +kernel
theorem dX7_turned_71 : decode cX7_turned 71 = .ok (.iconst 0, 1) := by decide +kernel
theorem dX7_turned_72 : decode cX7_turned 72 = .ok (.istore 4, 2) := by decide +kernel
theorem dX7_turned_74 : decode cX7_turned 74 = .ok (.iload 4, 2) := by decide +kernel
theorem dX7_turned_76 : decode cX7_turned 76 = .ok (.bipush 8, 2) := by decide +kernel
theorem dX7_turned_78 : decode cX7_turned 78 = .ok (.if_icmp .ge 53, 3) := by decide +kernel
theorem dX7_turned_81 : decode cX7_turned 81 = .ok (.iload 4, 2) := by decide +kernel
theorem dX7_turned_83 : decode cX7_turned 83 = .ok (.iconst 4, 1) := by decide +kernel
theorem dX7_turned_84 : decode cX7_turned 84 = .ok (.if_icmp .ge 13, 3) := by decide +kernel
theorem dX7_turned_87 : decode cX7_turned 87 = .ok (.aload_n 0, 1) := by decide +kernel
theorem dX7_turned_88 : decode cX7_turned 88 = .ok (.getfield 30, 3) := by decide +kernel
theorem dX7_turned_91 : decode cX7_turned 91 = .ok (.invokevirtual 132, 3) := by decide +kernel
theorem dX7_turned_94 : decode cX7_turned 94 = .ok (.goto 4, 3) := by decide +kernel
theorem dX7_turned_97 : decode cX7_turned 97 = .ok (.iload_n 3, 1) := by decide +kernel
theorem dX7_turned_98 : decode cX7_turned 98 = .ok (.istore 5, 2) := by decide +kernel
theorem dX7_turned_100 : decode cX7_turned 100 = .ok (.iload 5, 2) := by decide +kernel
theorem dX7_turned_102 : decode cX7_turned 102 = .ok (.iload_n 2, 1) := by decide +kernel
theorem dX7_turned_103 : decode cX7_turned 103 = .ok (.iload 4, 2) := by decide +kernel
theorem dX7_turned_105 : decode cX7_turned 105 = .ok (.iconst 4, 1) := by decide +kernel
theorem dX7_turned_106 : decode cX7_turned 106 = .ok (.irem, 1) := by decide +kernel
theorem dX7_turned_107 : decode cX7_turned 107 = .ok (.invokestatic 351, 3) := by decide +kernel
theorem dX7_turned_110 : decode cX7_turned 110 = .ok (.aload_n 0, 1) := by decide +kernel
theorem dX7_turned_111 : decode cX7_turned 111 = .ok (.getfield 34, 3) := by decide +kernel
theorem dX7_turned_114 : decode cX7_turned 114 = .ok (.iload_n 1, 1) := by decide +kernel
theorem dX7_turned_115 : decode cX7_turned 115 = .ok (.aaload, 1) := by decide +kernel
theorem dX7_turned_116 : decode cX7_turned 116 = .ok (.invokevirtual 132, 3) := by decide +kernel
theorem dX7_turned_119 : decode cX7_turned 119 = .ok (.if_icmp .ne 6, 3) := by decide +kernel
theorem dX7_turned_122 : decode cX7_turned 122 = .ok (.iload 4, 2) := by decide +kernel
theorem dX7_turned_124 : decode cX7_turned 124 = .ok (.ireturn, 1) := by decide +kernel
theorem dX7_turned_125 : decode cX7_turned 125 = .ok (.iinc 4 1, 3) := by decide +kernel
theorem dX7_turned_128 : decode cX7_turned 128 = .ok (.goto (-54), 3) := by decide +kernel
theorem dX7_turned_131 : decode cX7_turned 131 = .ok (.iconst (-1), 1) := by decide +kernel
theorem dX7_turned_132 : decode cX7_turned 132 = .ok (.ireturn, 1) := by decide +kernel
noncomputable def fX7_turned_98 (k74 : (Nat → Int32) → Int32 → (Nat → Int32) → Int32 → (Nat → Int32) → Int32 → (Nat → Int32) → Int32 → Int32 → Int32 → Int32 → Int32 → Option (Int32)) (t_now_rows : Nat → Int32) (t_now_acts : Int32) (t_images_0_rows : Nat → Int32) (t_images_0_acts : Int32) (t_images_1_rows : Nat → Int32) (t_images_1_acts : Int32) (t_images_2_rows : Nat → Int32) (t_images_2_acts : Int32) (v1 : Int32) (v2 : Int32) (v3 : Int32) (v4 : Int32) (z0 : Int32) : Option (Int32) := (fX3_whirled z0 v2 (irem v4 4)).bind fun r94 => (if v1 = 0 then (fX1_row t_images_0_rows t_images_0_acts).bind fun r97 => (if r94 = r97 then some v4 else k74 t_now_rows t_now_acts t_images_0_rows t_images_0_acts t_images_1_rows t_images_1_acts t_images_2_rows t_images_2_acts v1 v2 v3 (v4 + 1)) else (if v1 = 1 then (fX1_row t_images_1_rows t_images_1_acts).bind fun r101 => (if r94 = r101 then some v4 else k74 t_now_rows t_now_acts t_images_0_rows t_images_0_acts t_images_1_rows t_images_1_acts t_images_2_rows t_images_2_acts v1 v2 v3 (v4 + 1)) else (if v1 = 2 then (fX1_row t_images_2_rows t_images_2_acts).bind fun r105 => (if r94 = r105 then some v4 else k74 t_now_rows t_now_acts t_images_0_rows t_images_0_acts t_images_1_rows t_images_1_acts t_images_2_rows t_images_2_acts v1 v2 v3 (v4 + 1)) else none)))
noncomputable def fX7_turned_74  : Nat → (Nat → Int32) → Int32 → (Nat → Int32) → Int32 → (Nat → Int32) → Int32 → (Nat → Int32) → Int32 → Int32 → Int32 → Int32 → Int32 → Option (Int32)
  | 0, _, _, _, _, _, _, _, _, _, _, _, _ => none
  | n + 1, t_now_rows, t_now_acts, t_images_0_rows, t_images_0_acts, t_images_1_rows, t_images_1_acts, t_images_2_rows, t_images_2_acts, v1, v2, v3, v4 => (if 8 ≤ v4 then some (-1) else (if 4 ≤ v4 then fX7_turned_98 (fX7_turned_74 n) t_now_rows t_now_acts t_images_0_rows t_images_0_acts t_images_1_rows t_images_1_acts t_images_2_rows t_images_2_acts v1 v2 v3 v4 v3 else (fX1_row t_now_rows t_now_acts).bind fun r92 => fX7_turned_98 (fX7_turned_74 n) t_now_rows t_now_acts t_images_0_rows t_images_0_acts t_images_1_rows t_images_1_acts t_images_2_rows t_images_2_acts v1 v2 v3 v4 r92))
theorem fX7_turned_74_z  (t_now_rows : Nat → Int32) (t_now_acts : Int32) (t_images_0_rows : Nat → Int32) (t_images_0_acts : Int32) (t_images_1_rows : Nat → Int32) (t_images_1_acts : Int32) (t_images_2_rows : Nat → Int32) (t_images_2_acts : Int32) (v1 : Int32) (v2 : Int32) (v3 : Int32) (v4 : Int32) : fX7_turned_74  0 t_now_rows t_now_acts t_images_0_rows t_images_0_acts t_images_1_rows t_images_1_acts t_images_2_rows t_images_2_acts v1 v2 v3 v4 = none := rfl
theorem fX7_turned_74_s  (n : Nat) (t_now_rows : Nat → Int32) (t_now_acts : Int32) (t_images_0_rows : Nat → Int32) (t_images_0_acts : Int32) (t_images_1_rows : Nat → Int32) (t_images_1_acts : Int32) (t_images_2_rows : Nat → Int32) (t_images_2_acts : Int32) (v1 : Int32) (v2 : Int32) (v3 : Int32) (v4 : Int32) : fX7_turned_74  (n + 1) t_now_rows t_now_acts t_images_0_rows t_images_0_acts t_images_1_rows t_images_1_acts t_images_2_rows t_images_2_acts v1 v2 v3 v4 = (if 8 ≤ v4 then some (-1) else (if 4 ≤ v4 then fX7_turned_98 (fX7_turned_74 n) t_now_rows t_now_acts t_images_0_rows t_images_0_acts t_images_1_rows t_images_1_acts t_images_2_rows t_images_2_acts v1 v2 v3 v4 v3 else (fX1_row t_now_rows t_now_acts).bind fun r92 => fX7_turned_98 (fX7_turned_74 n) t_now_rows t_now_acts t_images_0_rows t_images_0_acts t_images_1_rows t_images_1_acts t_images_2_rows t_images_2_acts v1 v2 v3 v4 r92)) := rfl
noncomputable def fX7_turned  (t_now_rows : Nat → Int32) (t_now_sizes : Nat → Int32) (t_now_told : Int32) (t_now_acts : Int32) (t_images_0_rows : Nat → Int32) (t_images_0_sizes : Nat → Int32) (t_images_0_told : Int32) (t_images_0_acts : Int32) (t_images_1_rows : Nat → Int32) (t_images_1_sizes : Nat → Int32) (t_images_1_told : Int32) (t_images_1_acts : Int32) (t_images_2_rows : Nat → Int32) (t_images_2_sizes : Nat → Int32) (t_images_2_told : Int32) (t_images_2_acts : Int32) (v1 : Int32) : Option (Int32) := (if t_now_told = 0 then some (-2) else (fX7_isImage v1).bind fun r2 => (if r2 = 0 then some (-2) else (if v1 = 0 then (if t_images_0_told = 0 then some (-6) else (fX1_plies t_now_sizes t_now_acts).bind fun r8 => (if v1 = 0 then (fX1_plies t_images_0_sizes t_images_0_acts).bind fun r11 => (if r11 = r8 then (fX1_row t_now_rows t_now_acts).bind fun r14 => (fX3_overturned r14 r8).bind fun r16 => fX7_turned_74 FU t_now_rows t_now_acts t_images_0_rows t_images_0_acts t_images_1_rows t_images_1_acts t_images_2_rows t_images_2_acts v1 r8 r16 0 else some (-1)) else (if v1 = 1 then (fX1_plies t_images_1_sizes t_images_1_acts).bind fun r19 => (if r19 = r8 then (fX1_row t_now_rows t_now_acts).bind fun r22 => (fX3_overturned r22 r8).bind fun r24 => fX7_turned_74 FU t_now_rows t_now_acts t_images_0_rows t_images_0_acts t_images_1_rows t_images_1_acts t_images_2_rows t_images_2_acts v1 r8 r24 0 else some (-1)) else (if v1 = 2 then (fX1_plies t_images_2_sizes t_images_2_acts).bind fun r27 => (if r27 = r8 then (fX1_row t_now_rows t_now_acts).bind fun r30 => (fX3_overturned r30 r8).bind fun r32 => fX7_turned_74 FU t_now_rows t_now_acts t_images_0_rows t_images_0_acts t_images_1_rows t_images_1_acts t_images_2_rows t_images_2_acts v1 r8 r32 0 else some (-1)) else none)))) else (if v1 = 1 then (if t_images_1_told = 0 then some (-6) else (fX1_plies t_now_sizes t_now_acts).bind fun r36 => (if v1 = 0 then (fX1_plies t_images_0_sizes t_images_0_acts).bind fun r39 => (if r39 = r36 then (fX1_row t_now_rows t_now_acts).bind fun r42 => (fX3_overturned r42 r36).bind fun r44 => fX7_turned_74 FU t_now_rows t_now_acts t_images_0_rows t_images_0_acts t_images_1_rows t_images_1_acts t_images_2_rows t_images_2_acts v1 r36 r44 0 else some (-1)) else (if v1 = 1 then (fX1_plies t_images_1_sizes t_images_1_acts).bind fun r47 => (if r47 = r36 then (fX1_row t_now_rows t_now_acts).bind fun r50 => (fX3_overturned r50 r36).bind fun r52 => fX7_turned_74 FU t_now_rows t_now_acts t_images_0_rows t_images_0_acts t_images_1_rows t_images_1_acts t_images_2_rows t_images_2_acts v1 r36 r52 0 else some (-1)) else (if v1 = 2 then (fX1_plies t_images_2_sizes t_images_2_acts).bind fun r55 => (if r55 = r36 then (fX1_row t_now_rows t_now_acts).bind fun r58 => (fX3_overturned r58 r36).bind fun r60 => fX7_turned_74 FU t_now_rows t_now_acts t_images_0_rows t_images_0_acts t_images_1_rows t_images_1_acts t_images_2_rows t_images_2_acts v1 r36 r60 0 else some (-1)) else none)))) else (if v1 = 2 then (if t_images_2_told = 0 then some (-6) else (fX1_plies t_now_sizes t_now_acts).bind fun r64 => (if v1 = 0 then (fX1_plies t_images_0_sizes t_images_0_acts).bind fun r67 => (if r67 = r64 then (fX1_row t_now_rows t_now_acts).bind fun r70 => (fX3_overturned r70 r64).bind fun r72 => fX7_turned_74 FU t_now_rows t_now_acts t_images_0_rows t_images_0_acts t_images_1_rows t_images_1_acts t_images_2_rows t_images_2_acts v1 r64 r72 0 else some (-1)) else (if v1 = 1 then (fX1_plies t_images_1_sizes t_images_1_acts).bind fun r75 => (if r75 = r64 then (fX1_row t_now_rows t_now_acts).bind fun r78 => (fX3_overturned r78 r64).bind fun r80 => fX7_turned_74 FU t_now_rows t_now_acts t_images_0_rows t_images_0_acts t_images_1_rows t_images_1_acts t_images_2_rows t_images_2_acts v1 r64 r80 0 else some (-1)) else (if v1 = 2 then (fX1_plies t_images_2_sizes t_images_2_acts).bind fun r83 => (if r83 = r64 then (fX1_row t_now_rows t_now_acts).bind fun r86 => (fX3_overturned r86 r64).bind fun r88 => fX7_turned_74 FU t_now_rows t_now_acts t_images_0_rows t_images_0_acts t_images_1_rows t_images_1_acts t_images_2_rows t_images_2_acts v1 r64 r88 0 else some (-1)) else none)))) else none)))))
set_option maxHeartbeats 4000000 in
set_option maxRecDepth 100000 in
theorem ctX7_turned (l : Launch) (g : GT) (a_t : Nat → Nat) (a_t_tape : Nat → Nat) (a_t_reader : Nat → Nat) (a_t_now : Nat → Nat) (a_t_choices : Nat → Nat) (a_t_ways : Nat → Nat) (a_t_stress : Nat → Nat) (a_t_images_0 : Nat → Nat) (a_t_images_1 : Nat → Nat) (a_t_images_2 : Nat → Nat) (t_now_told : Int32) (t_now_lines : Int32) (t_now_kinds : Int32) (t_now_acts : Int32) (t_now_rows : Nat → Int32) (t_now_sizes : Nat → Int32) (t_images_0_told : Int32) (t_images_0_lines : Int32) (t_images_0_kinds : Int32) (t_images_0_acts : Int32) (t_images_0_rows : Nat → Int32) (t_images_0_sizes : Nat → Int32) (t_images_1_told : Int32) (t_images_1_lines : Int32) (t_images_1_kinds : Int32) (t_images_1_acts : Int32) (t_images_1_rows : Nat → Int32) (t_images_1_sizes : Nat → Int32) (t_images_2_told : Int32) (t_images_2_lines : Int32) (t_images_2_kinds : Int32) (t_images_2_acts : Int32) (t_images_2_rows : Nat → Int32) (t_images_2_sizes : Nat → Int32) (v1 : Int32) (o : Int32) (h : fX7_turned t_now_rows t_now_sizes t_now_told t_now_acts t_images_0_rows t_images_0_sizes t_images_0_told t_images_0_acts t_images_1_rows t_images_1_sizes t_images_1_told t_images_1_acts t_images_2_rows t_images_2_sizes t_images_2_told t_images_2_acts v1 = some o) : Met l yX7_turned (Cond.code yX7_turned cX7_turned 6 (some .int) :: Tw) ⟨2, 0, 0, 48⟩ (va_Pc [.ref ((a_t 0)), .int v1] (roB g [((a_t 0), .inr (6, [.ref (a_t_tape 0), .ref (a_t_reader 0), .ref (a_t_now 0), .ref (a_t 4), .ref (a_t_choices 0), .ref (a_t_ways 0), .ref (a_t_stress 0)])), ((a_t_now 0), .inr (1, [.ref (a_t_now 1), .ref (a_t_now 2), .ref (a_t_now 3), .ref (a_t_now 4), .ref (a_t_now 5), .int t_now_told, .int t_now_lines, .int t_now_kinds, .int t_now_acts])), ((a_t_now 3), .inl (g.2.2.1 0, 31, .inl t_now_rows)), ((a_t_now 4), .inl (g.2.2.1 0, 31, .inl t_now_sizes)), ((a_t 4), .inl (g.2.2.1 4, 3, .inr (.inr (.inr (.inr (iF (a_t_images_0 0) (a_t_images_1 0) (a_t_images_2 0))))))), ((a_t_images_0 0), .inr (1, [.ref (a_t_images_0 1), .ref (a_t_images_0 2), .ref (a_t_images_0 3), .ref (a_t_images_0 4), .ref (a_t_images_0 5), .int t_images_0_told, .int t_images_0_lines, .int t_images_0_kinds, .int t_images_0_acts])), ((a_t_images_0 3), .inl (g.2.2.1 0, 31, .inl t_images_0_rows)), ((a_t_images_0 4), .inl (g.2.2.1 0, 31, .inl t_images_0_sizes)), ((a_t_images_1 0), .inr (1, [.ref (a_t_images_1 1), .ref (a_t_images_1 2), .ref (a_t_images_1 3), .ref (a_t_images_1 4), .ref (a_t_images_1 5), .int t_images_1_told, .int t_images_1_lines, .int t_images_1_kinds, .int t_images_1_acts])), ((a_t_images_1 3), .inl (g.2.2.1 0, 31, .inl t_images_1_rows)), ((a_t_images_1 4), .inl (g.2.2.1 0, 31, .inl t_images_1_sizes)), ((a_t_images_2 0), .inr (1, [.ref (a_t_images_2 1), .ref (a_t_images_2 2), .ref (a_t_images_2 3), .ref (a_t_images_2 4), .ref (a_t_images_2 5), .int t_images_2_told, .int t_images_2_lines, .int t_images_2_kinds, .int t_images_2_acts])), ((a_t_images_2 3), .inl (g.2.2.1 0, 31, .inl t_images_2_rows)), ((a_t_images_2 4), .inl (g.2.2.1 0, 31, .inl t_images_2_sizes))])) (vp_Si (fun x => x = o)) 0 0 (fun _ => False) := by
  refine ro_meti (by decide) (Nat.le_of_ble_eq_true rfl) (lv0 := [(0, .ref ((a_t 0))), (1, .int v1)]) rfl ?_
  intro p e s m args below meth c ls Q cx hret hG hP hl
  have hx := cx.1
  have hb := cx.2.1
  have hG0 := hG
  have w98 : ∀ (k74 : (Nat → Int32) → Int32 → (Nat → Int32) → Int32 → (Nat → Int32) → Int32 → (Nat → Int32) → Int32 → Int32 → Int32 → Int32 → Int32 → Option (Int32)) (hk74 : ∀ (v1 : Int32) (v2 : Int32) (v3 : Int32) (v4 : Int32) (ls : Array Slot), lv_has ls 6 [(0, .ref ((a_t 0))), (1, .int v1), (2, .int v2), (3, .int v3), (4, .int v4)] → k74 t_now_rows t_now_acts t_images_0_rows t_images_0_acts t_images_1_rows t_images_1_acts t_images_2_rows t_images_2_acts v1 v2 v3 v4 = some o → W p l e ⟨2, 0, 0, 48⟩ s m args below meth c s.heap [] 0 0 Q (F0 m 74 ls [])) (v1 : Int32) (v2 : Int32) (v3 : Int32) (v4 : Int32) (z0 : Int32) (ls : Array Slot), lv_has ls 6 [(0, .ref ((a_t 0))), (1, .int v1), (2, .int v2), (3, .int v3), (4, .int v4)] → fX7_turned_98 k74 t_now_rows t_now_acts t_images_0_rows t_images_0_acts t_images_1_rows t_images_1_acts t_images_2_rows t_images_2_acts v1 v2 v3 v4 z0 = some o → W p l e ⟨2, 0, 0, 48⟩ s m args below meth c s.heap [] 0 0 Q (F0 m 98 ls [.int z0]) := by
    intro k74 hk74 v1 v2 v3 v4 z0 ls hl h
    unfold fX7_turned_98 at h
    refine lv_istore (lv' := [(5, .int z0), (0, .ref ((a_t 0))), (1, .int v1), (2, .int v2), (3, .int v3), (4, .int v4)]) hx hb dX7_turned_98 hl (by decide) rfl (fun ls hl => ?_)
    refine lv_iload hx hb dX7_turned_100 (lv_at hl 0 rfl) ?_
    refine lv_iload_n hx hb dX7_turned_102 rfl (lv_at hl 3 rfl) ?_
    refine lv_iload hx hb dX7_turned_103 (lv_at hl 5 rfl) ?_
    refine lv_iconst (v := 4) hx hb dX7_turned_105 (by decide) ?_
    refine xv_irem hx hb dX7_turned_106 (by decide) ?_
    obtain ⟨r94, hr95, h⟩ := bnd h
    refine ro_i (runSN (As := [.int z0, .int v2, .int (irem v4 4)]) (rest := []) hG cx hl.1 (ctX3_whirled l g z0 v2 (irem v4 4) r94 hr95) kmX3_whirled ksX3_whirled nm_101 ⟨rfl, rfl⟩ ⟨Nat.le_of_ble_eq_true rfl, Nat.le_of_ble_eq_true rfl⟩ (roS hG (hP.sub [] rfl)) rfl rfl (Nat.le_of_ble_eq_true rfl) dX7_turned_107 ⟨Nat.le_of_ble_eq_true rfl, Nat.le_of_ble_eq_true rfl⟩) ?_
    refine lv_aload_n hx hb dX7_turned_110 rfl (lv_at hl 1 rfl) ?_
    refine xa_get (C := RX7) (T := TX7) (N := 7) cx hG hP 0 rfl rfl uX7 3 (by decide) lf_X7_34 rfl dX7_turned_111 ?_
    refine lv_iload_n hx hb dX7_turned_114 rfl (lv_at hl 2 rfl) ?_
    by_cases e96 : v1 = 0
    · have h := itp e96 h
      refine xa_ald3 (k := 0) cx hG hP 4 rfl (by rw [e96]; decide) rfl dX7_turned_115 ?_
      obtain ⟨r97, hr98, h⟩ := bnd h
      refine ro_i (runVN (As := []) (rest := [.int r94]) hG cx hl.1 (ctX1_row l g a_t_images_0 t_images_0_told t_images_0_lines t_images_0_kinds t_images_0_acts t_images_0_rows r97 hr98) kmX1_row kvX1_row nm_25 ⟨rfl, rfl⟩ ⟨Nat.le_of_ble_eq_true rfl, Nat.le_of_ble_eq_true rfl⟩ (roV (q0 := 5) (ci := 1) hG (hP.sub [5, 6] rfl) hP rfl rfl) rfl rfl (Nat.le_of_ble_eq_true rfl) dX7_turned_116 ⟨Nat.le_of_ble_eq_true rfl, Nat.le_of_ble_eq_true rfl⟩) ?_
      refine lv_icmp_ne (tgt := 125) hx hb dX7_turned_119 (by decide) (fun c99 => ?_) (fun c99 => ?_)
      · have h := itn c99 h
        refine lv_iinc (v := v4 + 1) (lv' := [(4, .int (v4 + 1)), (5, .int z0), (0, .ref ((a_t 0))), (1, .int v1), (2, .int v2), (3, .int v3)]) hx hb dX7_turned_125 hl (k := 5) rfl rfl (by decide) rfl (fun ls hl => ?_)
        refine lv_goto (tgt := 74) hx hb dX7_turned_128 (by decide) ?_
        exact hk74 v1 v2 v3 (v4 + 1) _ (lv_sub hl [2, 3, 4, 5, 0] rfl) h
      · have h := itp c99 h
        refine lv_iload hx hb dX7_turned_122 (lv_at hl 5 rfl) ?_
        exact hret _ _ _ dX7_turned_124 (Option.some.inj h)
    · have h := itn e96 h
      by_cases e100 : v1 = 1
      · have h := itp e100 h
        refine xa_ald3 (k := 1) cx hG hP 4 rfl (by rw [e100]; decide) rfl dX7_turned_115 ?_
        obtain ⟨r101, hr102, h⟩ := bnd h
        refine ro_i (runVN (As := []) (rest := [.int r94]) hG cx hl.1 (ctX1_row l g a_t_images_1 t_images_1_told t_images_1_lines t_images_1_kinds t_images_1_acts t_images_1_rows r101 hr102) kmX1_row kvX1_row nm_25 ⟨rfl, rfl⟩ ⟨Nat.le_of_ble_eq_true rfl, Nat.le_of_ble_eq_true rfl⟩ (roV (q0 := 8) (ci := 1) hG (hP.sub [8, 9] rfl) hP rfl rfl) rfl rfl (Nat.le_of_ble_eq_true rfl) dX7_turned_116 ⟨Nat.le_of_ble_eq_true rfl, Nat.le_of_ble_eq_true rfl⟩) ?_
        refine lv_icmp_ne (tgt := 125) hx hb dX7_turned_119 (by decide) (fun c103 => ?_) (fun c103 => ?_)
        · have h := itn c103 h
          refine lv_iinc (v := v4 + 1) (lv' := [(4, .int (v4 + 1)), (5, .int z0), (0, .ref ((a_t 0))), (1, .int v1), (2, .int v2), (3, .int v3)]) hx hb dX7_turned_125 hl (k := 5) rfl rfl (by decide) rfl (fun ls hl => ?_)
          refine lv_goto (tgt := 74) hx hb dX7_turned_128 (by decide) ?_
          exact hk74 v1 v2 v3 (v4 + 1) _ (lv_sub hl [2, 3, 4, 5, 0] rfl) h
        · have h := itp c103 h
          refine lv_iload hx hb dX7_turned_122 (lv_at hl 5 rfl) ?_
          exact hret _ _ _ dX7_turned_124 (Option.some.inj h)
      · have h := itn e100 h
        by_cases e104 : v1 = 2
        · have h := itp e104 h
          refine xa_ald3 (k := 2) cx hG hP 4 rfl (by rw [e104]; decide) rfl dX7_turned_115 ?_
          obtain ⟨r105, hr106, h⟩ := bnd h
          refine ro_i (runVN (As := []) (rest := [.int r94]) hG cx hl.1 (ctX1_row l g a_t_images_2 t_images_2_told t_images_2_lines t_images_2_kinds t_images_2_acts t_images_2_rows r105 hr106) kmX1_row kvX1_row nm_25 ⟨rfl, rfl⟩ ⟨Nat.le_of_ble_eq_true rfl, Nat.le_of_ble_eq_true rfl⟩ (roV (q0 := 11) (ci := 1) hG (hP.sub [11, 12] rfl) hP rfl rfl) rfl rfl (Nat.le_of_ble_eq_true rfl) dX7_turned_116 ⟨Nat.le_of_ble_eq_true rfl, Nat.le_of_ble_eq_true rfl⟩) ?_
          refine lv_icmp_ne (tgt := 125) hx hb dX7_turned_119 (by decide) (fun c107 => ?_) (fun c107 => ?_)
          · have h := itn c107 h
            refine lv_iinc (v := v4 + 1) (lv' := [(4, .int (v4 + 1)), (5, .int z0), (0, .ref ((a_t 0))), (1, .int v1), (2, .int v2), (3, .int v3)]) hx hb dX7_turned_125 hl (k := 5) rfl rfl (by decide) rfl (fun ls hl => ?_)
            refine lv_goto (tgt := 74) hx hb dX7_turned_128 (by decide) ?_
            exact hk74 v1 v2 v3 (v4 + 1) _ (lv_sub hl [2, 3, 4, 5, 0] rfl) h
          · have h := itp c107 h
            refine lv_iload hx hb dX7_turned_122 (lv_at hl 5 rfl) ?_
            exact hret _ _ _ dX7_turned_124 (Option.some.inj h)
        · have h := itn e104 h
          cases h
  have w74 : ∀ (n : Nat) (v1 : Int32) (v2 : Int32) (v3 : Int32) (v4 : Int32) (ls : Array Slot), lv_has ls 6 [(0, .ref ((a_t 0))), (1, .int v1), (2, .int v2), (3, .int v3), (4, .int v4)] → fX7_turned_74  n t_now_rows t_now_acts t_images_0_rows t_images_0_acts t_images_1_rows t_images_1_acts t_images_2_rows t_images_2_acts v1 v2 v3 v4 = some o → W p l e ⟨2, 0, 0, 48⟩ s m args below meth c s.heap [] 0 0 Q (F0 m 74 ls []) := by
    intro n
    induction n with
    | zero => intro v1 v2 v3 v4 ls hl h; cases (fX7_turned_74_z  t_now_rows t_now_acts t_images_0_rows t_images_0_acts t_images_1_rows t_images_1_acts t_images_2_rows t_images_2_acts v1 v2 v3 v4).symm.trans h
    | succ n ih =>
    intro v1 v2 v3 v4 ls hl h
    have h := (fX7_turned_74_s  n t_now_rows t_now_acts t_images_0_rows t_images_0_acts t_images_1_rows t_images_1_acts t_images_2_rows t_images_2_acts v1 v2 v3 v4).symm.trans h
    refine lv_iload hx hb dX7_turned_74 (lv_at hl 4 rfl) ?_
    refine lv_bipush (v := 8) hx hb dX7_turned_76 (by decide) ?_
    refine lv_icmp_ge (tgt := 131) hx hb dX7_turned_78 (by decide) (fun c90 => ?_) (fun c90 => ?_)
    · have h := itp c90 h
      refine lv_iconst (v := -1) hx hb dX7_turned_131 (by decide) ?_
      exact hret _ _ _ dX7_turned_132 (Option.some.inj h)
    · have h := itn c90 h
      refine lv_iload hx hb dX7_turned_81 (lv_at hl 4 rfl) ?_
      refine lv_iconst (v := 4) hx hb dX7_turned_83 (by decide) ?_
      refine lv_icmp_ge (tgt := 97) hx hb dX7_turned_84 (by decide) (fun c91 => ?_) (fun c91 => ?_)
      · have h := itp c91 h
        refine lv_iload_n hx hb dX7_turned_97 rfl (lv_at hl 3 rfl) ?_
        exact w98 _ ih v1 v2 v3 v4 v3 _ (lv_sub hl [0, 1, 2, 3, 4] rfl) h
      · have h := itn c91 h
        refine lv_aload_n hx hb dX7_turned_87 rfl (lv_at hl 0 rfl) ?_
        refine xa_get (C := RX7) (T := TX7) (N := 7) cx hG hP 0 rfl rfl uX7 2 (by decide) lf_X7_30 rfl dX7_turned_88 ?_
        obtain ⟨r92, hr93, h⟩ := bnd h
        refine ro_i (runVN (As := []) (rest := []) hG cx hl.1 (ctX1_row l g a_t_now t_now_told t_now_lines t_now_kinds t_now_acts t_now_rows r92 hr93) kmX1_row kvX1_row nm_25 ⟨rfl, rfl⟩ ⟨Nat.le_of_ble_eq_true rfl, Nat.le_of_ble_eq_true rfl⟩ (roV (q0 := 1) (ci := 1) hG (hP.sub [1, 2] rfl) hP rfl rfl) rfl rfl (Nat.le_of_ble_eq_true rfl) dX7_turned_91 ⟨Nat.le_of_ble_eq_true rfl, Nat.le_of_ble_eq_true rfl⟩) ?_
        refine lv_goto (tgt := 98) hx hb dX7_turned_94 (by decide) ?_
        exact w98 _ ih v1 v2 v3 v4 r92 _ (lv_sub hl [0, 1, 2, 3, 4] rfl) h
  unfold fX7_turned at h
  refine lv_aload_n hx hb dX7_turned_0 rfl (lv_at hl 0 rfl) ?_
  refine xa_get (C := RX7) (T := TX7) (N := 7) cx hG hP 0 rfl rfl uX7 2 (by decide) lf_X7_30 rfl dX7_turned_1 ?_
  refine xa_getN (C := RX1) (T := TX1) (N := 9) cx hG hP 1 rfl rfl uX1 5 (by decide) nf_5 rfl dX7_turned_4 ?_
  refine lv_if_eq (tgt := 18) hx hb dX7_turned_7 (by decide) (fun c1 => ?_) (fun c1 => ?_)
  · have h := itp c1 h
    refine lv_bipush (v := -2) hx hb dX7_turned_18 (by decide) ?_
    exact hret _ _ _ dX7_turned_20 (Option.some.inj h)
  · have h := itn c1 h
    refine lv_aload_n hx hb dX7_turned_10 rfl (lv_at hl 0 rfl) ?_
    refine lv_iload_n hx hb dX7_turned_11 rfl (lv_at hl 1 rfl) ?_
    obtain ⟨r2, hr3, h⟩ := bnd h
    refine ro_z (runV (As := [.int v1]) (rest := []) cx hl.1 (ctX7_isImage l g a_t a_t_tape a_t_reader a_t_now a_t_choices a_t_ways a_t_stress a_t_images_0 a_t_images_1 a_t_images_2 v1 r2 hr3) kmX7_isImage kvX7_isImage lm_X7_357 ⟨rfl, rfl⟩ ⟨Nat.le_of_ble_eq_true rfl, Nat.le_of_ble_eq_true rfl⟩ (roV (q0 := 0) (ci := 6) hG (hP.sub [0, 4] rfl) hP rfl rfl) rfl rfl (Nat.le_of_ble_eq_true rfl) dX7_turned_12 ⟨Nat.le_of_ble_eq_true rfl, Nat.le_of_ble_eq_true rfl⟩) (fun hz4 => ?_)
    refine lv_if_ne (tgt := 21) hx hb dX7_turned_15 (by decide) (fun c5 => ?_) (fun c5 => ?_)
    · have h := itn c5 h
      refine lv_aload_n hx hb dX7_turned_21 rfl (lv_at hl 0 rfl) ?_
      refine xa_get (C := RX7) (T := TX7) (N := 7) cx hG hP 0 rfl rfl uX7 3 (by decide) lf_X7_34 rfl dX7_turned_22 ?_
      refine lv_iload_n hx hb dX7_turned_25 rfl (lv_at hl 1 rfl) ?_
      by_cases e6 : v1 = 0
      · have h := itp e6 h
        refine xa_ald3 (k := 0) cx hG hP 4 rfl (by rw [e6]; decide) rfl dX7_turned_26 ?_
        refine xa_getN (C := RX1) (T := TX1) (N := 9) cx hG hP 5 rfl rfl uX1 5 (by decide) nf_5 rfl dX7_turned_27 ?_
        refine lv_if_ne (tgt := 36) hx hb dX7_turned_30 (by decide) (fun c7 => ?_) (fun c7 => ?_)
        · have h := itn c7 h
          refine lv_aload_n hx hb dX7_turned_36 rfl (lv_at hl 0 rfl) ?_
          refine xa_get (C := RX7) (T := TX7) (N := 7) cx hG hP 0 rfl rfl uX7 2 (by decide) lf_X7_30 rfl dX7_turned_37 ?_
          obtain ⟨r8, hr9, h⟩ := bnd h
          refine ro_i (runVN (As := []) (rest := []) hG cx hl.1 (ctX1_plies l g a_t_now t_now_told t_now_lines t_now_kinds t_now_acts t_now_sizes r8 hr9) kmX1_plies kvX1_plies nm_17 ⟨rfl, rfl⟩ ⟨Nat.le_of_ble_eq_true rfl, Nat.le_of_ble_eq_true rfl⟩ (roV (q0 := 1) (ci := 1) hG (hP.sub [1, 3] rfl) hP rfl rfl) rfl rfl (Nat.le_of_ble_eq_true rfl) dX7_turned_40 ⟨Nat.le_of_ble_eq_true rfl, Nat.le_of_ble_eq_true rfl⟩) ?_
          refine lv_istore_n (lv' := [(2, .int r8), (0, .ref ((a_t 0))), (1, .int v1)]) hx hb dX7_turned_43 rfl hl (by decide) rfl (fun ls hl => ?_)
          refine lv_aload_n hx hb dX7_turned_44 rfl (lv_at hl 1 rfl) ?_
          refine xa_get (C := RX7) (T := TX7) (N := 7) cx hG hP 0 rfl rfl uX7 3 (by decide) lf_X7_34 rfl dX7_turned_45 ?_
          refine lv_iload_n hx hb dX7_turned_48 rfl (lv_at hl 2 rfl) ?_
          by_cases e10 : v1 = 0
          · have h := itp e10 h
            refine xa_ald3 (k := 0) cx hG hP 4 rfl (by rw [e10]; decide) rfl dX7_turned_49 ?_
            obtain ⟨r11, hr12, h⟩ := bnd h
            refine ro_i (runVN (As := []) (rest := []) hG cx hl.1 (ctX1_plies l g a_t_images_0 t_images_0_told t_images_0_lines t_images_0_kinds t_images_0_acts t_images_0_sizes r11 hr12) kmX1_plies kvX1_plies nm_17 ⟨rfl, rfl⟩ ⟨Nat.le_of_ble_eq_true rfl, Nat.le_of_ble_eq_true rfl⟩ (roV (q0 := 5) (ci := 1) hG (hP.sub [5, 7] rfl) hP rfl rfl) rfl rfl (Nat.le_of_ble_eq_true rfl) dX7_turned_50 ⟨Nat.le_of_ble_eq_true rfl, Nat.le_of_ble_eq_true rfl⟩) ?_
            refine lv_iload_n hx hb dX7_turned_53 rfl (lv_at hl 0 rfl) ?_
            refine lv_icmp_eq (tgt := 59) hx hb dX7_turned_54 (by decide) (fun c13 => ?_) (fun c13 => ?_)
            · have h := itp c13 h
              refine lv_aload_n hx hb dX7_turned_59 rfl (lv_at hl 1 rfl) ?_
              refine xa_get (C := RX7) (T := TX7) (N := 7) cx hG hP 0 rfl rfl uX7 2 (by decide) lf_X7_30 rfl dX7_turned_60 ?_
              obtain ⟨r14, hr15, h⟩ := bnd h
              refine ro_i (runVN (As := []) (rest := []) hG cx hl.1 (ctX1_row l g a_t_now t_now_told t_now_lines t_now_kinds t_now_acts t_now_rows r14 hr15) kmX1_row kvX1_row nm_25 ⟨rfl, rfl⟩ ⟨Nat.le_of_ble_eq_true rfl, Nat.le_of_ble_eq_true rfl⟩ (roV (q0 := 1) (ci := 1) hG (hP.sub [1, 2] rfl) hP rfl rfl) rfl rfl (Nat.le_of_ble_eq_true rfl) dX7_turned_63 ⟨Nat.le_of_ble_eq_true rfl, Nat.le_of_ble_eq_true rfl⟩) ?_
              refine lv_iload_n hx hb dX7_turned_66 rfl (lv_at hl 0 rfl) ?_
              obtain ⟨r16, hr17, h⟩ := bnd h
              refine ro_i (runSN (As := [.int r14, .int r8]) (rest := []) hG cx hl.1 (ctX3_overturned l g r14 r8 r16 hr17) kmX3_overturned ksX3_overturned nm_102 ⟨rfl, rfl⟩ ⟨Nat.le_of_ble_eq_true rfl, Nat.le_of_ble_eq_true rfl⟩ (roS hG (hP.sub [] rfl)) rfl rfl (Nat.le_of_ble_eq_true rfl) dX7_turned_67 ⟨Nat.le_of_ble_eq_true rfl, Nat.le_of_ble_eq_true rfl⟩) ?_
              refine lv_istore_n (lv' := [(3, .int r16), (2, .int r8), (0, .ref ((a_t 0))), (1, .int v1)]) hx hb dX7_turned_70 rfl hl (by decide) rfl (fun ls hl => ?_)
              refine lv_iconst (v := 0) hx hb dX7_turned_71 (by decide) ?_
              refine lv_istore (lv' := [(4, .int (0)), (3, .int r16), (2, .int r8), (0, .ref ((a_t 0))), (1, .int v1)]) hx hb dX7_turned_72 hl (by decide) rfl (fun ls hl => ?_)
              exact w74 FU v1 r8 r16 0 _ (lv_sub hl [3, 4, 2, 1, 0] rfl) h
            · have h := itn c13 h
              refine lv_iconst (v := -1) hx hb dX7_turned_57 (by decide) ?_
              exact hret _ _ _ dX7_turned_58 (Option.some.inj h)
          · have h := itn e10 h
            by_cases e18 : v1 = 1
            · have h := itp e18 h
              refine xa_ald3 (k := 1) cx hG hP 4 rfl (by rw [e18]; decide) rfl dX7_turned_49 ?_
              obtain ⟨r19, hr20, h⟩ := bnd h
              refine ro_i (runVN (As := []) (rest := []) hG cx hl.1 (ctX1_plies l g a_t_images_1 t_images_1_told t_images_1_lines t_images_1_kinds t_images_1_acts t_images_1_sizes r19 hr20) kmX1_plies kvX1_plies nm_17 ⟨rfl, rfl⟩ ⟨Nat.le_of_ble_eq_true rfl, Nat.le_of_ble_eq_true rfl⟩ (roV (q0 := 8) (ci := 1) hG (hP.sub [8, 10] rfl) hP rfl rfl) rfl rfl (Nat.le_of_ble_eq_true rfl) dX7_turned_50 ⟨Nat.le_of_ble_eq_true rfl, Nat.le_of_ble_eq_true rfl⟩) ?_
              refine lv_iload_n hx hb dX7_turned_53 rfl (lv_at hl 0 rfl) ?_
              refine lv_icmp_eq (tgt := 59) hx hb dX7_turned_54 (by decide) (fun c21 => ?_) (fun c21 => ?_)
              · have h := itp c21 h
                refine lv_aload_n hx hb dX7_turned_59 rfl (lv_at hl 1 rfl) ?_
                refine xa_get (C := RX7) (T := TX7) (N := 7) cx hG hP 0 rfl rfl uX7 2 (by decide) lf_X7_30 rfl dX7_turned_60 ?_
                obtain ⟨r22, hr23, h⟩ := bnd h
                refine ro_i (runVN (As := []) (rest := []) hG cx hl.1 (ctX1_row l g a_t_now t_now_told t_now_lines t_now_kinds t_now_acts t_now_rows r22 hr23) kmX1_row kvX1_row nm_25 ⟨rfl, rfl⟩ ⟨Nat.le_of_ble_eq_true rfl, Nat.le_of_ble_eq_true rfl⟩ (roV (q0 := 1) (ci := 1) hG (hP.sub [1, 2] rfl) hP rfl rfl) rfl rfl (Nat.le_of_ble_eq_true rfl) dX7_turned_63 ⟨Nat.le_of_ble_eq_true rfl, Nat.le_of_ble_eq_true rfl⟩) ?_
                refine lv_iload_n hx hb dX7_turned_66 rfl (lv_at hl 0 rfl) ?_
                obtain ⟨r24, hr25, h⟩ := bnd h
                refine ro_i (runSN (As := [.int r22, .int r8]) (rest := []) hG cx hl.1 (ctX3_overturned l g r22 r8 r24 hr25) kmX3_overturned ksX3_overturned nm_102 ⟨rfl, rfl⟩ ⟨Nat.le_of_ble_eq_true rfl, Nat.le_of_ble_eq_true rfl⟩ (roS hG (hP.sub [] rfl)) rfl rfl (Nat.le_of_ble_eq_true rfl) dX7_turned_67 ⟨Nat.le_of_ble_eq_true rfl, Nat.le_of_ble_eq_true rfl⟩) ?_
                refine lv_istore_n (lv' := [(3, .int r24), (2, .int r8), (0, .ref ((a_t 0))), (1, .int v1)]) hx hb dX7_turned_70 rfl hl (by decide) rfl (fun ls hl => ?_)
                refine lv_iconst (v := 0) hx hb dX7_turned_71 (by decide) ?_
                refine lv_istore (lv' := [(4, .int (0)), (3, .int r24), (2, .int r8), (0, .ref ((a_t 0))), (1, .int v1)]) hx hb dX7_turned_72 hl (by decide) rfl (fun ls hl => ?_)
                exact w74 FU v1 r8 r24 0 _ (lv_sub hl [3, 4, 2, 1, 0] rfl) h
              · have h := itn c21 h
                refine lv_iconst (v := -1) hx hb dX7_turned_57 (by decide) ?_
                exact hret _ _ _ dX7_turned_58 (Option.some.inj h)
            · have h := itn e18 h
              by_cases e26 : v1 = 2
              · have h := itp e26 h
                refine xa_ald3 (k := 2) cx hG hP 4 rfl (by rw [e26]; decide) rfl dX7_turned_49 ?_
                obtain ⟨r27, hr28, h⟩ := bnd h
                refine ro_i (runVN (As := []) (rest := []) hG cx hl.1 (ctX1_plies l g a_t_images_2 t_images_2_told t_images_2_lines t_images_2_kinds t_images_2_acts t_images_2_sizes r27 hr28) kmX1_plies kvX1_plies nm_17 ⟨rfl, rfl⟩ ⟨Nat.le_of_ble_eq_true rfl, Nat.le_of_ble_eq_true rfl⟩ (roV (q0 := 11) (ci := 1) hG (hP.sub [11, 13] rfl) hP rfl rfl) rfl rfl (Nat.le_of_ble_eq_true rfl) dX7_turned_50 ⟨Nat.le_of_ble_eq_true rfl, Nat.le_of_ble_eq_true rfl⟩) ?_
                refine lv_iload_n hx hb dX7_turned_53 rfl (lv_at hl 0 rfl) ?_
                refine lv_icmp_eq (tgt := 59) hx hb dX7_turned_54 (by decide) (fun c29 => ?_) (fun c29 => ?_)
                · have h := itp c29 h
                  refine lv_aload_n hx hb dX7_turned_59 rfl (lv_at hl 1 rfl) ?_
                  refine xa_get (C := RX7) (T := TX7) (N := 7) cx hG hP 0 rfl rfl uX7 2 (by decide) lf_X7_30 rfl dX7_turned_60 ?_
                  obtain ⟨r30, hr31, h⟩ := bnd h
                  refine ro_i (runVN (As := []) (rest := []) hG cx hl.1 (ctX1_row l g a_t_now t_now_told t_now_lines t_now_kinds t_now_acts t_now_rows r30 hr31) kmX1_row kvX1_row nm_25 ⟨rfl, rfl⟩ ⟨Nat.le_of_ble_eq_true rfl, Nat.le_of_ble_eq_true rfl⟩ (roV (q0 := 1) (ci := 1) hG (hP.sub [1, 2] rfl) hP rfl rfl) rfl rfl (Nat.le_of_ble_eq_true rfl) dX7_turned_63 ⟨Nat.le_of_ble_eq_true rfl, Nat.le_of_ble_eq_true rfl⟩) ?_
                  refine lv_iload_n hx hb dX7_turned_66 rfl (lv_at hl 0 rfl) ?_
                  obtain ⟨r32, hr33, h⟩ := bnd h
                  refine ro_i (runSN (As := [.int r30, .int r8]) (rest := []) hG cx hl.1 (ctX3_overturned l g r30 r8 r32 hr33) kmX3_overturned ksX3_overturned nm_102 ⟨rfl, rfl⟩ ⟨Nat.le_of_ble_eq_true rfl, Nat.le_of_ble_eq_true rfl⟩ (roS hG (hP.sub [] rfl)) rfl rfl (Nat.le_of_ble_eq_true rfl) dX7_turned_67 ⟨Nat.le_of_ble_eq_true rfl, Nat.le_of_ble_eq_true rfl⟩) ?_
                  refine lv_istore_n (lv' := [(3, .int r32), (2, .int r8), (0, .ref ((a_t 0))), (1, .int v1)]) hx hb dX7_turned_70 rfl hl (by decide) rfl (fun ls hl => ?_)
                  refine lv_iconst (v := 0) hx hb dX7_turned_71 (by decide) ?_
                  refine lv_istore (lv' := [(4, .int (0)), (3, .int r32), (2, .int r8), (0, .ref ((a_t 0))), (1, .int v1)]) hx hb dX7_turned_72 hl (by decide) rfl (fun ls hl => ?_)
                  exact w74 FU v1 r8 r32 0 _ (lv_sub hl [3, 4, 2, 1, 0] rfl) h
                · have h := itn c29 h
                  refine lv_iconst (v := -1) hx hb dX7_turned_57 (by decide) ?_
                  exact hret _ _ _ dX7_turned_58 (Option.some.inj h)
              · have h := itn e26 h
                cases h
        · have h := itp c7 h
          refine lv_bipush (v := -6) hx hb dX7_turned_33 (by decide) ?_
          exact hret _ _ _ dX7_turned_35 (Option.some.inj h)
      · have h := itn e6 h
        by_cases e34 : v1 = 1
        · have h := itp e34 h
          refine xa_ald3 (k := 1) cx hG hP 4 rfl (by rw [e34]; decide) rfl dX7_turned_26 ?_
          refine xa_getN (C := RX1) (T := TX1) (N := 9) cx hG hP 8 rfl rfl uX1 5 (by decide) nf_5 rfl dX7_turned_27 ?_
          refine lv_if_ne (tgt := 36) hx hb dX7_turned_30 (by decide) (fun c35 => ?_) (fun c35 => ?_)
          · have h := itn c35 h
            refine lv_aload_n hx hb dX7_turned_36 rfl (lv_at hl 0 rfl) ?_
            refine xa_get (C := RX7) (T := TX7) (N := 7) cx hG hP 0 rfl rfl uX7 2 (by decide) lf_X7_30 rfl dX7_turned_37 ?_
            obtain ⟨r36, hr37, h⟩ := bnd h
            refine ro_i (runVN (As := []) (rest := []) hG cx hl.1 (ctX1_plies l g a_t_now t_now_told t_now_lines t_now_kinds t_now_acts t_now_sizes r36 hr37) kmX1_plies kvX1_plies nm_17 ⟨rfl, rfl⟩ ⟨Nat.le_of_ble_eq_true rfl, Nat.le_of_ble_eq_true rfl⟩ (roV (q0 := 1) (ci := 1) hG (hP.sub [1, 3] rfl) hP rfl rfl) rfl rfl (Nat.le_of_ble_eq_true rfl) dX7_turned_40 ⟨Nat.le_of_ble_eq_true rfl, Nat.le_of_ble_eq_true rfl⟩) ?_
            refine lv_istore_n (lv' := [(2, .int r36), (0, .ref ((a_t 0))), (1, .int v1)]) hx hb dX7_turned_43 rfl hl (by decide) rfl (fun ls hl => ?_)
            refine lv_aload_n hx hb dX7_turned_44 rfl (lv_at hl 1 rfl) ?_
            refine xa_get (C := RX7) (T := TX7) (N := 7) cx hG hP 0 rfl rfl uX7 3 (by decide) lf_X7_34 rfl dX7_turned_45 ?_
            refine lv_iload_n hx hb dX7_turned_48 rfl (lv_at hl 2 rfl) ?_
            by_cases e38 : v1 = 0
            · have h := itp e38 h
              refine xa_ald3 (k := 0) cx hG hP 4 rfl (by rw [e38]; decide) rfl dX7_turned_49 ?_
              obtain ⟨r39, hr40, h⟩ := bnd h
              refine ro_i (runVN (As := []) (rest := []) hG cx hl.1 (ctX1_plies l g a_t_images_0 t_images_0_told t_images_0_lines t_images_0_kinds t_images_0_acts t_images_0_sizes r39 hr40) kmX1_plies kvX1_plies nm_17 ⟨rfl, rfl⟩ ⟨Nat.le_of_ble_eq_true rfl, Nat.le_of_ble_eq_true rfl⟩ (roV (q0 := 5) (ci := 1) hG (hP.sub [5, 7] rfl) hP rfl rfl) rfl rfl (Nat.le_of_ble_eq_true rfl) dX7_turned_50 ⟨Nat.le_of_ble_eq_true rfl, Nat.le_of_ble_eq_true rfl⟩) ?_
              refine lv_iload_n hx hb dX7_turned_53 rfl (lv_at hl 0 rfl) ?_
              refine lv_icmp_eq (tgt := 59) hx hb dX7_turned_54 (by decide) (fun c41 => ?_) (fun c41 => ?_)
              · have h := itp c41 h
                refine lv_aload_n hx hb dX7_turned_59 rfl (lv_at hl 1 rfl) ?_
                refine xa_get (C := RX7) (T := TX7) (N := 7) cx hG hP 0 rfl rfl uX7 2 (by decide) lf_X7_30 rfl dX7_turned_60 ?_
                obtain ⟨r42, hr43, h⟩ := bnd h
                refine ro_i (runVN (As := []) (rest := []) hG cx hl.1 (ctX1_row l g a_t_now t_now_told t_now_lines t_now_kinds t_now_acts t_now_rows r42 hr43) kmX1_row kvX1_row nm_25 ⟨rfl, rfl⟩ ⟨Nat.le_of_ble_eq_true rfl, Nat.le_of_ble_eq_true rfl⟩ (roV (q0 := 1) (ci := 1) hG (hP.sub [1, 2] rfl) hP rfl rfl) rfl rfl (Nat.le_of_ble_eq_true rfl) dX7_turned_63 ⟨Nat.le_of_ble_eq_true rfl, Nat.le_of_ble_eq_true rfl⟩) ?_
                refine lv_iload_n hx hb dX7_turned_66 rfl (lv_at hl 0 rfl) ?_
                obtain ⟨r44, hr45, h⟩ := bnd h
                refine ro_i (runSN (As := [.int r42, .int r36]) (rest := []) hG cx hl.1 (ctX3_overturned l g r42 r36 r44 hr45) kmX3_overturned ksX3_overturned nm_102 ⟨rfl, rfl⟩ ⟨Nat.le_of_ble_eq_true rfl, Nat.le_of_ble_eq_true rfl⟩ (roS hG (hP.sub [] rfl)) rfl rfl (Nat.le_of_ble_eq_true rfl) dX7_turned_67 ⟨Nat.le_of_ble_eq_true rfl, Nat.le_of_ble_eq_true rfl⟩) ?_
                refine lv_istore_n (lv' := [(3, .int r44), (2, .int r36), (0, .ref ((a_t 0))), (1, .int v1)]) hx hb dX7_turned_70 rfl hl (by decide) rfl (fun ls hl => ?_)
                refine lv_iconst (v := 0) hx hb dX7_turned_71 (by decide) ?_
                refine lv_istore (lv' := [(4, .int (0)), (3, .int r44), (2, .int r36), (0, .ref ((a_t 0))), (1, .int v1)]) hx hb dX7_turned_72 hl (by decide) rfl (fun ls hl => ?_)
                exact w74 FU v1 r36 r44 0 _ (lv_sub hl [3, 4, 2, 1, 0] rfl) h
              · have h := itn c41 h
                refine lv_iconst (v := -1) hx hb dX7_turned_57 (by decide) ?_
                exact hret _ _ _ dX7_turned_58 (Option.some.inj h)
            · have h := itn e38 h
              by_cases e46 : v1 = 1
              · have h := itp e46 h
                refine xa_ald3 (k := 1) cx hG hP 4 rfl (by rw [e46]; decide) rfl dX7_turned_49 ?_
                obtain ⟨r47, hr48, h⟩ := bnd h
                refine ro_i (runVN (As := []) (rest := []) hG cx hl.1 (ctX1_plies l g a_t_images_1 t_images_1_told t_images_1_lines t_images_1_kinds t_images_1_acts t_images_1_sizes r47 hr48) kmX1_plies kvX1_plies nm_17 ⟨rfl, rfl⟩ ⟨Nat.le_of_ble_eq_true rfl, Nat.le_of_ble_eq_true rfl⟩ (roV (q0 := 8) (ci := 1) hG (hP.sub [8, 10] rfl) hP rfl rfl) rfl rfl (Nat.le_of_ble_eq_true rfl) dX7_turned_50 ⟨Nat.le_of_ble_eq_true rfl, Nat.le_of_ble_eq_true rfl⟩) ?_
                refine lv_iload_n hx hb dX7_turned_53 rfl (lv_at hl 0 rfl) ?_
                refine lv_icmp_eq (tgt := 59) hx hb dX7_turned_54 (by decide) (fun c49 => ?_) (fun c49 => ?_)
                · have h := itp c49 h
                  refine lv_aload_n hx hb dX7_turned_59 rfl (lv_at hl 1 rfl) ?_
                  refine xa_get (C := RX7) (T := TX7) (N := 7) cx hG hP 0 rfl rfl uX7 2 (by decide) lf_X7_30 rfl dX7_turned_60 ?_
                  obtain ⟨r50, hr51, h⟩ := bnd h
                  refine ro_i (runVN (As := []) (rest := []) hG cx hl.1 (ctX1_row l g a_t_now t_now_told t_now_lines t_now_kinds t_now_acts t_now_rows r50 hr51) kmX1_row kvX1_row nm_25 ⟨rfl, rfl⟩ ⟨Nat.le_of_ble_eq_true rfl, Nat.le_of_ble_eq_true rfl⟩ (roV (q0 := 1) (ci := 1) hG (hP.sub [1, 2] rfl) hP rfl rfl) rfl rfl (Nat.le_of_ble_eq_true rfl) dX7_turned_63 ⟨Nat.le_of_ble_eq_true rfl, Nat.le_of_ble_eq_true rfl⟩) ?_
                  refine lv_iload_n hx hb dX7_turned_66 rfl (lv_at hl 0 rfl) ?_
                  obtain ⟨r52, hr53, h⟩ := bnd h
                  refine ro_i (runSN (As := [.int r50, .int r36]) (rest := []) hG cx hl.1 (ctX3_overturned l g r50 r36 r52 hr53) kmX3_overturned ksX3_overturned nm_102 ⟨rfl, rfl⟩ ⟨Nat.le_of_ble_eq_true rfl, Nat.le_of_ble_eq_true rfl⟩ (roS hG (hP.sub [] rfl)) rfl rfl (Nat.le_of_ble_eq_true rfl) dX7_turned_67 ⟨Nat.le_of_ble_eq_true rfl, Nat.le_of_ble_eq_true rfl⟩) ?_
                  refine lv_istore_n (lv' := [(3, .int r52), (2, .int r36), (0, .ref ((a_t 0))), (1, .int v1)]) hx hb dX7_turned_70 rfl hl (by decide) rfl (fun ls hl => ?_)
                  refine lv_iconst (v := 0) hx hb dX7_turned_71 (by decide) ?_
                  refine lv_istore (lv' := [(4, .int (0)), (3, .int r52), (2, .int r36), (0, .ref ((a_t 0))), (1, .int v1)]) hx hb dX7_turned_72 hl (by decide) rfl (fun ls hl => ?_)
                  exact w74 FU v1 r36 r52 0 _ (lv_sub hl [3, 4, 2, 1, 0] rfl) h
                · have h := itn c49 h
                  refine lv_iconst (v := -1) hx hb dX7_turned_57 (by decide) ?_
                  exact hret _ _ _ dX7_turned_58 (Option.some.inj h)
              · have h := itn e46 h
                by_cases e54 : v1 = 2
                · have h := itp e54 h
                  refine xa_ald3 (k := 2) cx hG hP 4 rfl (by rw [e54]; decide) rfl dX7_turned_49 ?_
                  obtain ⟨r55, hr56, h⟩ := bnd h
                  refine ro_i (runVN (As := []) (rest := []) hG cx hl.1 (ctX1_plies l g a_t_images_2 t_images_2_told t_images_2_lines t_images_2_kinds t_images_2_acts t_images_2_sizes r55 hr56) kmX1_plies kvX1_plies nm_17 ⟨rfl, rfl⟩ ⟨Nat.le_of_ble_eq_true rfl, Nat.le_of_ble_eq_true rfl⟩ (roV (q0 := 11) (ci := 1) hG (hP.sub [11, 13] rfl) hP rfl rfl) rfl rfl (Nat.le_of_ble_eq_true rfl) dX7_turned_50 ⟨Nat.le_of_ble_eq_true rfl, Nat.le_of_ble_eq_true rfl⟩) ?_
                  refine lv_iload_n hx hb dX7_turned_53 rfl (lv_at hl 0 rfl) ?_
                  refine lv_icmp_eq (tgt := 59) hx hb dX7_turned_54 (by decide) (fun c57 => ?_) (fun c57 => ?_)
                  · have h := itp c57 h
                    refine lv_aload_n hx hb dX7_turned_59 rfl (lv_at hl 1 rfl) ?_
                    refine xa_get (C := RX7) (T := TX7) (N := 7) cx hG hP 0 rfl rfl uX7 2 (by decide) lf_X7_30 rfl dX7_turned_60 ?_
                    obtain ⟨r58, hr59, h⟩ := bnd h
                    refine ro_i (runVN (As := []) (rest := []) hG cx hl.1 (ctX1_row l g a_t_now t_now_told t_now_lines t_now_kinds t_now_acts t_now_rows r58 hr59) kmX1_row kvX1_row nm_25 ⟨rfl, rfl⟩ ⟨Nat.le_of_ble_eq_true rfl, Nat.le_of_ble_eq_true rfl⟩ (roV (q0 := 1) (ci := 1) hG (hP.sub [1, 2] rfl) hP rfl rfl) rfl rfl (Nat.le_of_ble_eq_true rfl) dX7_turned_63 ⟨Nat.le_of_ble_eq_true rfl, Nat.le_of_ble_eq_true rfl⟩) ?_
                    refine lv_iload_n hx hb dX7_turned_66 rfl (lv_at hl 0 rfl) ?_
                    obtain ⟨r60, hr61, h⟩ := bnd h
                    refine ro_i (runSN (As := [.int r58, .int r36]) (rest := []) hG cx hl.1 (ctX3_overturned l g r58 r36 r60 hr61) kmX3_overturned ksX3_overturned nm_102 ⟨rfl, rfl⟩ ⟨Nat.le_of_ble_eq_true rfl, Nat.le_of_ble_eq_true rfl⟩ (roS hG (hP.sub [] rfl)) rfl rfl (Nat.le_of_ble_eq_true rfl) dX7_turned_67 ⟨Nat.le_of_ble_eq_true rfl, Nat.le_of_ble_eq_true rfl⟩) ?_
                    refine lv_istore_n (lv' := [(3, .int r60), (2, .int r36), (0, .ref ((a_t 0))), (1, .int v1)]) hx hb dX7_turned_70 rfl hl (by decide) rfl (fun ls hl => ?_)
                    refine lv_iconst (v := 0) hx hb dX7_turned_71 (by decide) ?_
                    refine lv_istore (lv' := [(4, .int (0)), (3, .int r60), (2, .int r36), (0, .ref ((a_t 0))), (1, .int v1)]) hx hb dX7_turned_72 hl (by decide) rfl (fun ls hl => ?_)
                    exact w74 FU v1 r36 r60 0 _ (lv_sub hl [3, 4, 2, 1, 0] rfl) h
                  · have h := itn c57 h
                    refine lv_iconst (v := -1) hx hb dX7_turned_57 (by decide) ?_
                    exact hret _ _ _ dX7_turned_58 (Option.some.inj h)
                · have h := itn e54 h
                  cases h
          · have h := itp c35 h
            refine lv_bipush (v := -6) hx hb dX7_turned_33 (by decide) ?_
            exact hret _ _ _ dX7_turned_35 (Option.some.inj h)
        · have h := itn e34 h
          by_cases e62 : v1 = 2
          · have h := itp e62 h
            refine xa_ald3 (k := 2) cx hG hP 4 rfl (by rw [e62]; decide) rfl dX7_turned_26 ?_
            refine xa_getN (C := RX1) (T := TX1) (N := 9) cx hG hP 11 rfl rfl uX1 5 (by decide) nf_5 rfl dX7_turned_27 ?_
            refine lv_if_ne (tgt := 36) hx hb dX7_turned_30 (by decide) (fun c63 => ?_) (fun c63 => ?_)
            · have h := itn c63 h
              refine lv_aload_n hx hb dX7_turned_36 rfl (lv_at hl 0 rfl) ?_
              refine xa_get (C := RX7) (T := TX7) (N := 7) cx hG hP 0 rfl rfl uX7 2 (by decide) lf_X7_30 rfl dX7_turned_37 ?_
              obtain ⟨r64, hr65, h⟩ := bnd h
              refine ro_i (runVN (As := []) (rest := []) hG cx hl.1 (ctX1_plies l g a_t_now t_now_told t_now_lines t_now_kinds t_now_acts t_now_sizes r64 hr65) kmX1_plies kvX1_plies nm_17 ⟨rfl, rfl⟩ ⟨Nat.le_of_ble_eq_true rfl, Nat.le_of_ble_eq_true rfl⟩ (roV (q0 := 1) (ci := 1) hG (hP.sub [1, 3] rfl) hP rfl rfl) rfl rfl (Nat.le_of_ble_eq_true rfl) dX7_turned_40 ⟨Nat.le_of_ble_eq_true rfl, Nat.le_of_ble_eq_true rfl⟩) ?_
              refine lv_istore_n (lv' := [(2, .int r64), (0, .ref ((a_t 0))), (1, .int v1)]) hx hb dX7_turned_43 rfl hl (by decide) rfl (fun ls hl => ?_)
              refine lv_aload_n hx hb dX7_turned_44 rfl (lv_at hl 1 rfl) ?_
              refine xa_get (C := RX7) (T := TX7) (N := 7) cx hG hP 0 rfl rfl uX7 3 (by decide) lf_X7_34 rfl dX7_turned_45 ?_
              refine lv_iload_n hx hb dX7_turned_48 rfl (lv_at hl 2 rfl) ?_
              by_cases e66 : v1 = 0
              · have h := itp e66 h
                refine xa_ald3 (k := 0) cx hG hP 4 rfl (by rw [e66]; decide) rfl dX7_turned_49 ?_
                obtain ⟨r67, hr68, h⟩ := bnd h
                refine ro_i (runVN (As := []) (rest := []) hG cx hl.1 (ctX1_plies l g a_t_images_0 t_images_0_told t_images_0_lines t_images_0_kinds t_images_0_acts t_images_0_sizes r67 hr68) kmX1_plies kvX1_plies nm_17 ⟨rfl, rfl⟩ ⟨Nat.le_of_ble_eq_true rfl, Nat.le_of_ble_eq_true rfl⟩ (roV (q0 := 5) (ci := 1) hG (hP.sub [5, 7] rfl) hP rfl rfl) rfl rfl (Nat.le_of_ble_eq_true rfl) dX7_turned_50 ⟨Nat.le_of_ble_eq_true rfl, Nat.le_of_ble_eq_true rfl⟩) ?_
                refine lv_iload_n hx hb dX7_turned_53 rfl (lv_at hl 0 rfl) ?_
                refine lv_icmp_eq (tgt := 59) hx hb dX7_turned_54 (by decide) (fun c69 => ?_) (fun c69 => ?_)
                · have h := itp c69 h
                  refine lv_aload_n hx hb dX7_turned_59 rfl (lv_at hl 1 rfl) ?_
                  refine xa_get (C := RX7) (T := TX7) (N := 7) cx hG hP 0 rfl rfl uX7 2 (by decide) lf_X7_30 rfl dX7_turned_60 ?_
                  obtain ⟨r70, hr71, h⟩ := bnd h
                  refine ro_i (runVN (As := []) (rest := []) hG cx hl.1 (ctX1_row l g a_t_now t_now_told t_now_lines t_now_kinds t_now_acts t_now_rows r70 hr71) kmX1_row kvX1_row nm_25 ⟨rfl, rfl⟩ ⟨Nat.le_of_ble_eq_true rfl, Nat.le_of_ble_eq_true rfl⟩ (roV (q0 := 1) (ci := 1) hG (hP.sub [1, 2] rfl) hP rfl rfl) rfl rfl (Nat.le_of_ble_eq_true rfl) dX7_turned_63 ⟨Nat.le_of_ble_eq_true rfl, Nat.le_of_ble_eq_true rfl⟩) ?_
                  refine lv_iload_n hx hb dX7_turned_66 rfl (lv_at hl 0 rfl) ?_
                  obtain ⟨r72, hr73, h⟩ := bnd h
                  refine ro_i (runSN (As := [.int r70, .int r64]) (rest := []) hG cx hl.1 (ctX3_overturned l g r70 r64 r72 hr73) kmX3_overturned ksX3_overturned nm_102 ⟨rfl, rfl⟩ ⟨Nat.le_of_ble_eq_true rfl, Nat.le_of_ble_eq_true rfl⟩ (roS hG (hP.sub [] rfl)) rfl rfl (Nat.le_of_ble_eq_true rfl) dX7_turned_67 ⟨Nat.le_of_ble_eq_true rfl, Nat.le_of_ble_eq_true rfl⟩) ?_
                  refine lv_istore_n (lv' := [(3, .int r72), (2, .int r64), (0, .ref ((a_t 0))), (1, .int v1)]) hx hb dX7_turned_70 rfl hl (by decide) rfl (fun ls hl => ?_)
                  refine lv_iconst (v := 0) hx hb dX7_turned_71 (by decide) ?_
                  refine lv_istore (lv' := [(4, .int (0)), (3, .int r72), (2, .int r64), (0, .ref ((a_t 0))), (1, .int v1)]) hx hb dX7_turned_72 hl (by decide) rfl (fun ls hl => ?_)
                  exact w74 FU v1 r64 r72 0 _ (lv_sub hl [3, 4, 2, 1, 0] rfl) h
                · have h := itn c69 h
                  refine lv_iconst (v := -1) hx hb dX7_turned_57 (by decide) ?_
                  exact hret _ _ _ dX7_turned_58 (Option.some.inj h)
              · have h := itn e66 h
                by_cases e74 : v1 = 1
                · have h := itp e74 h
                  refine xa_ald3 (k := 1) cx hG hP 4 rfl (by rw [e74]; decide) rfl dX7_turned_49 ?_
                  obtain ⟨r75, hr76, h⟩ := bnd h
                  refine ro_i (runVN (As := []) (rest := []) hG cx hl.1 (ctX1_plies l g a_t_images_1 t_images_1_told t_images_1_lines t_images_1_kinds t_images_1_acts t_images_1_sizes r75 hr76) kmX1_plies kvX1_plies nm_17 ⟨rfl, rfl⟩ ⟨Nat.le_of_ble_eq_true rfl, Nat.le_of_ble_eq_true rfl⟩ (roV (q0 := 8) (ci := 1) hG (hP.sub [8, 10] rfl) hP rfl rfl) rfl rfl (Nat.le_of_ble_eq_true rfl) dX7_turned_50 ⟨Nat.le_of_ble_eq_true rfl, Nat.le_of_ble_eq_true rfl⟩) ?_
                  refine lv_iload_n hx hb dX7_turned_53 rfl (lv_at hl 0 rfl) ?_
                  refine lv_icmp_eq (tgt := 59) hx hb dX7_turned_54 (by decide) (fun c77 => ?_) (fun c77 => ?_)
                  · have h := itp c77 h
                    refine lv_aload_n hx hb dX7_turned_59 rfl (lv_at hl 1 rfl) ?_
                    refine xa_get (C := RX7) (T := TX7) (N := 7) cx hG hP 0 rfl rfl uX7 2 (by decide) lf_X7_30 rfl dX7_turned_60 ?_
                    obtain ⟨r78, hr79, h⟩ := bnd h
                    refine ro_i (runVN (As := []) (rest := []) hG cx hl.1 (ctX1_row l g a_t_now t_now_told t_now_lines t_now_kinds t_now_acts t_now_rows r78 hr79) kmX1_row kvX1_row nm_25 ⟨rfl, rfl⟩ ⟨Nat.le_of_ble_eq_true rfl, Nat.le_of_ble_eq_true rfl⟩ (roV (q0 := 1) (ci := 1) hG (hP.sub [1, 2] rfl) hP rfl rfl) rfl rfl (Nat.le_of_ble_eq_true rfl) dX7_turned_63 ⟨Nat.le_of_ble_eq_true rfl, Nat.le_of_ble_eq_true rfl⟩) ?_
                    refine lv_iload_n hx hb dX7_turned_66 rfl (lv_at hl 0 rfl) ?_
                    obtain ⟨r80, hr81, h⟩ := bnd h
                    refine ro_i (runSN (As := [.int r78, .int r64]) (rest := []) hG cx hl.1 (ctX3_overturned l g r78 r64 r80 hr81) kmX3_overturned ksX3_overturned nm_102 ⟨rfl, rfl⟩ ⟨Nat.le_of_ble_eq_true rfl, Nat.le_of_ble_eq_true rfl⟩ (roS hG (hP.sub [] rfl)) rfl rfl (Nat.le_of_ble_eq_true rfl) dX7_turned_67 ⟨Nat.le_of_ble_eq_true rfl, Nat.le_of_ble_eq_true rfl⟩) ?_
                    refine lv_istore_n (lv' := [(3, .int r80), (2, .int r64), (0, .ref ((a_t 0))), (1, .int v1)]) hx hb dX7_turned_70 rfl hl (by decide) rfl (fun ls hl => ?_)
                    refine lv_iconst (v := 0) hx hb dX7_turned_71 (by decide) ?_
                    refine lv_istore (lv' := [(4, .int (0)), (3, .int r80), (2, .int r64), (0, .ref ((a_t 0))), (1, .int v1)]) hx hb dX7_turned_72 hl (by decide) rfl (fun ls hl => ?_)
                    exact w74 FU v1 r64 r80 0 _ (lv_sub hl [3, 4, 2, 1, 0] rfl) h
                  · have h := itn c77 h
                    refine lv_iconst (v := -1) hx hb dX7_turned_57 (by decide) ?_
                    exact hret _ _ _ dX7_turned_58 (Option.some.inj h)
                · have h := itn e74 h
                  by_cases e82 : v1 = 2
                  · have h := itp e82 h
                    refine xa_ald3 (k := 2) cx hG hP 4 rfl (by rw [e82]; decide) rfl dX7_turned_49 ?_
                    obtain ⟨r83, hr84, h⟩ := bnd h
                    refine ro_i (runVN (As := []) (rest := []) hG cx hl.1 (ctX1_plies l g a_t_images_2 t_images_2_told t_images_2_lines t_images_2_kinds t_images_2_acts t_images_2_sizes r83 hr84) kmX1_plies kvX1_plies nm_17 ⟨rfl, rfl⟩ ⟨Nat.le_of_ble_eq_true rfl, Nat.le_of_ble_eq_true rfl⟩ (roV (q0 := 11) (ci := 1) hG (hP.sub [11, 13] rfl) hP rfl rfl) rfl rfl (Nat.le_of_ble_eq_true rfl) dX7_turned_50 ⟨Nat.le_of_ble_eq_true rfl, Nat.le_of_ble_eq_true rfl⟩) ?_
                    refine lv_iload_n hx hb dX7_turned_53 rfl (lv_at hl 0 rfl) ?_
                    refine lv_icmp_eq (tgt := 59) hx hb dX7_turned_54 (by decide) (fun c85 => ?_) (fun c85 => ?_)
                    · have h := itp c85 h
                      refine lv_aload_n hx hb dX7_turned_59 rfl (lv_at hl 1 rfl) ?_
                      refine xa_get (C := RX7) (T := TX7) (N := 7) cx hG hP 0 rfl rfl uX7 2 (by decide) lf_X7_30 rfl dX7_turned_60 ?_
                      obtain ⟨r86, hr87, h⟩ := bnd h
                      refine ro_i (runVN (As := []) (rest := []) hG cx hl.1 (ctX1_row l g a_t_now t_now_told t_now_lines t_now_kinds t_now_acts t_now_rows r86 hr87) kmX1_row kvX1_row nm_25 ⟨rfl, rfl⟩ ⟨Nat.le_of_ble_eq_true rfl, Nat.le_of_ble_eq_true rfl⟩ (roV (q0 := 1) (ci := 1) hG (hP.sub [1, 2] rfl) hP rfl rfl) rfl rfl (Nat.le_of_ble_eq_true rfl) dX7_turned_63 ⟨Nat.le_of_ble_eq_true rfl, Nat.le_of_ble_eq_true rfl⟩) ?_
                      refine lv_iload_n hx hb dX7_turned_66 rfl (lv_at hl 0 rfl) ?_
                      obtain ⟨r88, hr89, h⟩ := bnd h
                      refine ro_i (runSN (As := [.int r86, .int r64]) (rest := []) hG cx hl.1 (ctX3_overturned l g r86 r64 r88 hr89) kmX3_overturned ksX3_overturned nm_102 ⟨rfl, rfl⟩ ⟨Nat.le_of_ble_eq_true rfl, Nat.le_of_ble_eq_true rfl⟩ (roS hG (hP.sub [] rfl)) rfl rfl (Nat.le_of_ble_eq_true rfl) dX7_turned_67 ⟨Nat.le_of_ble_eq_true rfl, Nat.le_of_ble_eq_true rfl⟩) ?_
                      refine lv_istore_n (lv' := [(3, .int r88), (2, .int r64), (0, .ref ((a_t 0))), (1, .int v1)]) hx hb dX7_turned_70 rfl hl (by decide) rfl (fun ls hl => ?_)
                      refine lv_iconst (v := 0) hx hb dX7_turned_71 (by decide) ?_
                      refine lv_istore (lv' := [(4, .int (0)), (3, .int r88), (2, .int r64), (0, .ref ((a_t 0))), (1, .int v1)]) hx hb dX7_turned_72 hl (by decide) rfl (fun ls hl => ?_)
                      exact w74 FU v1 r64 r88 0 _ (lv_sub hl [3, 4, 2, 1, 0] rfl) h
                    · have h := itn c85 h
                      refine lv_iconst (v := -1) hx hb dX7_turned_57 (by decide) ?_
                      exact hret _ _ _ dX7_turned_58 (Option.some.inj h)
                  · have h := itn e82 h
                    cases h
            · have h := itp c63 h
              refine lv_bipush (v := -6) hx hb dX7_turned_33 (by decide) ?_
              exact hret _ _ _ dX7_turned_35 (Option.some.inj h)
          · have h := itn e62 h
            cases h
    · have h := itp c5 h
      refine lv_bipush (v := -2) hx hb dX7_turned_18 (by decide) ?_
      exact hret _ _ _ dX7_turned_20 (Option.some.inj h)
-- X7_imagesBar
theorem dX7_imagesBar_0 : decode cX7_imagesBar 0 = .ok (.aload_n 0, 1) := by decide +kernel
theorem dX7_imagesBar_1 : decode cX7_imagesBar 1 = .ok (.iload_n 1, 1) := by decide +kernel
theorem dX7_imagesBar_2 : decode cX7_imagesBar 2 = .ok (.invokevirtual 357, 3) := by decide +kernel
theorem dX7_imagesBar_5 : decode cX7_imagesBar 5 = .ok (.ifCond .eq 11, 3) := by decide +kernel
theorem dX7_imagesBar_8 : decode cX7_imagesBar 8 = .ok (.aload_n 0, 1) := by decide +kernel
theorem dX7_imagesBar_9 : decode cX7_imagesBar 9 = .ok (.iload_n 2, 1) := by decide +kernel
theorem dX7_imagesBar_10 : decode cX7_imagesBar 10 = .ok (.invokevirtual 357, 3) := by decide +kernel
theorem dX7_imagesBar_13 : decode cX7_imagesBar 13 = .ok (.ifCond .ne 6, 3) := by decide +kernel
theorem dX7_imagesBar_16 : decode cX7_imagesBar 16 = .ok (.bipush (-2), 2) := by decide +kernel
theorem dX7_imagesBar_18 : decode cX7_imagesBar 18 = .ok (.ireturn, 1) := by decide +kernel
theorem dX7_imagesBar_19 : decode cX7_imagesBar 19 = .ok (.aload_n 0, 1) := by decide +kernel
theorem dX7_imagesBar_20 : decode cX7_imagesBar 20 = .ok (.getfield 34, 3) := by decide +kernel
theorem dX7_imagesBar_23 : decode cX7_imagesBar 23 = .ok (.iload_n 1, 1) := by decide +kernel
theorem dX7_imagesBar_24 : decode cX7_imagesBar 24 = .ok (.aaload, 1) := by decide +kernel
theorem dX7_imagesBar_25 : decode cX7_imagesBar 25 = .ok (.getfield 139, 3) := by decide +kernel
theorem dX7_imagesBar_28 : decode cX7_imagesBar 28 = .ok (.ifCond .eq 19, 3) := by decide +kernel
theorem dX7_imagesBar_31 : decode cX7_imagesBar 31 = .ok (.aload_n 0, 1) := by decide +kernel
theorem dX7_imagesBar_32 : decode cX7_imagesBar 32 = .ok (.getfield 34, 3) := by decide +kernel
theorem dX7_imagesBar_35 : decode cX7_imagesBar 35 = .ok (.iload_n 2, 1) := by decide +kernel
theorem dX7_imagesBar_36 : decode cX7_imagesBar 36 = .ok (.aaload, 1) := by decide +kernel
theorem dX7_imagesBar_37 : decode cX7_imagesBar 37 = .ok (.getfield 139, 3) := by decide +kernel
theorem dX7_imagesBar_40 : decode cX7_imagesBar 40 = .ok (.ifCond .eq 7, 3) := by decide +kernel
theorem dX7_imagesBar_43 : decode cX7_imagesBar 43 = .ok (.iconst 0, 1) := by decide +kernel
theorem dX7_imagesBar_44 : decode cX7_imagesBar 44 = .ok (.goto 5, 3) := by decide +kernel
theorem dX7_imagesBar_47 : decode cX7_imagesBar 47 = .ok (.bipush (-6), 2) := by decide +kernel
theorem dX7_imagesBar_49 : decode cX7_imagesBar 49 = .ok (.ireturn, 1) := by decide +kernel
noncomputable def fX7_imagesBar  (t_images_0_told : Int32) (t_images_1_told : Int32) (t_images_2_told : Int32) (v1 : Int32) (v2 : Int32) : Option (Int32) := (fX7_isImage v1).bind fun r1 => (if r1 = 0 then some (-2) else (fX7_isImage v2).bind fun r5 => (if r5 = 0 then some (-2) else (if v1 = 0 then (if t_images_0_told = 0 then some (-6) else (if v2 = 0 then (if t_images_0_told = 0 then some (-6) else some (0)) else (if v2 = 1 then (if t_images_1_told = 0 then some (-6) else some (0)) else (if v2 = 2 then (if t_images_2_told = 0 then some (-6) else some (0)) else none)))) else (if v1 = 1 then (if t_images_1_told = 0 then some (-6) else (if v2 = 0 then (if t_images_0_told = 0 then some (-6) else some (0)) else (if v2 = 1 then (if t_images_1_told = 0 then some (-6) else some (0)) else (if v2 = 2 then (if t_images_2_told = 0 then some (-6) else some (0)) else none)))) else (if v1 = 2 then (if t_images_2_told = 0 then some (-6) else (if v2 = 0 then (if t_images_0_told = 0 then some (-6) else some (0)) else (if v2 = 1 then (if t_images_1_told = 0 then some (-6) else some (0)) else (if v2 = 2 then (if t_images_2_told = 0 then some (-6) else some (0)) else none)))) else none)))))
set_option maxHeartbeats 4000000 in
set_option maxRecDepth 100000 in
theorem ctX7_imagesBar (l : Launch) (g : GT) (a_t : Nat → Nat) (a_t_tape : Nat → Nat) (a_t_reader : Nat → Nat) (a_t_now : Nat → Nat) (a_t_choices : Nat → Nat) (a_t_ways : Nat → Nat) (a_t_stress : Nat → Nat) (a_t_images_0 : Nat → Nat) (a_t_images_1 : Nat → Nat) (a_t_images_2 : Nat → Nat) (t_images_0_told : Int32) (t_images_0_lines : Int32) (t_images_0_kinds : Int32) (t_images_0_acts : Int32) (t_images_1_told : Int32) (t_images_1_lines : Int32) (t_images_1_kinds : Int32) (t_images_1_acts : Int32) (t_images_2_told : Int32) (t_images_2_lines : Int32) (t_images_2_kinds : Int32) (t_images_2_acts : Int32) (v1 : Int32) (v2 : Int32) (o : Int32) (h : fX7_imagesBar t_images_0_told t_images_1_told t_images_2_told v1 v2 = some o) : Met l yX7_imagesBar (Cond.code yX7_imagesBar cX7_imagesBar 3 (some .int) :: Tw) ⟨1, 0, 0, 21⟩ (va_Pc [.ref ((a_t 0)), .int v1, .int v2] (roB g [((a_t 0), .inr (6, [.ref (a_t_tape 0), .ref (a_t_reader 0), .ref (a_t_now 0), .ref (a_t 4), .ref (a_t_choices 0), .ref (a_t_ways 0), .ref (a_t_stress 0)])), ((a_t 4), .inl (g.2.2.1 4, 3, .inr (.inr (.inr (.inr (iF (a_t_images_0 0) (a_t_images_1 0) (a_t_images_2 0))))))), ((a_t_images_0 0), .inr (1, [.ref (a_t_images_0 1), .ref (a_t_images_0 2), .ref (a_t_images_0 3), .ref (a_t_images_0 4), .ref (a_t_images_0 5), .int t_images_0_told, .int t_images_0_lines, .int t_images_0_kinds, .int t_images_0_acts])), ((a_t_images_1 0), .inr (1, [.ref (a_t_images_1 1), .ref (a_t_images_1 2), .ref (a_t_images_1 3), .ref (a_t_images_1 4), .ref (a_t_images_1 5), .int t_images_1_told, .int t_images_1_lines, .int t_images_1_kinds, .int t_images_1_acts])), ((a_t_images_2 0), .inr (1, [.ref (a_t_images_2 1), .ref (a_t_images_2 2), .ref (a_t_images_2 3), .ref (a_t_images_2 4), .ref (a_t_images_2 5), .int t_images_2_told, .int t_images_2_lines, .int t_images_2_kinds, .int t_images_2_acts]))])) (vp_Si (fun x => x = o)) 0 0 (fun _ => False) := by
  refine ro_meti (by decide) (Nat.le_of_ble_eq_true rfl) (lv0 := [(0, .ref ((a_t 0))), (1, .int v1), (2, .int v2)]) rfl ?_
  intro p e s m args below meth c ls Q cx hret hG hP hl
  have hx := cx.1
  have hb := cx.2.1
  have hG0 := hG
  unfold fX7_imagesBar at h
  refine lv_aload_n hx hb dX7_imagesBar_0 rfl (lv_at hl 0 rfl) ?_
  refine lv_iload_n hx hb dX7_imagesBar_1 rfl (lv_at hl 1 rfl) ?_
  obtain ⟨r1, hr2, h⟩ := bnd h
  refine ro_z (runV (As := [.int v1]) (rest := []) cx hl.1 (ctX7_isImage l g a_t a_t_tape a_t_reader a_t_now a_t_choices a_t_ways a_t_stress a_t_images_0 a_t_images_1 a_t_images_2 v1 r1 hr2) kmX7_isImage kvX7_isImage lm_X7_357 ⟨rfl, rfl⟩ ⟨Nat.le_of_ble_eq_true rfl, Nat.le_of_ble_eq_true rfl⟩ (roV (q0 := 0) (ci := 6) hG (hP.sub [0, 1] rfl) hP rfl rfl) rfl rfl (Nat.le_of_ble_eq_true rfl) dX7_imagesBar_2 ⟨Nat.le_of_ble_eq_true rfl, Nat.le_of_ble_eq_true rfl⟩) (fun hz3 => ?_)
  refine lv_if_eq (tgt := 16) hx hb dX7_imagesBar_5 (by decide) (fun c4 => ?_) (fun c4 => ?_)
  · have h := itp c4 h
    refine lv_bipush (v := -2) hx hb dX7_imagesBar_16 (by decide) ?_
    exact hret _ _ _ dX7_imagesBar_18 (Option.some.inj h)
  · have h := itn c4 h
    refine lv_aload_n hx hb dX7_imagesBar_8 rfl (lv_at hl 0 rfl) ?_
    refine lv_iload_n hx hb dX7_imagesBar_9 rfl (lv_at hl 2 rfl) ?_
    obtain ⟨r5, hr6, h⟩ := bnd h
    refine ro_z (runV (As := [.int v2]) (rest := []) cx hl.1 (ctX7_isImage l g a_t a_t_tape a_t_reader a_t_now a_t_choices a_t_ways a_t_stress a_t_images_0 a_t_images_1 a_t_images_2 v2 r5 hr6) kmX7_isImage kvX7_isImage lm_X7_357 ⟨rfl, rfl⟩ ⟨Nat.le_of_ble_eq_true rfl, Nat.le_of_ble_eq_true rfl⟩ (roV (q0 := 0) (ci := 6) hG (hP.sub [0, 1] rfl) hP rfl rfl) rfl rfl (Nat.le_of_ble_eq_true rfl) dX7_imagesBar_10 ⟨Nat.le_of_ble_eq_true rfl, Nat.le_of_ble_eq_true rfl⟩) (fun hz7 => ?_)
    refine lv_if_ne (tgt := 19) hx hb dX7_imagesBar_13 (by decide) (fun c8 => ?_) (fun c8 => ?_)
    · have h := itn c8 h
      refine lv_aload_n hx hb dX7_imagesBar_19 rfl (lv_at hl 0 rfl) ?_
      refine xa_get (C := RX7) (T := TX7) (N := 7) cx hG hP 0 rfl rfl uX7 3 (by decide) lf_X7_34 rfl dX7_imagesBar_20 ?_
      refine lv_iload_n hx hb dX7_imagesBar_23 rfl (lv_at hl 1 rfl) ?_
      by_cases e9 : v1 = 0
      · have h := itp e9 h
        refine xa_ald3 (k := 0) cx hG hP 1 rfl (by rw [e9]; decide) rfl dX7_imagesBar_24 ?_
        refine xa_getN (C := RX1) (T := TX1) (N := 9) cx hG hP 2 rfl rfl uX1 5 (by decide) nf_5 rfl dX7_imagesBar_25 ?_
        refine lv_if_eq (tgt := 47) hx hb dX7_imagesBar_28 (by decide) (fun c10 => ?_) (fun c10 => ?_)
        · have h := itp c10 h
          refine lv_bipush (v := -6) hx hb dX7_imagesBar_47 (by decide) ?_
          exact hret _ _ _ dX7_imagesBar_49 (Option.some.inj h)
        · have h := itn c10 h
          refine lv_aload_n hx hb dX7_imagesBar_31 rfl (lv_at hl 0 rfl) ?_
          refine xa_get (C := RX7) (T := TX7) (N := 7) cx hG hP 0 rfl rfl uX7 3 (by decide) lf_X7_34 rfl dX7_imagesBar_32 ?_
          refine lv_iload_n hx hb dX7_imagesBar_35 rfl (lv_at hl 2 rfl) ?_
          by_cases e11 : v2 = 0
          · have h := itp e11 h
            refine xa_ald3 (k := 0) cx hG hP 1 rfl (by rw [e11]; decide) rfl dX7_imagesBar_36 ?_
            refine xa_getN (C := RX1) (T := TX1) (N := 9) cx hG hP 2 rfl rfl uX1 5 (by decide) nf_5 rfl dX7_imagesBar_37 ?_
            refine lv_if_eq (tgt := 47) hx hb dX7_imagesBar_40 (by decide) (fun c12 => ?_) (fun c12 => ?_)
            · have h := itp c12 h
              refine lv_bipush (v := -6) hx hb dX7_imagesBar_47 (by decide) ?_
              exact hret _ _ _ dX7_imagesBar_49 (Option.some.inj h)
            · have h := itn c12 h
              refine lv_iconst (v := 0) hx hb dX7_imagesBar_43 (by decide) ?_
              refine lv_goto (tgt := 49) hx hb dX7_imagesBar_44 (by decide) ?_
              exact hret _ _ _ dX7_imagesBar_49 (Option.some.inj h)
          · have h := itn e11 h
            by_cases e13 : v2 = 1
            · have h := itp e13 h
              refine xa_ald3 (k := 1) cx hG hP 1 rfl (by rw [e13]; decide) rfl dX7_imagesBar_36 ?_
              refine xa_getN (C := RX1) (T := TX1) (N := 9) cx hG hP 3 rfl rfl uX1 5 (by decide) nf_5 rfl dX7_imagesBar_37 ?_
              refine lv_if_eq (tgt := 47) hx hb dX7_imagesBar_40 (by decide) (fun c14 => ?_) (fun c14 => ?_)
              · have h := itp c14 h
                refine lv_bipush (v := -6) hx hb dX7_imagesBar_47 (by decide) ?_
                exact hret _ _ _ dX7_imagesBar_49 (Option.some.inj h)
              · have h := itn c14 h
                refine lv_iconst (v := 0) hx hb dX7_imagesBar_43 (by decide) ?_
                refine lv_goto (tgt := 49) hx hb dX7_imagesBar_44 (by decide) ?_
                exact hret _ _ _ dX7_imagesBar_49 (Option.some.inj h)
            · have h := itn e13 h
              by_cases e15 : v2 = 2
              · have h := itp e15 h
                refine xa_ald3 (k := 2) cx hG hP 1 rfl (by rw [e15]; decide) rfl dX7_imagesBar_36 ?_
                refine xa_getN (C := RX1) (T := TX1) (N := 9) cx hG hP 4 rfl rfl uX1 5 (by decide) nf_5 rfl dX7_imagesBar_37 ?_
                refine lv_if_eq (tgt := 47) hx hb dX7_imagesBar_40 (by decide) (fun c16 => ?_) (fun c16 => ?_)
                · have h := itp c16 h
                  refine lv_bipush (v := -6) hx hb dX7_imagesBar_47 (by decide) ?_
                  exact hret _ _ _ dX7_imagesBar_49 (Option.some.inj h)
                · have h := itn c16 h
                  refine lv_iconst (v := 0) hx hb dX7_imagesBar_43 (by decide) ?_
                  refine lv_goto (tgt := 49) hx hb dX7_imagesBar_44 (by decide) ?_
                  exact hret _ _ _ dX7_imagesBar_49 (Option.some.inj h)
              · have h := itn e15 h
                cases h
      · have h := itn e9 h
        by_cases e17 : v1 = 1
        · have h := itp e17 h
          refine xa_ald3 (k := 1) cx hG hP 1 rfl (by rw [e17]; decide) rfl dX7_imagesBar_24 ?_
          refine xa_getN (C := RX1) (T := TX1) (N := 9) cx hG hP 3 rfl rfl uX1 5 (by decide) nf_5 rfl dX7_imagesBar_25 ?_
          refine lv_if_eq (tgt := 47) hx hb dX7_imagesBar_28 (by decide) (fun c18 => ?_) (fun c18 => ?_)
          · have h := itp c18 h
            refine lv_bipush (v := -6) hx hb dX7_imagesBar_47 (by decide) ?_
            exact hret _ _ _ dX7_imagesBar_49 (Option.some.inj h)
          · have h := itn c18 h
            refine lv_aload_n hx hb dX7_imagesBar_31 rfl (lv_at hl 0 rfl) ?_
            refine xa_get (C := RX7) (T := TX7) (N := 7) cx hG hP 0 rfl rfl uX7 3 (by decide) lf_X7_34 rfl dX7_imagesBar_32 ?_
            refine lv_iload_n hx hb dX7_imagesBar_35 rfl (lv_at hl 2 rfl) ?_
            by_cases e19 : v2 = 0
            · have h := itp e19 h
              refine xa_ald3 (k := 0) cx hG hP 1 rfl (by rw [e19]; decide) rfl dX7_imagesBar_36 ?_
              refine xa_getN (C := RX1) (T := TX1) (N := 9) cx hG hP 2 rfl rfl uX1 5 (by decide) nf_5 rfl dX7_imagesBar_37 ?_
              refine lv_if_eq (tgt := 47) hx hb dX7_imagesBar_40 (by decide) (fun c20 => ?_) (fun c20 => ?_)
              · have h := itp c20 h
                refine lv_bipush (v := -6) hx hb dX7_imagesBar_47 (by decide) ?_
                exact hret _ _ _ dX7_imagesBar_49 (Option.some.inj h)
              · have h := itn c20 h
                refine lv_iconst (v := 0) hx hb dX7_imagesBar_43 (by decide) ?_
                refine lv_goto (tgt := 49) hx hb dX7_imagesBar_44 (by decide) ?_
                exact hret _ _ _ dX7_imagesBar_49 (Option.some.inj h)
            · have h := itn e19 h
              by_cases e21 : v2 = 1
              · have h := itp e21 h
                refine xa_ald3 (k := 1) cx hG hP 1 rfl (by rw [e21]; decide) rfl dX7_imagesBar_36 ?_
                refine xa_getN (C := RX1) (T := TX1) (N := 9) cx hG hP 3 rfl rfl uX1 5 (by decide) nf_5 rfl dX7_imagesBar_37 ?_
                refine lv_if_eq (tgt := 47) hx hb dX7_imagesBar_40 (by decide) (fun c22 => ?_) (fun c22 => ?_)
                · have h := itp c22 h
                  refine lv_bipush (v := -6) hx hb dX7_imagesBar_47 (by decide) ?_
                  exact hret _ _ _ dX7_imagesBar_49 (Option.some.inj h)
                · have h := itn c22 h
                  refine lv_iconst (v := 0) hx hb dX7_imagesBar_43 (by decide) ?_
                  refine lv_goto (tgt := 49) hx hb dX7_imagesBar_44 (by decide) ?_
                  exact hret _ _ _ dX7_imagesBar_49 (Option.some.inj h)
              · have h := itn e21 h
                by_cases e23 : v2 = 2
                · have h := itp e23 h
                  refine xa_ald3 (k := 2) cx hG hP 1 rfl (by rw [e23]; decide) rfl dX7_imagesBar_36 ?_
                  refine xa_getN (C := RX1) (T := TX1) (N := 9) cx hG hP 4 rfl rfl uX1 5 (by decide) nf_5 rfl dX7_imagesBar_37 ?_
                  refine lv_if_eq (tgt := 47) hx hb dX7_imagesBar_40 (by decide) (fun c24 => ?_) (fun c24 => ?_)
                  · have h := itp c24 h
                    refine lv_bipush (v := -6) hx hb dX7_imagesBar_47 (by decide) ?_
                    exact hret _ _ _ dX7_imagesBar_49 (Option.some.inj h)
                  · have h := itn c24 h
                    refine lv_iconst (v := 0) hx hb dX7_imagesBar_43 (by decide) ?_
                    refine lv_goto (tgt := 49) hx hb dX7_imagesBar_44 (by decide) ?_
                    exact hret _ _ _ dX7_imagesBar_49 (Option.some.inj h)
                · have h := itn e23 h
                  cases h
        · have h := itn e17 h
          by_cases e25 : v1 = 2
          · have h := itp e25 h
            refine xa_ald3 (k := 2) cx hG hP 1 rfl (by rw [e25]; decide) rfl dX7_imagesBar_24 ?_
            refine xa_getN (C := RX1) (T := TX1) (N := 9) cx hG hP 4 rfl rfl uX1 5 (by decide) nf_5 rfl dX7_imagesBar_25 ?_
            refine lv_if_eq (tgt := 47) hx hb dX7_imagesBar_28 (by decide) (fun c26 => ?_) (fun c26 => ?_)
            · have h := itp c26 h
              refine lv_bipush (v := -6) hx hb dX7_imagesBar_47 (by decide) ?_
              exact hret _ _ _ dX7_imagesBar_49 (Option.some.inj h)
            · have h := itn c26 h
              refine lv_aload_n hx hb dX7_imagesBar_31 rfl (lv_at hl 0 rfl) ?_
              refine xa_get (C := RX7) (T := TX7) (N := 7) cx hG hP 0 rfl rfl uX7 3 (by decide) lf_X7_34 rfl dX7_imagesBar_32 ?_
              refine lv_iload_n hx hb dX7_imagesBar_35 rfl (lv_at hl 2 rfl) ?_
              by_cases e27 : v2 = 0
              · have h := itp e27 h
                refine xa_ald3 (k := 0) cx hG hP 1 rfl (by rw [e27]; decide) rfl dX7_imagesBar_36 ?_
                refine xa_getN (C := RX1) (T := TX1) (N := 9) cx hG hP 2 rfl rfl uX1 5 (by decide) nf_5 rfl dX7_imagesBar_37 ?_
                refine lv_if_eq (tgt := 47) hx hb dX7_imagesBar_40 (by decide) (fun c28 => ?_) (fun c28 => ?_)
                · have h := itp c28 h
                  refine lv_bipush (v := -6) hx hb dX7_imagesBar_47 (by decide) ?_
                  exact hret _ _ _ dX7_imagesBar_49 (Option.some.inj h)
                · have h := itn c28 h
                  refine lv_iconst (v := 0) hx hb dX7_imagesBar_43 (by decide) ?_
                  refine lv_goto (tgt := 49) hx hb dX7_imagesBar_44 (by decide) ?_
                  exact hret _ _ _ dX7_imagesBar_49 (Option.some.inj h)
              · have h := itn e27 h
                by_cases e29 : v2 = 1
                · have h := itp e29 h
                  refine xa_ald3 (k := 1) cx hG hP 1 rfl (by rw [e29]; decide) rfl dX7_imagesBar_36 ?_
                  refine xa_getN (C := RX1) (T := TX1) (N := 9) cx hG hP 3 rfl rfl uX1 5 (by decide) nf_5 rfl dX7_imagesBar_37 ?_
                  refine lv_if_eq (tgt := 47) hx hb dX7_imagesBar_40 (by decide) (fun c30 => ?_) (fun c30 => ?_)
                  · have h := itp c30 h
                    refine lv_bipush (v := -6) hx hb dX7_imagesBar_47 (by decide) ?_
                    exact hret _ _ _ dX7_imagesBar_49 (Option.some.inj h)
                  · have h := itn c30 h
                    refine lv_iconst (v := 0) hx hb dX7_imagesBar_43 (by decide) ?_
                    refine lv_goto (tgt := 49) hx hb dX7_imagesBar_44 (by decide) ?_
                    exact hret _ _ _ dX7_imagesBar_49 (Option.some.inj h)
                · have h := itn e29 h
                  by_cases e31 : v2 = 2
                  · have h := itp e31 h
                    refine xa_ald3 (k := 2) cx hG hP 1 rfl (by rw [e31]; decide) rfl dX7_imagesBar_36 ?_
                    refine xa_getN (C := RX1) (T := TX1) (N := 9) cx hG hP 4 rfl rfl uX1 5 (by decide) nf_5 rfl dX7_imagesBar_37 ?_
                    refine lv_if_eq (tgt := 47) hx hb dX7_imagesBar_40 (by decide) (fun c32 => ?_) (fun c32 => ?_)
                    · have h := itp c32 h
                      refine lv_bipush (v := -6) hx hb dX7_imagesBar_47 (by decide) ?_
                      exact hret _ _ _ dX7_imagesBar_49 (Option.some.inj h)
                    · have h := itn c32 h
                      refine lv_iconst (v := 0) hx hb dX7_imagesBar_43 (by decide) ?_
                      refine lv_goto (tgt := 49) hx hb dX7_imagesBar_44 (by decide) ?_
                      exact hret _ _ _ dX7_imagesBar_49 (Option.some.inj h)
                  · have h := itn e31 h
                    cases h
          · have h := itn e25 h
            cases h
    · have h := itp c8 h
      refine lv_bipush (v := -2) hx hb dX7_imagesBar_16 (by decide) ?_
      exact hret _ _ _ dX7_imagesBar_18 (Option.some.inj h)
-- X7_alike
theorem dX7_alike_0 : decode cX7_alike 0 = .ok (.aload_n 0, 1) := by decide +kernel
theorem dX7_alike_1 : decode cX7_alike 1 = .ok (.iload_n 1, 1) := by decide +kernel
theorem dX7_alike_2 : decode cX7_alike 2 = .ok (.iload_n 2, 1) := by decide +kernel
theorem dX7_alike_3 : decode cX7_alike 3 = .ok (.invokevirtual 360, 3) := by decide +kernel
theorem dX7_alike_6 : decode cX7_alike 6 = .ok (.istore_n 3, 1) := by decide +kernel
theorem dX7_alike_7 : decode cX7_alike 7 = .ok (.iload_n 3, 1) := by decide +kernel
theorem dX7_alike_8 : decode cX7_alike 8 = .ok (.ifCond .eq 7, 3) := by decide +kernel
theorem dX7_alike_11 : decode cX7_alike 11 = .ok (.iload_n 3, 1) := by decide +kernel
theorem dX7_alike_12 : decode cX7_alike 12 = .ok (.goto 26, 3) := by decide +kernel
theorem dX7_alike_15 : decode cX7_alike 15 = .ok (.aload_n 0, 1) := by decide +kernel
theorem dX7_alike_16 : decode cX7_alike 16 = .ok (.getfield 34, 3) := by decide +kernel
theorem dX7_alike_19 : decode cX7_alike 19 = .ok (.iload_n 1, 1) := by decide +kernel
theorem dX7_alike_20 : decode cX7_alike 20 = .ok (.aaload, 1) := by decide +kernel
theorem dX7_alike_21 : decode cX7_alike 21 = .ok (.aload_n 0, 1) := by decide +kernel
theorem dX7_alike_22 : decode cX7_alike 22 = .ok (.getfield 34, 3) := by decide +kernel
theorem dX7_alike_25 : decode cX7_alike 25 = .ok (.iload_n 2, 1) := by decide +kernel
theorem dX7_alike_26 : decode cX7_alike 26 = .ok (.aaload, 1) := by decide +kernel
theorem dX7_alike_27 : decode cX7_alike 27 = .ok (.invokevirtual 363, 3) := by decide +kernel
theorem dX7_alike_30 : decode cX7_alike 30 = .ok (.ifCond .eq 7, 3) := by decide +kernel
theorem dX7_alike_33 : decode cX7_alike 33 = .ok (.iconst 1, 1) := by decide +kernel
theorem dX7_alike_34 : decode cX7_alike 34 = .ok (.goto 4, 3) := by decide +kernel
theorem dX7_alike_37 : decode cX7_alike 37 = .ok (.iconst 0, 1) := by decide +kernel
theorem dX7_alike_38 : decode cX7_alike 38 = .ok (.ireturn, 1) := by decide +kernel
noncomputable def fX7_alike  (t_images_0_rows : Nat → Int32) (t_images_0_sizes : Nat → Int32) (t_images_0_told : Int32) (t_images_0_acts : Int32) (t_images_1_rows : Nat → Int32) (t_images_1_sizes : Nat → Int32) (t_images_1_told : Int32) (t_images_1_acts : Int32) (t_images_2_rows : Nat → Int32) (t_images_2_sizes : Nat → Int32) (t_images_2_told : Int32) (t_images_2_acts : Int32) (v1 : Int32) (v2 : Int32) : Option (Int32) := (fX7_imagesBar t_images_0_told t_images_1_told t_images_2_told v1 v2).bind fun r1 => (if r1 = 0 then (if v1 = 0 then (if v2 = 0 then (fX1_isOfSamePlies t_images_0_rows t_images_0_sizes t_images_0_acts t_images_0_rows t_images_0_sizes t_images_0_acts).bind fun r6 => (if r6 = 0 then some (0) else some (1)) else (if v2 = 1 then (fX1_isOfSamePlies t_images_0_rows t_images_0_sizes t_images_0_acts t_images_1_rows t_images_1_sizes t_images_1_acts).bind fun r11 => (if r11 = 0 then some (0) else some (1)) else (if v2 = 2 then (fX1_isOfSamePlies t_images_0_rows t_images_0_sizes t_images_0_acts t_images_2_rows t_images_2_sizes t_images_2_acts).bind fun r16 => (if r16 = 0 then some (0) else some (1)) else none))) else (if v1 = 1 then (if v2 = 0 then (fX1_isOfSamePlies t_images_1_rows t_images_1_sizes t_images_1_acts t_images_0_rows t_images_0_sizes t_images_0_acts).bind fun r22 => (if r22 = 0 then some (0) else some (1)) else (if v2 = 1 then (fX1_isOfSamePlies t_images_1_rows t_images_1_sizes t_images_1_acts t_images_1_rows t_images_1_sizes t_images_1_acts).bind fun r27 => (if r27 = 0 then some (0) else some (1)) else (if v2 = 2 then (fX1_isOfSamePlies t_images_1_rows t_images_1_sizes t_images_1_acts t_images_2_rows t_images_2_sizes t_images_2_acts).bind fun r32 => (if r32 = 0 then some (0) else some (1)) else none))) else (if v1 = 2 then (if v2 = 0 then (fX1_isOfSamePlies t_images_2_rows t_images_2_sizes t_images_2_acts t_images_0_rows t_images_0_sizes t_images_0_acts).bind fun r38 => (if r38 = 0 then some (0) else some (1)) else (if v2 = 1 then (fX1_isOfSamePlies t_images_2_rows t_images_2_sizes t_images_2_acts t_images_1_rows t_images_1_sizes t_images_1_acts).bind fun r43 => (if r43 = 0 then some (0) else some (1)) else (if v2 = 2 then (fX1_isOfSamePlies t_images_2_rows t_images_2_sizes t_images_2_acts t_images_2_rows t_images_2_sizes t_images_2_acts).bind fun r48 => (if r48 = 0 then some (0) else some (1)) else none))) else none))) else some r1)
set_option maxHeartbeats 4000000 in
set_option maxRecDepth 100000 in
theorem ctX7_alike (l : Launch) (g : GT) (a_t : Nat → Nat) (a_t_tape : Nat → Nat) (a_t_reader : Nat → Nat) (a_t_now : Nat → Nat) (a_t_choices : Nat → Nat) (a_t_ways : Nat → Nat) (a_t_stress : Nat → Nat) (a_t_images_0 : Nat → Nat) (a_t_images_1 : Nat → Nat) (a_t_images_2 : Nat → Nat) (t_images_0_told : Int32) (t_images_0_lines : Int32) (t_images_0_kinds : Int32) (t_images_0_acts : Int32) (t_images_0_rows : Nat → Int32) (t_images_0_sizes : Nat → Int32) (t_images_1_told : Int32) (t_images_1_lines : Int32) (t_images_1_kinds : Int32) (t_images_1_acts : Int32) (t_images_1_rows : Nat → Int32) (t_images_1_sizes : Nat → Int32) (t_images_2_told : Int32) (t_images_2_lines : Int32) (t_images_2_kinds : Int32) (t_images_2_acts : Int32) (t_images_2_rows : Nat → Int32) (t_images_2_sizes : Nat → Int32) (v1 : Int32) (v2 : Int32) (o : Int32) (h : fX7_alike t_images_0_rows t_images_0_sizes t_images_0_told t_images_0_acts t_images_1_rows t_images_1_sizes t_images_1_told t_images_1_acts t_images_2_rows t_images_2_sizes t_images_2_told t_images_2_acts v1 v2 = some o) : Met l yX7_alike (Cond.code yX7_alike cX7_alike 4 (some .int) :: Tw) ⟨3, 0, 0, 67⟩ (va_Pc [.ref ((a_t 0)), .int v1, .int v2] (roB g [((a_t 0), .inr (6, [.ref (a_t_tape 0), .ref (a_t_reader 0), .ref (a_t_now 0), .ref (a_t 4), .ref (a_t_choices 0), .ref (a_t_ways 0), .ref (a_t_stress 0)])), ((a_t 4), .inl (g.2.2.1 4, 3, .inr (.inr (.inr (.inr (iF (a_t_images_0 0) (a_t_images_1 0) (a_t_images_2 0))))))), ((a_t_images_0 0), .inr (1, [.ref (a_t_images_0 1), .ref (a_t_images_0 2), .ref (a_t_images_0 3), .ref (a_t_images_0 4), .ref (a_t_images_0 5), .int t_images_0_told, .int t_images_0_lines, .int t_images_0_kinds, .int t_images_0_acts])), ((a_t_images_0 3), .inl (g.2.2.1 0, 31, .inl t_images_0_rows)), ((a_t_images_0 4), .inl (g.2.2.1 0, 31, .inl t_images_0_sizes)), ((a_t_images_1 0), .inr (1, [.ref (a_t_images_1 1), .ref (a_t_images_1 2), .ref (a_t_images_1 3), .ref (a_t_images_1 4), .ref (a_t_images_1 5), .int t_images_1_told, .int t_images_1_lines, .int t_images_1_kinds, .int t_images_1_acts])), ((a_t_images_1 3), .inl (g.2.2.1 0, 31, .inl t_images_1_rows)), ((a_t_images_1 4), .inl (g.2.2.1 0, 31, .inl t_images_1_sizes)), ((a_t_images_2 0), .inr (1, [.ref (a_t_images_2 1), .ref (a_t_images_2 2), .ref (a_t_images_2 3), .ref (a_t_images_2 4), .ref (a_t_images_2 5), .int t_images_2_told, .int t_images_2_lines, .int t_images_2_kinds, .int t_images_2_acts])), ((a_t_images_2 3), .inl (g.2.2.1 0, 31, .inl t_images_2_rows)), ((a_t_images_2 4), .inl (g.2.2.1 0, 31, .inl t_images_2_sizes))])) (vp_Si (fun x => x = o)) 0 0 (fun _ => False) := by
  refine ro_meti (by decide) (Nat.le_of_ble_eq_true rfl) (lv0 := [(0, .ref ((a_t 0))), (1, .int v1), (2, .int v2)]) rfl ?_
  intro p e s m args below meth c ls Q cx hret hG hP hl
  have hx := cx.1
  have hb := cx.2.1
  have hG0 := hG
  unfold fX7_alike at h
  refine lv_aload_n hx hb dX7_alike_0 rfl (lv_at hl 0 rfl) ?_
  refine lv_iload_n hx hb dX7_alike_1 rfl (lv_at hl 1 rfl) ?_
  refine lv_iload_n hx hb dX7_alike_2 rfl (lv_at hl 2 rfl) ?_
  obtain ⟨r1, hr2, h⟩ := bnd h
  refine ro_i (runV (As := [.int v1, .int v2]) (rest := []) cx hl.1 (ctX7_imagesBar l g a_t a_t_tape a_t_reader a_t_now a_t_choices a_t_ways a_t_stress a_t_images_0 a_t_images_1 a_t_images_2 t_images_0_told t_images_0_lines t_images_0_kinds t_images_0_acts t_images_1_told t_images_1_lines t_images_1_kinds t_images_1_acts t_images_2_told t_images_2_lines t_images_2_kinds t_images_2_acts v1 v2 r1 hr2) kmX7_imagesBar kvX7_imagesBar lm_X7_360 ⟨rfl, rfl⟩ ⟨Nat.le_of_ble_eq_true rfl, Nat.le_of_ble_eq_true rfl⟩ (roV (q0 := 0) (ci := 6) hG (hP.sub [0, 1, 2, 5, 8] rfl) hP rfl rfl) rfl rfl (Nat.le_of_ble_eq_true rfl) dX7_alike_3 ⟨Nat.le_of_ble_eq_true rfl, Nat.le_of_ble_eq_true rfl⟩) ?_
  refine lv_istore_n (lv' := [(3, .int r1), (0, .ref ((a_t 0))), (1, .int v1), (2, .int v2)]) hx hb dX7_alike_6 rfl hl (by decide) rfl (fun ls hl => ?_)
  refine lv_iload_n hx hb dX7_alike_7 rfl (lv_at hl 0 rfl) ?_
  refine lv_if_eq (tgt := 15) hx hb dX7_alike_8 (by decide) (fun c3 => ?_) (fun c3 => ?_)
  · have h := itp c3 h
    refine lv_aload_n hx hb dX7_alike_15 rfl (lv_at hl 1 rfl) ?_
    refine xa_get (C := RX7) (T := TX7) (N := 7) cx hG hP 0 rfl rfl uX7 3 (by decide) lf_X7_34 rfl dX7_alike_16 ?_
    refine lv_iload_n hx hb dX7_alike_19 rfl (lv_at hl 2 rfl) ?_
    by_cases e4 : v1 = 0
    · have h := itp e4 h
      refine xa_ald3 (k := 0) cx hG hP 1 rfl (by rw [e4]; decide) rfl dX7_alike_20 ?_
      refine lv_aload_n hx hb dX7_alike_21 rfl (lv_at hl 1 rfl) ?_
      refine xa_get (C := RX7) (T := TX7) (N := 7) cx hG hP 0 rfl rfl uX7 3 (by decide) lf_X7_34 rfl dX7_alike_22 ?_
      refine lv_iload_n hx hb dX7_alike_25 rfl (lv_at hl 3 rfl) ?_
      by_cases e5 : v2 = 0
      · have h := itp e5 h
        refine xa_ald3 (k := 0) cx hG hP 1 rfl (by rw [e5]; decide) rfl dX7_alike_26 ?_
        obtain ⟨r6, hr7, h⟩ := bnd h
        refine ro_z (runVN (As := [.ref ((a_t_images_0 0))]) (rest := []) hG cx hl.1 (ctX1_isOfSamePlies l g a_t_images_0 a_t_images_0 t_images_0_told t_images_0_lines t_images_0_kinds t_images_0_acts t_images_0_rows t_images_0_sizes t_images_0_told t_images_0_lines t_images_0_kinds t_images_0_acts t_images_0_rows t_images_0_sizes r6 hr7) kmX1_isOfSamePlies kvX1_isOfSamePlies nm_103 ⟨rfl, rfl⟩ ⟨Nat.le_of_ble_eq_true rfl, Nat.le_of_ble_eq_true rfl⟩ (roV (q0 := 2) (ci := 1) hG (hP.sub [2, 3, 4, 2, 3, 4] rfl) hP rfl rfl) rfl rfl (Nat.le_of_ble_eq_true rfl) dX7_alike_27 ⟨Nat.le_of_ble_eq_true rfl, Nat.le_of_ble_eq_true rfl⟩) (fun hz8 => ?_)
        refine lv_if_eq (tgt := 37) hx hb dX7_alike_30 (by decide) (fun c9 => ?_) (fun c9 => ?_)
        · have h := itp c9 h
          refine lv_iconst (v := 0) hx hb dX7_alike_37 (by decide) ?_
          exact hret _ _ _ dX7_alike_38 (Option.some.inj h)
        · have h := itn c9 h
          refine lv_iconst (v := 1) hx hb dX7_alike_33 (by decide) ?_
          refine lv_goto (tgt := 38) hx hb dX7_alike_34 (by decide) ?_
          exact hret _ _ _ dX7_alike_38 (Option.some.inj h)
      · have h := itn e5 h
        by_cases e10 : v2 = 1
        · have h := itp e10 h
          refine xa_ald3 (k := 1) cx hG hP 1 rfl (by rw [e10]; decide) rfl dX7_alike_26 ?_
          obtain ⟨r11, hr12, h⟩ := bnd h
          refine ro_z (runVN (As := [.ref ((a_t_images_1 0))]) (rest := []) hG cx hl.1 (ctX1_isOfSamePlies l g a_t_images_0 a_t_images_1 t_images_0_told t_images_0_lines t_images_0_kinds t_images_0_acts t_images_0_rows t_images_0_sizes t_images_1_told t_images_1_lines t_images_1_kinds t_images_1_acts t_images_1_rows t_images_1_sizes r11 hr12) kmX1_isOfSamePlies kvX1_isOfSamePlies nm_103 ⟨rfl, rfl⟩ ⟨Nat.le_of_ble_eq_true rfl, Nat.le_of_ble_eq_true rfl⟩ (roV (q0 := 2) (ci := 1) hG (hP.sub [2, 3, 4, 5, 6, 7] rfl) hP rfl rfl) rfl rfl (Nat.le_of_ble_eq_true rfl) dX7_alike_27 ⟨Nat.le_of_ble_eq_true rfl, Nat.le_of_ble_eq_true rfl⟩) (fun hz13 => ?_)
          refine lv_if_eq (tgt := 37) hx hb dX7_alike_30 (by decide) (fun c14 => ?_) (fun c14 => ?_)
          · have h := itp c14 h
            refine lv_iconst (v := 0) hx hb dX7_alike_37 (by decide) ?_
            exact hret _ _ _ dX7_alike_38 (Option.some.inj h)
          · have h := itn c14 h
            refine lv_iconst (v := 1) hx hb dX7_alike_33 (by decide) ?_
            refine lv_goto (tgt := 38) hx hb dX7_alike_34 (by decide) ?_
            exact hret _ _ _ dX7_alike_38 (Option.some.inj h)
        · have h := itn e10 h
          by_cases e15 : v2 = 2
          · have h := itp e15 h
            refine xa_ald3 (k := 2) cx hG hP 1 rfl (by rw [e15]; decide) rfl dX7_alike_26 ?_
            obtain ⟨r16, hr17, h⟩ := bnd h
            refine ro_z (runVN (As := [.ref ((a_t_images_2 0))]) (rest := []) hG cx hl.1 (ctX1_isOfSamePlies l g a_t_images_0 a_t_images_2 t_images_0_told t_images_0_lines t_images_0_kinds t_images_0_acts t_images_0_rows t_images_0_sizes t_images_2_told t_images_2_lines t_images_2_kinds t_images_2_acts t_images_2_rows t_images_2_sizes r16 hr17) kmX1_isOfSamePlies kvX1_isOfSamePlies nm_103 ⟨rfl, rfl⟩ ⟨Nat.le_of_ble_eq_true rfl, Nat.le_of_ble_eq_true rfl⟩ (roV (q0 := 2) (ci := 1) hG (hP.sub [2, 3, 4, 8, 9, 10] rfl) hP rfl rfl) rfl rfl (Nat.le_of_ble_eq_true rfl) dX7_alike_27 ⟨Nat.le_of_ble_eq_true rfl, Nat.le_of_ble_eq_true rfl⟩) (fun hz18 => ?_)
            refine lv_if_eq (tgt := 37) hx hb dX7_alike_30 (by decide) (fun c19 => ?_) (fun c19 => ?_)
            · have h := itp c19 h
              refine lv_iconst (v := 0) hx hb dX7_alike_37 (by decide) ?_
              exact hret _ _ _ dX7_alike_38 (Option.some.inj h)
            · have h := itn c19 h
              refine lv_iconst (v := 1) hx hb dX7_alike_33 (by decide) ?_
              refine lv_goto (tgt := 38) hx hb dX7_alike_34 (by decide) ?_
              exact hret _ _ _ dX7_alike_38 (Option.some.inj h)
          · have h := itn e15 h
            cases h
    · have h := itn e4 h
      by_cases e20 : v1 = 1
      · have h := itp e20 h
        refine xa_ald3 (k := 1) cx hG hP 1 rfl (by rw [e20]; decide) rfl dX7_alike_20 ?_
        refine lv_aload_n hx hb dX7_alike_21 rfl (lv_at hl 1 rfl) ?_
        refine xa_get (C := RX7) (T := TX7) (N := 7) cx hG hP 0 rfl rfl uX7 3 (by decide) lf_X7_34 rfl dX7_alike_22 ?_
        refine lv_iload_n hx hb dX7_alike_25 rfl (lv_at hl 3 rfl) ?_
        by_cases e21 : v2 = 0
        · have h := itp e21 h
          refine xa_ald3 (k := 0) cx hG hP 1 rfl (by rw [e21]; decide) rfl dX7_alike_26 ?_
          obtain ⟨r22, hr23, h⟩ := bnd h
          refine ro_z (runVN (As := [.ref ((a_t_images_0 0))]) (rest := []) hG cx hl.1 (ctX1_isOfSamePlies l g a_t_images_1 a_t_images_0 t_images_1_told t_images_1_lines t_images_1_kinds t_images_1_acts t_images_1_rows t_images_1_sizes t_images_0_told t_images_0_lines t_images_0_kinds t_images_0_acts t_images_0_rows t_images_0_sizes r22 hr23) kmX1_isOfSamePlies kvX1_isOfSamePlies nm_103 ⟨rfl, rfl⟩ ⟨Nat.le_of_ble_eq_true rfl, Nat.le_of_ble_eq_true rfl⟩ (roV (q0 := 5) (ci := 1) hG (hP.sub [5, 6, 7, 2, 3, 4] rfl) hP rfl rfl) rfl rfl (Nat.le_of_ble_eq_true rfl) dX7_alike_27 ⟨Nat.le_of_ble_eq_true rfl, Nat.le_of_ble_eq_true rfl⟩) (fun hz24 => ?_)
          refine lv_if_eq (tgt := 37) hx hb dX7_alike_30 (by decide) (fun c25 => ?_) (fun c25 => ?_)
          · have h := itp c25 h
            refine lv_iconst (v := 0) hx hb dX7_alike_37 (by decide) ?_
            exact hret _ _ _ dX7_alike_38 (Option.some.inj h)
          · have h := itn c25 h
            refine lv_iconst (v := 1) hx hb dX7_alike_33 (by decide) ?_
            refine lv_goto (tgt := 38) hx hb dX7_alike_34 (by decide) ?_
            exact hret _ _ _ dX7_alike_38 (Option.some.inj h)
        · have h := itn e21 h
          by_cases e26 : v2 = 1
          · have h := itp e26 h
            refine xa_ald3 (k := 1) cx hG hP 1 rfl (by rw [e26]; decide) rfl dX7_alike_26 ?_
            obtain ⟨r27, hr28, h⟩ := bnd h
            refine ro_z (runVN (As := [.ref ((a_t_images_1 0))]) (rest := []) hG cx hl.1 (ctX1_isOfSamePlies l g a_t_images_1 a_t_images_1 t_images_1_told t_images_1_lines t_images_1_kinds t_images_1_acts t_images_1_rows t_images_1_sizes t_images_1_told t_images_1_lines t_images_1_kinds t_images_1_acts t_images_1_rows t_images_1_sizes r27 hr28) kmX1_isOfSamePlies kvX1_isOfSamePlies nm_103 ⟨rfl, rfl⟩ ⟨Nat.le_of_ble_eq_true rfl, Nat.le_of_ble_eq_true rfl⟩ (roV (q0 := 5) (ci := 1) hG (hP.sub [5, 6, 7, 5, 6, 7] rfl) hP rfl rfl) rfl rfl (Nat.le_of_ble_eq_true rfl) dX7_alike_27 ⟨Nat.le_of_ble_eq_true rfl, Nat.le_of_ble_eq_true rfl⟩) (fun hz29 => ?_)
            refine lv_if_eq (tgt := 37) hx hb dX7_alike_30 (by decide) (fun c30 => ?_) (fun c30 => ?_)
            · have h := itp c30 h
              refine lv_iconst (v := 0) hx hb dX7_alike_37 (by decide) ?_
              exact hret _ _ _ dX7_alike_38 (Option.some.inj h)
            · have h := itn c30 h
              refine lv_iconst (v := 1) hx hb dX7_alike_33 (by decide) ?_
              refine lv_goto (tgt := 38) hx hb dX7_alike_34 (by decide) ?_
              exact hret _ _ _ dX7_alike_38 (Option.some.inj h)
          · have h := itn e26 h
            by_cases e31 : v2 = 2
            · have h := itp e31 h
              refine xa_ald3 (k := 2) cx hG hP 1 rfl (by rw [e31]; decide) rfl dX7_alike_26 ?_
              obtain ⟨r32, hr33, h⟩ := bnd h
              refine ro_z (runVN (As := [.ref ((a_t_images_2 0))]) (rest := []) hG cx hl.1 (ctX1_isOfSamePlies l g a_t_images_1 a_t_images_2 t_images_1_told t_images_1_lines t_images_1_kinds t_images_1_acts t_images_1_rows t_images_1_sizes t_images_2_told t_images_2_lines t_images_2_kinds t_images_2_acts t_images_2_rows t_images_2_sizes r32 hr33) kmX1_isOfSamePlies kvX1_isOfSamePlies nm_103 ⟨rfl, rfl⟩ ⟨Nat.le_of_ble_eq_true rfl, Nat.le_of_ble_eq_true rfl⟩ (roV (q0 := 5) (ci := 1) hG (hP.sub [5, 6, 7, 8, 9, 10] rfl) hP rfl rfl) rfl rfl (Nat.le_of_ble_eq_true rfl) dX7_alike_27 ⟨Nat.le_of_ble_eq_true rfl, Nat.le_of_ble_eq_true rfl⟩) (fun hz34 => ?_)
              refine lv_if_eq (tgt := 37) hx hb dX7_alike_30 (by decide) (fun c35 => ?_) (fun c35 => ?_)
              · have h := itp c35 h
                refine lv_iconst (v := 0) hx hb dX7_alike_37 (by decide) ?_
                exact hret _ _ _ dX7_alike_38 (Option.some.inj h)
              · have h := itn c35 h
                refine lv_iconst (v := 1) hx hb dX7_alike_33 (by decide) ?_
                refine lv_goto (tgt := 38) hx hb dX7_alike_34 (by decide) ?_
                exact hret _ _ _ dX7_alike_38 (Option.some.inj h)
            · have h := itn e31 h
              cases h
      · have h := itn e20 h
        by_cases e36 : v1 = 2
        · have h := itp e36 h
          refine xa_ald3 (k := 2) cx hG hP 1 rfl (by rw [e36]; decide) rfl dX7_alike_20 ?_
          refine lv_aload_n hx hb dX7_alike_21 rfl (lv_at hl 1 rfl) ?_
          refine xa_get (C := RX7) (T := TX7) (N := 7) cx hG hP 0 rfl rfl uX7 3 (by decide) lf_X7_34 rfl dX7_alike_22 ?_
          refine lv_iload_n hx hb dX7_alike_25 rfl (lv_at hl 3 rfl) ?_
          by_cases e37 : v2 = 0
          · have h := itp e37 h
            refine xa_ald3 (k := 0) cx hG hP 1 rfl (by rw [e37]; decide) rfl dX7_alike_26 ?_
            obtain ⟨r38, hr39, h⟩ := bnd h
            refine ro_z (runVN (As := [.ref ((a_t_images_0 0))]) (rest := []) hG cx hl.1 (ctX1_isOfSamePlies l g a_t_images_2 a_t_images_0 t_images_2_told t_images_2_lines t_images_2_kinds t_images_2_acts t_images_2_rows t_images_2_sizes t_images_0_told t_images_0_lines t_images_0_kinds t_images_0_acts t_images_0_rows t_images_0_sizes r38 hr39) kmX1_isOfSamePlies kvX1_isOfSamePlies nm_103 ⟨rfl, rfl⟩ ⟨Nat.le_of_ble_eq_true rfl, Nat.le_of_ble_eq_true rfl⟩ (roV (q0 := 8) (ci := 1) hG (hP.sub [8, 9, 10, 2, 3, 4] rfl) hP rfl rfl) rfl rfl (Nat.le_of_ble_eq_true rfl) dX7_alike_27 ⟨Nat.le_of_ble_eq_true rfl, Nat.le_of_ble_eq_true rfl⟩) (fun hz40 => ?_)
            refine lv_if_eq (tgt := 37) hx hb dX7_alike_30 (by decide) (fun c41 => ?_) (fun c41 => ?_)
            · have h := itp c41 h
              refine lv_iconst (v := 0) hx hb dX7_alike_37 (by decide) ?_
              exact hret _ _ _ dX7_alike_38 (Option.some.inj h)
            · have h := itn c41 h
              refine lv_iconst (v := 1) hx hb dX7_alike_33 (by decide) ?_
              refine lv_goto (tgt := 38) hx hb dX7_alike_34 (by decide) ?_
              exact hret _ _ _ dX7_alike_38 (Option.some.inj h)
          · have h := itn e37 h
            by_cases e42 : v2 = 1
            · have h := itp e42 h
              refine xa_ald3 (k := 1) cx hG hP 1 rfl (by rw [e42]; decide) rfl dX7_alike_26 ?_
              obtain ⟨r43, hr44, h⟩ := bnd h
              refine ro_z (runVN (As := [.ref ((a_t_images_1 0))]) (rest := []) hG cx hl.1 (ctX1_isOfSamePlies l g a_t_images_2 a_t_images_1 t_images_2_told t_images_2_lines t_images_2_kinds t_images_2_acts t_images_2_rows t_images_2_sizes t_images_1_told t_images_1_lines t_images_1_kinds t_images_1_acts t_images_1_rows t_images_1_sizes r43 hr44) kmX1_isOfSamePlies kvX1_isOfSamePlies nm_103 ⟨rfl, rfl⟩ ⟨Nat.le_of_ble_eq_true rfl, Nat.le_of_ble_eq_true rfl⟩ (roV (q0 := 8) (ci := 1) hG (hP.sub [8, 9, 10, 5, 6, 7] rfl) hP rfl rfl) rfl rfl (Nat.le_of_ble_eq_true rfl) dX7_alike_27 ⟨Nat.le_of_ble_eq_true rfl, Nat.le_of_ble_eq_true rfl⟩) (fun hz45 => ?_)
              refine lv_if_eq (tgt := 37) hx hb dX7_alike_30 (by decide) (fun c46 => ?_) (fun c46 => ?_)
              · have h := itp c46 h
                refine lv_iconst (v := 0) hx hb dX7_alike_37 (by decide) ?_
                exact hret _ _ _ dX7_alike_38 (Option.some.inj h)
              · have h := itn c46 h
                refine lv_iconst (v := 1) hx hb dX7_alike_33 (by decide) ?_
                refine lv_goto (tgt := 38) hx hb dX7_alike_34 (by decide) ?_
                exact hret _ _ _ dX7_alike_38 (Option.some.inj h)
            · have h := itn e42 h
              by_cases e47 : v2 = 2
              · have h := itp e47 h
                refine xa_ald3 (k := 2) cx hG hP 1 rfl (by rw [e47]; decide) rfl dX7_alike_26 ?_
                obtain ⟨r48, hr49, h⟩ := bnd h
                refine ro_z (runVN (As := [.ref ((a_t_images_2 0))]) (rest := []) hG cx hl.1 (ctX1_isOfSamePlies l g a_t_images_2 a_t_images_2 t_images_2_told t_images_2_lines t_images_2_kinds t_images_2_acts t_images_2_rows t_images_2_sizes t_images_2_told t_images_2_lines t_images_2_kinds t_images_2_acts t_images_2_rows t_images_2_sizes r48 hr49) kmX1_isOfSamePlies kvX1_isOfSamePlies nm_103 ⟨rfl, rfl⟩ ⟨Nat.le_of_ble_eq_true rfl, Nat.le_of_ble_eq_true rfl⟩ (roV (q0 := 8) (ci := 1) hG (hP.sub [8, 9, 10, 8, 9, 10] rfl) hP rfl rfl) rfl rfl (Nat.le_of_ble_eq_true rfl) dX7_alike_27 ⟨Nat.le_of_ble_eq_true rfl, Nat.le_of_ble_eq_true rfl⟩) (fun hz50 => ?_)
                refine lv_if_eq (tgt := 37) hx hb dX7_alike_30 (by decide) (fun c51 => ?_) (fun c51 => ?_)
                · have h := itp c51 h
                  refine lv_iconst (v := 0) hx hb dX7_alike_37 (by decide) ?_
                  exact hret _ _ _ dX7_alike_38 (Option.some.inj h)
                · have h := itn c51 h
                  refine lv_iconst (v := 1) hx hb dX7_alike_33 (by decide) ?_
                  refine lv_goto (tgt := 38) hx hb dX7_alike_34 (by decide) ?_
                  exact hret _ _ _ dX7_alike_38 (Option.some.inj h)
              · have h := itn e47 h
                cases h
        · have h := itn e36 h
          cases h
  · have h := itn c3 h
    refine lv_iload_n hx hb dX7_alike_11 rfl (lv_at hl 0 rfl) ?_
    refine lv_goto (tgt := 38) hx hb dX7_alike_12 (by decide) ?_
    exact hret _ _ _ dX7_alike_38 (Option.some.inj h)
-- X7_partOf
theorem dX7_partOf_0 : decode cX7_partOf 0 = .ok (.aload_n 0, 1) := by decide +kernel
theorem dX7_partOf_1 : decode cX7_partOf 1 = .ok (.iload_n 1, 1) := by decide +kernel
theorem dX7_partOf_2 : decode cX7_partOf 2 = .ok (.iload_n 2, 1) := by decide +kernel
theorem dX7_partOf_3 : decode cX7_partOf 3 = .ok (.invokevirtual 360, 3) := by decide +kernel
theorem dX7_partOf_6 : decode cX7_partOf 6 = .ok (.istore_n 3, 1) := by decide +kernel
theorem dX7_partOf_7 : decode cX7_partOf 7 = .ok (.iload_n 3, 1) := by decide +kernel
theorem dX7_partOf_8 : decode cX7_partOf 8 = .ok (.ifCond .eq 7, 3) := by decide +kernel
theorem dX7_partOf_11 : decode cX7_partOf 11 = .ok (.iload_n 3, 1) := by decide +kernel
theorem dX7_partOf_12 : decode cX7_partOf 12 = .ok (.goto 26, 3) := by decide +kernel
theorem dX7_partOf_15 : decode cX7_partOf 15 = .ok (.aload_n 0, 1) := by decide +kernel
theorem dX7_partOf_16 : decode cX7_partOf 16 = .ok (.getfield 34, 3) := by decide +kernel
theorem dX7_partOf_19 : decode cX7_partOf 19 = .ok (.iload_n 1, 1) := by decide +kernel
theorem dX7_partOf_20 : decode cX7_partOf 20 = .ok (.aaload, 1) := by decide +kernel
theorem dX7_partOf_21 : decode cX7_partOf 21 = .ok (.aload_n 0, 1) := by decide +kernel
theorem dX7_partOf_22 : decode cX7_partOf 22 = .ok (.getfield 34, 3) := by decide +kernel
theorem dX7_partOf_25 : decode cX7_partOf 25 = .ok (.iload_n 2, 1) := by decide +kernel
theorem dX7_partOf_26 : decode cX7_partOf 26 = .ok (.aaload, 1) := by decide +kernel
theorem dX7_partOf_27 : decode cX7_partOf 27 = .ok (.invokevirtual 367, 3) := by decide +kernel
theorem dX7_partOf_30 : decode cX7_partOf 30 = .ok (.ifCond .eq 7, 3) := by decide +kernel
theorem dX7_partOf_33 : decode cX7_partOf 33 = .ok (.iconst 1, 1) := by decide +kernel
theorem dX7_partOf_34 : decode cX7_partOf 34 = .ok (.goto 4, 3) := by decide +kernel
theorem dX7_partOf_37 : decode cX7_partOf 37 = .ok (.iconst 0, 1) := by decide +kernel
theorem dX7_partOf_38 : decode cX7_partOf 38 = .ok (.ireturn, 1) := by decide +kernel
noncomputable def fX7_partOf  (t_images_0_rows : Nat → Int32) (t_images_0_sizes : Nat → Int32) (t_images_0_told : Int32) (t_images_0_acts : Int32) (t_images_1_rows : Nat → Int32) (t_images_1_sizes : Nat → Int32) (t_images_1_told : Int32) (t_images_1_acts : Int32) (t_images_2_rows : Nat → Int32) (t_images_2_sizes : Nat → Int32) (t_images_2_told : Int32) (t_images_2_acts : Int32) (v1 : Int32) (v2 : Int32) : Option (Int32) := (fX7_imagesBar t_images_0_told t_images_1_told t_images_2_told v1 v2).bind fun r1 => (if r1 = 0 then (if v1 = 0 then (if v2 = 0 then (fX1_isPartOf t_images_0_rows t_images_0_sizes t_images_0_acts t_images_0_rows t_images_0_sizes t_images_0_acts).bind fun r6 => (if r6 = 0 then some (0) else some (1)) else (if v2 = 1 then (fX1_isPartOf t_images_0_rows t_images_0_sizes t_images_0_acts t_images_1_rows t_images_1_sizes t_images_1_acts).bind fun r11 => (if r11 = 0 then some (0) else some (1)) else (if v2 = 2 then (fX1_isPartOf t_images_0_rows t_images_0_sizes t_images_0_acts t_images_2_rows t_images_2_sizes t_images_2_acts).bind fun r16 => (if r16 = 0 then some (0) else some (1)) else none))) else (if v1 = 1 then (if v2 = 0 then (fX1_isPartOf t_images_1_rows t_images_1_sizes t_images_1_acts t_images_0_rows t_images_0_sizes t_images_0_acts).bind fun r22 => (if r22 = 0 then some (0) else some (1)) else (if v2 = 1 then (fX1_isPartOf t_images_1_rows t_images_1_sizes t_images_1_acts t_images_1_rows t_images_1_sizes t_images_1_acts).bind fun r27 => (if r27 = 0 then some (0) else some (1)) else (if v2 = 2 then (fX1_isPartOf t_images_1_rows t_images_1_sizes t_images_1_acts t_images_2_rows t_images_2_sizes t_images_2_acts).bind fun r32 => (if r32 = 0 then some (0) else some (1)) else none))) else (if v1 = 2 then (if v2 = 0 then (fX1_isPartOf t_images_2_rows t_images_2_sizes t_images_2_acts t_images_0_rows t_images_0_sizes t_images_0_acts).bind fun r38 => (if r38 = 0 then some (0) else some (1)) else (if v2 = 1 then (fX1_isPartOf t_images_2_rows t_images_2_sizes t_images_2_acts t_images_1_rows t_images_1_sizes t_images_1_acts).bind fun r43 => (if r43 = 0 then some (0) else some (1)) else (if v2 = 2 then (fX1_isPartOf t_images_2_rows t_images_2_sizes t_images_2_acts t_images_2_rows t_images_2_sizes t_images_2_acts).bind fun r48 => (if r48 = 0 then some (0) else some (1)) else none))) else none))) else some r1)
set_option maxHeartbeats 4000000 in
set_option maxRecDepth 100000 in
theorem ctX7_partOf (l : Launch) (g : GT) (sz : Nat) (a_t : Nat → Nat) (a_t_tape : Nat → Nat) (a_t_reader : Nat → Nat) (a_t_now : Nat → Nat) (a_t_choices : Nat → Nat) (a_t_ways : Nat → Nat) (a_t_stress : Nat → Nat) (a_t_images_0 : Nat → Nat) (a_t_images_1 : Nat → Nat) (a_t_images_2 : Nat → Nat) (t_images_0_told : Int32) (t_images_0_lines : Int32) (t_images_0_kinds : Int32) (t_images_0_acts : Int32) (t_images_0_rows : Nat → Int32) (t_images_0_sizes : Nat → Int32) (t_images_1_told : Int32) (t_images_1_lines : Int32) (t_images_1_kinds : Int32) (t_images_1_acts : Int32) (t_images_1_rows : Nat → Int32) (t_images_1_sizes : Nat → Int32) (t_images_2_told : Int32) (t_images_2_lines : Int32) (t_images_2_kinds : Int32) (t_images_2_acts : Int32) (t_images_2_rows : Nat → Int32) (t_images_2_sizes : Nat → Int32) (v1 : Int32) (v2 : Int32) (o : Int32) (h : fX7_partOf t_images_0_rows t_images_0_sizes t_images_0_told t_images_0_acts t_images_1_rows t_images_1_sizes t_images_1_told t_images_1_acts t_images_2_rows t_images_2_sizes t_images_2_told t_images_2_acts v1 v2 = some (o)) : Met l yX7_partOf (Cond.code yX7_partOf cX7_partOf 4 (some .int) :: Tw) ⟨4, 1, 9, 90⟩ (va_Pc [.ref ((a_t 0)), .int v1, .int v2] (raB g [((a_t 0), .inr (6, [.ref (a_t_tape 0), .ref (a_t_reader 0), .ref (a_t_now 0), .ref (a_t 4), .ref (a_t_choices 0), .ref (a_t_ways 0), .ref (a_t_stress 0)])), ((a_t 4), .inl (g.2.2.1 4, 3, .inr (.inr (.inr (.inr (iF (a_t_images_0 0) (a_t_images_1 0) (a_t_images_2 0))))))), ((a_t_images_0 0), .inr (1, [.ref (a_t_images_0 1), .ref (a_t_images_0 2), .ref (a_t_images_0 3), .ref (a_t_images_0 4), .ref (a_t_images_0 5), .int t_images_0_told, .int t_images_0_lines, .int t_images_0_kinds, .int t_images_0_acts])), ((a_t_images_0 3), .inl (g.2.2.1 0, 31, .inl t_images_0_rows)), ((a_t_images_0 4), .inl (g.2.2.1 0, 31, .inl t_images_0_sizes)), ((a_t_images_1 0), .inr (1, [.ref (a_t_images_1 1), .ref (a_t_images_1 2), .ref (a_t_images_1 3), .ref (a_t_images_1 4), .ref (a_t_images_1 5), .int t_images_1_told, .int t_images_1_lines, .int t_images_1_kinds, .int t_images_1_acts])), ((a_t_images_1 3), .inl (g.2.2.1 0, 31, .inl t_images_1_rows)), ((a_t_images_1 4), .inl (g.2.2.1 0, 31, .inl t_images_1_sizes)), ((a_t_images_2 0), .inr (1, [.ref (a_t_images_2 1), .ref (a_t_images_2 2), .ref (a_t_images_2 3), .ref (a_t_images_2 4), .ref (a_t_images_2 5), .int t_images_2_told, .int t_images_2_lines, .int t_images_2_kinds, .int t_images_2_acts])), ((a_t_images_2 3), .inl (g.2.2.1 0, 31, .inl t_images_2_rows)), ((a_t_images_2 4), .inl (g.2.2.1 0, 31, .inl t_images_2_sizes))] sz)) (va_Qi (fun x (_ : Unit) => x = o) (fun _ _ => True) (fun q => sz ≤ q)) 1 9 (fun q => sz ≤ q) := by
  refine ra_meti (by decide) (Nat.le_of_ble_eq_true rfl) (lv0 := [(0, .ref ((a_t 0))), (1, .int v1), (2, .int v2)]) rfl ?_
  intro p e s m args below meth c ls Q cx hret hG hb0 hO hl
  have hA : ∀ q, s.heap.size ≤ q → (fun q : Nat => s.heap.size ≤ q) q := fun _ h => h
  have hAb : ∀ q, (fun q : Nat => s.heap.size ≤ q) q → g.1 ≤ q := fun q h => Nat.le_trans hb0 h
  generalize hAe : (fun q : Nat => s.heap.size ≤ q) = A at hret hA hAb
  have hO0 := hO
  have hOk : ∀ {H : Heap} {locs : List Loc}, va_S A s.heap H locs → va_P g.2.1 vwCl [((a_t 0), .inr (6, [.ref (a_t_tape 0), .ref (a_t_reader 0), .ref (a_t_now 0), .ref (a_t 4), .ref (a_t_choices 0), .ref (a_t_ways 0), .ref (a_t_stress 0)])), ((a_t 4), .inl (g.2.2.1 4, 3, .inr (.inr (.inr (.inr (iF (a_t_images_0 0) (a_t_images_1 0) (a_t_images_2 0))))))), ((a_t_images_0 0), .inr (1, [.ref (a_t_images_0 1), .ref (a_t_images_0 2), .ref (a_t_images_0 3), .ref (a_t_images_0 4), .ref (a_t_images_0 5), .int t_images_0_told, .int t_images_0_lines, .int t_images_0_kinds, .int t_images_0_acts])), ((a_t_images_0 3), .inl (g.2.2.1 0, 31, .inl t_images_0_rows)), ((a_t_images_0 4), .inl (g.2.2.1 0, 31, .inl t_images_0_sizes)), ((a_t_images_1 0), .inr (1, [.ref (a_t_images_1 1), .ref (a_t_images_1 2), .ref (a_t_images_1 3), .ref (a_t_images_1 4), .ref (a_t_images_1 5), .int t_images_1_told, .int t_images_1_lines, .int t_images_1_kinds, .int t_images_1_acts])), ((a_t_images_1 3), .inl (g.2.2.1 0, 31, .inl t_images_1_rows)), ((a_t_images_1 4), .inl (g.2.2.1 0, 31, .inl t_images_1_sizes)), ((a_t_images_2 0), .inr (1, [.ref (a_t_images_2 1), .ref (a_t_images_2 2), .ref (a_t_images_2 3), .ref (a_t_images_2 4), .ref (a_t_images_2 5), .int t_images_2_told, .int t_images_2_lines, .int t_images_2_kinds, .int t_images_2_acts])), ((a_t_images_2 3), .inl (g.2.2.1 0, 31, .inl t_images_2_rows)), ((a_t_images_2 4), .inl (g.2.2.1 0, 31, .inl t_images_2_sizes))] H := fun hS => xw_old hO0 (by rw [hAe]; exact hS)
  have hP : va_P g.2.1 vwCl [] s.heap := fun k q hk => by simp at hk
  have hD : va_D A [] := ⟨fun i j p q hi => by simp at hi, fun k q hk => by simp at hk⟩
  have hx := cx.1
  have hb := cx.2.1
  have hG0 := hG
  have hGk : ∀ {H : Heap} {locs : List Loc}, va_S A s.heap H locs → GE g s H := fun hS => hG0.keptS hAb hS
  have hSb : ∀ {H : Heap} {locs : List Loc}, va_S A s.heap H locs → va_S (fun a => g.1 ≤ a) s.heap H locs := fun hS => ⟨hS.1, fun q h1 h2 => hS.2.1 q h1 (fun z => h2 (hAb q z)), fun l hl => hAb _ (hS.2.2 l hl)⟩
  have hS : va_S A s.heap s.heap [] := va_S.rf
  unfold fX7_partOf at h
  refine lv_aload_n hx hb dX7_partOf_0 rfl (lv_at hl 0 rfl) ?_
  refine lv_iload_n hx hb dX7_partOf_1 rfl (lv_at hl 1 rfl) ?_
  refine lv_iload_n hx hb dX7_partOf_2 rfl (lv_at hl 2 rfl) ?_
  obtain ⟨r1, hr2, h⟩ := bnd h
  refine ro_i (runV (As := [.int v1, .int v2]) (rest := []) cx hl.1 (ctX7_imagesBar l g a_t a_t_tape a_t_reader a_t_now a_t_choices a_t_ways a_t_stress a_t_images_0 a_t_images_1 a_t_images_2 t_images_0_told t_images_0_lines t_images_0_kinds t_images_0_acts t_images_1_told t_images_1_lines t_images_1_kinds t_images_1_acts t_images_2_told t_images_2_lines t_images_2_kinds t_images_2_acts v1 v2 r1 hr2) kmX7_imagesBar kvX7_imagesBar lm_X7_360 ⟨rfl, rfl⟩ ⟨Nat.le_of_ble_eq_true rfl, Nat.le_of_ble_eq_true rfl⟩ (roV (q0 := 0) (ci := 6) hG (hO.sub [0, 1, 2, 5, 8] rfl) hO rfl rfl) rfl rfl (Nat.le_of_ble_eq_true rfl) dX7_partOf_3 ⟨Nat.le_of_ble_eq_true rfl, Nat.le_of_ble_eq_true rfl⟩) ?_
  refine lv_istore_n (lv' := [(3, .int r1), (0, .ref ((a_t 0))), (1, .int v1), (2, .int v2)]) hx hb dX7_partOf_6 rfl hl (by decide) rfl (fun ls hl => ?_)
  refine lv_iload_n hx hb dX7_partOf_7 rfl (lv_at hl 0 rfl) ?_
  refine lv_if_eq (tgt := 15) hx hb dX7_partOf_8 (by decide) (fun c3 => ?_) (fun c3 => ?_)
  · have h := itp c3 h
    refine lv_aload_n hx hb dX7_partOf_15 rfl (lv_at hl 1 rfl) ?_
    refine xa_get (C := RX7) (T := TX7) (N := 7) cx hG hO 0 rfl rfl uX7 3 (by decide) lf_X7_34 rfl dX7_partOf_16 ?_
    refine lv_iload_n hx hb dX7_partOf_19 rfl (lv_at hl 2 rfl) ?_
    by_cases e4 : v1 = 0
    · have h := itp e4 h
      refine xa_ald3 (k := 0) cx hG hO 1 rfl (by rw [e4]; decide) rfl dX7_partOf_20 ?_
      refine lv_aload_n hx hb dX7_partOf_21 rfl (lv_at hl 1 rfl) ?_
      refine xa_get (C := RX7) (T := TX7) (N := 7) cx hG hO 0 rfl rfl uX7 3 (by decide) lf_X7_34 rfl dX7_partOf_22 ?_
      refine lv_iload_n hx hb dX7_partOf_25 rfl (lv_at hl 3 rfl) ?_
      by_cases e5 : v2 = 0
      · have h := itp e5 h
        refine xa_ald3 (k := 0) cx hG hO 1 rfl (by rw [e5]; decide) rfl dX7_partOf_26 ?_
        obtain ⟨r6, hr7, h⟩ := bnd h
        refine ra_z (runVN (As := [.ref ((a_t_images_0 0))]) (rest := []) hG cx hl.1 (ctX1_isPartOf l g s.heap.size a_t_images_0 a_t_images_0 t_images_0_told t_images_0_lines t_images_0_kinds t_images_0_acts t_images_0_rows t_images_0_sizes t_images_0_told t_images_0_lines t_images_0_kinds t_images_0_acts t_images_0_rows t_images_0_sizes r6 hr7) kmX1_isPartOf kvX1_isPartOf nm_105 ⟨rfl, rfl⟩ ⟨Nat.le_of_ble_eq_true rfl, Nat.le_of_ble_eq_true rfl⟩ (raV (q0 := 2) (ci := 1) hG (hO.sub [2, 3, 4, 2, 3, 4] rfl) hb0 hS hO rfl rfl) rfl rfl (Nat.le_of_ble_eq_true rfl) dX7_partOf_27 ⟨Nat.le_of_ble_eq_true rfl, Nat.le_of_ble_eq_true rfl⟩) hS hA (fun hz8 H locs _ hS => ?_)
        have hG := hGk hS
        have hO := hOk hS
        refine lv_if_eq (tgt := 37) hx hb dX7_partOf_30 (by decide) (fun c9 => ?_) (fun c9 => ?_)
        · have h := itp c9 h
          refine lv_iconst (v := 0) hx hb dX7_partOf_37 (by decide) ?_
          exact hret _ _ _ _ _ dX7_partOf_38 (Option.some.inj h) hS
        · have h := itn c9 h
          refine lv_iconst (v := 1) hx hb dX7_partOf_33 (by decide) ?_
          refine lv_goto (tgt := 38) hx hb dX7_partOf_34 (by decide) ?_
          exact hret _ _ _ _ _ dX7_partOf_38 (Option.some.inj h) hS
      · have h := itn e5 h
        by_cases e10 : v2 = 1
        · have h := itp e10 h
          refine xa_ald3 (k := 1) cx hG hO 1 rfl (by rw [e10]; decide) rfl dX7_partOf_26 ?_
          obtain ⟨r11, hr12, h⟩ := bnd h
          refine ra_z (runVN (As := [.ref ((a_t_images_1 0))]) (rest := []) hG cx hl.1 (ctX1_isPartOf l g s.heap.size a_t_images_0 a_t_images_1 t_images_0_told t_images_0_lines t_images_0_kinds t_images_0_acts t_images_0_rows t_images_0_sizes t_images_1_told t_images_1_lines t_images_1_kinds t_images_1_acts t_images_1_rows t_images_1_sizes r11 hr12) kmX1_isPartOf kvX1_isPartOf nm_105 ⟨rfl, rfl⟩ ⟨Nat.le_of_ble_eq_true rfl, Nat.le_of_ble_eq_true rfl⟩ (raV (q0 := 2) (ci := 1) hG (hO.sub [2, 3, 4, 5, 6, 7] rfl) hb0 hS hO rfl rfl) rfl rfl (Nat.le_of_ble_eq_true rfl) dX7_partOf_27 ⟨Nat.le_of_ble_eq_true rfl, Nat.le_of_ble_eq_true rfl⟩) hS hA (fun hz13 H locs _ hS => ?_)
          have hG := hGk hS
          have hO := hOk hS
          refine lv_if_eq (tgt := 37) hx hb dX7_partOf_30 (by decide) (fun c14 => ?_) (fun c14 => ?_)
          · have h := itp c14 h
            refine lv_iconst (v := 0) hx hb dX7_partOf_37 (by decide) ?_
            exact hret _ _ _ _ _ dX7_partOf_38 (Option.some.inj h) hS
          · have h := itn c14 h
            refine lv_iconst (v := 1) hx hb dX7_partOf_33 (by decide) ?_
            refine lv_goto (tgt := 38) hx hb dX7_partOf_34 (by decide) ?_
            exact hret _ _ _ _ _ dX7_partOf_38 (Option.some.inj h) hS
        · have h := itn e10 h
          by_cases e15 : v2 = 2
          · have h := itp e15 h
            refine xa_ald3 (k := 2) cx hG hO 1 rfl (by rw [e15]; decide) rfl dX7_partOf_26 ?_
            obtain ⟨r16, hr17, h⟩ := bnd h
            refine ra_z (runVN (As := [.ref ((a_t_images_2 0))]) (rest := []) hG cx hl.1 (ctX1_isPartOf l g s.heap.size a_t_images_0 a_t_images_2 t_images_0_told t_images_0_lines t_images_0_kinds t_images_0_acts t_images_0_rows t_images_0_sizes t_images_2_told t_images_2_lines t_images_2_kinds t_images_2_acts t_images_2_rows t_images_2_sizes r16 hr17) kmX1_isPartOf kvX1_isPartOf nm_105 ⟨rfl, rfl⟩ ⟨Nat.le_of_ble_eq_true rfl, Nat.le_of_ble_eq_true rfl⟩ (raV (q0 := 2) (ci := 1) hG (hO.sub [2, 3, 4, 8, 9, 10] rfl) hb0 hS hO rfl rfl) rfl rfl (Nat.le_of_ble_eq_true rfl) dX7_partOf_27 ⟨Nat.le_of_ble_eq_true rfl, Nat.le_of_ble_eq_true rfl⟩) hS hA (fun hz18 H locs _ hS => ?_)
            have hG := hGk hS
            have hO := hOk hS
            refine lv_if_eq (tgt := 37) hx hb dX7_partOf_30 (by decide) (fun c19 => ?_) (fun c19 => ?_)
            · have h := itp c19 h
              refine lv_iconst (v := 0) hx hb dX7_partOf_37 (by decide) ?_
              exact hret _ _ _ _ _ dX7_partOf_38 (Option.some.inj h) hS
            · have h := itn c19 h
              refine lv_iconst (v := 1) hx hb dX7_partOf_33 (by decide) ?_
              refine lv_goto (tgt := 38) hx hb dX7_partOf_34 (by decide) ?_
              exact hret _ _ _ _ _ dX7_partOf_38 (Option.some.inj h) hS
          · have h := itn e15 h
            cases h
    · have h := itn e4 h
      by_cases e20 : v1 = 1
      · have h := itp e20 h
        refine xa_ald3 (k := 1) cx hG hO 1 rfl (by rw [e20]; decide) rfl dX7_partOf_20 ?_
        refine lv_aload_n hx hb dX7_partOf_21 rfl (lv_at hl 1 rfl) ?_
        refine xa_get (C := RX7) (T := TX7) (N := 7) cx hG hO 0 rfl rfl uX7 3 (by decide) lf_X7_34 rfl dX7_partOf_22 ?_
        refine lv_iload_n hx hb dX7_partOf_25 rfl (lv_at hl 3 rfl) ?_
        by_cases e21 : v2 = 0
        · have h := itp e21 h
          refine xa_ald3 (k := 0) cx hG hO 1 rfl (by rw [e21]; decide) rfl dX7_partOf_26 ?_
          obtain ⟨r22, hr23, h⟩ := bnd h
          refine ra_z (runVN (As := [.ref ((a_t_images_0 0))]) (rest := []) hG cx hl.1 (ctX1_isPartOf l g s.heap.size a_t_images_1 a_t_images_0 t_images_1_told t_images_1_lines t_images_1_kinds t_images_1_acts t_images_1_rows t_images_1_sizes t_images_0_told t_images_0_lines t_images_0_kinds t_images_0_acts t_images_0_rows t_images_0_sizes r22 hr23) kmX1_isPartOf kvX1_isPartOf nm_105 ⟨rfl, rfl⟩ ⟨Nat.le_of_ble_eq_true rfl, Nat.le_of_ble_eq_true rfl⟩ (raV (q0 := 5) (ci := 1) hG (hO.sub [5, 6, 7, 2, 3, 4] rfl) hb0 hS hO rfl rfl) rfl rfl (Nat.le_of_ble_eq_true rfl) dX7_partOf_27 ⟨Nat.le_of_ble_eq_true rfl, Nat.le_of_ble_eq_true rfl⟩) hS hA (fun hz24 H locs _ hS => ?_)
          have hG := hGk hS
          have hO := hOk hS
          refine lv_if_eq (tgt := 37) hx hb dX7_partOf_30 (by decide) (fun c25 => ?_) (fun c25 => ?_)
          · have h := itp c25 h
            refine lv_iconst (v := 0) hx hb dX7_partOf_37 (by decide) ?_
            exact hret _ _ _ _ _ dX7_partOf_38 (Option.some.inj h) hS
          · have h := itn c25 h
            refine lv_iconst (v := 1) hx hb dX7_partOf_33 (by decide) ?_
            refine lv_goto (tgt := 38) hx hb dX7_partOf_34 (by decide) ?_
            exact hret _ _ _ _ _ dX7_partOf_38 (Option.some.inj h) hS
        · have h := itn e21 h
          by_cases e26 : v2 = 1
          · have h := itp e26 h
            refine xa_ald3 (k := 1) cx hG hO 1 rfl (by rw [e26]; decide) rfl dX7_partOf_26 ?_
            obtain ⟨r27, hr28, h⟩ := bnd h
            refine ra_z (runVN (As := [.ref ((a_t_images_1 0))]) (rest := []) hG cx hl.1 (ctX1_isPartOf l g s.heap.size a_t_images_1 a_t_images_1 t_images_1_told t_images_1_lines t_images_1_kinds t_images_1_acts t_images_1_rows t_images_1_sizes t_images_1_told t_images_1_lines t_images_1_kinds t_images_1_acts t_images_1_rows t_images_1_sizes r27 hr28) kmX1_isPartOf kvX1_isPartOf nm_105 ⟨rfl, rfl⟩ ⟨Nat.le_of_ble_eq_true rfl, Nat.le_of_ble_eq_true rfl⟩ (raV (q0 := 5) (ci := 1) hG (hO.sub [5, 6, 7, 5, 6, 7] rfl) hb0 hS hO rfl rfl) rfl rfl (Nat.le_of_ble_eq_true rfl) dX7_partOf_27 ⟨Nat.le_of_ble_eq_true rfl, Nat.le_of_ble_eq_true rfl⟩) hS hA (fun hz29 H locs _ hS => ?_)
            have hG := hGk hS
            have hO := hOk hS
            refine lv_if_eq (tgt := 37) hx hb dX7_partOf_30 (by decide) (fun c30 => ?_) (fun c30 => ?_)
            · have h := itp c30 h
              refine lv_iconst (v := 0) hx hb dX7_partOf_37 (by decide) ?_
              exact hret _ _ _ _ _ dX7_partOf_38 (Option.some.inj h) hS
            · have h := itn c30 h
              refine lv_iconst (v := 1) hx hb dX7_partOf_33 (by decide) ?_
              refine lv_goto (tgt := 38) hx hb dX7_partOf_34 (by decide) ?_
              exact hret _ _ _ _ _ dX7_partOf_38 (Option.some.inj h) hS
          · have h := itn e26 h
            by_cases e31 : v2 = 2
            · have h := itp e31 h
              refine xa_ald3 (k := 2) cx hG hO 1 rfl (by rw [e31]; decide) rfl dX7_partOf_26 ?_
              obtain ⟨r32, hr33, h⟩ := bnd h
              refine ra_z (runVN (As := [.ref ((a_t_images_2 0))]) (rest := []) hG cx hl.1 (ctX1_isPartOf l g s.heap.size a_t_images_1 a_t_images_2 t_images_1_told t_images_1_lines t_images_1_kinds t_images_1_acts t_images_1_rows t_images_1_sizes t_images_2_told t_images_2_lines t_images_2_kinds t_images_2_acts t_images_2_rows t_images_2_sizes r32 hr33) kmX1_isPartOf kvX1_isPartOf nm_105 ⟨rfl, rfl⟩ ⟨Nat.le_of_ble_eq_true rfl, Nat.le_of_ble_eq_true rfl⟩ (raV (q0 := 5) (ci := 1) hG (hO.sub [5, 6, 7, 8, 9, 10] rfl) hb0 hS hO rfl rfl) rfl rfl (Nat.le_of_ble_eq_true rfl) dX7_partOf_27 ⟨Nat.le_of_ble_eq_true rfl, Nat.le_of_ble_eq_true rfl⟩) hS hA (fun hz34 H locs _ hS => ?_)
              have hG := hGk hS
              have hO := hOk hS
              refine lv_if_eq (tgt := 37) hx hb dX7_partOf_30 (by decide) (fun c35 => ?_) (fun c35 => ?_)
              · have h := itp c35 h
                refine lv_iconst (v := 0) hx hb dX7_partOf_37 (by decide) ?_
                exact hret _ _ _ _ _ dX7_partOf_38 (Option.some.inj h) hS
              · have h := itn c35 h
                refine lv_iconst (v := 1) hx hb dX7_partOf_33 (by decide) ?_
                refine lv_goto (tgt := 38) hx hb dX7_partOf_34 (by decide) ?_
                exact hret _ _ _ _ _ dX7_partOf_38 (Option.some.inj h) hS
            · have h := itn e31 h
              cases h
      · have h := itn e20 h
        by_cases e36 : v1 = 2
        · have h := itp e36 h
          refine xa_ald3 (k := 2) cx hG hO 1 rfl (by rw [e36]; decide) rfl dX7_partOf_20 ?_
          refine lv_aload_n hx hb dX7_partOf_21 rfl (lv_at hl 1 rfl) ?_
          refine xa_get (C := RX7) (T := TX7) (N := 7) cx hG hO 0 rfl rfl uX7 3 (by decide) lf_X7_34 rfl dX7_partOf_22 ?_
          refine lv_iload_n hx hb dX7_partOf_25 rfl (lv_at hl 3 rfl) ?_
          by_cases e37 : v2 = 0
          · have h := itp e37 h
            refine xa_ald3 (k := 0) cx hG hO 1 rfl (by rw [e37]; decide) rfl dX7_partOf_26 ?_
            obtain ⟨r38, hr39, h⟩ := bnd h
            refine ra_z (runVN (As := [.ref ((a_t_images_0 0))]) (rest := []) hG cx hl.1 (ctX1_isPartOf l g s.heap.size a_t_images_2 a_t_images_0 t_images_2_told t_images_2_lines t_images_2_kinds t_images_2_acts t_images_2_rows t_images_2_sizes t_images_0_told t_images_0_lines t_images_0_kinds t_images_0_acts t_images_0_rows t_images_0_sizes r38 hr39) kmX1_isPartOf kvX1_isPartOf nm_105 ⟨rfl, rfl⟩ ⟨Nat.le_of_ble_eq_true rfl, Nat.le_of_ble_eq_true rfl⟩ (raV (q0 := 8) (ci := 1) hG (hO.sub [8, 9, 10, 2, 3, 4] rfl) hb0 hS hO rfl rfl) rfl rfl (Nat.le_of_ble_eq_true rfl) dX7_partOf_27 ⟨Nat.le_of_ble_eq_true rfl, Nat.le_of_ble_eq_true rfl⟩) hS hA (fun hz40 H locs _ hS => ?_)
            have hG := hGk hS
            have hO := hOk hS
            refine lv_if_eq (tgt := 37) hx hb dX7_partOf_30 (by decide) (fun c41 => ?_) (fun c41 => ?_)
            · have h := itp c41 h
              refine lv_iconst (v := 0) hx hb dX7_partOf_37 (by decide) ?_
              exact hret _ _ _ _ _ dX7_partOf_38 (Option.some.inj h) hS
            · have h := itn c41 h
              refine lv_iconst (v := 1) hx hb dX7_partOf_33 (by decide) ?_
              refine lv_goto (tgt := 38) hx hb dX7_partOf_34 (by decide) ?_
              exact hret _ _ _ _ _ dX7_partOf_38 (Option.some.inj h) hS
          · have h := itn e37 h
            by_cases e42 : v2 = 1
            · have h := itp e42 h
              refine xa_ald3 (k := 1) cx hG hO 1 rfl (by rw [e42]; decide) rfl dX7_partOf_26 ?_
              obtain ⟨r43, hr44, h⟩ := bnd h
              refine ra_z (runVN (As := [.ref ((a_t_images_1 0))]) (rest := []) hG cx hl.1 (ctX1_isPartOf l g s.heap.size a_t_images_2 a_t_images_1 t_images_2_told t_images_2_lines t_images_2_kinds t_images_2_acts t_images_2_rows t_images_2_sizes t_images_1_told t_images_1_lines t_images_1_kinds t_images_1_acts t_images_1_rows t_images_1_sizes r43 hr44) kmX1_isPartOf kvX1_isPartOf nm_105 ⟨rfl, rfl⟩ ⟨Nat.le_of_ble_eq_true rfl, Nat.le_of_ble_eq_true rfl⟩ (raV (q0 := 8) (ci := 1) hG (hO.sub [8, 9, 10, 5, 6, 7] rfl) hb0 hS hO rfl rfl) rfl rfl (Nat.le_of_ble_eq_true rfl) dX7_partOf_27 ⟨Nat.le_of_ble_eq_true rfl, Nat.le_of_ble_eq_true rfl⟩) hS hA (fun hz45 H locs _ hS => ?_)
              have hG := hGk hS
              have hO := hOk hS
              refine lv_if_eq (tgt := 37) hx hb dX7_partOf_30 (by decide) (fun c46 => ?_) (fun c46 => ?_)
              · have h := itp c46 h
                refine lv_iconst (v := 0) hx hb dX7_partOf_37 (by decide) ?_
                exact hret _ _ _ _ _ dX7_partOf_38 (Option.some.inj h) hS
              · have h := itn c46 h
                refine lv_iconst (v := 1) hx hb dX7_partOf_33 (by decide) ?_
                refine lv_goto (tgt := 38) hx hb dX7_partOf_34 (by decide) ?_
                exact hret _ _ _ _ _ dX7_partOf_38 (Option.some.inj h) hS
            · have h := itn e42 h
              by_cases e47 : v2 = 2
              · have h := itp e47 h
                refine xa_ald3 (k := 2) cx hG hO 1 rfl (by rw [e47]; decide) rfl dX7_partOf_26 ?_
                obtain ⟨r48, hr49, h⟩ := bnd h
                refine ra_z (runVN (As := [.ref ((a_t_images_2 0))]) (rest := []) hG cx hl.1 (ctX1_isPartOf l g s.heap.size a_t_images_2 a_t_images_2 t_images_2_told t_images_2_lines t_images_2_kinds t_images_2_acts t_images_2_rows t_images_2_sizes t_images_2_told t_images_2_lines t_images_2_kinds t_images_2_acts t_images_2_rows t_images_2_sizes r48 hr49) kmX1_isPartOf kvX1_isPartOf nm_105 ⟨rfl, rfl⟩ ⟨Nat.le_of_ble_eq_true rfl, Nat.le_of_ble_eq_true rfl⟩ (raV (q0 := 8) (ci := 1) hG (hO.sub [8, 9, 10, 8, 9, 10] rfl) hb0 hS hO rfl rfl) rfl rfl (Nat.le_of_ble_eq_true rfl) dX7_partOf_27 ⟨Nat.le_of_ble_eq_true rfl, Nat.le_of_ble_eq_true rfl⟩) hS hA (fun hz50 H locs _ hS => ?_)
                have hG := hGk hS
                have hO := hOk hS
                refine lv_if_eq (tgt := 37) hx hb dX7_partOf_30 (by decide) (fun c51 => ?_) (fun c51 => ?_)
                · have h := itp c51 h
                  refine lv_iconst (v := 0) hx hb dX7_partOf_37 (by decide) ?_
                  exact hret _ _ _ _ _ dX7_partOf_38 (Option.some.inj h) hS
                · have h := itn c51 h
                  refine lv_iconst (v := 1) hx hb dX7_partOf_33 (by decide) ?_
                  refine lv_goto (tgt := 38) hx hb dX7_partOf_34 (by decide) ?_
                  exact hret _ _ _ _ _ dX7_partOf_38 (Option.some.inj h) hS
              · have h := itn e47 h
                cases h
        · have h := itn e36 h
          cases h
  · have h := itn c3 h
    refine lv_iload_n hx hb dX7_partOf_11 rfl (lv_at hl 0 rfl) ?_
    refine lv_goto (tgt := 38) hx hb dX7_partOf_12 (by decide) ?_
    refine W.widen (k := 1) (n := 9) (Nat.le_of_ble_eq_true rfl) (Nat.le_of_ble_eq_true rfl) ?_
    exact hret _ _ _ _ _ dX7_partOf_38 (Option.some.inj h) hS
-- X7_common
theorem dX7_common_0 : decode cX7_common 0 = .ok (.aload_n 0, 1) := by decide +kernel
theorem dX7_common_1 : decode cX7_common 1 = .ok (.iload_n 1, 1) := by decide +kernel
theorem dX7_common_2 : decode cX7_common 2 = .ok (.iload_n 2, 1) := by decide +kernel
theorem dX7_common_3 : decode cX7_common 3 = .ok (.invokevirtual 360, 3) := by decide +kernel
theorem dX7_common_6 : decode cX7_common 6 = .ok (.istore_n 3, 1) := by decide +kernel
theorem dX7_common_7 : decode cX7_common 7 = .ok (.iload_n 3, 1) := by decide +kernel
theorem dX7_common_8 : decode cX7_common 8 = .ok (.ifCond .eq 7, 3) := by decide +kernel
theorem dX7_common_11 : decode cX7_common 11 = .ok (.iload_n 3, 1) := by decide +kernel
theorem dX7_common_12 : decode cX7_common 12 = .ok (.goto 18, 3) := by decide +kernel
theorem dX7_common_15 : decode cX7_common 15 = .ok (.aload_n 0, 1) := by decide +kernel
theorem dX7_common_16 : decode cX7_common 16 = .ok (.getfield 34, 3) := by decide +kernel
theorem dX7_common_19 : decode cX7_common 19 = .ok (.iload_n 1, 1) := by decide +kernel
theorem dX7_common_20 : decode cX7_common 20 = .ok (.aaload, 1) := by decide +kernel
theorem dX7_common_21 : decode cX7_common 21 = .ok (.aload_n 0, 1) := by decide +kernel
theorem dX7_common_22 : decode cX7_common 22 = .ok (.getfield 34, 3) := by decide +kernel
theorem dX7_common_25 : decode cX7_common 25 = .ok (.iload_n 2, 1) := by decide +kernel
theorem dX7_common_26 : decode cX7_common 26 = .ok (.aaload, 1) := by decide +kernel
theorem dX7_common_27 : decode cX7_common 27 = .ok (.invokevirtual 370, 3) := by decide +kernel
theorem dX7_common_30 : decode cX7_common 30 = .ok (.ireturn, 1) := by decide +kernel
noncomputable def fX7_common  (t_images_0_rows : Nat → Int32) (t_images_0_sizes : Nat → Int32) (t_images_0_told : Int32) (t_images_0_acts : Int32) (t_images_1_rows : Nat → Int32) (t_images_1_sizes : Nat → Int32) (t_images_1_told : Int32) (t_images_1_acts : Int32) (t_images_2_rows : Nat → Int32) (t_images_2_sizes : Nat → Int32) (t_images_2_told : Int32) (t_images_2_acts : Int32) (v1 : Int32) (v2 : Int32) : Option (Int32) := (fX7_imagesBar t_images_0_told t_images_1_told t_images_2_told v1 v2).bind fun r1 => (if r1 = 0 then (if v1 = 0 then (if v2 = 0 then (fX1_longestCommon t_images_0_rows t_images_0_sizes t_images_0_acts t_images_0_rows t_images_0_sizes t_images_0_acts).bind fun r6 => some r6 else (if v2 = 1 then (fX1_longestCommon t_images_0_rows t_images_0_sizes t_images_0_acts t_images_1_rows t_images_1_sizes t_images_1_acts).bind fun r9 => some r9 else (if v2 = 2 then (fX1_longestCommon t_images_0_rows t_images_0_sizes t_images_0_acts t_images_2_rows t_images_2_sizes t_images_2_acts).bind fun r12 => some r12 else none))) else (if v1 = 1 then (if v2 = 0 then (fX1_longestCommon t_images_1_rows t_images_1_sizes t_images_1_acts t_images_0_rows t_images_0_sizes t_images_0_acts).bind fun r16 => some r16 else (if v2 = 1 then (fX1_longestCommon t_images_1_rows t_images_1_sizes t_images_1_acts t_images_1_rows t_images_1_sizes t_images_1_acts).bind fun r19 => some r19 else (if v2 = 2 then (fX1_longestCommon t_images_1_rows t_images_1_sizes t_images_1_acts t_images_2_rows t_images_2_sizes t_images_2_acts).bind fun r22 => some r22 else none))) else (if v1 = 2 then (if v2 = 0 then (fX1_longestCommon t_images_2_rows t_images_2_sizes t_images_2_acts t_images_0_rows t_images_0_sizes t_images_0_acts).bind fun r26 => some r26 else (if v2 = 1 then (fX1_longestCommon t_images_2_rows t_images_2_sizes t_images_2_acts t_images_1_rows t_images_1_sizes t_images_1_acts).bind fun r29 => some r29 else (if v2 = 2 then (fX1_longestCommon t_images_2_rows t_images_2_sizes t_images_2_acts t_images_2_rows t_images_2_sizes t_images_2_acts).bind fun r32 => some r32 else none))) else none))) else some r1)
set_option maxHeartbeats 4000000 in
set_option maxRecDepth 100000 in
theorem ctX7_common (l : Launch) (g : GT) (sz : Nat) (a_t : Nat → Nat) (a_t_tape : Nat → Nat) (a_t_reader : Nat → Nat) (a_t_now : Nat → Nat) (a_t_choices : Nat → Nat) (a_t_ways : Nat → Nat) (a_t_stress : Nat → Nat) (a_t_images_0 : Nat → Nat) (a_t_images_1 : Nat → Nat) (a_t_images_2 : Nat → Nat) (t_images_0_told : Int32) (t_images_0_lines : Int32) (t_images_0_kinds : Int32) (t_images_0_acts : Int32) (t_images_0_rows : Nat → Int32) (t_images_0_sizes : Nat → Int32) (t_images_1_told : Int32) (t_images_1_lines : Int32) (t_images_1_kinds : Int32) (t_images_1_acts : Int32) (t_images_1_rows : Nat → Int32) (t_images_1_sizes : Nat → Int32) (t_images_2_told : Int32) (t_images_2_lines : Int32) (t_images_2_kinds : Int32) (t_images_2_acts : Int32) (t_images_2_rows : Nat → Int32) (t_images_2_sizes : Nat → Int32) (v1 : Int32) (v2 : Int32) (o : Int32) (h : fX7_common t_images_0_rows t_images_0_sizes t_images_0_told t_images_0_acts t_images_1_rows t_images_1_sizes t_images_1_told t_images_1_acts t_images_2_rows t_images_2_sizes t_images_2_told t_images_2_acts v1 v2 = some (o)) : Met l yX7_common (Cond.code yX7_common cX7_common 4 (some .int) :: Tw) ⟨3, 1, 9, 69⟩ (va_Pc [.ref ((a_t 0)), .int v1, .int v2] (raB g [((a_t 0), .inr (6, [.ref (a_t_tape 0), .ref (a_t_reader 0), .ref (a_t_now 0), .ref (a_t 4), .ref (a_t_choices 0), .ref (a_t_ways 0), .ref (a_t_stress 0)])), ((a_t 4), .inl (g.2.2.1 4, 3, .inr (.inr (.inr (.inr (iF (a_t_images_0 0) (a_t_images_1 0) (a_t_images_2 0))))))), ((a_t_images_0 0), .inr (1, [.ref (a_t_images_0 1), .ref (a_t_images_0 2), .ref (a_t_images_0 3), .ref (a_t_images_0 4), .ref (a_t_images_0 5), .int t_images_0_told, .int t_images_0_lines, .int t_images_0_kinds, .int t_images_0_acts])), ((a_t_images_0 3), .inl (g.2.2.1 0, 31, .inl t_images_0_rows)), ((a_t_images_0 4), .inl (g.2.2.1 0, 31, .inl t_images_0_sizes)), ((a_t_images_1 0), .inr (1, [.ref (a_t_images_1 1), .ref (a_t_images_1 2), .ref (a_t_images_1 3), .ref (a_t_images_1 4), .ref (a_t_images_1 5), .int t_images_1_told, .int t_images_1_lines, .int t_images_1_kinds, .int t_images_1_acts])), ((a_t_images_1 3), .inl (g.2.2.1 0, 31, .inl t_images_1_rows)), ((a_t_images_1 4), .inl (g.2.2.1 0, 31, .inl t_images_1_sizes)), ((a_t_images_2 0), .inr (1, [.ref (a_t_images_2 1), .ref (a_t_images_2 2), .ref (a_t_images_2 3), .ref (a_t_images_2 4), .ref (a_t_images_2 5), .int t_images_2_told, .int t_images_2_lines, .int t_images_2_kinds, .int t_images_2_acts])), ((a_t_images_2 3), .inl (g.2.2.1 0, 31, .inl t_images_2_rows)), ((a_t_images_2 4), .inl (g.2.2.1 0, 31, .inl t_images_2_sizes))] sz)) (va_Qi (fun x (_ : Unit) => x = o) (fun _ _ => True) (fun q => sz ≤ q)) 1 9 (fun q => sz ≤ q) := by
  refine ra_meti (by decide) (Nat.le_of_ble_eq_true rfl) (lv0 := [(0, .ref ((a_t 0))), (1, .int v1), (2, .int v2)]) rfl ?_
  intro p e s m args below meth c ls Q cx hret hG hb0 hO hl
  have hA : ∀ q, s.heap.size ≤ q → (fun q : Nat => s.heap.size ≤ q) q := fun _ h => h
  have hAb : ∀ q, (fun q : Nat => s.heap.size ≤ q) q → g.1 ≤ q := fun q h => Nat.le_trans hb0 h
  generalize hAe : (fun q : Nat => s.heap.size ≤ q) = A at hret hA hAb
  have hO0 := hO
  have hOk : ∀ {H : Heap} {locs : List Loc}, va_S A s.heap H locs → va_P g.2.1 vwCl [((a_t 0), .inr (6, [.ref (a_t_tape 0), .ref (a_t_reader 0), .ref (a_t_now 0), .ref (a_t 4), .ref (a_t_choices 0), .ref (a_t_ways 0), .ref (a_t_stress 0)])), ((a_t 4), .inl (g.2.2.1 4, 3, .inr (.inr (.inr (.inr (iF (a_t_images_0 0) (a_t_images_1 0) (a_t_images_2 0))))))), ((a_t_images_0 0), .inr (1, [.ref (a_t_images_0 1), .ref (a_t_images_0 2), .ref (a_t_images_0 3), .ref (a_t_images_0 4), .ref (a_t_images_0 5), .int t_images_0_told, .int t_images_0_lines, .int t_images_0_kinds, .int t_images_0_acts])), ((a_t_images_0 3), .inl (g.2.2.1 0, 31, .inl t_images_0_rows)), ((a_t_images_0 4), .inl (g.2.2.1 0, 31, .inl t_images_0_sizes)), ((a_t_images_1 0), .inr (1, [.ref (a_t_images_1 1), .ref (a_t_images_1 2), .ref (a_t_images_1 3), .ref (a_t_images_1 4), .ref (a_t_images_1 5), .int t_images_1_told, .int t_images_1_lines, .int t_images_1_kinds, .int t_images_1_acts])), ((a_t_images_1 3), .inl (g.2.2.1 0, 31, .inl t_images_1_rows)), ((a_t_images_1 4), .inl (g.2.2.1 0, 31, .inl t_images_1_sizes)), ((a_t_images_2 0), .inr (1, [.ref (a_t_images_2 1), .ref (a_t_images_2 2), .ref (a_t_images_2 3), .ref (a_t_images_2 4), .ref (a_t_images_2 5), .int t_images_2_told, .int t_images_2_lines, .int t_images_2_kinds, .int t_images_2_acts])), ((a_t_images_2 3), .inl (g.2.2.1 0, 31, .inl t_images_2_rows)), ((a_t_images_2 4), .inl (g.2.2.1 0, 31, .inl t_images_2_sizes))] H := fun hS => xw_old hO0 (by rw [hAe]; exact hS)
  have hP : va_P g.2.1 vwCl [] s.heap := fun k q hk => by simp at hk
  have hD : va_D A [] := ⟨fun i j p q hi => by simp at hi, fun k q hk => by simp at hk⟩
  have hx := cx.1
  have hb := cx.2.1
  have hG0 := hG
  have hGk : ∀ {H : Heap} {locs : List Loc}, va_S A s.heap H locs → GE g s H := fun hS => hG0.keptS hAb hS
  have hSb : ∀ {H : Heap} {locs : List Loc}, va_S A s.heap H locs → va_S (fun a => g.1 ≤ a) s.heap H locs := fun hS => ⟨hS.1, fun q h1 h2 => hS.2.1 q h1 (fun z => h2 (hAb q z)), fun l hl => hAb _ (hS.2.2 l hl)⟩
  have hS : va_S A s.heap s.heap [] := va_S.rf
  unfold fX7_common at h
  refine lv_aload_n hx hb dX7_common_0 rfl (lv_at hl 0 rfl) ?_
  refine lv_iload_n hx hb dX7_common_1 rfl (lv_at hl 1 rfl) ?_
  refine lv_iload_n hx hb dX7_common_2 rfl (lv_at hl 2 rfl) ?_
  obtain ⟨r1, hr2, h⟩ := bnd h
  refine ro_i (runV (As := [.int v1, .int v2]) (rest := []) cx hl.1 (ctX7_imagesBar l g a_t a_t_tape a_t_reader a_t_now a_t_choices a_t_ways a_t_stress a_t_images_0 a_t_images_1 a_t_images_2 t_images_0_told t_images_0_lines t_images_0_kinds t_images_0_acts t_images_1_told t_images_1_lines t_images_1_kinds t_images_1_acts t_images_2_told t_images_2_lines t_images_2_kinds t_images_2_acts v1 v2 r1 hr2) kmX7_imagesBar kvX7_imagesBar lm_X7_360 ⟨rfl, rfl⟩ ⟨Nat.le_of_ble_eq_true rfl, Nat.le_of_ble_eq_true rfl⟩ (roV (q0 := 0) (ci := 6) hG (hO.sub [0, 1, 2, 5, 8] rfl) hO rfl rfl) rfl rfl (Nat.le_of_ble_eq_true rfl) dX7_common_3 ⟨Nat.le_of_ble_eq_true rfl, Nat.le_of_ble_eq_true rfl⟩) ?_
  refine lv_istore_n (lv' := [(3, .int r1), (0, .ref ((a_t 0))), (1, .int v1), (2, .int v2)]) hx hb dX7_common_6 rfl hl (by decide) rfl (fun ls hl => ?_)
  refine lv_iload_n hx hb dX7_common_7 rfl (lv_at hl 0 rfl) ?_
  refine lv_if_eq (tgt := 15) hx hb dX7_common_8 (by decide) (fun c3 => ?_) (fun c3 => ?_)
  · have h := itp c3 h
    refine lv_aload_n hx hb dX7_common_15 rfl (lv_at hl 1 rfl) ?_
    refine xa_get (C := RX7) (T := TX7) (N := 7) cx hG hO 0 rfl rfl uX7 3 (by decide) lf_X7_34 rfl dX7_common_16 ?_
    refine lv_iload_n hx hb dX7_common_19 rfl (lv_at hl 2 rfl) ?_
    by_cases e4 : v1 = 0
    · have h := itp e4 h
      refine xa_ald3 (k := 0) cx hG hO 1 rfl (by rw [e4]; decide) rfl dX7_common_20 ?_
      refine lv_aload_n hx hb dX7_common_21 rfl (lv_at hl 1 rfl) ?_
      refine xa_get (C := RX7) (T := TX7) (N := 7) cx hG hO 0 rfl rfl uX7 3 (by decide) lf_X7_34 rfl dX7_common_22 ?_
      refine lv_iload_n hx hb dX7_common_25 rfl (lv_at hl 3 rfl) ?_
      by_cases e5 : v2 = 0
      · have h := itp e5 h
        refine xa_ald3 (k := 0) cx hG hO 1 rfl (by rw [e5]; decide) rfl dX7_common_26 ?_
        obtain ⟨r6, hr7, h⟩ := bnd h
        refine ra_i (runVN (As := [.ref ((a_t_images_0 0))]) (rest := []) hG cx hl.1 (ctX1_longestCommon l g s.heap.size a_t_images_0 a_t_images_0 t_images_0_told t_images_0_lines t_images_0_kinds t_images_0_acts t_images_0_rows t_images_0_sizes t_images_0_told t_images_0_lines t_images_0_kinds t_images_0_acts t_images_0_rows t_images_0_sizes r6 hr7) kmX1_longestCommon kvX1_longestCommon nm_106 ⟨rfl, rfl⟩ ⟨Nat.le_of_ble_eq_true rfl, Nat.le_of_ble_eq_true rfl⟩ (raV (q0 := 2) (ci := 1) hG (hO.sub [2, 3, 4, 2, 3, 4] rfl) hb0 hS hO rfl rfl) rfl rfl (Nat.le_of_ble_eq_true rfl) dX7_common_27 ⟨Nat.le_of_ble_eq_true rfl, Nat.le_of_ble_eq_true rfl⟩) hS hA (fun H locs _ hS => ?_)
        have hG := hGk hS
        have hO := hOk hS
        exact hret _ _ _ _ _ dX7_common_30 (Option.some.inj h) hS
      · have h := itn e5 h
        by_cases e8 : v2 = 1
        · have h := itp e8 h
          refine xa_ald3 (k := 1) cx hG hO 1 rfl (by rw [e8]; decide) rfl dX7_common_26 ?_
          obtain ⟨r9, hr10, h⟩ := bnd h
          refine ra_i (runVN (As := [.ref ((a_t_images_1 0))]) (rest := []) hG cx hl.1 (ctX1_longestCommon l g s.heap.size a_t_images_0 a_t_images_1 t_images_0_told t_images_0_lines t_images_0_kinds t_images_0_acts t_images_0_rows t_images_0_sizes t_images_1_told t_images_1_lines t_images_1_kinds t_images_1_acts t_images_1_rows t_images_1_sizes r9 hr10) kmX1_longestCommon kvX1_longestCommon nm_106 ⟨rfl, rfl⟩ ⟨Nat.le_of_ble_eq_true rfl, Nat.le_of_ble_eq_true rfl⟩ (raV (q0 := 2) (ci := 1) hG (hO.sub [2, 3, 4, 5, 6, 7] rfl) hb0 hS hO rfl rfl) rfl rfl (Nat.le_of_ble_eq_true rfl) dX7_common_27 ⟨Nat.le_of_ble_eq_true rfl, Nat.le_of_ble_eq_true rfl⟩) hS hA (fun H locs _ hS => ?_)
          have hG := hGk hS
          have hO := hOk hS
          exact hret _ _ _ _ _ dX7_common_30 (Option.some.inj h) hS
        · have h := itn e8 h
          by_cases e11 : v2 = 2
          · have h := itp e11 h
            refine xa_ald3 (k := 2) cx hG hO 1 rfl (by rw [e11]; decide) rfl dX7_common_26 ?_
            obtain ⟨r12, hr13, h⟩ := bnd h
            refine ra_i (runVN (As := [.ref ((a_t_images_2 0))]) (rest := []) hG cx hl.1 (ctX1_longestCommon l g s.heap.size a_t_images_0 a_t_images_2 t_images_0_told t_images_0_lines t_images_0_kinds t_images_0_acts t_images_0_rows t_images_0_sizes t_images_2_told t_images_2_lines t_images_2_kinds t_images_2_acts t_images_2_rows t_images_2_sizes r12 hr13) kmX1_longestCommon kvX1_longestCommon nm_106 ⟨rfl, rfl⟩ ⟨Nat.le_of_ble_eq_true rfl, Nat.le_of_ble_eq_true rfl⟩ (raV (q0 := 2) (ci := 1) hG (hO.sub [2, 3, 4, 8, 9, 10] rfl) hb0 hS hO rfl rfl) rfl rfl (Nat.le_of_ble_eq_true rfl) dX7_common_27 ⟨Nat.le_of_ble_eq_true rfl, Nat.le_of_ble_eq_true rfl⟩) hS hA (fun H locs _ hS => ?_)
            have hG := hGk hS
            have hO := hOk hS
            exact hret _ _ _ _ _ dX7_common_30 (Option.some.inj h) hS
          · have h := itn e11 h
            cases h
    · have h := itn e4 h
      by_cases e14 : v1 = 1
      · have h := itp e14 h
        refine xa_ald3 (k := 1) cx hG hO 1 rfl (by rw [e14]; decide) rfl dX7_common_20 ?_
        refine lv_aload_n hx hb dX7_common_21 rfl (lv_at hl 1 rfl) ?_
        refine xa_get (C := RX7) (T := TX7) (N := 7) cx hG hO 0 rfl rfl uX7 3 (by decide) lf_X7_34 rfl dX7_common_22 ?_
        refine lv_iload_n hx hb dX7_common_25 rfl (lv_at hl 3 rfl) ?_
        by_cases e15 : v2 = 0
        · have h := itp e15 h
          refine xa_ald3 (k := 0) cx hG hO 1 rfl (by rw [e15]; decide) rfl dX7_common_26 ?_
          obtain ⟨r16, hr17, h⟩ := bnd h
          refine ra_i (runVN (As := [.ref ((a_t_images_0 0))]) (rest := []) hG cx hl.1 (ctX1_longestCommon l g s.heap.size a_t_images_1 a_t_images_0 t_images_1_told t_images_1_lines t_images_1_kinds t_images_1_acts t_images_1_rows t_images_1_sizes t_images_0_told t_images_0_lines t_images_0_kinds t_images_0_acts t_images_0_rows t_images_0_sizes r16 hr17) kmX1_longestCommon kvX1_longestCommon nm_106 ⟨rfl, rfl⟩ ⟨Nat.le_of_ble_eq_true rfl, Nat.le_of_ble_eq_true rfl⟩ (raV (q0 := 5) (ci := 1) hG (hO.sub [5, 6, 7, 2, 3, 4] rfl) hb0 hS hO rfl rfl) rfl rfl (Nat.le_of_ble_eq_true rfl) dX7_common_27 ⟨Nat.le_of_ble_eq_true rfl, Nat.le_of_ble_eq_true rfl⟩) hS hA (fun H locs _ hS => ?_)
          have hG := hGk hS
          have hO := hOk hS
          exact hret _ _ _ _ _ dX7_common_30 (Option.some.inj h) hS
        · have h := itn e15 h
          by_cases e18 : v2 = 1
          · have h := itp e18 h
            refine xa_ald3 (k := 1) cx hG hO 1 rfl (by rw [e18]; decide) rfl dX7_common_26 ?_
            obtain ⟨r19, hr20, h⟩ := bnd h
            refine ra_i (runVN (As := [.ref ((a_t_images_1 0))]) (rest := []) hG cx hl.1 (ctX1_longestCommon l g s.heap.size a_t_images_1 a_t_images_1 t_images_1_told t_images_1_lines t_images_1_kinds t_images_1_acts t_images_1_rows t_images_1_sizes t_images_1_told t_images_1_lines t_images_1_kinds t_images_1_acts t_images_1_rows t_images_1_sizes r19 hr20) kmX1_longestCommon kvX1_longestCommon nm_106 ⟨rfl, rfl⟩ ⟨Nat.le_of_ble_eq_true rfl, Nat.le_of_ble_eq_true rfl⟩ (raV (q0 := 5) (ci := 1) hG (hO.sub [5, 6, 7, 5, 6, 7] rfl) hb0 hS hO rfl rfl) rfl rfl (Nat.le_of_ble_eq_true rfl) dX7_common_27 ⟨Nat.le_of_ble_eq_true rfl, Nat.le_of_ble_eq_true rfl⟩) hS hA (fun H locs _ hS => ?_)
            have hG := hGk hS
            have hO := hOk hS
            exact hret _ _ _ _ _ dX7_common_30 (Option.some.inj h) hS
          · have h := itn e18 h
            by_cases e21 : v2 = 2
            · have h := itp e21 h
              refine xa_ald3 (k := 2) cx hG hO 1 rfl (by rw [e21]; decide) rfl dX7_common_26 ?_
              obtain ⟨r22, hr23, h⟩ := bnd h
              refine ra_i (runVN (As := [.ref ((a_t_images_2 0))]) (rest := []) hG cx hl.1 (ctX1_longestCommon l g s.heap.size a_t_images_1 a_t_images_2 t_images_1_told t_images_1_lines t_images_1_kinds t_images_1_acts t_images_1_rows t_images_1_sizes t_images_2_told t_images_2_lines t_images_2_kinds t_images_2_acts t_images_2_rows t_images_2_sizes r22 hr23) kmX1_longestCommon kvX1_longestCommon nm_106 ⟨rfl, rfl⟩ ⟨Nat.le_of_ble_eq_true rfl, Nat.le_of_ble_eq_true rfl⟩ (raV (q0 := 5) (ci := 1) hG (hO.sub [5, 6, 7, 8, 9, 10] rfl) hb0 hS hO rfl rfl) rfl rfl (Nat.le_of_ble_eq_true rfl) dX7_common_27 ⟨Nat.le_of_ble_eq_true rfl, Nat.le_of_ble_eq_true rfl⟩) hS hA (fun H locs _ hS => ?_)
              have hG := hGk hS
              have hO := hOk hS
              exact hret _ _ _ _ _ dX7_common_30 (Option.some.inj h) hS
            · have h := itn e21 h
              cases h
      · have h := itn e14 h
        by_cases e24 : v1 = 2
        · have h := itp e24 h
          refine xa_ald3 (k := 2) cx hG hO 1 rfl (by rw [e24]; decide) rfl dX7_common_20 ?_
          refine lv_aload_n hx hb dX7_common_21 rfl (lv_at hl 1 rfl) ?_
          refine xa_get (C := RX7) (T := TX7) (N := 7) cx hG hO 0 rfl rfl uX7 3 (by decide) lf_X7_34 rfl dX7_common_22 ?_
          refine lv_iload_n hx hb dX7_common_25 rfl (lv_at hl 3 rfl) ?_
          by_cases e25 : v2 = 0
          · have h := itp e25 h
            refine xa_ald3 (k := 0) cx hG hO 1 rfl (by rw [e25]; decide) rfl dX7_common_26 ?_
            obtain ⟨r26, hr27, h⟩ := bnd h
            refine ra_i (runVN (As := [.ref ((a_t_images_0 0))]) (rest := []) hG cx hl.1 (ctX1_longestCommon l g s.heap.size a_t_images_2 a_t_images_0 t_images_2_told t_images_2_lines t_images_2_kinds t_images_2_acts t_images_2_rows t_images_2_sizes t_images_0_told t_images_0_lines t_images_0_kinds t_images_0_acts t_images_0_rows t_images_0_sizes r26 hr27) kmX1_longestCommon kvX1_longestCommon nm_106 ⟨rfl, rfl⟩ ⟨Nat.le_of_ble_eq_true rfl, Nat.le_of_ble_eq_true rfl⟩ (raV (q0 := 8) (ci := 1) hG (hO.sub [8, 9, 10, 2, 3, 4] rfl) hb0 hS hO rfl rfl) rfl rfl (Nat.le_of_ble_eq_true rfl) dX7_common_27 ⟨Nat.le_of_ble_eq_true rfl, Nat.le_of_ble_eq_true rfl⟩) hS hA (fun H locs _ hS => ?_)
            have hG := hGk hS
            have hO := hOk hS
            exact hret _ _ _ _ _ dX7_common_30 (Option.some.inj h) hS
          · have h := itn e25 h
            by_cases e28 : v2 = 1
            · have h := itp e28 h
              refine xa_ald3 (k := 1) cx hG hO 1 rfl (by rw [e28]; decide) rfl dX7_common_26 ?_
              obtain ⟨r29, hr30, h⟩ := bnd h
              refine ra_i (runVN (As := [.ref ((a_t_images_1 0))]) (rest := []) hG cx hl.1 (ctX1_longestCommon l g s.heap.size a_t_images_2 a_t_images_1 t_images_2_told t_images_2_lines t_images_2_kinds t_images_2_acts t_images_2_rows t_images_2_sizes t_images_1_told t_images_1_lines t_images_1_kinds t_images_1_acts t_images_1_rows t_images_1_sizes r29 hr30) kmX1_longestCommon kvX1_longestCommon nm_106 ⟨rfl, rfl⟩ ⟨Nat.le_of_ble_eq_true rfl, Nat.le_of_ble_eq_true rfl⟩ (raV (q0 := 8) (ci := 1) hG (hO.sub [8, 9, 10, 5, 6, 7] rfl) hb0 hS hO rfl rfl) rfl rfl (Nat.le_of_ble_eq_true rfl) dX7_common_27 ⟨Nat.le_of_ble_eq_true rfl, Nat.le_of_ble_eq_true rfl⟩) hS hA (fun H locs _ hS => ?_)
              have hG := hGk hS
              have hO := hOk hS
              exact hret _ _ _ _ _ dX7_common_30 (Option.some.inj h) hS
            · have h := itn e28 h
              by_cases e31 : v2 = 2
              · have h := itp e31 h
                refine xa_ald3 (k := 2) cx hG hO 1 rfl (by rw [e31]; decide) rfl dX7_common_26 ?_
                obtain ⟨r32, hr33, h⟩ := bnd h
                refine ra_i (runVN (As := [.ref ((a_t_images_2 0))]) (rest := []) hG cx hl.1 (ctX1_longestCommon l g s.heap.size a_t_images_2 a_t_images_2 t_images_2_told t_images_2_lines t_images_2_kinds t_images_2_acts t_images_2_rows t_images_2_sizes t_images_2_told t_images_2_lines t_images_2_kinds t_images_2_acts t_images_2_rows t_images_2_sizes r32 hr33) kmX1_longestCommon kvX1_longestCommon nm_106 ⟨rfl, rfl⟩ ⟨Nat.le_of_ble_eq_true rfl, Nat.le_of_ble_eq_true rfl⟩ (raV (q0 := 8) (ci := 1) hG (hO.sub [8, 9, 10, 8, 9, 10] rfl) hb0 hS hO rfl rfl) rfl rfl (Nat.le_of_ble_eq_true rfl) dX7_common_27 ⟨Nat.le_of_ble_eq_true rfl, Nat.le_of_ble_eq_true rfl⟩) hS hA (fun H locs _ hS => ?_)
                have hG := hGk hS
                have hO := hOk hS
                exact hret _ _ _ _ _ dX7_common_30 (Option.some.inj h) hS
              · have h := itn e31 h
                cases h
        · have h := itn e24 h
          cases h
  · have h := itn c3 h
    refine lv_iload_n hx hb dX7_common_11 rfl (lv_at hl 0 rfl) ?_
    refine lv_goto (tgt := 30) hx hb dX7_common_12 (by decide) ?_
    refine W.widen (k := 1) (n := 9) (Nat.le_of_ble_eq_true rfl) (Nat.le_of_ble_eq_true rfl) ?_
    exact hret _ _ _ _ _ dX7_common_30 (Option.some.inj h) hS
