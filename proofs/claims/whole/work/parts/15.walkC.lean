-- X7_end
theorem dX7_end_0 : decode cX7_end 0 = .ok (.iload_n 1, 1) := by decide +kernel
theorem dX7_end_1 : decode cX7_end 1 = .ok (.ifCond .lt 14, 3) := by decide +kernel
theorem dX7_end_4 : decode cX7_end 4 = .ok (.iload_n 1, 1) := by decide +kernel
theorem dX7_end_5 : decode cX7_end 5 = .ok (.aload_n 0, 1) := by decide +kernel
theorem dX7_end_6 : decode cX7_end 6 = .ok (.getfield 12, 3) := by decide +kernel
theorem dX7_end_9 : decode cX7_end 9 = .ok (.getfield 59, 3) := by decide +kernel
theorem dX7_end_12 : decode cX7_end 12 = .ok (.if_icmp .le 5, 3) := by decide +kernel
theorem dX7_end_15 : decode cX7_end 15 = .ok (.iconst (-1), 1) := by decide +kernel
theorem dX7_end_16 : decode cX7_end 16 = .ok (.ireturn, 1) := by decide +kernel
theorem dX7_end_17 : decode cX7_end 17 = .ok (.aload_n 0, 1) := by decide +kernel
theorem dX7_end_18 : decode cX7_end 18 = .ok (.getfield 12, 3) := by decide +kernel
theorem dX7_end_21 : decode cX7_end 21 = .ok (.iload_n 1, 1) := by decide +kernel
theorem dX7_end_22 : decode cX7_end 22 = .ok (.putfield 59, 3) := by decide +kernel
theorem dX7_end_25 : decode cX7_end 25 = .ok (.iload_n 1, 1) := by decide +kernel
theorem dX7_end_26 : decode cX7_end 26 = .ok (.ireturn, 1) := by decide +kernel
noncomputable def fX7_end  (t_tape_size : Int32) (v1 : Int32) : Option (Int32 × Int32) := (if v1 < 0 then some ((-1), t_tape_size) else (if v1 ≤ t_tape_size then some (v1, v1) else some ((-1), t_tape_size)))
set_option maxHeartbeats 4000000 in
set_option maxRecDepth 100000 in
theorem ctX7_end (l : Launch) (g : GT) (sz : Nat) (a_t : Nat → Nat) (a_t_tape : Nat → Nat) (a_t_reader : Nat → Nat) (a_t_now : Nat → Nat) (a_t_choices : Nat → Nat) (a_t_ways : Nat → Nat) (a_t_stress : Nat → Nat) (t_tape_size : Int32) (v1 : Int32) (o : Int32) (o_t_tape_size : Int32) (h : fX7_end t_tape_size v1 = some (o, o_t_tape_size)) : Met l yX7_end (Cond.code yX7_end cX7_end 2 (some .int) :: Tw) ⟨0, 0, 0, 0⟩ (va_Pc [.ref ((a_t 0)), .int v1] (rwB g [((a_t 0), .inr (6, [.ref (a_t_tape 0), .ref (a_t_reader 0), .ref (a_t_now 0), .ref (a_t 4), .ref (a_t_choices 0), .ref (a_t_ways 0), .ref (a_t_stress 0)])), ((a_t_tape 0), .inr (4, [.ref (a_t_tape 1), .int t_tape_size]))] sz)) (va_Qi (fun x (_ : Nat → Nat) => x = o) (fun u => rwE g (va_A [((a_t 0), .inr (6, [.ref (a_t_tape 0), .ref (a_t_reader 0), .ref (a_t_now 0), .ref (a_t 4), .ref (a_t_choices 0), .ref (a_t_ways 0), .ref (a_t_stress 0)])), ((a_t_tape 0), .inr (4, [.ref (a_t_tape 1), .int t_tape_size]))] sz) [((a_t 0), .inr (6, [.ref (a_t_tape 0), .ref (a_t_reader 0), .ref (a_t_now 0), .ref (a_t 4), .ref (a_t_choices 0), .ref (a_t_ways 0), .ref (a_t_stress 0)])), ((a_t_tape 0), .inr (4, [.ref (a_t_tape 1), .int o_t_tape_size]))]) (va_A [((a_t 0), .inr (6, [.ref (a_t_tape 0), .ref (a_t_reader 0), .ref (a_t_now 0), .ref (a_t 4), .ref (a_t_choices 0), .ref (a_t_ways 0), .ref (a_t_stress 0)])), ((a_t_tape 0), .inr (4, [.ref (a_t_tape 1), .int t_tape_size]))] sz)) 0 0 (va_A [((a_t 0), .inr (6, [.ref (a_t_tape 0), .ref (a_t_reader 0), .ref (a_t_now 0), .ref (a_t 4), .ref (a_t_choices 0), .ref (a_t_ways 0), .ref (a_t_stress 0)])), ((a_t_tape 0), .inr (4, [.ref (a_t_tape 1), .int t_tape_size]))] sz) := by
  refine rw_meti (by decide) (Nat.le_of_ble_eq_true rfl) (lv0 := [(0, .ref ((a_t 0))), (1, .int v1)]) rfl ?_
  intro p e s m args below meth c ls Q A cx hret hG hAb hb0 hA hP hD hl
  have hx := cx.1
  have hb := cx.2.1
  have hG0 := hG
  have hGk : ∀ {H : Heap} {locs : List Loc}, va_S A s.heap H locs → GE g s H := fun hS => hG0.keptS hAb hS
  have hSb : ∀ {H : Heap} {locs : List Loc}, va_S A s.heap H locs → va_S (fun a => g.1 ≤ a) s.heap H locs := fun hS => ⟨hS.1, fun q h1 h2 => hS.2.1 q h1 (fun z => h2 (hAb q z)), fun l hl => hAb _ (hS.2.2 l hl)⟩
  have hS : va_S A s.heap s.heap [] := va_S.rf
  have hrt : ∀ (u : Nat → Nat) (pc : Nat) (ls : Array Slot) (v : Int32) (x_t_tape_size : Int32) (H : Heap) (locs : List Loc), decode cX7_end pc = .ok (.ireturn, 1) → some (v, x_t_tape_size) = some (o, o_t_tape_size) → va_P g.2.1 vwCl [((a_t 0), .inr (6, [.ref (a_t_tape 0), .ref (a_t_reader 0), .ref (a_t_now 0), .ref (a_t 4), .ref (a_t_choices 0), .ref (a_t_ways 0), .ref (a_t_stress 0)])), ((a_t_tape 0), .inr (4, [.ref (a_t_tape 1), .int x_t_tape_size]))] H → va_D A [((a_t 0), .inr (6, [.ref (a_t_tape 0), .ref (a_t_reader 0), .ref (a_t_now 0), .ref (a_t 4), .ref (a_t_choices 0), .ref (a_t_ways 0), .ref (a_t_stress 0)])), ((a_t_tape 0), .inr (4, [.ref (a_t_tape 1), .int x_t_tape_size]))] → va_S A s.heap H locs → W p l e ⟨0, 0, 0, 0⟩ s m args below meth c H locs 0 0 Q (F0 m pc ls [.int v]) := by
    intro u pc ls v x_t_tape_size H locs hd h hP hD hS
    cases h
    exact hret u _ _ _ _ _ hd rfl hP hD hS
  unfold fX7_end at h
  refine lv_iload_n hx hb dX7_end_0 rfl (lv_at hl 1 rfl) ?_
  refine lv_if_lt (tgt := 15) hx hb dX7_end_1 (by decide) (fun c1 => ?_) (fun c1 => ?_)
  · have h := itp c1 h
    refine lv_iconst (v := -1) hx hb dX7_end_15 (by decide) ?_
    exact hrt (fun _ => 0) _ _ ((-1)) t_tape_size _ _ dX7_end_16 h (hP.sub [0, 1] rfl) (hD.sub [0, 1] (by decide) rfl) hS
  · have h := itn c1 h
    refine lv_iload_n hx hb dX7_end_4 rfl (lv_at hl 1 rfl) ?_
    refine lv_aload_n hx hb dX7_end_5 rfl (lv_at hl 0 rfl) ?_
    refine xa_get (C := RX7) (T := TX7) (N := 7) cx hG hP 0 rfl rfl uX7 0 (by decide) lf_X7_12 rfl dX7_end_6 ?_
    refine xa_getN (C := RX5) (T := TX5) (N := 2) cx hG hP 1 rfl rfl uX5 1 (by decide) nf_0 rfl dX7_end_9 ?_
    refine lv_icmp_le (tgt := 17) hx hb dX7_end_12 (by decide) (fun c2 => ?_) (fun c2 => ?_)
    · have h := itp c2 h
      refine lv_aload_n hx hb dX7_end_17 rfl (lv_at hl 0 rfl) ?_
      refine xa_get (C := RX7) (T := TX7) (N := 7) cx hG hP 0 rfl rfl uX7 0 (by decide) lf_X7_12 rfl dX7_end_18 ?_
      refine lv_iload_n hx hb dX7_end_21 rfl (lv_at hl 1 rfl) ?_
      refine xw_putN (C := RX5) (T := TX5) (N := 2) (ty := .int) (v := .int v1) (ws' := [((a_t 0), .inr (6, [.ref (a_t_tape 0), .ref (a_t_reader 0), .ref (a_t_now 0), .ref (a_t 4), .ref (a_t_choices 0), .ref (a_t_ways 0), .ref (a_t_stress 0)])), ((a_t_tape 0), .inr (4, [.ref (a_t_tape 1), .int v1]))]) cx hG hP hD hS 1 rfl rfl uX5 tyX5 tyX5_ok nmX5 1 (by decide) nf_0 rfl (by decide +kernel) rfl rfl (Nat.le_of_ble_eq_true rfl) rfl dX7_end_22 (fun H locs hP hD hS => ?_)
      have hG := hGk hS
      refine lv_iload_n hx hb dX7_end_25 rfl (lv_at hl 1 rfl) ?_
      exact hrt (fun _ => 0) _ _ v1 v1 _ _ dX7_end_26 h (hP.sub [0, 1] rfl) (hD.sub [0, 1] (by decide) rfl) hS
    · have h := itn c2 h
      refine lv_iconst (v := -1) hx hb dX7_end_15 (by decide) ?_
      exact hrt (fun _ => 0) _ _ ((-1)) t_tape_size _ _ dX7_end_16 h (hP.sub [0, 1] rfl) (hD.sub [0, 1] (by decide) rfl) hS
-- X7_plate
theorem dX7_plate_0 : decode cX7_plate 0 = .ok (.aload_n 0, 1) := by decide +kernel
theorem dX7_plate_1 : decode cX7_plate 1 = .ok (.getfield 23, 3) := by decide +kernel
theorem dX7_plate_4 : decode cX7_plate 4 = .ok (.invokevirtual 67, 3) := by decide +kernel
theorem dX7_plate_7 : decode cX7_plate 7 = .ok (.istore_n 1, 1) := by decide +kernel
theorem dX7_plate_8 : decode cX7_plate 8 = .ok (.aload_n 0, 1) := by decide +kernel
theorem dX7_plate_9 : decode cX7_plate 9 = .ok (.getfield 12, 3) := by decide +kernel
theorem dX7_plate_12 : decode cX7_plate 12 = .ok (.iconst 0, 1) := by decide +kernel
theorem dX7_plate_13 : decode cX7_plate 13 = .ok (.putfield 59, 3) := by decide +kernel
theorem dX7_plate_16 : decode cX7_plate 16 = .ok (.iload_n 1, 1) := by decide +kernel
theorem dX7_plate_17 : decode cX7_plate 17 = .ok (.ifCond .ne 6, 3) := by decide +kernel
theorem dX7_plate_20 : decode cX7_plate 20 = .ok (.bipush (-4), 2) := by decide +kernel
theorem dX7_plate_22 : decode cX7_plate 22 = .ok (.ireturn, 1) := by decide +kernel
theorem dX7_plate_23 : decode cX7_plate 23 = .ok (.aload_n 0, 1) := by decide +kernel
theorem dX7_plate_24 : decode cX7_plate 24 = .ok (.getfield 30, 3) := by decide +kernel
theorem dX7_plate_27 : decode cX7_plate 27 = .ok (.aload_n 0, 1) := by decide +kernel
theorem dX7_plate_28 : decode cX7_plate 28 = .ok (.getfield 23, 3) := by decide +kernel
theorem dX7_plate_31 : decode cX7_plate 31 = .ok (.getfield 71, 3) := by decide +kernel
theorem dX7_plate_34 : decode cX7_plate 34 = .ok (.invokevirtual 74, 3) := by decide +kernel
theorem dX7_plate_37 : decode cX7_plate 37 = .ok (.aload_n 0, 1) := by decide +kernel
theorem dX7_plate_38 : decode cX7_plate 38 = .ok (.getfield 41, 3) := by decide +kernel
theorem dX7_plate_41 : decode cX7_plate 41 = .ok (.invokevirtual 78, 3) := by decide +kernel
theorem dX7_plate_44 : decode cX7_plate 44 = .ok (.aload_n 0, 1) := by decide +kernel
theorem dX7_plate_45 : decode cX7_plate 45 = .ok (.getfield 30, 3) := by decide +kernel
theorem dX7_plate_48 : decode cX7_plate 48 = .ok (.getfield 81, 3) := by decide +kernel
theorem dX7_plate_51 : decode cX7_plate 51 = .ok (.ireturn, 1) := by decide +kernel
noncomputable def fX7_plate  (t_tape_bytes : Nat → Int32) (t_tape_size : Int32) (t_reader_draft_numbers : Nat → Int32) (t_reader_draft_cells : Nat → Int32) (t_reader_draft_rows : Nat → Int32) (t_reader_draft_sizes : Nat → Int32) (t_reader_draft_rooms : Nat → Int32) (t_reader_draft_told : Int32) (t_reader_draft_lines : Int32) (t_reader_draft_kinds : Int32) (t_reader_draft_acts : Int32) (t_reader_nameStarts : Nat → Int32) (t_reader_nameLengths : Nat → Int32) (t_reader_token : Int32) (t_reader_start : Int32) (t_reader_after : Int32) (t_reader_fault : Int32) (t_reader_place : Int32) (t_now_numbers : Nat → Int32) (t_now_cells : Nat → Int32) (t_now_rows : Nat → Int32) (t_now_sizes : Nat → Int32) (t_now_rooms : Nat → Int32) (t_now_told : Int32) (t_now_lines : Int32) (t_now_kinds : Int32) (t_now_acts : Int32) (t_choices_ready : Int32) : Option (Int32 × Int32 × (Nat → Int32) × (Nat → Int32) × (Nat → Int32) × (Nat → Int32) × (Nat → Int32) × Int32 × Int32 × Int32 × Int32 × (Nat → Int32) × (Nat → Int32) × Int32 × Int32 × Int32 × Int32 × Int32 × (Nat → Int32) × (Nat → Int32) × (Nat → Int32) × (Nat → Int32) × (Nat → Int32) × Int32 × Int32 × Int32 × Int32 × Int32) := ob17 (fX2_read t_reader_draft_numbers t_reader_draft_cells t_reader_draft_rows t_reader_draft_sizes t_reader_draft_rooms t_reader_draft_told t_reader_draft_lines t_reader_draft_kinds t_reader_draft_acts t_reader_nameStarts t_reader_nameLengths t_tape_bytes t_tape_size t_reader_token t_reader_start t_reader_after t_reader_fault t_reader_place) fun r2 w3 w4 w5 w6 w7 w8 w9 w10 w11 w12 w13 w14 w15 w16 w17 w18 => (if r2 = 0 then some ((-4), 0, w3, w4, w5, w6, w7, w8, w9, w10, w11, w12, w13, w14, w15, w16, w17, w18, t_now_numbers, t_now_cells, t_now_rows, t_now_sizes, t_now_rooms, t_now_told, t_now_lines, t_now_kinds, t_now_acts, t_choices_ready) else ob9 (fX1_copy t_now_numbers t_now_cells t_now_rows t_now_sizes t_now_rooms t_now_told t_now_lines t_now_kinds t_now_acts w3 w4 w5 w6 w7 w8 w9 w10 w11) fun w23 w24 w25 w26 w27 w28 w29 w30 w31 => (fX0_forget t_choices_ready).bind fun w34 => some (w29, 0, w3, w4, w5, w6, w7, w8, w9, w10, w11, w12, w13, w14, w15, w16, w17, w18, w23, w24, w25, w26, w27, w28, w29, w30, w31, w34))
set_option maxHeartbeats 4000000 in
set_option maxRecDepth 100000 in
theorem ctX7_plate (l : Launch) (g : GT) (sz : Nat) (a_t : Nat → Nat) (a_t_tape : Nat → Nat) (a_t_reader : Nat → Nat) (a_t_now : Nat → Nat) (a_t_choices : Nat → Nat) (a_t_ways : Nat → Nat) (a_t_stress : Nat → Nat) (a_t_reader_draft : Nat → Nat) (b_t_choices_rows : Nat) (b_t_choices_seen : Nat) (t_tape_size : Int32) (t_tape_bytes : Nat → Int32) (t_reader_token : Int32) (t_reader_start : Int32) (t_reader_after : Int32) (t_reader_fault : Int32) (t_reader_place : Int32) (t_reader_draft_told : Int32) (t_reader_draft_lines : Int32) (t_reader_draft_kinds : Int32) (t_reader_draft_acts : Int32) (t_reader_draft_numbers : Nat → Int32) (t_reader_draft_cells : Nat → Int32) (t_reader_draft_rows : Nat → Int32) (t_reader_draft_sizes : Nat → Int32) (t_reader_draft_rooms : Nat → Int32) (t_reader_nameStarts : Nat → Int32) (t_reader_nameLengths : Nat → Int32) (t_now_told : Int32) (t_now_lines : Int32) (t_now_kinds : Int32) (t_now_acts : Int32) (t_now_numbers : Nat → Int32) (t_now_cells : Nat → Int32) (t_now_rows : Nat → Int32) (t_now_sizes : Nat → Int32) (t_now_rooms : Nat → Int32) (t_choices_size : Int32) (t_choices_ready : Int32) (t_choices_pool : Int32) (t_choices_plies : Int32) (t_choices_room : Int32) (o : Int32) (o_t_tape_size : Int32) (o_t_reader_draft_numbers : Nat → Int32) (o_t_reader_draft_cells : Nat → Int32) (o_t_reader_draft_rows : Nat → Int32) (o_t_reader_draft_sizes : Nat → Int32) (o_t_reader_draft_rooms : Nat → Int32) (o_t_reader_draft_told : Int32) (o_t_reader_draft_lines : Int32) (o_t_reader_draft_kinds : Int32) (o_t_reader_draft_acts : Int32) (o_t_reader_nameStarts : Nat → Int32) (o_t_reader_nameLengths : Nat → Int32) (o_t_reader_token : Int32) (o_t_reader_start : Int32) (o_t_reader_after : Int32) (o_t_reader_fault : Int32) (o_t_reader_place : Int32) (o_t_now_numbers : Nat → Int32) (o_t_now_cells : Nat → Int32) (o_t_now_rows : Nat → Int32) (o_t_now_sizes : Nat → Int32) (o_t_now_rooms : Nat → Int32) (o_t_now_told : Int32) (o_t_now_lines : Int32) (o_t_now_kinds : Int32) (o_t_now_acts : Int32) (o_t_choices_ready : Int32) (h : fX7_plate t_tape_bytes t_tape_size t_reader_draft_numbers t_reader_draft_cells t_reader_draft_rows t_reader_draft_sizes t_reader_draft_rooms t_reader_draft_told t_reader_draft_lines t_reader_draft_kinds t_reader_draft_acts t_reader_nameStarts t_reader_nameLengths t_reader_token t_reader_start t_reader_after t_reader_fault t_reader_place t_now_numbers t_now_cells t_now_rows t_now_sizes t_now_rooms t_now_told t_now_lines t_now_kinds t_now_acts t_choices_ready = some (o, o_t_tape_size, o_t_reader_draft_numbers, o_t_reader_draft_cells, o_t_reader_draft_rows, o_t_reader_draft_sizes, o_t_reader_draft_rooms, o_t_reader_draft_told, o_t_reader_draft_lines, o_t_reader_draft_kinds, o_t_reader_draft_acts, o_t_reader_nameStarts, o_t_reader_nameLengths, o_t_reader_token, o_t_reader_start, o_t_reader_after, o_t_reader_fault, o_t_reader_place, o_t_now_numbers, o_t_now_cells, o_t_now_rows, o_t_now_sizes, o_t_now_rooms, o_t_now_told, o_t_now_lines, o_t_now_kinds, o_t_now_acts, o_t_choices_ready)) : Met l yX7_plate (Cond.code yX7_plate cX7_plate 2 (some .int) :: Tw) ⟨14, 0, 0, 283⟩ (va_Pc [.ref ((a_t 0))] (rwB g [((a_t 0), .inr (6, [.ref (a_t_tape 0), .ref (a_t_reader 0), .ref (a_t_now 0), .ref (a_t 4), .ref (a_t_choices 0), .ref (a_t_ways 0), .ref (a_t_stress 0)])), ((a_t_tape 0), .inr (4, [.ref (a_t_tape 1), .int t_tape_size])), ((a_t_tape 1), .inl (g.2.2.1 2, 600, .inl t_tape_bytes)), ((a_t_reader 0), .inr (2, [.ref (a_t_reader_draft 0), .ref (a_t_reader 2), .ref (a_t_reader 3), .ref (a_t_tape 0), .int t_reader_token, .int t_reader_start, .int t_reader_after, .int t_reader_fault, .int t_reader_place])), ((a_t_reader_draft 0), .inr (1, [.ref (a_t_reader_draft 1), .ref (a_t_reader_draft 2), .ref (a_t_reader_draft 3), .ref (a_t_reader_draft 4), .ref (a_t_reader_draft 5), .int t_reader_draft_told, .int t_reader_draft_lines, .int t_reader_draft_kinds, .int t_reader_draft_acts])), ((a_t_reader_draft 1), .inl (g.2.2.1 0, 15, .inl t_reader_draft_numbers)), ((a_t_reader_draft 2), .inl (g.2.2.1 0, 144, .inl t_reader_draft_cells)), ((a_t_reader_draft 3), .inl (g.2.2.1 0, 31, .inl t_reader_draft_rows)), ((a_t_reader_draft 4), .inl (g.2.2.1 0, 31, .inl t_reader_draft_sizes)), ((a_t_reader_draft 5), .inl (g.2.2.1 0, 31, .inl t_reader_draft_rooms)), ((a_t_reader 2), .inl (g.2.2.1 0, 3, .inl t_reader_nameStarts)), ((a_t_reader 3), .inl (g.2.2.1 0, 3, .inl t_reader_nameLengths)), ((a_t_now 0), .inr (1, [.ref (a_t_now 1), .ref (a_t_now 2), .ref (a_t_now 3), .ref (a_t_now 4), .ref (a_t_now 5), .int t_now_told, .int t_now_lines, .int t_now_kinds, .int t_now_acts])), ((a_t_now 1), .inl (g.2.2.1 0, 15, .inl t_now_numbers)), ((a_t_now 2), .inl (g.2.2.1 0, 144, .inl t_now_cells)), ((a_t_now 3), .inl (g.2.2.1 0, 31, .inl t_now_rows)), ((a_t_now 4), .inl (g.2.2.1 0, 31, .inl t_now_sizes)), ((a_t_now 5), .inl (g.2.2.1 0, 31, .inl t_now_rooms)), ((a_t_choices 0), .inr (0, [.ref b_t_choices_rows, .ref b_t_choices_seen, .int t_choices_size, .int t_choices_ready, .int t_choices_pool, .int t_choices_plies, .int t_choices_room]))] sz)) (va_Qi (fun x (_ : Nat → Nat) => x = o) (fun u => rwE g (va_A [((a_t 0), .inr (6, [.ref (a_t_tape 0), .ref (a_t_reader 0), .ref (a_t_now 0), .ref (a_t 4), .ref (a_t_choices 0), .ref (a_t_ways 0), .ref (a_t_stress 0)])), ((a_t_tape 0), .inr (4, [.ref (a_t_tape 1), .int t_tape_size])), ((a_t_tape 1), .inl (g.2.2.1 2, 600, .inl t_tape_bytes)), ((a_t_reader 0), .inr (2, [.ref (a_t_reader_draft 0), .ref (a_t_reader 2), .ref (a_t_reader 3), .ref (a_t_tape 0), .int t_reader_token, .int t_reader_start, .int t_reader_after, .int t_reader_fault, .int t_reader_place])), ((a_t_reader_draft 0), .inr (1, [.ref (a_t_reader_draft 1), .ref (a_t_reader_draft 2), .ref (a_t_reader_draft 3), .ref (a_t_reader_draft 4), .ref (a_t_reader_draft 5), .int t_reader_draft_told, .int t_reader_draft_lines, .int t_reader_draft_kinds, .int t_reader_draft_acts])), ((a_t_reader_draft 1), .inl (g.2.2.1 0, 15, .inl t_reader_draft_numbers)), ((a_t_reader_draft 2), .inl (g.2.2.1 0, 144, .inl t_reader_draft_cells)), ((a_t_reader_draft 3), .inl (g.2.2.1 0, 31, .inl t_reader_draft_rows)), ((a_t_reader_draft 4), .inl (g.2.2.1 0, 31, .inl t_reader_draft_sizes)), ((a_t_reader_draft 5), .inl (g.2.2.1 0, 31, .inl t_reader_draft_rooms)), ((a_t_reader 2), .inl (g.2.2.1 0, 3, .inl t_reader_nameStarts)), ((a_t_reader 3), .inl (g.2.2.1 0, 3, .inl t_reader_nameLengths)), ((a_t_now 0), .inr (1, [.ref (a_t_now 1), .ref (a_t_now 2), .ref (a_t_now 3), .ref (a_t_now 4), .ref (a_t_now 5), .int t_now_told, .int t_now_lines, .int t_now_kinds, .int t_now_acts])), ((a_t_now 1), .inl (g.2.2.1 0, 15, .inl t_now_numbers)), ((a_t_now 2), .inl (g.2.2.1 0, 144, .inl t_now_cells)), ((a_t_now 3), .inl (g.2.2.1 0, 31, .inl t_now_rows)), ((a_t_now 4), .inl (g.2.2.1 0, 31, .inl t_now_sizes)), ((a_t_now 5), .inl (g.2.2.1 0, 31, .inl t_now_rooms)), ((a_t_choices 0), .inr (0, [.ref b_t_choices_rows, .ref b_t_choices_seen, .int t_choices_size, .int t_choices_ready, .int t_choices_pool, .int t_choices_plies, .int t_choices_room]))] sz) [((a_t 0), .inr (6, [.ref (a_t_tape 0), .ref (a_t_reader 0), .ref (a_t_now 0), .ref (a_t 4), .ref (a_t_choices 0), .ref (a_t_ways 0), .ref (a_t_stress 0)])), ((a_t_tape 0), .inr (4, [.ref (a_t_tape 1), .int o_t_tape_size])), ((a_t_tape 1), .inl (g.2.2.1 2, 600, .inl t_tape_bytes)), ((a_t_reader 0), .inr (2, [.ref (a_t_reader_draft 0), .ref (a_t_reader 2), .ref (a_t_reader 3), .ref (a_t_tape 0), .int o_t_reader_token, .int o_t_reader_start, .int o_t_reader_after, .int o_t_reader_fault, .int o_t_reader_place])), ((a_t_reader_draft 0), .inr (1, [.ref (a_t_reader_draft 1), .ref (a_t_reader_draft 2), .ref (a_t_reader_draft 3), .ref (a_t_reader_draft 4), .ref (a_t_reader_draft 5), .int o_t_reader_draft_told, .int o_t_reader_draft_lines, .int o_t_reader_draft_kinds, .int o_t_reader_draft_acts])), ((a_t_reader_draft 1), .inl (g.2.2.1 0, 15, .inl o_t_reader_draft_numbers)), ((a_t_reader_draft 2), .inl (g.2.2.1 0, 144, .inl o_t_reader_draft_cells)), ((a_t_reader_draft 3), .inl (g.2.2.1 0, 31, .inl o_t_reader_draft_rows)), ((a_t_reader_draft 4), .inl (g.2.2.1 0, 31, .inl o_t_reader_draft_sizes)), ((a_t_reader_draft 5), .inl (g.2.2.1 0, 31, .inl o_t_reader_draft_rooms)), ((a_t_reader 2), .inl (g.2.2.1 0, 3, .inl o_t_reader_nameStarts)), ((a_t_reader 3), .inl (g.2.2.1 0, 3, .inl o_t_reader_nameLengths)), ((a_t_now 0), .inr (1, [.ref (a_t_now 1), .ref (a_t_now 2), .ref (a_t_now 3), .ref (a_t_now 4), .ref (a_t_now 5), .int o_t_now_told, .int o_t_now_lines, .int o_t_now_kinds, .int o_t_now_acts])), ((a_t_now 1), .inl (g.2.2.1 0, 15, .inl o_t_now_numbers)), ((a_t_now 2), .inl (g.2.2.1 0, 144, .inl o_t_now_cells)), ((a_t_now 3), .inl (g.2.2.1 0, 31, .inl o_t_now_rows)), ((a_t_now 4), .inl (g.2.2.1 0, 31, .inl o_t_now_sizes)), ((a_t_now 5), .inl (g.2.2.1 0, 31, .inl o_t_now_rooms)), ((a_t_choices 0), .inr (0, [.ref b_t_choices_rows, .ref b_t_choices_seen, .int t_choices_size, .int o_t_choices_ready, .int t_choices_pool, .int t_choices_plies, .int t_choices_room]))]) (va_A [((a_t 0), .inr (6, [.ref (a_t_tape 0), .ref (a_t_reader 0), .ref (a_t_now 0), .ref (a_t 4), .ref (a_t_choices 0), .ref (a_t_ways 0), .ref (a_t_stress 0)])), ((a_t_tape 0), .inr (4, [.ref (a_t_tape 1), .int t_tape_size])), ((a_t_tape 1), .inl (g.2.2.1 2, 600, .inl t_tape_bytes)), ((a_t_reader 0), .inr (2, [.ref (a_t_reader_draft 0), .ref (a_t_reader 2), .ref (a_t_reader 3), .ref (a_t_tape 0), .int t_reader_token, .int t_reader_start, .int t_reader_after, .int t_reader_fault, .int t_reader_place])), ((a_t_reader_draft 0), .inr (1, [.ref (a_t_reader_draft 1), .ref (a_t_reader_draft 2), .ref (a_t_reader_draft 3), .ref (a_t_reader_draft 4), .ref (a_t_reader_draft 5), .int t_reader_draft_told, .int t_reader_draft_lines, .int t_reader_draft_kinds, .int t_reader_draft_acts])), ((a_t_reader_draft 1), .inl (g.2.2.1 0, 15, .inl t_reader_draft_numbers)), ((a_t_reader_draft 2), .inl (g.2.2.1 0, 144, .inl t_reader_draft_cells)), ((a_t_reader_draft 3), .inl (g.2.2.1 0, 31, .inl t_reader_draft_rows)), ((a_t_reader_draft 4), .inl (g.2.2.1 0, 31, .inl t_reader_draft_sizes)), ((a_t_reader_draft 5), .inl (g.2.2.1 0, 31, .inl t_reader_draft_rooms)), ((a_t_reader 2), .inl (g.2.2.1 0, 3, .inl t_reader_nameStarts)), ((a_t_reader 3), .inl (g.2.2.1 0, 3, .inl t_reader_nameLengths)), ((a_t_now 0), .inr (1, [.ref (a_t_now 1), .ref (a_t_now 2), .ref (a_t_now 3), .ref (a_t_now 4), .ref (a_t_now 5), .int t_now_told, .int t_now_lines, .int t_now_kinds, .int t_now_acts])), ((a_t_now 1), .inl (g.2.2.1 0, 15, .inl t_now_numbers)), ((a_t_now 2), .inl (g.2.2.1 0, 144, .inl t_now_cells)), ((a_t_now 3), .inl (g.2.2.1 0, 31, .inl t_now_rows)), ((a_t_now 4), .inl (g.2.2.1 0, 31, .inl t_now_sizes)), ((a_t_now 5), .inl (g.2.2.1 0, 31, .inl t_now_rooms)), ((a_t_choices 0), .inr (0, [.ref b_t_choices_rows, .ref b_t_choices_seen, .int t_choices_size, .int t_choices_ready, .int t_choices_pool, .int t_choices_plies, .int t_choices_room]))] sz)) 0 0 (va_A [((a_t 0), .inr (6, [.ref (a_t_tape 0), .ref (a_t_reader 0), .ref (a_t_now 0), .ref (a_t 4), .ref (a_t_choices 0), .ref (a_t_ways 0), .ref (a_t_stress 0)])), ((a_t_tape 0), .inr (4, [.ref (a_t_tape 1), .int t_tape_size])), ((a_t_tape 1), .inl (g.2.2.1 2, 600, .inl t_tape_bytes)), ((a_t_reader 0), .inr (2, [.ref (a_t_reader_draft 0), .ref (a_t_reader 2), .ref (a_t_reader 3), .ref (a_t_tape 0), .int t_reader_token, .int t_reader_start, .int t_reader_after, .int t_reader_fault, .int t_reader_place])), ((a_t_reader_draft 0), .inr (1, [.ref (a_t_reader_draft 1), .ref (a_t_reader_draft 2), .ref (a_t_reader_draft 3), .ref (a_t_reader_draft 4), .ref (a_t_reader_draft 5), .int t_reader_draft_told, .int t_reader_draft_lines, .int t_reader_draft_kinds, .int t_reader_draft_acts])), ((a_t_reader_draft 1), .inl (g.2.2.1 0, 15, .inl t_reader_draft_numbers)), ((a_t_reader_draft 2), .inl (g.2.2.1 0, 144, .inl t_reader_draft_cells)), ((a_t_reader_draft 3), .inl (g.2.2.1 0, 31, .inl t_reader_draft_rows)), ((a_t_reader_draft 4), .inl (g.2.2.1 0, 31, .inl t_reader_draft_sizes)), ((a_t_reader_draft 5), .inl (g.2.2.1 0, 31, .inl t_reader_draft_rooms)), ((a_t_reader 2), .inl (g.2.2.1 0, 3, .inl t_reader_nameStarts)), ((a_t_reader 3), .inl (g.2.2.1 0, 3, .inl t_reader_nameLengths)), ((a_t_now 0), .inr (1, [.ref (a_t_now 1), .ref (a_t_now 2), .ref (a_t_now 3), .ref (a_t_now 4), .ref (a_t_now 5), .int t_now_told, .int t_now_lines, .int t_now_kinds, .int t_now_acts])), ((a_t_now 1), .inl (g.2.2.1 0, 15, .inl t_now_numbers)), ((a_t_now 2), .inl (g.2.2.1 0, 144, .inl t_now_cells)), ((a_t_now 3), .inl (g.2.2.1 0, 31, .inl t_now_rows)), ((a_t_now 4), .inl (g.2.2.1 0, 31, .inl t_now_sizes)), ((a_t_now 5), .inl (g.2.2.1 0, 31, .inl t_now_rooms)), ((a_t_choices 0), .inr (0, [.ref b_t_choices_rows, .ref b_t_choices_seen, .int t_choices_size, .int t_choices_ready, .int t_choices_pool, .int t_choices_plies, .int t_choices_room]))] sz) := by
  refine rw_meti (by decide) (Nat.le_of_ble_eq_true rfl) (lv0 := [(0, .ref ((a_t 0)))]) rfl ?_
  intro p e s m args below meth c ls Q A cx hret hG hAb hb0 hA hP hD hl
  have hx := cx.1
  have hb := cx.2.1
  have hG0 := hG
  have hGk : ∀ {H : Heap} {locs : List Loc}, va_S A s.heap H locs → GE g s H := fun hS => hG0.keptS hAb hS
  have hSb : ∀ {H : Heap} {locs : List Loc}, va_S A s.heap H locs → va_S (fun a => g.1 ≤ a) s.heap H locs := fun hS => ⟨hS.1, fun q h1 h2 => hS.2.1 q h1 (fun z => h2 (hAb q z)), fun l hl => hAb _ (hS.2.2 l hl)⟩
  have hS : va_S A s.heap s.heap [] := va_S.rf
  have hrt : ∀ (u : Nat → Nat) (pc : Nat) (ls : Array Slot) (v : Int32) (x_t_tape_size : Int32) (x_t_reader_draft_numbers : Nat → Int32) (x_t_reader_draft_cells : Nat → Int32) (x_t_reader_draft_rows : Nat → Int32) (x_t_reader_draft_sizes : Nat → Int32) (x_t_reader_draft_rooms : Nat → Int32) (x_t_reader_draft_told : Int32) (x_t_reader_draft_lines : Int32) (x_t_reader_draft_kinds : Int32) (x_t_reader_draft_acts : Int32) (x_t_reader_nameStarts : Nat → Int32) (x_t_reader_nameLengths : Nat → Int32) (x_t_reader_token : Int32) (x_t_reader_start : Int32) (x_t_reader_after : Int32) (x_t_reader_fault : Int32) (x_t_reader_place : Int32) (x_t_now_numbers : Nat → Int32) (x_t_now_cells : Nat → Int32) (x_t_now_rows : Nat → Int32) (x_t_now_sizes : Nat → Int32) (x_t_now_rooms : Nat → Int32) (x_t_now_told : Int32) (x_t_now_lines : Int32) (x_t_now_kinds : Int32) (x_t_now_acts : Int32) (x_t_choices_ready : Int32) (H : Heap) (locs : List Loc), decode cX7_plate pc = .ok (.ireturn, 1) → some (v, x_t_tape_size, x_t_reader_draft_numbers, x_t_reader_draft_cells, x_t_reader_draft_rows, x_t_reader_draft_sizes, x_t_reader_draft_rooms, x_t_reader_draft_told, x_t_reader_draft_lines, x_t_reader_draft_kinds, x_t_reader_draft_acts, x_t_reader_nameStarts, x_t_reader_nameLengths, x_t_reader_token, x_t_reader_start, x_t_reader_after, x_t_reader_fault, x_t_reader_place, x_t_now_numbers, x_t_now_cells, x_t_now_rows, x_t_now_sizes, x_t_now_rooms, x_t_now_told, x_t_now_lines, x_t_now_kinds, x_t_now_acts, x_t_choices_ready) = some (o, o_t_tape_size, o_t_reader_draft_numbers, o_t_reader_draft_cells, o_t_reader_draft_rows, o_t_reader_draft_sizes, o_t_reader_draft_rooms, o_t_reader_draft_told, o_t_reader_draft_lines, o_t_reader_draft_kinds, o_t_reader_draft_acts, o_t_reader_nameStarts, o_t_reader_nameLengths, o_t_reader_token, o_t_reader_start, o_t_reader_after, o_t_reader_fault, o_t_reader_place, o_t_now_numbers, o_t_now_cells, o_t_now_rows, o_t_now_sizes, o_t_now_rooms, o_t_now_told, o_t_now_lines, o_t_now_kinds, o_t_now_acts, o_t_choices_ready) → va_P g.2.1 vwCl [((a_t 0), .inr (6, [.ref (a_t_tape 0), .ref (a_t_reader 0), .ref (a_t_now 0), .ref (a_t 4), .ref (a_t_choices 0), .ref (a_t_ways 0), .ref (a_t_stress 0)])), ((a_t_tape 0), .inr (4, [.ref (a_t_tape 1), .int x_t_tape_size])), ((a_t_tape 1), .inl (g.2.2.1 2, 600, .inl t_tape_bytes)), ((a_t_reader 0), .inr (2, [.ref (a_t_reader_draft 0), .ref (a_t_reader 2), .ref (a_t_reader 3), .ref (a_t_tape 0), .int x_t_reader_token, .int x_t_reader_start, .int x_t_reader_after, .int x_t_reader_fault, .int x_t_reader_place])), ((a_t_reader_draft 0), .inr (1, [.ref (a_t_reader_draft 1), .ref (a_t_reader_draft 2), .ref (a_t_reader_draft 3), .ref (a_t_reader_draft 4), .ref (a_t_reader_draft 5), .int x_t_reader_draft_told, .int x_t_reader_draft_lines, .int x_t_reader_draft_kinds, .int x_t_reader_draft_acts])), ((a_t_reader_draft 1), .inl (g.2.2.1 0, 15, .inl x_t_reader_draft_numbers)), ((a_t_reader_draft 2), .inl (g.2.2.1 0, 144, .inl x_t_reader_draft_cells)), ((a_t_reader_draft 3), .inl (g.2.2.1 0, 31, .inl x_t_reader_draft_rows)), ((a_t_reader_draft 4), .inl (g.2.2.1 0, 31, .inl x_t_reader_draft_sizes)), ((a_t_reader_draft 5), .inl (g.2.2.1 0, 31, .inl x_t_reader_draft_rooms)), ((a_t_reader 2), .inl (g.2.2.1 0, 3, .inl x_t_reader_nameStarts)), ((a_t_reader 3), .inl (g.2.2.1 0, 3, .inl x_t_reader_nameLengths)), ((a_t_now 0), .inr (1, [.ref (a_t_now 1), .ref (a_t_now 2), .ref (a_t_now 3), .ref (a_t_now 4), .ref (a_t_now 5), .int x_t_now_told, .int x_t_now_lines, .int x_t_now_kinds, .int x_t_now_acts])), ((a_t_now 1), .inl (g.2.2.1 0, 15, .inl x_t_now_numbers)), ((a_t_now 2), .inl (g.2.2.1 0, 144, .inl x_t_now_cells)), ((a_t_now 3), .inl (g.2.2.1 0, 31, .inl x_t_now_rows)), ((a_t_now 4), .inl (g.2.2.1 0, 31, .inl x_t_now_sizes)), ((a_t_now 5), .inl (g.2.2.1 0, 31, .inl x_t_now_rooms)), ((a_t_choices 0), .inr (0, [.ref b_t_choices_rows, .ref b_t_choices_seen, .int t_choices_size, .int x_t_choices_ready, .int t_choices_pool, .int t_choices_plies, .int t_choices_room]))] H → va_D A [((a_t 0), .inr (6, [.ref (a_t_tape 0), .ref (a_t_reader 0), .ref (a_t_now 0), .ref (a_t 4), .ref (a_t_choices 0), .ref (a_t_ways 0), .ref (a_t_stress 0)])), ((a_t_tape 0), .inr (4, [.ref (a_t_tape 1), .int x_t_tape_size])), ((a_t_tape 1), .inl (g.2.2.1 2, 600, .inl t_tape_bytes)), ((a_t_reader 0), .inr (2, [.ref (a_t_reader_draft 0), .ref (a_t_reader 2), .ref (a_t_reader 3), .ref (a_t_tape 0), .int x_t_reader_token, .int x_t_reader_start, .int x_t_reader_after, .int x_t_reader_fault, .int x_t_reader_place])), ((a_t_reader_draft 0), .inr (1, [.ref (a_t_reader_draft 1), .ref (a_t_reader_draft 2), .ref (a_t_reader_draft 3), .ref (a_t_reader_draft 4), .ref (a_t_reader_draft 5), .int x_t_reader_draft_told, .int x_t_reader_draft_lines, .int x_t_reader_draft_kinds, .int x_t_reader_draft_acts])), ((a_t_reader_draft 1), .inl (g.2.2.1 0, 15, .inl x_t_reader_draft_numbers)), ((a_t_reader_draft 2), .inl (g.2.2.1 0, 144, .inl x_t_reader_draft_cells)), ((a_t_reader_draft 3), .inl (g.2.2.1 0, 31, .inl x_t_reader_draft_rows)), ((a_t_reader_draft 4), .inl (g.2.2.1 0, 31, .inl x_t_reader_draft_sizes)), ((a_t_reader_draft 5), .inl (g.2.2.1 0, 31, .inl x_t_reader_draft_rooms)), ((a_t_reader 2), .inl (g.2.2.1 0, 3, .inl x_t_reader_nameStarts)), ((a_t_reader 3), .inl (g.2.2.1 0, 3, .inl x_t_reader_nameLengths)), ((a_t_now 0), .inr (1, [.ref (a_t_now 1), .ref (a_t_now 2), .ref (a_t_now 3), .ref (a_t_now 4), .ref (a_t_now 5), .int x_t_now_told, .int x_t_now_lines, .int x_t_now_kinds, .int x_t_now_acts])), ((a_t_now 1), .inl (g.2.2.1 0, 15, .inl x_t_now_numbers)), ((a_t_now 2), .inl (g.2.2.1 0, 144, .inl x_t_now_cells)), ((a_t_now 3), .inl (g.2.2.1 0, 31, .inl x_t_now_rows)), ((a_t_now 4), .inl (g.2.2.1 0, 31, .inl x_t_now_sizes)), ((a_t_now 5), .inl (g.2.2.1 0, 31, .inl x_t_now_rooms)), ((a_t_choices 0), .inr (0, [.ref b_t_choices_rows, .ref b_t_choices_seen, .int t_choices_size, .int x_t_choices_ready, .int t_choices_pool, .int t_choices_plies, .int t_choices_room]))] → va_S A s.heap H locs → W p l e ⟨14, 0, 0, 283⟩ s m args below meth c H locs 0 0 Q (F0 m pc ls [.int v]) := by
    intro u pc ls v x_t_tape_size x_t_reader_draft_numbers x_t_reader_draft_cells x_t_reader_draft_rows x_t_reader_draft_sizes x_t_reader_draft_rooms x_t_reader_draft_told x_t_reader_draft_lines x_t_reader_draft_kinds x_t_reader_draft_acts x_t_reader_nameStarts x_t_reader_nameLengths x_t_reader_token x_t_reader_start x_t_reader_after x_t_reader_fault x_t_reader_place x_t_now_numbers x_t_now_cells x_t_now_rows x_t_now_sizes x_t_now_rooms x_t_now_told x_t_now_lines x_t_now_kinds x_t_now_acts x_t_choices_ready H locs hd h hP hD hS
    cases h
    exact hret u _ _ _ _ _ hd rfl hP hD hS
  unfold fX7_plate at h
  refine lv_aload_n hx hb dX7_plate_0 rfl (lv_at hl 0 rfl) ?_
  refine xa_get (C := RX7) (T := TX7) (N := 7) cx hG hP 0 rfl rfl uX7 1 (by decide) lf_X7_23 rfl dX7_plate_1 ?_
  obtain ⟨r2, w3, w4, w5, w6, w7, w8, w9, w10, w11, w12, w13, w14, w15, w16, w17, w18, hr1, h⟩ := ob17_out h
  refine rw_z (WN := fun u19 => [((a_t 0), .inr (6, [.ref (a_t_tape 0), .ref (a_t_reader 0), .ref (a_t_now 0), .ref (a_t 4), .ref (a_t_choices 0), .ref (a_t_ways 0), .ref (a_t_stress 0)])), ((a_t_now 0), .inr (1, [.ref (a_t_now 1), .ref (a_t_now 2), .ref (a_t_now 3), .ref (a_t_now 4), .ref (a_t_now 5), .int t_now_told, .int t_now_lines, .int t_now_kinds, .int t_now_acts])), ((a_t_now 1), .inl (g.2.2.1 0, 15, .inl t_now_numbers)), ((a_t_now 2), .inl (g.2.2.1 0, 144, .inl t_now_cells)), ((a_t_now 3), .inl (g.2.2.1 0, 31, .inl t_now_rows)), ((a_t_now 4), .inl (g.2.2.1 0, 31, .inl t_now_sizes)), ((a_t_now 5), .inl (g.2.2.1 0, 31, .inl t_now_rooms)), ((a_t_choices 0), .inr (0, [.ref b_t_choices_rows, .ref b_t_choices_seen, .int t_choices_size, .int t_choices_ready, .int t_choices_pool, .int t_choices_plies, .int t_choices_room])), ((a_t_reader 0), .inr (2, [.ref (a_t_reader_draft 0), .ref (a_t_reader 2), .ref (a_t_reader 3), .ref (a_t_tape 0), .int w14, .int w15, .int w16, .int w17, .int w18])), ((a_t_reader_draft 0), .inr (1, [.ref (a_t_reader_draft 1), .ref (a_t_reader_draft 2), .ref (a_t_reader_draft 3), .ref (a_t_reader_draft 4), .ref (a_t_reader_draft 5), .int w8, .int w9, .int w10, .int w11])), ((a_t_reader_draft 1), .inl (g.2.2.1 0, 15, .inl w3)), ((a_t_reader_draft 2), .inl (g.2.2.1 0, 144, .inl w4)), ((a_t_reader_draft 3), .inl (g.2.2.1 0, 31, .inl w5)), ((a_t_reader_draft 4), .inl (g.2.2.1 0, 31, .inl w6)), ((a_t_reader_draft 5), .inl (g.2.2.1 0, 31, .inl w7)), ((a_t_reader 2), .inl (g.2.2.1 0, 3, .inl w12)), ((a_t_reader 3), .inl (g.2.2.1 0, 3, .inl w13)), ((a_t_tape 0), .inr (4, [.ref (a_t_tape 1), .int t_tape_size])), ((a_t_tape 1), .inl (g.2.2.1 2, 600, .inl t_tape_bytes))]) (wr := [((a_t 0), .inr (6, [.ref (a_t_tape 0), .ref (a_t_reader 0), .ref (a_t_now 0), .ref (a_t 4), .ref (a_t_choices 0), .ref (a_t_ways 0), .ref (a_t_stress 0)])), ((a_t_now 0), .inr (1, [.ref (a_t_now 1), .ref (a_t_now 2), .ref (a_t_now 3), .ref (a_t_now 4), .ref (a_t_now 5), .int t_now_told, .int t_now_lines, .int t_now_kinds, .int t_now_acts])), ((a_t_now 1), .inl (g.2.2.1 0, 15, .inl t_now_numbers)), ((a_t_now 2), .inl (g.2.2.1 0, 144, .inl t_now_cells)), ((a_t_now 3), .inl (g.2.2.1 0, 31, .inl t_now_rows)), ((a_t_now 4), .inl (g.2.2.1 0, 31, .inl t_now_sizes)), ((a_t_now 5), .inl (g.2.2.1 0, 31, .inl t_now_rooms)), ((a_t_choices 0), .inr (0, [.ref b_t_choices_rows, .ref b_t_choices_seen, .int t_choices_size, .int t_choices_ready, .int t_choices_pool, .int t_choices_plies, .int t_choices_room]))]) (runVN (As := []) (rest := []) hG cx hl.1 (ctX2_read l g s.heap.size a_t_reader a_t_reader_draft a_t_tape t_reader_token t_reader_start t_reader_after t_reader_fault t_reader_place t_reader_draft_told t_reader_draft_lines t_reader_draft_kinds t_reader_draft_acts t_reader_draft_numbers t_reader_draft_cells t_reader_draft_rows t_reader_draft_sizes t_reader_draft_rooms t_reader_nameStarts t_reader_nameLengths t_tape_size t_tape_bytes r2 w3 w4 w5 w6 w7 w8 w9 w10 w11 w12 w13 w14 w15 w16 w17 w18 hr1) kmX2_read kvX2_read nm_8 ⟨rfl, rfl⟩ ⟨Nat.le_of_ble_eq_true rfl, Nat.le_of_ble_eq_true rfl⟩ (rwV (q0 := 3) (ci := 2) hG (hP.sub [3, 4, 5, 6, 7, 8, 9, 10, 11, 1, 2] rfl) (hD.sub [3, 4, 5, 6, 7, 8, 9, 10, 11, 1, 2] (by decide) rfl) hAb hb0 hS hP rfl rfl) rfl rfl (Nat.le_of_ble_eq_true rfl) dX7_plate_4 ⟨Nat.le_of_ble_eq_true rfl, Nat.le_of_ble_eq_true rfl⟩) hP hD hS hA [3, 4, 5, 6, 7, 8, 9, 10, 11, 1, 2] [0, 12, 13, 14, 15, 16, 17, 18] rfl rfl (by decide) (by decide) (fun _ => rfl) (fun hz20 u19 H locs hP hD hS => ?_)
  have hG := hGk hS
  refine lv_istore_n (lv' := [(1, .int r2), (0, .ref ((a_t 0)))]) hx hb dX7_plate_7 rfl hl (by decide) rfl (fun ls hl => ?_)
  refine lv_aload_n hx hb dX7_plate_8 rfl (lv_at hl 1 rfl) ?_
  refine xa_get (C := RX7) (T := TX7) (N := 7) cx hG hP 0 rfl rfl uX7 0 (by decide) lf_X7_12 rfl dX7_plate_9 ?_
  refine lv_iconst (v := 0) hx hb dX7_plate_12 (by decide) ?_
  refine xw_putN (C := RX5) (T := TX5) (N := 2) (ty := .int) (v := .int (0)) (ws' := [((a_t 0), .inr (6, [.ref (a_t_tape 0), .ref (a_t_reader 0), .ref (a_t_now 0), .ref (a_t 4), .ref (a_t_choices 0), .ref (a_t_ways 0), .ref (a_t_stress 0)])), ((a_t_now 0), .inr (1, [.ref (a_t_now 1), .ref (a_t_now 2), .ref (a_t_now 3), .ref (a_t_now 4), .ref (a_t_now 5), .int t_now_told, .int t_now_lines, .int t_now_kinds, .int t_now_acts])), ((a_t_now 1), .inl (g.2.2.1 0, 15, .inl t_now_numbers)), ((a_t_now 2), .inl (g.2.2.1 0, 144, .inl t_now_cells)), ((a_t_now 3), .inl (g.2.2.1 0, 31, .inl t_now_rows)), ((a_t_now 4), .inl (g.2.2.1 0, 31, .inl t_now_sizes)), ((a_t_now 5), .inl (g.2.2.1 0, 31, .inl t_now_rooms)), ((a_t_choices 0), .inr (0, [.ref b_t_choices_rows, .ref b_t_choices_seen, .int t_choices_size, .int t_choices_ready, .int t_choices_pool, .int t_choices_plies, .int t_choices_room])), ((a_t_reader 0), .inr (2, [.ref (a_t_reader_draft 0), .ref (a_t_reader 2), .ref (a_t_reader 3), .ref (a_t_tape 0), .int w14, .int w15, .int w16, .int w17, .int w18])), ((a_t_reader_draft 0), .inr (1, [.ref (a_t_reader_draft 1), .ref (a_t_reader_draft 2), .ref (a_t_reader_draft 3), .ref (a_t_reader_draft 4), .ref (a_t_reader_draft 5), .int w8, .int w9, .int w10, .int w11])), ((a_t_reader_draft 1), .inl (g.2.2.1 0, 15, .inl w3)), ((a_t_reader_draft 2), .inl (g.2.2.1 0, 144, .inl w4)), ((a_t_reader_draft 3), .inl (g.2.2.1 0, 31, .inl w5)), ((a_t_reader_draft 4), .inl (g.2.2.1 0, 31, .inl w6)), ((a_t_reader_draft 5), .inl (g.2.2.1 0, 31, .inl w7)), ((a_t_reader 2), .inl (g.2.2.1 0, 3, .inl w12)), ((a_t_reader 3), .inl (g.2.2.1 0, 3, .inl w13)), ((a_t_tape 0), .inr (4, [.ref (a_t_tape 1), .int 0])), ((a_t_tape 1), .inl (g.2.2.1 2, 600, .inl t_tape_bytes))]) cx hG hP hD hS 17 rfl rfl uX5 tyX5 tyX5_ok nmX5 1 (by decide) nf_0 rfl (by decide +kernel) rfl rfl (Nat.le_of_ble_eq_true rfl) rfl dX7_plate_13 (fun H locs hP hD hS => ?_)
  have hG := hGk hS
  refine lv_iload_n hx hb dX7_plate_16 rfl (lv_at hl 0 rfl) ?_
  refine lv_if_ne (tgt := 23) hx hb dX7_plate_17 (by decide) (fun c21 => ?_) (fun c21 => ?_)
  · have h := itn c21 h
    refine lv_aload_n hx hb dX7_plate_23 rfl (lv_at hl 1 rfl) ?_
    refine xa_get (C := RX7) (T := TX7) (N := 7) cx hG hP 0 rfl rfl uX7 2 (by decide) lf_X7_30 rfl dX7_plate_24 ?_
    refine lv_aload_n hx hb dX7_plate_27 rfl (lv_at hl 1 rfl) ?_
    refine xa_get (C := RX7) (T := TX7) (N := 7) cx hG hP 0 rfl rfl uX7 1 (by decide) lf_X7_23 rfl dX7_plate_28 ?_
    refine xa_getN (C := RX2) (T := TX2) (N := 9) cx hG hP 8 rfl rfl uX2 0 (by decide) nf_11 rfl dX7_plate_31 ?_
    obtain ⟨w23, w24, w25, w26, w27, w28, w29, w30, w31, hr22, h⟩ := ob9_out h
    refine rw_v (WN := fun u32 => [((a_t 0), .inr (6, [.ref (a_t_tape 0), .ref (a_t_reader 0), .ref (a_t_now 0), .ref (a_t 4), .ref (a_t_choices 0), .ref (a_t_ways 0), .ref (a_t_stress 0)])), ((a_t_choices 0), .inr (0, [.ref b_t_choices_rows, .ref b_t_choices_seen, .int t_choices_size, .int t_choices_ready, .int t_choices_pool, .int t_choices_plies, .int t_choices_room])), ((a_t_reader 0), .inr (2, [.ref (a_t_reader_draft 0), .ref (a_t_reader 2), .ref (a_t_reader 3), .ref (a_t_tape 0), .int w14, .int w15, .int w16, .int w17, .int w18])), ((a_t_reader 2), .inl (g.2.2.1 0, 3, .inl w12)), ((a_t_reader 3), .inl (g.2.2.1 0, 3, .inl w13)), ((a_t_tape 0), .inr (4, [.ref (a_t_tape 1), .int 0])), ((a_t_tape 1), .inl (g.2.2.1 2, 600, .inl t_tape_bytes)), ((a_t_now 0), .inr (1, [.ref (a_t_now 1), .ref (a_t_now 2), .ref (a_t_now 3), .ref (a_t_now 4), .ref (a_t_now 5), .int w28, .int w29, .int w30, .int w31])), ((a_t_now 1), .inl (g.2.2.1 0, 15, .inl w23)), ((a_t_now 2), .inl (g.2.2.1 0, 144, .inl w24)), ((a_t_now 3), .inl (g.2.2.1 0, 31, .inl w25)), ((a_t_now 4), .inl (g.2.2.1 0, 31, .inl w26)), ((a_t_now 5), .inl (g.2.2.1 0, 31, .inl w27)), ((a_t_reader_draft 0), .inr (1, [.ref (a_t_reader_draft 1), .ref (a_t_reader_draft 2), .ref (a_t_reader_draft 3), .ref (a_t_reader_draft 4), .ref (a_t_reader_draft 5), .int w8, .int w9, .int w10, .int w11])), ((a_t_reader_draft 1), .inl (g.2.2.1 0, 15, .inl w3)), ((a_t_reader_draft 2), .inl (g.2.2.1 0, 144, .inl w4)), ((a_t_reader_draft 3), .inl (g.2.2.1 0, 31, .inl w5)), ((a_t_reader_draft 4), .inl (g.2.2.1 0, 31, .inl w6)), ((a_t_reader_draft 5), .inl (g.2.2.1 0, 31, .inl w7))]) (wr := [((a_t 0), .inr (6, [.ref (a_t_tape 0), .ref (a_t_reader 0), .ref (a_t_now 0), .ref (a_t 4), .ref (a_t_choices 0), .ref (a_t_ways 0), .ref (a_t_stress 0)])), ((a_t_choices 0), .inr (0, [.ref b_t_choices_rows, .ref b_t_choices_seen, .int t_choices_size, .int t_choices_ready, .int t_choices_pool, .int t_choices_plies, .int t_choices_room])), ((a_t_reader 0), .inr (2, [.ref (a_t_reader_draft 0), .ref (a_t_reader 2), .ref (a_t_reader 3), .ref (a_t_tape 0), .int w14, .int w15, .int w16, .int w17, .int w18])), ((a_t_reader 2), .inl (g.2.2.1 0, 3, .inl w12)), ((a_t_reader 3), .inl (g.2.2.1 0, 3, .inl w13)), ((a_t_tape 0), .inr (4, [.ref (a_t_tape 1), .int 0])), ((a_t_tape 1), .inl (g.2.2.1 2, 600, .inl t_tape_bytes))]) (runVN (As := [.ref ((a_t_reader_draft 0))]) (rest := []) hG cx hl.1 (ctX1_copy l g H.size a_t_now a_t_reader_draft t_now_told t_now_lines t_now_kinds t_now_acts t_now_numbers t_now_cells t_now_rows t_now_sizes t_now_rooms w8 w9 w10 w11 w3 w4 w5 w6 w7 w23 w24 w25 w26 w27 w28 w29 w30 w31 hr22) kmX1_copy kvX1_copy nm_14 ⟨rfl, rfl⟩ ⟨Nat.le_of_ble_eq_true rfl, Nat.le_of_ble_eq_true rfl⟩ (rwV (q0 := 1) (ci := 1) hG (hP.sub [1, 2, 3, 4, 5, 6, 9, 10, 11, 12, 13, 14] rfl) (hD.sub [1, 2, 3, 4, 5, 6, 9, 10, 11, 12, 13, 14] (by decide) rfl) hAb hb0 hS hP rfl rfl) rfl rfl (Nat.le_of_ble_eq_true rfl) dX7_plate_34 ⟨Nat.le_of_ble_eq_true rfl, Nat.le_of_ble_eq_true rfl⟩) hP hD hS hA [1, 2, 3, 4, 5, 6, 9, 10, 11, 12, 13, 14] [0, 7, 8, 15, 16, 17, 18] rfl rfl (by decide) (by decide) (fun _ => rfl) (fun u32 H locs hP hD hS => ?_)
    have hG := hGk hS
    refine lv_aload_n hx hb dX7_plate_37 rfl (lv_at hl 1 rfl) ?_
    refine xa_get (C := RX7) (T := TX7) (N := 7) cx hG hP 0 rfl rfl uX7 4 (by decide) lf_X7_41 rfl dX7_plate_38 ?_
    obtain ⟨w34, hr33, h⟩ := bnd h
    refine rw_v (WN := fun u35 => [((a_t 0), .inr (6, [.ref (a_t_tape 0), .ref (a_t_reader 0), .ref (a_t_now 0), .ref (a_t 4), .ref (a_t_choices 0), .ref (a_t_ways 0), .ref (a_t_stress 0)])), ((a_t_reader 0), .inr (2, [.ref (a_t_reader_draft 0), .ref (a_t_reader 2), .ref (a_t_reader 3), .ref (a_t_tape 0), .int w14, .int w15, .int w16, .int w17, .int w18])), ((a_t_reader 2), .inl (g.2.2.1 0, 3, .inl w12)), ((a_t_reader 3), .inl (g.2.2.1 0, 3, .inl w13)), ((a_t_tape 0), .inr (4, [.ref (a_t_tape 1), .int 0])), ((a_t_tape 1), .inl (g.2.2.1 2, 600, .inl t_tape_bytes)), ((a_t_now 0), .inr (1, [.ref (a_t_now 1), .ref (a_t_now 2), .ref (a_t_now 3), .ref (a_t_now 4), .ref (a_t_now 5), .int w28, .int w29, .int w30, .int w31])), ((a_t_now 1), .inl (g.2.2.1 0, 15, .inl w23)), ((a_t_now 2), .inl (g.2.2.1 0, 144, .inl w24)), ((a_t_now 3), .inl (g.2.2.1 0, 31, .inl w25)), ((a_t_now 4), .inl (g.2.2.1 0, 31, .inl w26)), ((a_t_now 5), .inl (g.2.2.1 0, 31, .inl w27)), ((a_t_reader_draft 0), .inr (1, [.ref (a_t_reader_draft 1), .ref (a_t_reader_draft 2), .ref (a_t_reader_draft 3), .ref (a_t_reader_draft 4), .ref (a_t_reader_draft 5), .int w8, .int w9, .int w10, .int w11])), ((a_t_reader_draft 1), .inl (g.2.2.1 0, 15, .inl w3)), ((a_t_reader_draft 2), .inl (g.2.2.1 0, 144, .inl w4)), ((a_t_reader_draft 3), .inl (g.2.2.1 0, 31, .inl w5)), ((a_t_reader_draft 4), .inl (g.2.2.1 0, 31, .inl w6)), ((a_t_reader_draft 5), .inl (g.2.2.1 0, 31, .inl w7)), ((a_t_choices 0), .inr (0, [.ref b_t_choices_rows, .ref b_t_choices_seen, .int t_choices_size, .int w34, .int t_choices_pool, .int t_choices_plies, .int t_choices_room]))]) (wr := [((a_t 0), .inr (6, [.ref (a_t_tape 0), .ref (a_t_reader 0), .ref (a_t_now 0), .ref (a_t 4), .ref (a_t_choices 0), .ref (a_t_ways 0), .ref (a_t_stress 0)])), ((a_t_reader 0), .inr (2, [.ref (a_t_reader_draft 0), .ref (a_t_reader 2), .ref (a_t_reader 3), .ref (a_t_tape 0), .int w14, .int w15, .int w16, .int w17, .int w18])), ((a_t_reader 2), .inl (g.2.2.1 0, 3, .inl w12)), ((a_t_reader 3), .inl (g.2.2.1 0, 3, .inl w13)), ((a_t_tape 0), .inr (4, [.ref (a_t_tape 1), .int 0])), ((a_t_tape 1), .inl (g.2.2.1 2, 600, .inl t_tape_bytes)), ((a_t_now 0), .inr (1, [.ref (a_t_now 1), .ref (a_t_now 2), .ref (a_t_now 3), .ref (a_t_now 4), .ref (a_t_now 5), .int w28, .int w29, .int w30, .int w31])), ((a_t_now 1), .inl (g.2.2.1 0, 15, .inl w23)), ((a_t_now 2), .inl (g.2.2.1 0, 144, .inl w24)), ((a_t_now 3), .inl (g.2.2.1 0, 31, .inl w25)), ((a_t_now 4), .inl (g.2.2.1 0, 31, .inl w26)), ((a_t_now 5), .inl (g.2.2.1 0, 31, .inl w27)), ((a_t_reader_draft 0), .inr (1, [.ref (a_t_reader_draft 1), .ref (a_t_reader_draft 2), .ref (a_t_reader_draft 3), .ref (a_t_reader_draft 4), .ref (a_t_reader_draft 5), .int w8, .int w9, .int w10, .int w11])), ((a_t_reader_draft 1), .inl (g.2.2.1 0, 15, .inl w3)), ((a_t_reader_draft 2), .inl (g.2.2.1 0, 144, .inl w4)), ((a_t_reader_draft 3), .inl (g.2.2.1 0, 31, .inl w5)), ((a_t_reader_draft 4), .inl (g.2.2.1 0, 31, .inl w6)), ((a_t_reader_draft 5), .inl (g.2.2.1 0, 31, .inl w7))]) (runVN (As := []) (rest := []) hG cx hl.1 (ctX0_forget l g H.size a_t_choices b_t_choices_rows b_t_choices_seen t_choices_size t_choices_ready t_choices_pool t_choices_plies t_choices_room w34 hr33) kmX0_forget kvX0_forget nm_15 ⟨rfl, rfl⟩ ⟨Nat.le_of_ble_eq_true rfl, Nat.le_of_ble_eq_true rfl⟩ (rwV (q0 := 1) (ci := 0) hG (hP.sub [1] rfl) (hD.sub [1] (by decide) rfl) hAb hb0 hS hP rfl rfl) rfl rfl (Nat.le_of_ble_eq_true rfl) dX7_plate_41 ⟨Nat.le_of_ble_eq_true rfl, Nat.le_of_ble_eq_true rfl⟩) hP hD hS hA [1] [0, 2, 3, 4, 5, 6, 7, 8, 9, 10, 11, 12, 13, 14, 15, 16, 17, 18] rfl rfl (by decide) (by decide) (fun _ => rfl) (fun u35 H locs hP hD hS => ?_)
    have hG := hGk hS
    refine lv_aload_n hx hb dX7_plate_44 rfl (lv_at hl 1 rfl) ?_
    refine xa_get (C := RX7) (T := TX7) (N := 7) cx hG hP 0 rfl rfl uX7 2 (by decide) lf_X7_30 rfl dX7_plate_45 ?_
    refine xa_getN (C := RX1) (T := TX1) (N := 9) cx hG hP 6 rfl rfl uX1 6 (by decide) nf_7 rfl dX7_plate_48 ?_
    exact hrt (fun _ => 0) _ _ w29 (0) w3 w4 w5 w6 w7 w8 w9 w10 w11 w12 w13 w14 w15 w16 w17 w18 w23 w24 w25 w26 w27 w28 w29 w30 w31 w34 _ _ dX7_plate_51 h (hP.sub [0, 4, 5, 1, 12, 13, 14, 15, 16, 17, 2, 3, 6, 7, 8, 9, 10, 11, 18] rfl) (hD.sub [0, 4, 5, 1, 12, 13, 14, 15, 16, 17, 2, 3, 6, 7, 8, 9, 10, 11, 18] (by decide) rfl) hS
  · have h := itp c21 h
    refine lv_bipush (v := -4) hx hb dX7_plate_20 (by decide) ?_
    exact hrt (fun _ => 0) _ _ ((-4)) (0) w3 w4 w5 w6 w7 w8 w9 w10 w11 w12 w13 w14 w15 w16 w17 w18 t_now_numbers t_now_cells t_now_rows t_now_sizes t_now_rooms t_now_told t_now_lines t_now_kinds t_now_acts t_choices_ready _ _ dX7_plate_22 h (hP.sub [0, 17, 18, 8, 9, 10, 11, 12, 13, 14, 15, 16, 1, 2, 3, 4, 5, 6, 7] rfl) (hD.sub [0, 17, 18, 8, 9, 10, 11, 12, 13, 14, 15, 16, 1, 2, 3, 4, 5, 6, 7] (by decide) rfl) hS
-- X7_fault
theorem dX7_fault_0 : decode cX7_fault 0 = .ok (.iload_n 1, 1) := by decide +kernel
theorem dX7_fault_1 : decode cX7_fault 1 = .ok (.ifCond .ne 11, 3) := by decide +kernel
theorem dX7_fault_4 : decode cX7_fault 4 = .ok (.aload_n 0, 1) := by decide +kernel
theorem dX7_fault_5 : decode cX7_fault 5 = .ok (.getfield 23, 3) := by decide +kernel
theorem dX7_fault_8 : decode cX7_fault 8 = .ok (.getfield 84, 3) := by decide +kernel
theorem dX7_fault_11 : decode cX7_fault 11 = .ok (.ireturn, 1) := by decide +kernel
theorem dX7_fault_12 : decode cX7_fault 12 = .ok (.iload_n 1, 1) := by decide +kernel
theorem dX7_fault_13 : decode cX7_fault 13 = .ok (.iconst 1, 1) := by decide +kernel
theorem dX7_fault_14 : decode cX7_fault 14 = .ok (.if_icmp .ne 13, 3) := by decide +kernel
theorem dX7_fault_17 : decode cX7_fault 17 = .ok (.aload_n 0, 1) := by decide +kernel
theorem dX7_fault_18 : decode cX7_fault 18 = .ok (.getfield 23, 3) := by decide +kernel
theorem dX7_fault_21 : decode cX7_fault 21 = .ok (.getfield 87, 3) := by decide +kernel
theorem dX7_fault_24 : decode cX7_fault 24 = .ok (.goto 4, 3) := by decide +kernel
theorem dX7_fault_27 : decode cX7_fault 27 = .ok (.iconst (-1), 1) := by decide +kernel
theorem dX7_fault_28 : decode cX7_fault 28 = .ok (.ireturn, 1) := by decide +kernel
noncomputable def fX7_fault  (t_reader_fault : Int32) (t_reader_place : Int32) (v1 : Int32) : Int32 := (if v1 = 0 then t_reader_fault else (if v1 = 1 then t_reader_place else (-1)))
set_option maxHeartbeats 4000000 in
set_option maxRecDepth 100000 in
theorem ctX7_fault (l : Launch) (g : GT) (a_t : Nat → Nat) (a_t_tape : Nat → Nat) (a_t_reader : Nat → Nat) (a_t_now : Nat → Nat) (a_t_choices : Nat → Nat) (a_t_ways : Nat → Nat) (a_t_stress : Nat → Nat) (a_t_reader_draft : Nat → Nat) (t_reader_token : Int32) (t_reader_start : Int32) (t_reader_after : Int32) (t_reader_fault : Int32) (t_reader_place : Int32) (v1 : Int32) (o : Int32) (h : fX7_fault t_reader_fault t_reader_place v1 = o) : Met l yX7_fault (Cond.code yX7_fault cX7_fault 2 (some .int) :: Tw) ⟨0, 0, 0, 0⟩ (va_Pc [.ref ((a_t 0)), .int v1] (roB g [((a_t 0), .inr (6, [.ref (a_t_tape 0), .ref (a_t_reader 0), .ref (a_t_now 0), .ref (a_t 4), .ref (a_t_choices 0), .ref (a_t_ways 0), .ref (a_t_stress 0)])), ((a_t_reader 0), .inr (2, [.ref (a_t_reader_draft 0), .ref (a_t_reader 2), .ref (a_t_reader 3), .ref (a_t_tape 0), .int t_reader_token, .int t_reader_start, .int t_reader_after, .int t_reader_fault, .int t_reader_place]))])) (vp_Si (fun x => x = o)) 0 0 (fun _ => False) := by
  refine ro_meti (by decide) (Nat.le_of_ble_eq_true rfl) (lv0 := [(0, .ref ((a_t 0))), (1, .int v1)]) rfl ?_
  intro p e s m args below meth c ls Q cx hret hG hP hl
  have hx := cx.1
  have hb := cx.2.1
  have hG0 := hG
  unfold fX7_fault at h
  refine lv_iload_n hx hb dX7_fault_0 rfl (lv_at hl 1 rfl) ?_
  refine lv_if_ne (tgt := 12) hx hb dX7_fault_1 (by decide) (fun c1 => ?_) (fun c1 => ?_)
  · have h := itn c1 h
    refine lv_iload_n hx hb dX7_fault_12 rfl (lv_at hl 1 rfl) ?_
    refine lv_iconst (v := 1) hx hb dX7_fault_13 (by decide) ?_
    refine lv_icmp_ne (tgt := 27) hx hb dX7_fault_14 (by decide) (fun c2 => ?_) (fun c2 => ?_)
    · have h := itn c2 h
      refine lv_iconst (v := -1) hx hb dX7_fault_27 (by decide) ?_
      exact hret _ _ _ dX7_fault_28 h
    · have h := itp c2 h
      refine lv_aload_n hx hb dX7_fault_17 rfl (lv_at hl 0 rfl) ?_
      refine xa_get (C := RX7) (T := TX7) (N := 7) cx hG hP 0 rfl rfl uX7 1 (by decide) lf_X7_23 rfl dX7_fault_18 ?_
      refine xa_getN (C := RX2) (T := TX2) (N := 9) cx hG hP 1 rfl rfl uX2 8 (by decide) nf_13 rfl dX7_fault_21 ?_
      refine lv_goto (tgt := 28) hx hb dX7_fault_24 (by decide) ?_
      exact hret _ _ _ dX7_fault_28 h
  · have h := itp c1 h
    refine lv_aload_n hx hb dX7_fault_4 rfl (lv_at hl 0 rfl) ?_
    refine xa_get (C := RX7) (T := TX7) (N := 7) cx hG hP 0 rfl rfl uX7 1 (by decide) lf_X7_23 rfl dX7_fault_5 ?_
    refine xa_getN (C := RX2) (T := TX2) (N := 9) cx hG hP 1 rfl rfl uX2 7 (by decide) nf_12 rfl dX7_fault_8 ?_
    exact hret _ _ _ dX7_fault_11 h
-- X7_count
theorem dX7_count_0 : decode cX7_count 0 = .ok (.iload_n 1, 1) := by decide +kernel
theorem dX7_count_1 : decode cX7_count 1 = .ok (.tableswitch 87 0 5 #[39, 47, 55, 63, 71, 79], 39) := by decide +kernel
theorem dX7_count_40 : decode cX7_count 40 = .ok (.aload_n 0, 1) := by decide +kernel
theorem dX7_count_41 : decode cX7_count 41 = .ok (.getfield 30, 3) := by decide +kernel
theorem dX7_count_44 : decode cX7_count 44 = .ok (.invokevirtual 90, 3) := by decide +kernel
theorem dX7_count_47 : decode cX7_count 47 = .ok (.ireturn, 1) := by decide +kernel
theorem dX7_count_48 : decode cX7_count 48 = .ok (.aload_n 0, 1) := by decide +kernel
theorem dX7_count_49 : decode cX7_count 49 = .ok (.getfield 30, 3) := by decide +kernel
theorem dX7_count_52 : decode cX7_count 52 = .ok (.getfield 94, 3) := by decide +kernel
theorem dX7_count_55 : decode cX7_count 55 = .ok (.ireturn, 1) := by decide +kernel
theorem dX7_count_56 : decode cX7_count 56 = .ok (.aload_n 0, 1) := by decide +kernel
theorem dX7_count_57 : decode cX7_count 57 = .ok (.getfield 30, 3) := by decide +kernel
theorem dX7_count_60 : decode cX7_count 60 = .ok (.invokevirtual 97, 3) := by decide +kernel
theorem dX7_count_63 : decode cX7_count 63 = .ok (.ireturn, 1) := by decide +kernel
theorem dX7_count_64 : decode cX7_count 64 = .ok (.aload_n 0, 1) := by decide +kernel
theorem dX7_count_65 : decode cX7_count 65 = .ok (.getfield 30, 3) := by decide +kernel
theorem dX7_count_68 : decode cX7_count 68 = .ok (.getfield 100, 3) := by decide +kernel
theorem dX7_count_71 : decode cX7_count 71 = .ok (.ireturn, 1) := by decide +kernel
theorem dX7_count_72 : decode cX7_count 72 = .ok (.aload_n 0, 1) := by decide +kernel
theorem dX7_count_73 : decode cX7_count 73 = .ok (.getfield 30, 3) := by decide +kernel
theorem dX7_count_76 : decode cX7_count 76 = .ok (.getfield 81, 3) := by decide +kernel
theorem dX7_count_79 : decode cX7_count 79 = .ok (.ireturn, 1) := by decide +kernel
theorem dX7_count_80 : decode cX7_count 80 = .ok (.aload_n 0, 1) := by decide +kernel
theorem dX7_count_81 : decode cX7_count 81 = .ok (.getfield 12, 3) := by decide +kernel
theorem dX7_count_84 : decode cX7_count 84 = .ok (.getfield 59, 3) := by decide +kernel
theorem dX7_count_87 : decode cX7_count 87 = .ok (.ireturn, 1) := by decide +kernel
theorem dX7_count_88 : decode cX7_count 88 = .ok (.iconst (-1), 1) := by decide +kernel
theorem dX7_count_89 : decode cX7_count 89 = .ok (.ireturn, 1) := by decide +kernel
noncomputable def fX7_count  (t_tape_size : Int32) (t_now_sizes : Nat → Int32) (t_now_rooms : Nat → Int32) (t_now_lines : Int32) (t_now_kinds : Int32) (t_now_acts : Int32) (v1 : Int32) : Option (Int32) := (if v1 = 0 then (fX1_roomNow t_now_rooms t_now_acts).bind fun r2 => some r2 else (if v1 = 1 then some t_now_kinds else (if v1 = 2 then (fX1_plies t_now_sizes t_now_acts).bind fun r6 => some r6 else (if v1 = 3 then some t_now_acts else (if v1 = 4 then some t_now_lines else (if v1 = 5 then some t_tape_size else some (-1)))))))
set_option maxHeartbeats 4000000 in
set_option maxRecDepth 100000 in
theorem ctX7_count (l : Launch) (g : GT) (a_t : Nat → Nat) (a_t_tape : Nat → Nat) (a_t_reader : Nat → Nat) (a_t_now : Nat → Nat) (a_t_choices : Nat → Nat) (a_t_ways : Nat → Nat) (a_t_stress : Nat → Nat) (t_tape_size : Int32) (t_now_told : Int32) (t_now_lines : Int32) (t_now_kinds : Int32) (t_now_acts : Int32) (t_now_sizes : Nat → Int32) (t_now_rooms : Nat → Int32) (v1 : Int32) (o : Int32) (h : fX7_count t_tape_size t_now_sizes t_now_rooms t_now_lines t_now_kinds t_now_acts v1 = some o) : Met l yX7_count (Cond.code yX7_count cX7_count 2 (some .int) :: Tw) ⟨1, 0, 0, 20⟩ (va_Pc [.ref ((a_t 0)), .int v1] (roB g [((a_t 0), .inr (6, [.ref (a_t_tape 0), .ref (a_t_reader 0), .ref (a_t_now 0), .ref (a_t 4), .ref (a_t_choices 0), .ref (a_t_ways 0), .ref (a_t_stress 0)])), ((a_t_tape 0), .inr (4, [.ref (a_t_tape 1), .int t_tape_size])), ((a_t_now 0), .inr (1, [.ref (a_t_now 1), .ref (a_t_now 2), .ref (a_t_now 3), .ref (a_t_now 4), .ref (a_t_now 5), .int t_now_told, .int t_now_lines, .int t_now_kinds, .int t_now_acts])), ((a_t_now 4), .inl (g.2.2.1 0, 31, .inl t_now_sizes)), ((a_t_now 5), .inl (g.2.2.1 0, 31, .inl t_now_rooms))])) (vp_Si (fun x => x = o)) 0 0 (fun _ => False) := by
  refine ro_meti (by decide) (Nat.le_of_ble_eq_true rfl) (lv0 := [(0, .ref ((a_t 0))), (1, .int v1)]) rfl ?_
  intro p e s m args below meth c ls Q cx hret hG hP hl
  have hx := cx.1
  have hb := cx.2.1
  have hG0 := hG
  unfold fX7_count at h
  refine lv_iload_n hx hb dX7_count_0 rfl (lv_at hl 1 rfl) ?_
  by_cases c1 : v1 = 0
  · have h := itp c1 h
    refine lv_tableIn (tgt := 40) (off := 39) hx hb dX7_count_1 (by rw [c1]; decide) (by rw [c1]; decide) (by rw [c1]; decide +kernel) (by decide) ?_
    refine lv_aload_n hx hb dX7_count_40 rfl (lv_at hl 0 rfl) ?_
    refine xa_get (C := RX7) (T := TX7) (N := 7) cx hG hP 0 rfl rfl uX7 2 (by decide) lf_X7_30 rfl dX7_count_41 ?_
    obtain ⟨r2, hr3, h⟩ := bnd h
    refine ro_i (runVN (As := []) (rest := []) hG cx hl.1 (ctX1_roomNow l g a_t_now t_now_told t_now_lines t_now_kinds t_now_acts t_now_rooms r2 hr3) kmX1_roomNow kvX1_roomNow nm_16 ⟨rfl, rfl⟩ ⟨Nat.le_of_ble_eq_true rfl, Nat.le_of_ble_eq_true rfl⟩ (roV (q0 := 2) (ci := 1) hG (hP.sub [2, 4] rfl) hP rfl rfl) rfl rfl (Nat.le_of_ble_eq_true rfl) dX7_count_44 ⟨Nat.le_of_ble_eq_true rfl, Nat.le_of_ble_eq_true rfl⟩) ?_
    exact hret _ _ _ dX7_count_47 (Option.some.inj h)
  · have h := itn c1 h
    by_cases c4 : v1 = 1
    · have h := itp c4 h
      refine lv_tableIn (tgt := 48) (off := 47) hx hb dX7_count_1 (by rw [c4]; decide) (by rw [c4]; decide) (by rw [c4]; decide +kernel) (by decide) ?_
      refine lv_aload_n hx hb dX7_count_48 rfl (lv_at hl 0 rfl) ?_
      refine xa_get (C := RX7) (T := TX7) (N := 7) cx hG hP 0 rfl rfl uX7 2 (by decide) lf_X7_30 rfl dX7_count_49 ?_
      refine xa_getN (C := RX1) (T := TX1) (N := 9) cx hG hP 2 rfl rfl uX1 7 (by decide) nf_8 rfl dX7_count_52 ?_
      exact hret _ _ _ dX7_count_55 (Option.some.inj h)
    · have h := itn c4 h
      by_cases c5 : v1 = 2
      · have h := itp c5 h
        refine lv_tableIn (tgt := 56) (off := 55) hx hb dX7_count_1 (by rw [c5]; decide) (by rw [c5]; decide) (by rw [c5]; decide +kernel) (by decide) ?_
        refine lv_aload_n hx hb dX7_count_56 rfl (lv_at hl 0 rfl) ?_
        refine xa_get (C := RX7) (T := TX7) (N := 7) cx hG hP 0 rfl rfl uX7 2 (by decide) lf_X7_30 rfl dX7_count_57 ?_
        obtain ⟨r6, hr7, h⟩ := bnd h
        refine ro_i (runVN (As := []) (rest := []) hG cx hl.1 (ctX1_plies l g a_t_now t_now_told t_now_lines t_now_kinds t_now_acts t_now_sizes r6 hr7) kmX1_plies kvX1_plies nm_17 ⟨rfl, rfl⟩ ⟨Nat.le_of_ble_eq_true rfl, Nat.le_of_ble_eq_true rfl⟩ (roV (q0 := 2) (ci := 1) hG (hP.sub [2, 3] rfl) hP rfl rfl) rfl rfl (Nat.le_of_ble_eq_true rfl) dX7_count_60 ⟨Nat.le_of_ble_eq_true rfl, Nat.le_of_ble_eq_true rfl⟩) ?_
        exact hret _ _ _ dX7_count_63 (Option.some.inj h)
      · have h := itn c5 h
        by_cases c8 : v1 = 3
        · have h := itp c8 h
          refine lv_tableIn (tgt := 64) (off := 63) hx hb dX7_count_1 (by rw [c8]; decide) (by rw [c8]; decide) (by rw [c8]; decide +kernel) (by decide) ?_
          refine lv_aload_n hx hb dX7_count_64 rfl (lv_at hl 0 rfl) ?_
          refine xa_get (C := RX7) (T := TX7) (N := 7) cx hG hP 0 rfl rfl uX7 2 (by decide) lf_X7_30 rfl dX7_count_65 ?_
          refine xa_getN (C := RX1) (T := TX1) (N := 9) cx hG hP 2 rfl rfl uX1 8 (by decide) nf_10 rfl dX7_count_68 ?_
          exact hret _ _ _ dX7_count_71 (Option.some.inj h)
        · have h := itn c8 h
          by_cases c9 : v1 = 4
          · have h := itp c9 h
            refine lv_tableIn (tgt := 72) (off := 71) hx hb dX7_count_1 (by rw [c9]; decide) (by rw [c9]; decide) (by rw [c9]; decide +kernel) (by decide) ?_
            refine lv_aload_n hx hb dX7_count_72 rfl (lv_at hl 0 rfl) ?_
            refine xa_get (C := RX7) (T := TX7) (N := 7) cx hG hP 0 rfl rfl uX7 2 (by decide) lf_X7_30 rfl dX7_count_73 ?_
            refine xa_getN (C := RX1) (T := TX1) (N := 9) cx hG hP 2 rfl rfl uX1 6 (by decide) nf_7 rfl dX7_count_76 ?_
            exact hret _ _ _ dX7_count_79 (Option.some.inj h)
          · have h := itn c9 h
            by_cases c10 : v1 = 5
            · have h := itp c10 h
              refine lv_tableIn (tgt := 80) (off := 79) hx hb dX7_count_1 (by rw [c10]; decide) (by rw [c10]; decide) (by rw [c10]; decide +kernel) (by decide) ?_
              refine lv_aload_n hx hb dX7_count_80 rfl (lv_at hl 0 rfl) ?_
              refine xa_get (C := RX7) (T := TX7) (N := 7) cx hG hP 0 rfl rfl uX7 0 (by decide) lf_X7_12 rfl dX7_count_81 ?_
              refine xa_getN (C := RX5) (T := TX5) (N := 2) cx hG hP 1 rfl rfl uX5 1 (by decide) nf_0 rfl dX7_count_84 ?_
              exact hret _ _ _ dX7_count_87 (Option.some.inj h)
            · have h := itn c10 h
              refine lv_tableOut (tgt := 88) hx hb dX7_count_1 (tsw6 c1 c4 c5 c8 c9 c10) (by decide) ?_
              refine lv_iconst (v := -1) hx hb dX7_count_88 (by decide) ?_
              exact hret _ _ _ dX7_count_89 (Option.some.inj h)
-- X7_isKind
theorem dX7_isKind_0 : decode cX7_isKind 0 = .ok (.aload_n 0, 1) := by decide +kernel
theorem dX7_isKind_1 : decode cX7_isKind 1 = .ok (.getfield 30, 3) := by decide +kernel
theorem dX7_isKind_4 : decode cX7_isKind 4 = .ok (.getfield 139, 3) := by decide +kernel
theorem dX7_isKind_7 : decode cX7_isKind 7 = .ok (.ifCond .eq 22, 3) := by decide +kernel
theorem dX7_isKind_10 : decode cX7_isKind 10 = .ok (.iload_n 1, 1) := by decide +kernel
theorem dX7_isKind_11 : decode cX7_isKind 11 = .ok (.ifCond .lt 18, 3) := by decide +kernel
theorem dX7_isKind_14 : decode cX7_isKind 14 = .ok (.iload_n 1, 1) := by decide +kernel
theorem dX7_isKind_15 : decode cX7_isKind 15 = .ok (.aload_n 0, 1) := by decide +kernel
theorem dX7_isKind_16 : decode cX7_isKind 16 = .ok (.getfield 30, 3) := by decide +kernel
theorem dX7_isKind_19 : decode cX7_isKind 19 = .ok (.getfield 94, 3) := by decide +kernel
theorem dX7_isKind_22 : decode cX7_isKind 22 = .ok (.if_icmp .ge 7, 3) := by decide +kernel
theorem dX7_isKind_25 : decode cX7_isKind 25 = .ok (.iconst 1, 1) := by decide +kernel
theorem dX7_isKind_26 : decode cX7_isKind 26 = .ok (.goto 4, 3) := by decide +kernel
theorem dX7_isKind_29 : decode cX7_isKind 29 = .ok (.iconst 0, 1) := by decide +kernel
theorem dX7_isKind_30 : decode cX7_isKind 30 = .ok (.ireturn, 1) := by decide +kernel
noncomputable def fX7_isKind  (t_now_told : Int32) (t_now_kinds : Int32) (v1 : Int32) : Int32 := (if t_now_told = 0 then (0) else (if v1 < 0 then (0) else (if t_now_kinds ≤ v1 then (0) else (1))))
set_option maxHeartbeats 4000000 in
set_option maxRecDepth 100000 in
theorem ctX7_isKind (l : Launch) (g : GT) (a_t : Nat → Nat) (a_t_tape : Nat → Nat) (a_t_reader : Nat → Nat) (a_t_now : Nat → Nat) (a_t_choices : Nat → Nat) (a_t_ways : Nat → Nat) (a_t_stress : Nat → Nat) (t_now_told : Int32) (t_now_lines : Int32) (t_now_kinds : Int32) (t_now_acts : Int32) (v1 : Int32) (o : Int32) (h : fX7_isKind t_now_told t_now_kinds v1 = o) : Met l yX7_isKind (Cond.code yX7_isKind cX7_isKind 2 (some .boolean) :: Tw) ⟨0, 0, 0, 0⟩ (va_Pc [.ref ((a_t 0)), .int v1] (roB g [((a_t 0), .inr (6, [.ref (a_t_tape 0), .ref (a_t_reader 0), .ref (a_t_now 0), .ref (a_t 4), .ref (a_t_choices 0), .ref (a_t_ways 0), .ref (a_t_stress 0)])), ((a_t_now 0), .inr (1, [.ref (a_t_now 1), .ref (a_t_now 2), .ref (a_t_now 3), .ref (a_t_now 4), .ref (a_t_now 5), .int t_now_told, .int t_now_lines, .int t_now_kinds, .int t_now_acts]))])) (vp_Si (fun x => x = o ∧ (x = 0 ∨ x = 1))) 0 0 (fun _ => False) := by
  refine ro_metz (by decide) (Nat.le_of_ble_eq_true rfl) (lv0 := [(0, .ref ((a_t 0))), (1, .int v1)]) rfl ?_
  intro p e s m args below meth c ls Q cx hret hG hP hl
  have hx := cx.1
  have hb := cx.2.1
  have hG0 := hG
  unfold fX7_isKind at h
  refine lv_aload_n hx hb dX7_isKind_0 rfl (lv_at hl 0 rfl) ?_
  refine xa_get (C := RX7) (T := TX7) (N := 7) cx hG hP 0 rfl rfl uX7 2 (by decide) lf_X7_30 rfl dX7_isKind_1 ?_
  refine xa_getN (C := RX1) (T := TX1) (N := 9) cx hG hP 1 rfl rfl uX1 5 (by decide) nf_5 rfl dX7_isKind_4 ?_
  refine lv_if_eq (tgt := 29) hx hb dX7_isKind_7 (by decide) (fun c1 => ?_) (fun c1 => ?_)
  · have h := itp c1 h
    refine lv_iconst (v := 0) hx hb dX7_isKind_29 (by decide) ?_
    exact hret _ _ _ dX7_isKind_30 (by decide) h
  · have h := itn c1 h
    refine lv_iload_n hx hb dX7_isKind_10 rfl (lv_at hl 1 rfl) ?_
    refine lv_if_lt (tgt := 29) hx hb dX7_isKind_11 (by decide) (fun c2 => ?_) (fun c2 => ?_)
    · have h := itp c2 h
      refine lv_iconst (v := 0) hx hb dX7_isKind_29 (by decide) ?_
      exact hret _ _ _ dX7_isKind_30 (by decide) h
    · have h := itn c2 h
      refine lv_iload_n hx hb dX7_isKind_14 rfl (lv_at hl 1 rfl) ?_
      refine lv_aload_n hx hb dX7_isKind_15 rfl (lv_at hl 0 rfl) ?_
      refine xa_get (C := RX7) (T := TX7) (N := 7) cx hG hP 0 rfl rfl uX7 2 (by decide) lf_X7_30 rfl dX7_isKind_16 ?_
      refine xa_getN (C := RX1) (T := TX1) (N := 9) cx hG hP 1 rfl rfl uX1 7 (by decide) nf_8 rfl dX7_isKind_19 ?_
      refine lv_icmp_ge (tgt := 29) hx hb dX7_isKind_22 (by decide) (fun c3 => ?_) (fun c3 => ?_)
      · have h := itp c3 h
        refine lv_iconst (v := 0) hx hb dX7_isKind_29 (by decide) ?_
        exact hret _ _ _ dX7_isKind_30 (by decide) h
      · have h := itn c3 h
        refine lv_iconst (v := 1) hx hb dX7_isKind_25 (by decide) ?_
        refine lv_goto (tgt := 30) hx hb dX7_isKind_26 (by decide) ?_
        exact hret _ _ _ dX7_isKind_30 (by decide) h
-- X7_kind
theorem dX7_kind_0 : decode cX7_kind 0 = .ok (.aload_n 0, 1) := by decide +kernel
theorem dX7_kind_1 : decode cX7_kind 1 = .ok (.iload_n 1, 1) := by decide +kernel
theorem dX7_kind_2 : decode cX7_kind 2 = .ok (.invokevirtual 103, 3) := by decide +kernel
theorem dX7_kind_5 : decode cX7_kind 5 = .ok (.ifCond .eq 12, 3) := by decide +kernel
theorem dX7_kind_8 : decode cX7_kind 8 = .ok (.iload_n 2, 1) := by decide +kernel
theorem dX7_kind_9 : decode cX7_kind 9 = .ok (.ifCond .lt 8, 3) := by decide +kernel
theorem dX7_kind_12 : decode cX7_kind 12 = .ok (.iload_n 2, 1) := by decide +kernel
theorem dX7_kind_13 : decode cX7_kind 13 = .ok (.iconst 5, 1) := by decide +kernel
theorem dX7_kind_14 : decode cX7_kind 14 = .ok (.if_icmp .le 6, 3) := by decide +kernel
theorem dX7_kind_17 : decode cX7_kind 17 = .ok (.bipush (-2), 2) := by decide +kernel
theorem dX7_kind_19 : decode cX7_kind 19 = .ok (.ireturn, 1) := by decide +kernel
theorem dX7_kind_20 : decode cX7_kind 20 = .ok (.iload_n 2, 1) := by decide +kernel
theorem dX7_kind_21 : decode cX7_kind 21 = .ok (.iconst 5, 1) := by decide +kernel
theorem dX7_kind_22 : decode cX7_kind 22 = .ok (.if_icmp .ne 14, 3) := by decide +kernel
theorem dX7_kind_25 : decode cX7_kind 25 = .ok (.aload_n 0, 1) := by decide +kernel
theorem dX7_kind_26 : decode cX7_kind 26 = .ok (.getfield 30, 3) := by decide +kernel
theorem dX7_kind_29 : decode cX7_kind 29 = .ok (.iload_n 1, 1) := by decide +kernel
theorem dX7_kind_30 : decode cX7_kind 30 = .ok (.invokevirtual 107, 3) := by decide +kernel
theorem dX7_kind_33 : decode cX7_kind 33 = .ok (.goto 12, 3) := by decide +kernel
theorem dX7_kind_36 : decode cX7_kind 36 = .ok (.aload_n 0, 1) := by decide +kernel
theorem dX7_kind_37 : decode cX7_kind 37 = .ok (.getfield 30, 3) := by decide +kernel
theorem dX7_kind_40 : decode cX7_kind 40 = .ok (.iload_n 1, 1) := by decide +kernel
theorem dX7_kind_41 : decode cX7_kind 41 = .ok (.iload_n 2, 1) := by decide +kernel
theorem dX7_kind_42 : decode cX7_kind 42 = .ok (.invokevirtual 111, 3) := by decide +kernel
theorem dX7_kind_45 : decode cX7_kind 45 = .ok (.ireturn, 1) := by decide +kernel
noncomputable def fX7_kind  (t_now_numbers : Nat → Int32) (t_now_rows : Nat → Int32) (t_now_sizes : Nat → Int32) (t_now_told : Int32) (t_now_kinds : Int32) (t_now_acts : Int32) (v1 : Int32) (v2 : Int32) : Option (Int32) := (if (fX7_isKind t_now_told t_now_kinds v1) = 0 then some (-2) else (if v2 < 0 then some (-2) else (if v2 ≤ 5 then (if v2 = 5 then (fX1_pliesOfKind t_now_rows t_now_sizes t_now_acts v1).bind fun r8 => some r8 else (fX1_number t_now_numbers v1 v2).bind fun r6 => some r6) else some (-2))))
set_option maxHeartbeats 4000000 in
set_option maxRecDepth 100000 in
theorem ctX7_kind (l : Launch) (g : GT) (a_t : Nat → Nat) (a_t_tape : Nat → Nat) (a_t_reader : Nat → Nat) (a_t_now : Nat → Nat) (a_t_choices : Nat → Nat) (a_t_ways : Nat → Nat) (a_t_stress : Nat → Nat) (t_now_told : Int32) (t_now_lines : Int32) (t_now_kinds : Int32) (t_now_acts : Int32) (t_now_numbers : Nat → Int32) (t_now_rows : Nat → Int32) (t_now_sizes : Nat → Int32) (v1 : Int32) (v2 : Int32) (o : Int32) (h : fX7_kind t_now_numbers t_now_rows t_now_sizes t_now_told t_now_kinds t_now_acts v1 v2 = some o) : Met l yX7_kind (Cond.code yX7_kind cX7_kind 3 (some .int) :: Tw) ⟨3, 0, 0, 68⟩ (va_Pc [.ref ((a_t 0)), .int v1, .int v2] (roB g [((a_t 0), .inr (6, [.ref (a_t_tape 0), .ref (a_t_reader 0), .ref (a_t_now 0), .ref (a_t 4), .ref (a_t_choices 0), .ref (a_t_ways 0), .ref (a_t_stress 0)])), ((a_t_now 0), .inr (1, [.ref (a_t_now 1), .ref (a_t_now 2), .ref (a_t_now 3), .ref (a_t_now 4), .ref (a_t_now 5), .int t_now_told, .int t_now_lines, .int t_now_kinds, .int t_now_acts])), ((a_t_now 1), .inl (g.2.2.1 0, 15, .inl t_now_numbers)), ((a_t_now 3), .inl (g.2.2.1 0, 31, .inl t_now_rows)), ((a_t_now 4), .inl (g.2.2.1 0, 31, .inl t_now_sizes))])) (vp_Si (fun x => x = o)) 0 0 (fun _ => False) := by
  refine ro_meti (by decide) (Nat.le_of_ble_eq_true rfl) (lv0 := [(0, .ref ((a_t 0))), (1, .int v1), (2, .int v2)]) rfl ?_
  intro p e s m args below meth c ls Q cx hret hG hP hl
  have hx := cx.1
  have hb := cx.2.1
  have hG0 := hG
  unfold fX7_kind at h
  refine lv_aload_n hx hb dX7_kind_0 rfl (lv_at hl 0 rfl) ?_
  refine lv_iload_n hx hb dX7_kind_1 rfl (lv_at hl 1 rfl) ?_
  refine ro_z (runV (As := [.int v1]) (rest := []) cx hl.1 (ctX7_isKind l g a_t a_t_tape a_t_reader a_t_now a_t_choices a_t_ways a_t_stress t_now_told t_now_lines t_now_kinds t_now_acts v1 (fX7_isKind t_now_told t_now_kinds v1) rfl) kmX7_isKind kvX7_isKind lm_X7_103 ⟨rfl, rfl⟩ ⟨Nat.le_of_ble_eq_true rfl, Nat.le_of_ble_eq_true rfl⟩ (roV (q0 := 0) (ci := 6) hG (hP.sub [0, 1] rfl) hP rfl rfl) rfl rfl (Nat.le_of_ble_eq_true rfl) dX7_kind_2 ⟨Nat.le_of_ble_eq_true rfl, Nat.le_of_ble_eq_true rfl⟩) (fun hz1 => ?_)
  refine lv_if_eq (tgt := 17) hx hb dX7_kind_5 (by decide) (fun c2 => ?_) (fun c2 => ?_)
  · have h := itp c2 h
    refine lv_bipush (v := -2) hx hb dX7_kind_17 (by decide) ?_
    exact hret _ _ _ dX7_kind_19 (Option.some.inj h)
  · have h := itn c2 h
    refine lv_iload_n hx hb dX7_kind_8 rfl (lv_at hl 2 rfl) ?_
    refine lv_if_lt (tgt := 17) hx hb dX7_kind_9 (by decide) (fun c3 => ?_) (fun c3 => ?_)
    · have h := itp c3 h
      refine lv_bipush (v := -2) hx hb dX7_kind_17 (by decide) ?_
      exact hret _ _ _ dX7_kind_19 (Option.some.inj h)
    · have h := itn c3 h
      refine lv_iload_n hx hb dX7_kind_12 rfl (lv_at hl 2 rfl) ?_
      refine lv_iconst (v := 5) hx hb dX7_kind_13 (by decide) ?_
      refine lv_icmp_le (tgt := 20) hx hb dX7_kind_14 (by decide) (fun c4 => ?_) (fun c4 => ?_)
      · have h := itp c4 h
        refine lv_iload_n hx hb dX7_kind_20 rfl (lv_at hl 2 rfl) ?_
        refine lv_iconst (v := 5) hx hb dX7_kind_21 (by decide) ?_
        refine lv_icmp_ne (tgt := 36) hx hb dX7_kind_22 (by decide) (fun c5 => ?_) (fun c5 => ?_)
        · have h := itn c5 h
          refine lv_aload_n hx hb dX7_kind_36 rfl (lv_at hl 0 rfl) ?_
          refine xa_get (C := RX7) (T := TX7) (N := 7) cx hG hP 0 rfl rfl uX7 2 (by decide) lf_X7_30 rfl dX7_kind_37 ?_
          refine lv_iload_n hx hb dX7_kind_40 rfl (lv_at hl 1 rfl) ?_
          refine lv_iload_n hx hb dX7_kind_41 rfl (lv_at hl 2 rfl) ?_
          obtain ⟨r6, hr7, h⟩ := bnd h
          refine ro_i (runVN (As := [.int v1, .int v2]) (rest := []) hG cx hl.1 (ctX1_number l g a_t_now t_now_told t_now_lines t_now_kinds t_now_acts t_now_numbers v1 v2 r6 hr7) kmX1_number kvX1_number nm_20 ⟨rfl, rfl⟩ ⟨Nat.le_of_ble_eq_true rfl, Nat.le_of_ble_eq_true rfl⟩ (roV (q0 := 1) (ci := 1) hG (hP.sub [1, 2] rfl) hP rfl rfl) rfl rfl (Nat.le_of_ble_eq_true rfl) dX7_kind_42 ⟨Nat.le_of_ble_eq_true rfl, Nat.le_of_ble_eq_true rfl⟩) ?_
          exact hret _ _ _ dX7_kind_45 (Option.some.inj h)
        · have h := itp c5 h
          refine lv_aload_n hx hb dX7_kind_25 rfl (lv_at hl 0 rfl) ?_
          refine xa_get (C := RX7) (T := TX7) (N := 7) cx hG hP 0 rfl rfl uX7 2 (by decide) lf_X7_30 rfl dX7_kind_26 ?_
          refine lv_iload_n hx hb dX7_kind_29 rfl (lv_at hl 1 rfl) ?_
          obtain ⟨r8, hr9, h⟩ := bnd h
          refine ro_i (runVN (As := [.int v1]) (rest := []) hG cx hl.1 (ctX1_pliesOfKind l g a_t_now t_now_told t_now_lines t_now_kinds t_now_acts t_now_rows t_now_sizes v1 r8 hr9) kmX1_pliesOfKind kvX1_pliesOfKind nm_18 ⟨rfl, rfl⟩ ⟨Nat.le_of_ble_eq_true rfl, Nat.le_of_ble_eq_true rfl⟩ (roV (q0 := 1) (ci := 1) hG (hP.sub [1, 3, 4] rfl) hP rfl rfl) rfl rfl (Nat.le_of_ble_eq_true rfl) dX7_kind_30 ⟨Nat.le_of_ble_eq_true rfl, Nat.le_of_ble_eq_true rfl⟩) ?_
          refine lv_goto (tgt := 45) hx hb dX7_kind_33 (by decide) ?_
          exact hret _ _ _ dX7_kind_45 (Option.some.inj h)
      · have h := itn c4 h
        refine lv_bipush (v := -2) hx hb dX7_kind_17 (by decide) ?_
        exact hret _ _ _ dX7_kind_19 (Option.some.inj h)
-- X7_isPly
theorem dX7_isPly_0 : decode cX7_isPly 0 = .ok (.aload_n 0, 1) := by decide +kernel
theorem dX7_isPly_1 : decode cX7_isPly 1 = .ok (.getfield 30, 3) := by decide +kernel
theorem dX7_isPly_4 : decode cX7_isPly 4 = .ok (.getfield 139, 3) := by decide +kernel
theorem dX7_isPly_7 : decode cX7_isPly 7 = .ok (.ifCond .eq 22, 3) := by decide +kernel
theorem dX7_isPly_10 : decode cX7_isPly 10 = .ok (.iload_n 1, 1) := by decide +kernel
theorem dX7_isPly_11 : decode cX7_isPly 11 = .ok (.ifCond .lt 18, 3) := by decide +kernel
theorem dX7_isPly_14 : decode cX7_isPly 14 = .ok (.iload_n 1, 1) := by decide +kernel
theorem dX7_isPly_15 : decode cX7_isPly 15 = .ok (.aload_n 0, 1) := by decide +kernel
theorem dX7_isPly_16 : decode cX7_isPly 16 = .ok (.getfield 30, 3) := by decide +kernel
theorem dX7_isPly_19 : decode cX7_isPly 19 = .ok (.invokevirtual 97, 3) := by decide +kernel
theorem dX7_isPly_22 : decode cX7_isPly 22 = .ok (.if_icmp .ge 7, 3) := by decide +kernel
theorem dX7_isPly_25 : decode cX7_isPly 25 = .ok (.iconst 1, 1) := by decide +kernel
theorem dX7_isPly_26 : decode cX7_isPly 26 = .ok (.goto 4, 3) := by decide +kernel
theorem dX7_isPly_29 : decode cX7_isPly 29 = .ok (.iconst 0, 1) := by decide +kernel
theorem dX7_isPly_30 : decode cX7_isPly 30 = .ok (.ireturn, 1) := by decide +kernel
noncomputable def fX7_isPly  (t_now_sizes : Nat → Int32) (t_now_told : Int32) (t_now_acts : Int32) (v1 : Int32) : Option (Int32) := (if t_now_told = 0 then some (0) else (if v1 < 0 then some (0) else (fX1_plies t_now_sizes t_now_acts).bind fun r3 => (if r3 ≤ v1 then some (0) else some (1))))
set_option maxHeartbeats 4000000 in
set_option maxRecDepth 100000 in
theorem ctX7_isPly (l : Launch) (g : GT) (a_t : Nat → Nat) (a_t_tape : Nat → Nat) (a_t_reader : Nat → Nat) (a_t_now : Nat → Nat) (a_t_choices : Nat → Nat) (a_t_ways : Nat → Nat) (a_t_stress : Nat → Nat) (t_now_told : Int32) (t_now_lines : Int32) (t_now_kinds : Int32) (t_now_acts : Int32) (t_now_sizes : Nat → Int32) (v1 : Int32) (o : Int32) (h : fX7_isPly t_now_sizes t_now_told t_now_acts v1 = some o) : Met l yX7_isPly (Cond.code yX7_isPly cX7_isPly 2 (some .boolean) :: Tw) ⟨1, 0, 0, 20⟩ (va_Pc [.ref ((a_t 0)), .int v1] (roB g [((a_t 0), .inr (6, [.ref (a_t_tape 0), .ref (a_t_reader 0), .ref (a_t_now 0), .ref (a_t 4), .ref (a_t_choices 0), .ref (a_t_ways 0), .ref (a_t_stress 0)])), ((a_t_now 0), .inr (1, [.ref (a_t_now 1), .ref (a_t_now 2), .ref (a_t_now 3), .ref (a_t_now 4), .ref (a_t_now 5), .int t_now_told, .int t_now_lines, .int t_now_kinds, .int t_now_acts])), ((a_t_now 4), .inl (g.2.2.1 0, 31, .inl t_now_sizes))])) (vp_Si (fun x => x = o ∧ (x = 0 ∨ x = 1))) 0 0 (fun _ => False) := by
  refine ro_metz (by decide) (Nat.le_of_ble_eq_true rfl) (lv0 := [(0, .ref ((a_t 0))), (1, .int v1)]) rfl ?_
  intro p e s m args below meth c ls Q cx hret hG hP hl
  have hx := cx.1
  have hb := cx.2.1
  have hG0 := hG
  unfold fX7_isPly at h
  refine lv_aload_n hx hb dX7_isPly_0 rfl (lv_at hl 0 rfl) ?_
  refine xa_get (C := RX7) (T := TX7) (N := 7) cx hG hP 0 rfl rfl uX7 2 (by decide) lf_X7_30 rfl dX7_isPly_1 ?_
  refine xa_getN (C := RX1) (T := TX1) (N := 9) cx hG hP 1 rfl rfl uX1 5 (by decide) nf_5 rfl dX7_isPly_4 ?_
  refine lv_if_eq (tgt := 29) hx hb dX7_isPly_7 (by decide) (fun c1 => ?_) (fun c1 => ?_)
  · have h := itp c1 h
    refine lv_iconst (v := 0) hx hb dX7_isPly_29 (by decide) ?_
    exact hret _ _ _ dX7_isPly_30 (by decide) (Option.some.inj h)
  · have h := itn c1 h
    refine lv_iload_n hx hb dX7_isPly_10 rfl (lv_at hl 1 rfl) ?_
    refine lv_if_lt (tgt := 29) hx hb dX7_isPly_11 (by decide) (fun c2 => ?_) (fun c2 => ?_)
    · have h := itp c2 h
      refine lv_iconst (v := 0) hx hb dX7_isPly_29 (by decide) ?_
      exact hret _ _ _ dX7_isPly_30 (by decide) (Option.some.inj h)
    · have h := itn c2 h
      refine lv_iload_n hx hb dX7_isPly_14 rfl (lv_at hl 1 rfl) ?_
      refine lv_aload_n hx hb dX7_isPly_15 rfl (lv_at hl 0 rfl) ?_
      refine xa_get (C := RX7) (T := TX7) (N := 7) cx hG hP 0 rfl rfl uX7 2 (by decide) lf_X7_30 rfl dX7_isPly_16 ?_
      obtain ⟨r3, hr4, h⟩ := bnd h
      refine ro_i (runVN (As := []) (rest := [.int v1]) hG cx hl.1 (ctX1_plies l g a_t_now t_now_told t_now_lines t_now_kinds t_now_acts t_now_sizes r3 hr4) kmX1_plies kvX1_plies nm_17 ⟨rfl, rfl⟩ ⟨Nat.le_of_ble_eq_true rfl, Nat.le_of_ble_eq_true rfl⟩ (roV (q0 := 1) (ci := 1) hG (hP.sub [1, 2] rfl) hP rfl rfl) rfl rfl (Nat.le_of_ble_eq_true rfl) dX7_isPly_19 ⟨Nat.le_of_ble_eq_true rfl, Nat.le_of_ble_eq_true rfl⟩) ?_
      refine lv_icmp_ge (tgt := 29) hx hb dX7_isPly_22 (by decide) (fun c5 => ?_) (fun c5 => ?_)
      · have h := itp c5 h
        refine lv_iconst (v := 0) hx hb dX7_isPly_29 (by decide) ?_
        exact hret _ _ _ dX7_isPly_30 (by decide) (Option.some.inj h)
      · have h := itn c5 h
        refine lv_iconst (v := 1) hx hb dX7_isPly_25 (by decide) ?_
        refine lv_goto (tgt := 30) hx hb dX7_isPly_26 (by decide) ?_
        exact hret _ _ _ dX7_isPly_30 (by decide) (Option.some.inj h)
-- X7_ply
theorem dX7_ply_0 : decode cX7_ply 0 = .ok (.aload_n 0, 1) := by decide +kernel
theorem dX7_ply_1 : decode cX7_ply 1 = .ok (.iload_n 1, 1) := by decide +kernel
theorem dX7_ply_2 : decode cX7_ply 2 = .ok (.invokevirtual 115, 3) := by decide +kernel
theorem dX7_ply_5 : decode cX7_ply 5 = .ok (.ifCond .ne 6, 3) := by decide +kernel
theorem dX7_ply_8 : decode cX7_ply 8 = .ok (.bipush (-2), 2) := by decide +kernel
theorem dX7_ply_10 : decode cX7_ply 10 = .ok (.ireturn, 1) := by decide +kernel
theorem dX7_ply_11 : decode cX7_ply 11 = .ok (.aload_n 0, 1) := by decide +kernel
theorem dX7_ply_12 : decode cX7_ply 12 = .ok (.getfield 30, 3) := by decide +kernel
theorem dX7_ply_15 : decode cX7_ply 15 = .ok (.iload_n 1, 1) := by decide +kernel
theorem dX7_ply_16 : decode cX7_ply 16 = .ok (.invokevirtual 118, 3) := by decide +kernel
theorem dX7_ply_19 : decode cX7_ply 19 = .ok (.istore_n 3, 1) := by decide +kernel
theorem dX7_ply_20 : decode cX7_ply 20 = .ok (.iload_n 2, 1) := by decide +kernel
theorem dX7_ply_21 : decode cX7_ply 21 = .ok (.tableswitch 72 0 4 #[35, 39, 43, 45, 57], 35) := by decide +kernel
theorem dX7_ply_56 : decode cX7_ply 56 = .ok (.iload_n 3, 1) := by decide +kernel
theorem dX7_ply_57 : decode cX7_ply 57 = .ok (.iconst 4, 1) := by decide +kernel
theorem dX7_ply_58 : decode cX7_ply 58 = .ok (.idiv, 1) := by decide +kernel
theorem dX7_ply_59 : decode cX7_ply 59 = .ok (.ireturn, 1) := by decide +kernel
theorem dX7_ply_60 : decode cX7_ply 60 = .ok (.iload_n 3, 1) := by decide +kernel
theorem dX7_ply_61 : decode cX7_ply 61 = .ok (.iconst 4, 1) := by decide +kernel
theorem dX7_ply_62 : decode cX7_ply 62 = .ok (.irem, 1) := by decide +kernel
theorem dX7_ply_63 : decode cX7_ply 63 = .ok (.ireturn, 1) := by decide +kernel
theorem dX7_ply_64 : decode cX7_ply 64 = .ok (.iload_n 3, 1) := by decide +kernel
theorem dX7_ply_65 : decode cX7_ply 65 = .ok (.ireturn, 1) := by decide +kernel
theorem dX7_ply_66 : decode cX7_ply 66 = .ok (.iload_n 1, 1) := by decide +kernel
theorem dX7_ply_67 : decode cX7_ply 67 = .ok (.aload_n 0, 1) := by decide +kernel
theorem dX7_ply_68 : decode cX7_ply 68 = .ok (.getfield 30, 3) := by decide +kernel
theorem dX7_ply_71 : decode cX7_ply 71 = .ok (.invokevirtual 97, 3) := by decide +kernel
theorem dX7_ply_74 : decode cX7_ply 74 = .ok (.invokestatic 121, 3) := by decide +kernel
theorem dX7_ply_77 : decode cX7_ply 77 = .ok (.ireturn, 1) := by decide +kernel
theorem dX7_ply_78 : decode cX7_ply 78 = .ok (.iload_n 1, 1) := by decide +kernel
theorem dX7_ply_79 : decode cX7_ply 79 = .ok (.aload_n 0, 1) := by decide +kernel
theorem dX7_ply_80 : decode cX7_ply 80 = .ok (.getfield 30, 3) := by decide +kernel
theorem dX7_ply_83 : decode cX7_ply 83 = .ok (.invokevirtual 97, 3) := by decide +kernel
theorem dX7_ply_86 : decode cX7_ply 86 = .ok (.invokestatic 121, 3) := by decide +kernel
theorem dX7_ply_89 : decode cX7_ply 89 = .ok (.invokestatic 126, 3) := by decide +kernel
theorem dX7_ply_92 : decode cX7_ply 92 = .ok (.ireturn, 1) := by decide +kernel
theorem dX7_ply_93 : decode cX7_ply 93 = .ok (.bipush (-2), 2) := by decide +kernel
theorem dX7_ply_95 : decode cX7_ply 95 = .ok (.ireturn, 1) := by decide +kernel
noncomputable def fX7_ply  (t_now_rows : Nat → Int32) (t_now_sizes : Nat → Int32) (t_now_told : Int32) (t_now_acts : Int32) (v1 : Int32) (v2 : Int32) : Option (Int32) := (fX7_isPly t_now_sizes t_now_told t_now_acts v1).bind fun r1 => (if r1 = 0 then some (-2) else (fX1_typeAt t_now_rows t_now_acts v1).bind fun r5 => (if v2 = 0 then some (r5 / 4) else (if v2 = 1 then some (irem r5 4) else (if v2 = 2 then some r5 else (if v2 = 3 then (fX1_plies t_now_sizes t_now_acts).bind fun r11 => some (fX3_farOf v1 r11) else (if v2 = 4 then (fX1_plies t_now_sizes t_now_acts).bind fun r14 => some (fX3_thickOf (fX3_farOf v1 r14)) else some (-2)))))))
set_option maxHeartbeats 4000000 in
set_option maxRecDepth 100000 in
theorem ctX7_ply (l : Launch) (g : GT) (a_t : Nat → Nat) (a_t_tape : Nat → Nat) (a_t_reader : Nat → Nat) (a_t_now : Nat → Nat) (a_t_choices : Nat → Nat) (a_t_ways : Nat → Nat) (a_t_stress : Nat → Nat) (t_now_told : Int32) (t_now_lines : Int32) (t_now_kinds : Int32) (t_now_acts : Int32) (t_now_rows : Nat → Int32) (t_now_sizes : Nat → Int32) (v1 : Int32) (v2 : Int32) (o : Int32) (h : fX7_ply t_now_rows t_now_sizes t_now_told t_now_acts v1 v2 = some o) : Met l yX7_ply (Cond.code yX7_ply cX7_ply 4 (some .int) :: Tw) ⟨2, 0, 0, 42⟩ (va_Pc [.ref ((a_t 0)), .int v1, .int v2] (roB g [((a_t 0), .inr (6, [.ref (a_t_tape 0), .ref (a_t_reader 0), .ref (a_t_now 0), .ref (a_t 4), .ref (a_t_choices 0), .ref (a_t_ways 0), .ref (a_t_stress 0)])), ((a_t_now 0), .inr (1, [.ref (a_t_now 1), .ref (a_t_now 2), .ref (a_t_now 3), .ref (a_t_now 4), .ref (a_t_now 5), .int t_now_told, .int t_now_lines, .int t_now_kinds, .int t_now_acts])), ((a_t_now 3), .inl (g.2.2.1 0, 31, .inl t_now_rows)), ((a_t_now 4), .inl (g.2.2.1 0, 31, .inl t_now_sizes))])) (vp_Si (fun x => x = o)) 0 0 (fun _ => False) := by
  refine ro_meti (by decide) (Nat.le_of_ble_eq_true rfl) (lv0 := [(0, .ref ((a_t 0))), (1, .int v1), (2, .int v2)]) rfl ?_
  intro p e s m args below meth c ls Q cx hret hG hP hl
  have hx := cx.1
  have hb := cx.2.1
  have hG0 := hG
  unfold fX7_ply at h
  refine lv_aload_n hx hb dX7_ply_0 rfl (lv_at hl 0 rfl) ?_
  refine lv_iload_n hx hb dX7_ply_1 rfl (lv_at hl 1 rfl) ?_
  obtain ⟨r1, hr2, h⟩ := bnd h
  refine ro_z (runV (As := [.int v1]) (rest := []) cx hl.1 (ctX7_isPly l g a_t a_t_tape a_t_reader a_t_now a_t_choices a_t_ways a_t_stress t_now_told t_now_lines t_now_kinds t_now_acts t_now_sizes v1 r1 hr2) kmX7_isPly kvX7_isPly lm_X7_115 ⟨rfl, rfl⟩ ⟨Nat.le_of_ble_eq_true rfl, Nat.le_of_ble_eq_true rfl⟩ (roV (q0 := 0) (ci := 6) hG (hP.sub [0, 1, 3] rfl) hP rfl rfl) rfl rfl (Nat.le_of_ble_eq_true rfl) dX7_ply_2 ⟨Nat.le_of_ble_eq_true rfl, Nat.le_of_ble_eq_true rfl⟩) (fun hz3 => ?_)
  refine lv_if_ne (tgt := 11) hx hb dX7_ply_5 (by decide) (fun c4 => ?_) (fun c4 => ?_)
  · have h := itn c4 h
    refine lv_aload_n hx hb dX7_ply_11 rfl (lv_at hl 0 rfl) ?_
    refine xa_get (C := RX7) (T := TX7) (N := 7) cx hG hP 0 rfl rfl uX7 2 (by decide) lf_X7_30 rfl dX7_ply_12 ?_
    refine lv_iload_n hx hb dX7_ply_15 rfl (lv_at hl 1 rfl) ?_
    obtain ⟨r5, hr6, h⟩ := bnd h
    refine ro_i (runVN (As := [.int v1]) (rest := []) hG cx hl.1 (ctX1_typeAt l g a_t_now t_now_told t_now_lines t_now_kinds t_now_acts t_now_rows v1 r5 hr6) kmX1_typeAt kvX1_typeAt nm_21 ⟨rfl, rfl⟩ ⟨Nat.le_of_ble_eq_true rfl, Nat.le_of_ble_eq_true rfl⟩ (roV (q0 := 1) (ci := 1) hG (hP.sub [1, 2] rfl) hP rfl rfl) rfl rfl (Nat.le_of_ble_eq_true rfl) dX7_ply_16 ⟨Nat.le_of_ble_eq_true rfl, Nat.le_of_ble_eq_true rfl⟩) ?_
    refine lv_istore_n (lv' := [(3, .int r5), (0, .ref ((a_t 0))), (1, .int v1), (2, .int v2)]) hx hb dX7_ply_19 rfl hl (by decide) rfl (fun ls hl => ?_)
    refine lv_iload_n hx hb dX7_ply_20 rfl (lv_at hl 3 rfl) ?_
    by_cases c7 : v2 = 0
    · have h := itp c7 h
      refine lv_tableIn (tgt := 56) (off := 35) hx hb dX7_ply_21 (by rw [c7]; decide) (by rw [c7]; decide) (by rw [c7]; decide +kernel) (by decide) ?_
      refine lv_iload_n hx hb dX7_ply_56 rfl (lv_at hl 0 rfl) ?_
      refine lv_iconst (v := 4) hx hb dX7_ply_57 (by decide) ?_
      refine lv_idiv hx hb dX7_ply_58 (by decide) ?_
      exact hret _ _ _ dX7_ply_59 (Option.some.inj h)
    · have h := itn c7 h
      by_cases c8 : v2 = 1
      · have h := itp c8 h
        refine lv_tableIn (tgt := 60) (off := 39) hx hb dX7_ply_21 (by rw [c8]; decide) (by rw [c8]; decide) (by rw [c8]; decide +kernel) (by decide) ?_
        refine lv_iload_n hx hb dX7_ply_60 rfl (lv_at hl 0 rfl) ?_
        refine lv_iconst (v := 4) hx hb dX7_ply_61 (by decide) ?_
        refine xv_irem hx hb dX7_ply_62 (by decide) ?_
        exact hret _ _ _ dX7_ply_63 (Option.some.inj h)
      · have h := itn c8 h
        by_cases c9 : v2 = 2
        · have h := itp c9 h
          refine lv_tableIn (tgt := 64) (off := 43) hx hb dX7_ply_21 (by rw [c9]; decide) (by rw [c9]; decide) (by rw [c9]; decide +kernel) (by decide) ?_
          refine lv_iload_n hx hb dX7_ply_64 rfl (lv_at hl 0 rfl) ?_
          exact hret _ _ _ dX7_ply_65 (Option.some.inj h)
        · have h := itn c9 h
          by_cases c10 : v2 = 3
          · have h := itp c10 h
            refine lv_tableIn (tgt := 66) (off := 45) hx hb dX7_ply_21 (by rw [c10]; decide) (by rw [c10]; decide) (by rw [c10]; decide +kernel) (by decide) ?_
            refine lv_iload_n hx hb dX7_ply_66 rfl (lv_at hl 2 rfl) ?_
            refine lv_aload_n hx hb dX7_ply_67 rfl (lv_at hl 1 rfl) ?_
            refine xa_get (C := RX7) (T := TX7) (N := 7) cx hG hP 0 rfl rfl uX7 2 (by decide) lf_X7_30 rfl dX7_ply_68 ?_
            obtain ⟨r11, hr12, h⟩ := bnd h
            refine ro_i (runVN (As := []) (rest := [.int v1]) hG cx hl.1 (ctX1_plies l g a_t_now t_now_told t_now_lines t_now_kinds t_now_acts t_now_sizes r11 hr12) kmX1_plies kvX1_plies nm_17 ⟨rfl, rfl⟩ ⟨Nat.le_of_ble_eq_true rfl, Nat.le_of_ble_eq_true rfl⟩ (roV (q0 := 1) (ci := 1) hG (hP.sub [1, 3] rfl) hP rfl rfl) rfl rfl (Nat.le_of_ble_eq_true rfl) dX7_ply_71 ⟨Nat.le_of_ble_eq_true rfl, Nat.le_of_ble_eq_true rfl⟩) ?_
            refine ro_i (runSN (As := [.int v1, .int r11]) (rest := []) hG cx hl.1 (ctX3_farOf l g v1 r11 (fX3_farOf v1 r11) rfl) kmX3_farOf ksX3_farOf nm_23 ⟨rfl, rfl⟩ ⟨Nat.le_of_ble_eq_true rfl, Nat.le_of_ble_eq_true rfl⟩ (roS hG (hP.sub [] rfl)) rfl rfl (Nat.le_of_ble_eq_true rfl) dX7_ply_74 ⟨Nat.le_of_ble_eq_true rfl, Nat.le_of_ble_eq_true rfl⟩) ?_
            exact hret _ _ _ dX7_ply_77 (Option.some.inj h)
          · have h := itn c10 h
            by_cases c13 : v2 = 4
            · have h := itp c13 h
              refine lv_tableIn (tgt := 78) (off := 57) hx hb dX7_ply_21 (by rw [c13]; decide) (by rw [c13]; decide) (by rw [c13]; decide +kernel) (by decide) ?_
              refine lv_iload_n hx hb dX7_ply_78 rfl (lv_at hl 2 rfl) ?_
              refine lv_aload_n hx hb dX7_ply_79 rfl (lv_at hl 1 rfl) ?_
              refine xa_get (C := RX7) (T := TX7) (N := 7) cx hG hP 0 rfl rfl uX7 2 (by decide) lf_X7_30 rfl dX7_ply_80 ?_
              obtain ⟨r14, hr15, h⟩ := bnd h
              refine ro_i (runVN (As := []) (rest := [.int v1]) hG cx hl.1 (ctX1_plies l g a_t_now t_now_told t_now_lines t_now_kinds t_now_acts t_now_sizes r14 hr15) kmX1_plies kvX1_plies nm_17 ⟨rfl, rfl⟩ ⟨Nat.le_of_ble_eq_true rfl, Nat.le_of_ble_eq_true rfl⟩ (roV (q0 := 1) (ci := 1) hG (hP.sub [1, 3] rfl) hP rfl rfl) rfl rfl (Nat.le_of_ble_eq_true rfl) dX7_ply_83 ⟨Nat.le_of_ble_eq_true rfl, Nat.le_of_ble_eq_true rfl⟩) ?_
              refine ro_i (runSN (As := [.int v1, .int r14]) (rest := []) hG cx hl.1 (ctX3_farOf l g v1 r14 (fX3_farOf v1 r14) rfl) kmX3_farOf ksX3_farOf nm_23 ⟨rfl, rfl⟩ ⟨Nat.le_of_ble_eq_true rfl, Nat.le_of_ble_eq_true rfl⟩ (roS hG (hP.sub [] rfl)) rfl rfl (Nat.le_of_ble_eq_true rfl) dX7_ply_86 ⟨Nat.le_of_ble_eq_true rfl, Nat.le_of_ble_eq_true rfl⟩) ?_
              refine ro_i (runSN (As := [.int (fX3_farOf v1 r14)]) (rest := []) hG cx hl.1 (ctX3_thickOf l g (fX3_farOf v1 r14) (fX3_thickOf (fX3_farOf v1 r14)) rfl) kmX3_thickOf ksX3_thickOf nm_24 ⟨rfl, rfl⟩ ⟨Nat.le_of_ble_eq_true rfl, Nat.le_of_ble_eq_true rfl⟩ (roS hG (hP.sub [] rfl)) rfl rfl (Nat.le_of_ble_eq_true rfl) dX7_ply_89 ⟨Nat.le_of_ble_eq_true rfl, Nat.le_of_ble_eq_true rfl⟩) ?_
              exact hret _ _ _ dX7_ply_92 (Option.some.inj h)
            · have h := itn c13 h
              refine lv_tableOut (tgt := 93) hx hb dX7_ply_21 (tsw5 c7 c8 c9 c10 c13) (by decide) ?_
              refine lv_bipush (v := -2) hx hb dX7_ply_93 (by decide) ?_
              exact hret _ _ _ dX7_ply_95 (Option.some.inj h)
  · have h := itp c4 h
    refine lv_bipush (v := -2) hx hb dX7_ply_8 (by decide) ?_
    exact hret _ _ _ dX7_ply_10 (Option.some.inj h)
-- X7_isAngle
theorem dX7_isAngle_0 : decode cX7_isAngle 0 = .ok (.iload_n 0, 1) := by decide +kernel
theorem dX7_isAngle_1 : decode cX7_isAngle 1 = .ok (.ifCond .lt 12, 3) := by decide +kernel
theorem dX7_isAngle_4 : decode cX7_isAngle 4 = .ok (.iload_n 0, 1) := by decide +kernel
theorem dX7_isAngle_5 : decode cX7_isAngle 5 = .ok (.iconst 4, 1) := by decide +kernel
theorem dX7_isAngle_6 : decode cX7_isAngle 6 = .ok (.if_icmp .ge 7, 3) := by decide +kernel
theorem dX7_isAngle_9 : decode cX7_isAngle 9 = .ok (.iconst 1, 1) := by decide +kernel
theorem dX7_isAngle_10 : decode cX7_isAngle 10 = .ok (.goto 4, 3) := by decide +kernel
theorem dX7_isAngle_13 : decode cX7_isAngle 13 = .ok (.iconst 0, 1) := by decide +kernel
theorem dX7_isAngle_14 : decode cX7_isAngle 14 = .ok (.ireturn, 1) := by decide +kernel
noncomputable def fX7_isAngle  (v0 : Int32) : Int32 := (if v0 < 0 then (0) else (if 4 ≤ v0 then (0) else (1)))
set_option maxHeartbeats 4000000 in
set_option maxRecDepth 100000 in
theorem ctX7_isAngle (l : Launch) (g : GT) (v0 : Int32) (o : Int32) (h : fX7_isAngle v0 = o) : Met l yX7_isAngle (Cond.code yX7_isAngle cX7_isAngle 1 (some .boolean) :: Tw) ⟨0, 0, 0, 0⟩ (va_Pc [.int v0] (roB g [])) (vp_Si (fun x => x = o ∧ (x = 0 ∨ x = 1))) 0 0 (fun _ => False) := by
  refine ro_metz (by decide) (Nat.le_of_ble_eq_true rfl) (lv0 := [(0, .int v0)]) rfl ?_
  intro p e s m args below meth c ls Q cx hret hG hP hl
  have hx := cx.1
  have hb := cx.2.1
  have hG0 := hG
  unfold fX7_isAngle at h
  refine lv_iload_n hx hb dX7_isAngle_0 rfl (lv_at hl 0 rfl) ?_
  refine lv_if_lt (tgt := 13) hx hb dX7_isAngle_1 (by decide) (fun c1 => ?_) (fun c1 => ?_)
  · have h := itp c1 h
    refine lv_iconst (v := 0) hx hb dX7_isAngle_13 (by decide) ?_
    exact hret _ _ _ dX7_isAngle_14 (by decide) h
  · have h := itn c1 h
    refine lv_iload_n hx hb dX7_isAngle_4 rfl (lv_at hl 0 rfl) ?_
    refine lv_iconst (v := 4) hx hb dX7_isAngle_5 (by decide) ?_
    refine lv_icmp_ge (tgt := 13) hx hb dX7_isAngle_6 (by decide) (fun c2 => ?_) (fun c2 => ?_)
    · have h := itp c2 h
      refine lv_iconst (v := 0) hx hb dX7_isAngle_13 (by decide) ?_
      exact hret _ _ _ dX7_isAngle_14 (by decide) h
    · have h := itn c2 h
      refine lv_iconst (v := 1) hx hb dX7_isAngle_9 (by decide) ?_
      refine lv_goto (tgt := 14) hx hb dX7_isAngle_10 (by decide) ?_
      exact hret _ _ _ dX7_isAngle_14 (by decide) h
-- X7_many
theorem dX7_many_0 : decode cX7_many 0 = .ok (.aload_n 0, 1) := by decide +kernel
theorem dX7_many_1 : decode cX7_many 1 = .ok (.iload_n 1, 1) := by decide +kernel
theorem dX7_many_2 : decode cX7_many 2 = .ok (.invokevirtual 103, 3) := by decide +kernel
theorem dX7_many_5 : decode cX7_many 5 = .ok (.ifCond .eq 10, 3) := by decide +kernel
theorem dX7_many_8 : decode cX7_many 8 = .ok (.iload_n 2, 1) := by decide +kernel
theorem dX7_many_9 : decode cX7_many 9 = .ok (.invokestatic 129, 3) := by decide +kernel
theorem dX7_many_12 : decode cX7_many 12 = .ok (.ifCond .ne 6, 3) := by decide +kernel
theorem dX7_many_15 : decode cX7_many 15 = .ok (.bipush (-2), 2) := by decide +kernel
theorem dX7_many_17 : decode cX7_many 17 = .ok (.ireturn, 1) := by decide +kernel
theorem dX7_many_18 : decode cX7_many 18 = .ok (.aload_n 0, 1) := by decide +kernel
theorem dX7_many_19 : decode cX7_many 19 = .ok (.getfield 30, 3) := by decide +kernel
theorem dX7_many_22 : decode cX7_many 22 = .ok (.invokevirtual 132, 3) := by decide +kernel
theorem dX7_many_25 : decode cX7_many 25 = .ok (.aload_n 0, 1) := by decide +kernel
theorem dX7_many_26 : decode cX7_many 26 = .ok (.getfield 30, 3) := by decide +kernel
theorem dX7_many_29 : decode cX7_many 29 = .ok (.invokevirtual 97, 3) := by decide +kernel
theorem dX7_many_32 : decode cX7_many 32 = .ok (.iload_n 1, 1) := by decide +kernel
theorem dX7_many_33 : decode cX7_many 33 = .ok (.iconst 4, 1) := by decide +kernel
theorem dX7_many_34 : decode cX7_many 34 = .ok (.imul, 1) := by decide +kernel
theorem dX7_many_35 : decode cX7_many 35 = .ok (.iload_n 2, 1) := by decide +kernel
theorem dX7_many_36 : decode cX7_many 36 = .ok (.iadd, 1) := by decide +kernel
theorem dX7_many_37 : decode cX7_many 37 = .ok (.invokestatic 135, 3) := by decide +kernel
theorem dX7_many_40 : decode cX7_many 40 = .ok (.ireturn, 1) := by decide +kernel
noncomputable def fX7_many  (t_now_rows : Nat → Int32) (t_now_sizes : Nat → Int32) (t_now_told : Int32) (t_now_kinds : Int32) (t_now_acts : Int32) (v1 : Int32) (v2 : Int32) : Option (Int32) := (if (fX7_isKind t_now_told t_now_kinds v1) = 0 then some (-2) else (if (fX7_isAngle v2) = 0 then some (-2) else (fX1_row t_now_rows t_now_acts).bind fun r5 => (fX1_plies t_now_sizes t_now_acts).bind fun r7 => (fX3_howMany r5 r7 ((v1 * 4) + v2)).bind fun r9 => some r9))
set_option maxHeartbeats 4000000 in
set_option maxRecDepth 100000 in
theorem ctX7_many (l : Launch) (g : GT) (a_t : Nat → Nat) (a_t_tape : Nat → Nat) (a_t_reader : Nat → Nat) (a_t_now : Nat → Nat) (a_t_choices : Nat → Nat) (a_t_ways : Nat → Nat) (a_t_stress : Nat → Nat) (t_now_told : Int32) (t_now_lines : Int32) (t_now_kinds : Int32) (t_now_acts : Int32) (t_now_rows : Nat → Int32) (t_now_sizes : Nat → Int32) (v1 : Int32) (v2 : Int32) (o : Int32) (h : fX7_many t_now_rows t_now_sizes t_now_told t_now_kinds t_now_acts v1 v2 = some o) : Met l yX7_many (Cond.code yX7_many cX7_many 3 (some .int) :: Tw) ⟨2, 0, 0, 45⟩ (va_Pc [.ref ((a_t 0)), .int v1, .int v2] (roB g [((a_t 0), .inr (6, [.ref (a_t_tape 0), .ref (a_t_reader 0), .ref (a_t_now 0), .ref (a_t 4), .ref (a_t_choices 0), .ref (a_t_ways 0), .ref (a_t_stress 0)])), ((a_t_now 0), .inr (1, [.ref (a_t_now 1), .ref (a_t_now 2), .ref (a_t_now 3), .ref (a_t_now 4), .ref (a_t_now 5), .int t_now_told, .int t_now_lines, .int t_now_kinds, .int t_now_acts])), ((a_t_now 3), .inl (g.2.2.1 0, 31, .inl t_now_rows)), ((a_t_now 4), .inl (g.2.2.1 0, 31, .inl t_now_sizes))])) (vp_Si (fun x => x = o)) 0 0 (fun _ => False) := by
  refine ro_meti (by decide) (Nat.le_of_ble_eq_true rfl) (lv0 := [(0, .ref ((a_t 0))), (1, .int v1), (2, .int v2)]) rfl ?_
  intro p e s m args below meth c ls Q cx hret hG hP hl
  have hx := cx.1
  have hb := cx.2.1
  have hG0 := hG
  unfold fX7_many at h
  refine lv_aload_n hx hb dX7_many_0 rfl (lv_at hl 0 rfl) ?_
  refine lv_iload_n hx hb dX7_many_1 rfl (lv_at hl 1 rfl) ?_
  refine ro_z (runV (As := [.int v1]) (rest := []) cx hl.1 (ctX7_isKind l g a_t a_t_tape a_t_reader a_t_now a_t_choices a_t_ways a_t_stress t_now_told t_now_lines t_now_kinds t_now_acts v1 (fX7_isKind t_now_told t_now_kinds v1) rfl) kmX7_isKind kvX7_isKind lm_X7_103 ⟨rfl, rfl⟩ ⟨Nat.le_of_ble_eq_true rfl, Nat.le_of_ble_eq_true rfl⟩ (roV (q0 := 0) (ci := 6) hG (hP.sub [0, 1] rfl) hP rfl rfl) rfl rfl (Nat.le_of_ble_eq_true rfl) dX7_many_2 ⟨Nat.le_of_ble_eq_true rfl, Nat.le_of_ble_eq_true rfl⟩) (fun hz1 => ?_)
  refine lv_if_eq (tgt := 15) hx hb dX7_many_5 (by decide) (fun c2 => ?_) (fun c2 => ?_)
  · have h := itp c2 h
    refine lv_bipush (v := -2) hx hb dX7_many_15 (by decide) ?_
    exact hret _ _ _ dX7_many_17 (Option.some.inj h)
  · have h := itn c2 h
    refine lv_iload_n hx hb dX7_many_8 rfl (lv_at hl 2 rfl) ?_
    refine ro_z (runS (As := [.int v2]) (rest := []) cx hl.1 (ctX7_isAngle l g v2 (fX7_isAngle v2) rfl) kmX7_isAngle ksX7_isAngle lm_X7_129 ⟨rfl, rfl⟩ ⟨Nat.le_of_ble_eq_true rfl, Nat.le_of_ble_eq_true rfl⟩ (roS hG (hP.sub [] rfl)) rfl rfl (Nat.le_of_ble_eq_true rfl) dX7_many_9 ⟨Nat.le_of_ble_eq_true rfl, Nat.le_of_ble_eq_true rfl⟩) (fun hz3 => ?_)
    refine lv_if_ne (tgt := 18) hx hb dX7_many_12 (by decide) (fun c4 => ?_) (fun c4 => ?_)
    · have h := itn c4 h
      refine lv_aload_n hx hb dX7_many_18 rfl (lv_at hl 0 rfl) ?_
      refine xa_get (C := RX7) (T := TX7) (N := 7) cx hG hP 0 rfl rfl uX7 2 (by decide) lf_X7_30 rfl dX7_many_19 ?_
      obtain ⟨r5, hr6, h⟩ := bnd h
      refine ro_i (runVN (As := []) (rest := []) hG cx hl.1 (ctX1_row l g a_t_now t_now_told t_now_lines t_now_kinds t_now_acts t_now_rows r5 hr6) kmX1_row kvX1_row nm_25 ⟨rfl, rfl⟩ ⟨Nat.le_of_ble_eq_true rfl, Nat.le_of_ble_eq_true rfl⟩ (roV (q0 := 1) (ci := 1) hG (hP.sub [1, 2] rfl) hP rfl rfl) rfl rfl (Nat.le_of_ble_eq_true rfl) dX7_many_22 ⟨Nat.le_of_ble_eq_true rfl, Nat.le_of_ble_eq_true rfl⟩) ?_
      refine lv_aload_n hx hb dX7_many_25 rfl (lv_at hl 0 rfl) ?_
      refine xa_get (C := RX7) (T := TX7) (N := 7) cx hG hP 0 rfl rfl uX7 2 (by decide) lf_X7_30 rfl dX7_many_26 ?_
      obtain ⟨r7, hr8, h⟩ := bnd h
      refine ro_i (runVN (As := []) (rest := [.int r5]) hG cx hl.1 (ctX1_plies l g a_t_now t_now_told t_now_lines t_now_kinds t_now_acts t_now_sizes r7 hr8) kmX1_plies kvX1_plies nm_17 ⟨rfl, rfl⟩ ⟨Nat.le_of_ble_eq_true rfl, Nat.le_of_ble_eq_true rfl⟩ (roV (q0 := 1) (ci := 1) hG (hP.sub [1, 3] rfl) hP rfl rfl) rfl rfl (Nat.le_of_ble_eq_true rfl) dX7_many_29 ⟨Nat.le_of_ble_eq_true rfl, Nat.le_of_ble_eq_true rfl⟩) ?_
      refine lv_iload_n hx hb dX7_many_32 rfl (lv_at hl 1 rfl) ?_
      refine lv_iconst (v := 4) hx hb dX7_many_33 (by decide) ?_
      refine lv_imul hx hb dX7_many_34 ?_
      refine lv_iload_n hx hb dX7_many_35 rfl (lv_at hl 2 rfl) ?_
      refine lv_iadd hx hb dX7_many_36 ?_
      obtain ⟨r9, hr10, h⟩ := bnd h
      refine ro_i (runSN (As := [.int r5, .int r7, .int ((v1 * 4) + v2)]) (rest := []) hG cx hl.1 (ctX3_howMany l g r5 r7 ((v1 * 4) + v2) r9 hr10) kmX3_howMany ksX3_howMany nm_26 ⟨rfl, rfl⟩ ⟨Nat.le_of_ble_eq_true rfl, Nat.le_of_ble_eq_true rfl⟩ (roS hG (hP.sub [] rfl)) rfl rfl (Nat.le_of_ble_eq_true rfl) dX7_many_37 ⟨Nat.le_of_ble_eq_true rfl, Nat.le_of_ble_eq_true rfl⟩) ?_
      exact hret _ _ _ dX7_many_40 (Option.some.inj h)
    · have h := itp c4 h
      refine lv_bipush (v := -2) hx hb dX7_many_15 (by decide) ?_
      exact hret _ _ _ dX7_many_17 (Option.some.inj h)
-- X7_isAxis
theorem dX7_isAxis_0 : decode cX7_isAxis 0 = .ok (.iload_n 0, 1) := by decide +kernel
theorem dX7_isAxis_1 : decode cX7_isAxis 1 = .ok (.ifCond .lt 12, 3) := by decide +kernel
theorem dX7_isAxis_4 : decode cX7_isAxis 4 = .ok (.iload_n 0, 1) := by decide +kernel
theorem dX7_isAxis_5 : decode cX7_isAxis 5 = .ok (.iconst 2, 1) := by decide +kernel
theorem dX7_isAxis_6 : decode cX7_isAxis 6 = .ok (.if_icmp .gt 7, 3) := by decide +kernel
theorem dX7_isAxis_9 : decode cX7_isAxis 9 = .ok (.iconst 1, 1) := by decide +kernel
theorem dX7_isAxis_10 : decode cX7_isAxis 10 = .ok (.goto 4, 3) := by decide +kernel
theorem dX7_isAxis_13 : decode cX7_isAxis 13 = .ok (.iconst 0, 1) := by decide +kernel
theorem dX7_isAxis_14 : decode cX7_isAxis 14 = .ok (.ireturn, 1) := by decide +kernel
noncomputable def fX7_isAxis  (v0 : Int32) : Int32 := (if v0 < 0 then (0) else (if 2 < v0 then (0) else (1)))
set_option maxHeartbeats 4000000 in
set_option maxRecDepth 100000 in
theorem ctX7_isAxis (l : Launch) (g : GT) (v0 : Int32) (o : Int32) (h : fX7_isAxis v0 = o) : Met l yX7_isAxis (Cond.code yX7_isAxis cX7_isAxis 1 (some .boolean) :: Tw) ⟨0, 0, 0, 0⟩ (va_Pc [.int v0] (roB g [])) (vp_Si (fun x => x = o ∧ (x = 0 ∨ x = 1))) 0 0 (fun _ => False) := by
  refine ro_metz (by decide) (Nat.le_of_ble_eq_true rfl) (lv0 := [(0, .int v0)]) rfl ?_
  intro p e s m args below meth c ls Q cx hret hG hP hl
  have hx := cx.1
  have hb := cx.2.1
  have hG0 := hG
  unfold fX7_isAxis at h
  refine lv_iload_n hx hb dX7_isAxis_0 rfl (lv_at hl 0 rfl) ?_
  refine lv_if_lt (tgt := 13) hx hb dX7_isAxis_1 (by decide) (fun c1 => ?_) (fun c1 => ?_)
  · have h := itp c1 h
    refine lv_iconst (v := 0) hx hb dX7_isAxis_13 (by decide) ?_
    exact hret _ _ _ dX7_isAxis_14 (by decide) h
  · have h := itn c1 h
    refine lv_iload_n hx hb dX7_isAxis_4 rfl (lv_at hl 0 rfl) ?_
    refine lv_iconst (v := 2) hx hb dX7_isAxis_5 (by decide) ?_
    refine lv_icmp_gt (tgt := 13) hx hb dX7_isAxis_6 (by decide) (fun c2 => ?_) (fun c2 => ?_)
    · have h := itp c2 h
      refine lv_iconst (v := 0) hx hb dX7_isAxis_13 (by decide) ?_
      exact hret _ _ _ dX7_isAxis_14 (by decide) h
    · have h := itn c2 h
      refine lv_iconst (v := 1) hx hb dX7_isAxis_9 (by decide) ?_
      refine lv_goto (tgt := 14) hx hb dX7_isAxis_10 (by decide) ?_
      exact hret _ _ _ dX7_isAxis_14 (by decide) h
-- X7_stiff
theorem dX7_stiff_0 : decode cX7_stiff 0 = .ok (.aload_n 0, 1) := by decide +kernel
theorem dX7_stiff_1 : decode cX7_stiff 1 = .ok (.getfield 30, 3) := by decide +kernel
theorem dX7_stiff_4 : decode cX7_stiff 4 = .ok (.getfield 139, 3) := by decide +kernel
theorem dX7_stiff_7 : decode cX7_stiff 7 = .ok (.ifCond .eq 26, 3) := by decide +kernel
theorem dX7_stiff_10 : decode cX7_stiff 10 = .ok (.iload_n 1, 1) := by decide +kernel
theorem dX7_stiff_11 : decode cX7_stiff 11 = .ok (.ifCond .lt 22, 3) := by decide +kernel
theorem dX7_stiff_14 : decode cX7_stiff 14 = .ok (.iload_n 1, 1) := by decide +kernel
theorem dX7_stiff_15 : decode cX7_stiff 15 = .ok (.iconst 2, 1) := by decide +kernel
theorem dX7_stiff_16 : decode cX7_stiff 16 = .ok (.if_icmp .gt 17, 3) := by decide +kernel
theorem dX7_stiff_19 : decode cX7_stiff 19 = .ok (.iload_n 2, 1) := by decide +kernel
theorem dX7_stiff_20 : decode cX7_stiff 20 = .ok (.invokestatic 143, 3) := by decide +kernel
theorem dX7_stiff_23 : decode cX7_stiff 23 = .ok (.ifCond .eq 10, 3) := by decide +kernel
theorem dX7_stiff_26 : decode cX7_stiff 26 = .ok (.iload_n 3, 1) := by decide +kernel
theorem dX7_stiff_27 : decode cX7_stiff 27 = .ok (.invokestatic 143, 3) := by decide +kernel
theorem dX7_stiff_30 : decode cX7_stiff 30 = .ok (.ifCond .ne 7, 3) := by decide +kernel
theorem dX7_stiff_33 : decode cX7_stiff 33 = .ok (.ldc2_w 146, 3) := by decide +kernel
theorem dX7_stiff_36 : decode cX7_stiff 36 = .ok (.lreturn, 1) := by decide +kernel
theorem dX7_stiff_37 : decode cX7_stiff 37 = .ok (.aload_n 0, 1) := by decide +kernel
theorem dX7_stiff_38 : decode cX7_stiff 38 = .ok (.getfield 30, 3) := by decide +kernel
theorem dX7_stiff_41 : decode cX7_stiff 41 = .ok (.iconst 0, 1) := by decide +kernel
theorem dX7_stiff_42 : decode cX7_stiff 42 = .ok (.iload_n 1, 1) := by decide +kernel
theorem dX7_stiff_43 : decode cX7_stiff 43 = .ok (.iconst 3, 1) := by decide +kernel
theorem dX7_stiff_44 : decode cX7_stiff 44 = .ok (.iload_n 2, 1) := by decide +kernel
theorem dX7_stiff_45 : decode cX7_stiff 45 = .ok (.imul, 1) := by decide +kernel
theorem dX7_stiff_46 : decode cX7_stiff 46 = .ok (.iload_n 3, 1) := by decide +kernel
theorem dX7_stiff_47 : decode cX7_stiff 47 = .ok (.iadd, 1) := by decide +kernel
theorem dX7_stiff_48 : decode cX7_stiff 48 = .ok (.invokevirtual 148, 3) := by decide +kernel
theorem dX7_stiff_51 : decode cX7_stiff 51 = .ok (.lreturn, 1) := by decide +kernel
noncomputable def fX7_stiff  (t_now_cells : Nat → Int32) (t_now_rows : Nat → Int32) (t_now_sizes : Nat → Int32) (t_now_told : Int32) (t_now_acts : Int32) (v1 : Int32) (v2 : Int32) (v3 : Int32) : Option (Int64) := (if t_now_told = 0 then some (-9223372036854775808) else (if v1 < 0 then some (-9223372036854775808) else (if 2 < v1 then some (-9223372036854775808) else (if (fX7_isAxis v2) = 0 then some (-9223372036854775808) else (if (fX7_isAxis v3) = 0 then some (-9223372036854775808) else (fX1_total t_now_cells t_now_rows t_now_sizes t_now_acts 0 v1 ((3 * v2) + v3)).bind fun r8 => some r8)))))
set_option maxHeartbeats 4000000 in
set_option maxRecDepth 100000 in
theorem ctX7_stiff (l : Launch) (g : GT) (a_t : Nat → Nat) (a_t_tape : Nat → Nat) (a_t_reader : Nat → Nat) (a_t_now : Nat → Nat) (a_t_choices : Nat → Nat) (a_t_ways : Nat → Nat) (a_t_stress : Nat → Nat) (t_now_told : Int32) (t_now_lines : Int32) (t_now_kinds : Int32) (t_now_acts : Int32) (t_now_cells : Nat → Int32) (t_now_rows : Nat → Int32) (t_now_sizes : Nat → Int32) (v1 : Int32) (v2 : Int32) (v3 : Int32) (o : Int64) (h : fX7_stiff t_now_cells t_now_rows t_now_sizes t_now_told t_now_acts v1 v2 v3 = some o) : Met l yX7_stiff (Cond.code yX7_stiff cX7_stiff 4 (some .long) :: Tw) ⟨3, 0, 0, 73⟩ (va_Pc [.ref ((a_t 0)), .int v1, .int v2, .int v3] (roB g [((a_t 0), .inr (6, [.ref (a_t_tape 0), .ref (a_t_reader 0), .ref (a_t_now 0), .ref (a_t 4), .ref (a_t_choices 0), .ref (a_t_ways 0), .ref (a_t_stress 0)])), ((a_t_now 0), .inr (1, [.ref (a_t_now 1), .ref (a_t_now 2), .ref (a_t_now 3), .ref (a_t_now 4), .ref (a_t_now 5), .int t_now_told, .int t_now_lines, .int t_now_kinds, .int t_now_acts])), ((a_t_now 2), .inl (g.2.2.1 0, 144, .inl t_now_cells)), ((a_t_now 3), .inl (g.2.2.1 0, 31, .inl t_now_rows)), ((a_t_now 4), .inl (g.2.2.1 0, 31, .inl t_now_sizes))])) (vp_Sl (fun x => x = o)) 0 0 (fun _ => False) := by
  refine ro_metl (by decide) (Nat.le_of_ble_eq_true rfl) (lv0 := [(0, .ref ((a_t 0))), (1, .int v1), (2, .int v2), (3, .int v3)]) rfl ?_
  intro p e s m args below meth c ls Q cx hret hG hP hl
  have hx := cx.1
  have hb := cx.2.1
  have hG0 := hG
  unfold fX7_stiff at h
  refine lv_aload_n hx hb dX7_stiff_0 rfl (lv_at hl 0 rfl) ?_
  refine xa_get (C := RX7) (T := TX7) (N := 7) cx hG hP 0 rfl rfl uX7 2 (by decide) lf_X7_30 rfl dX7_stiff_1 ?_
  refine xa_getN (C := RX1) (T := TX1) (N := 9) cx hG hP 1 rfl rfl uX1 5 (by decide) nf_5 rfl dX7_stiff_4 ?_
  refine lv_if_eq (tgt := 33) hx hb dX7_stiff_7 (by decide) (fun c1 => ?_) (fun c1 => ?_)
  · have h := itp c1 h
    refine lv_ldc2 (own := RX7) (v := -9223372036854775808) hx hb cx.2.2.2.1 (cx.2.2.2.2 _ cl_X7_146) dX7_stiff_33 ?_
    exact hret _ _ _ dX7_stiff_36 (Option.some.inj h)
  · have h := itn c1 h
    refine lv_iload_n hx hb dX7_stiff_10 rfl (lv_at hl 1 rfl) ?_
    refine lv_if_lt (tgt := 33) hx hb dX7_stiff_11 (by decide) (fun c2 => ?_) (fun c2 => ?_)
    · have h := itp c2 h
      refine lv_ldc2 (own := RX7) (v := -9223372036854775808) hx hb cx.2.2.2.1 (cx.2.2.2.2 _ cl_X7_146) dX7_stiff_33 ?_
      exact hret _ _ _ dX7_stiff_36 (Option.some.inj h)
    · have h := itn c2 h
      refine lv_iload_n hx hb dX7_stiff_14 rfl (lv_at hl 1 rfl) ?_
      refine lv_iconst (v := 2) hx hb dX7_stiff_15 (by decide) ?_
      refine lv_icmp_gt (tgt := 33) hx hb dX7_stiff_16 (by decide) (fun c3 => ?_) (fun c3 => ?_)
      · have h := itp c3 h
        refine lv_ldc2 (own := RX7) (v := -9223372036854775808) hx hb cx.2.2.2.1 (cx.2.2.2.2 _ cl_X7_146) dX7_stiff_33 ?_
        exact hret _ _ _ dX7_stiff_36 (Option.some.inj h)
      · have h := itn c3 h
        refine lv_iload_n hx hb dX7_stiff_19 rfl (lv_at hl 2 rfl) ?_
        refine ro_z (runS (As := [.int v2]) (rest := []) cx hl.1 (ctX7_isAxis l g v2 (fX7_isAxis v2) rfl) kmX7_isAxis ksX7_isAxis lm_X7_143 ⟨rfl, rfl⟩ ⟨Nat.le_of_ble_eq_true rfl, Nat.le_of_ble_eq_true rfl⟩ (roS hG (hP.sub [] rfl)) rfl rfl (Nat.le_of_ble_eq_true rfl) dX7_stiff_20 ⟨Nat.le_of_ble_eq_true rfl, Nat.le_of_ble_eq_true rfl⟩) (fun hz4 => ?_)
        refine lv_if_eq (tgt := 33) hx hb dX7_stiff_23 (by decide) (fun c5 => ?_) (fun c5 => ?_)
        · have h := itp c5 h
          refine lv_ldc2 (own := RX7) (v := -9223372036854775808) hx hb cx.2.2.2.1 (cx.2.2.2.2 _ cl_X7_146) dX7_stiff_33 ?_
          exact hret _ _ _ dX7_stiff_36 (Option.some.inj h)
        · have h := itn c5 h
          refine lv_iload_n hx hb dX7_stiff_26 rfl (lv_at hl 3 rfl) ?_
          refine ro_z (runS (As := [.int v3]) (rest := []) cx hl.1 (ctX7_isAxis l g v3 (fX7_isAxis v3) rfl) kmX7_isAxis ksX7_isAxis lm_X7_143 ⟨rfl, rfl⟩ ⟨Nat.le_of_ble_eq_true rfl, Nat.le_of_ble_eq_true rfl⟩ (roS hG (hP.sub [] rfl)) rfl rfl (Nat.le_of_ble_eq_true rfl) dX7_stiff_27 ⟨Nat.le_of_ble_eq_true rfl, Nat.le_of_ble_eq_true rfl⟩) (fun hz6 => ?_)
          refine lv_if_ne (tgt := 37) hx hb dX7_stiff_30 (by decide) (fun c7 => ?_) (fun c7 => ?_)
          · have h := itn c7 h
            refine lv_aload_n hx hb dX7_stiff_37 rfl (lv_at hl 0 rfl) ?_
            refine xa_get (C := RX7) (T := TX7) (N := 7) cx hG hP 0 rfl rfl uX7 2 (by decide) lf_X7_30 rfl dX7_stiff_38 ?_
            refine lv_iconst (v := 0) hx hb dX7_stiff_41 (by decide) ?_
            refine lv_iload_n hx hb dX7_stiff_42 rfl (lv_at hl 1 rfl) ?_
            refine lv_iconst (v := 3) hx hb dX7_stiff_43 (by decide) ?_
            refine lv_iload_n hx hb dX7_stiff_44 rfl (lv_at hl 2 rfl) ?_
            refine lv_imul hx hb dX7_stiff_45 ?_
            refine lv_iload_n hx hb dX7_stiff_46 rfl (lv_at hl 3 rfl) ?_
            refine lv_iadd hx hb dX7_stiff_47 ?_
            obtain ⟨r8, hr9, h⟩ := bnd h
            refine ro_l (runVN (As := [.int (0), .int v1, .int ((3 * v2) + v3)]) (rest := []) hG cx hl.1 (ctX1_total l g a_t_now t_now_told t_now_lines t_now_kinds t_now_acts t_now_cells t_now_rows t_now_sizes (0) v1 ((3 * v2) + v3) r8 hr9) kmX1_total kvX1_total nm_27 ⟨rfl, rfl⟩ ⟨Nat.le_of_ble_eq_true rfl, Nat.le_of_ble_eq_true rfl⟩ (roV (q0 := 1) (ci := 1) hG (hP.sub [1, 2, 3, 4] rfl) hP rfl rfl) rfl rfl (Nat.le_of_ble_eq_true rfl) dX7_stiff_48 ⟨Nat.le_of_ble_eq_true rfl, Nat.le_of_ble_eq_true rfl⟩) ?_
            exact hret _ _ _ dX7_stiff_51 (Option.some.inj h)
          · have h := itp c7 h
            refine lv_ldc2 (own := RX7) (v := -9223372036854775808) hx hb cx.2.2.2.1 (cx.2.2.2.2 _ cl_X7_146) dX7_stiff_33 ?_
            exact hret _ _ _ dX7_stiff_36 (Option.some.inj h)
-- X7_even
theorem dX7_even_0 : decode cX7_even 0 = .ok (.aload_n 0, 1) := by decide +kernel
theorem dX7_even_1 : decode cX7_even 1 = .ok (.getfield 30, 3) := by decide +kernel
theorem dX7_even_4 : decode cX7_even 4 = .ok (.getfield 139, 3) := by decide +kernel
theorem dX7_even_7 : decode cX7_even 7 = .ok (.ifCond .ne 6, 3) := by decide +kernel
theorem dX7_even_10 : decode cX7_even 10 = .ok (.bipush (-2), 2) := by decide +kernel
theorem dX7_even_12 : decode cX7_even 12 = .ok (.ireturn, 1) := by decide +kernel
theorem dX7_even_13 : decode cX7_even 13 = .ok (.aload_n 0, 1) := by decide +kernel
theorem dX7_even_14 : decode cX7_even 14 = .ok (.getfield 30, 3) := by decide +kernel
theorem dX7_even_17 : decode cX7_even 17 = .ok (.aload_n 0, 1) := by decide +kernel
theorem dX7_even_18 : decode cX7_even 18 = .ok (.getfield 30, 3) := by decide +kernel
theorem dX7_even_21 : decode cX7_even 21 = .ok (.invokevirtual 132, 3) := by decide +kernel
theorem dX7_even_24 : decode cX7_even 24 = .ok (.aload_n 0, 1) := by decide +kernel
theorem dX7_even_25 : decode cX7_even 25 = .ok (.getfield 30, 3) := by decide +kernel
theorem dX7_even_28 : decode cX7_even 28 = .ok (.invokevirtual 97, 3) := by decide +kernel
theorem dX7_even_31 : decode cX7_even 31 = .ok (.invokevirtual 152, 3) := by decide +kernel
theorem dX7_even_34 : decode cX7_even 34 = .ok (.istore_n 1, 1) := by decide +kernel
theorem dX7_even_35 : decode cX7_even 35 = .ok (.aload_n 0, 1) := by decide +kernel
theorem dX7_even_36 : decode cX7_even 36 = .ok (.getfield 30, 3) := by decide +kernel
theorem dX7_even_39 : decode cX7_even 39 = .ok (.invokevirtual 155, 3) := by decide +kernel
theorem dX7_even_42 : decode cX7_even 42 = .ok (.ifCond .eq 10, 3) := by decide +kernel
theorem dX7_even_45 : decode cX7_even 45 = .ok (.iload_n 1, 1) := by decide +kernel
theorem dX7_even_46 : decode cX7_even 46 = .ok (.bipush 8, 2) := by decide +kernel
theorem dX7_even_48 : decode cX7_even 48 = .ok (.ior, 1) := by decide +kernel
theorem dX7_even_49 : decode cX7_even 49 = .ok (.goto 4, 3) := by decide +kernel
theorem dX7_even_52 : decode cX7_even 52 = .ok (.iload_n 1, 1) := by decide +kernel
theorem dX7_even_53 : decode cX7_even 53 = .ok (.ireturn, 1) := by decide +kernel
noncomputable def fX7_even  (t_now_cells : Nat → Int32) (t_now_rows : Nat → Int32) (t_now_sizes : Nat → Int32) (t_now_told : Int32) (t_now_kinds : Int32) (t_now_acts : Int32) : Option (Int32) := (if t_now_told = 0 then some (-2) else (fX1_row t_now_rows t_now_acts).bind fun r2 => (fX1_plies t_now_sizes t_now_acts).bind fun r4 => (fX1_shape t_now_cells r2 r4).bind fun r6 => (fX1_isBalanced t_now_rows t_now_sizes t_now_kinds t_now_acts).bind fun r8 => (if r8 = 0 then some r6 else some (r6 ||| 8)))
set_option maxHeartbeats 4000000 in
set_option maxRecDepth 100000 in
theorem ctX7_even (l : Launch) (g : GT) (a_t : Nat → Nat) (a_t_tape : Nat → Nat) (a_t_reader : Nat → Nat) (a_t_now : Nat → Nat) (a_t_choices : Nat → Nat) (a_t_ways : Nat → Nat) (a_t_stress : Nat → Nat) (t_now_told : Int32) (t_now_lines : Int32) (t_now_kinds : Int32) (t_now_acts : Int32) (t_now_cells : Nat → Int32) (t_now_rows : Nat → Int32) (t_now_sizes : Nat → Int32) (o : Int32) (h : fX7_even t_now_cells t_now_rows t_now_sizes t_now_told t_now_kinds t_now_acts = some o) : Met l yX7_even (Cond.code yX7_even cX7_even 2 (some .int) :: Tw) ⟨4, 0, 0, 99⟩ (va_Pc [.ref ((a_t 0))] (roB g [((a_t 0), .inr (6, [.ref (a_t_tape 0), .ref (a_t_reader 0), .ref (a_t_now 0), .ref (a_t 4), .ref (a_t_choices 0), .ref (a_t_ways 0), .ref (a_t_stress 0)])), ((a_t_now 0), .inr (1, [.ref (a_t_now 1), .ref (a_t_now 2), .ref (a_t_now 3), .ref (a_t_now 4), .ref (a_t_now 5), .int t_now_told, .int t_now_lines, .int t_now_kinds, .int t_now_acts])), ((a_t_now 2), .inl (g.2.2.1 0, 144, .inl t_now_cells)), ((a_t_now 3), .inl (g.2.2.1 0, 31, .inl t_now_rows)), ((a_t_now 4), .inl (g.2.2.1 0, 31, .inl t_now_sizes))])) (vp_Si (fun x => x = o)) 0 0 (fun _ => False) := by
  refine ro_meti (by decide) (Nat.le_of_ble_eq_true rfl) (lv0 := [(0, .ref ((a_t 0)))]) rfl ?_
  intro p e s m args below meth c ls Q cx hret hG hP hl
  have hx := cx.1
  have hb := cx.2.1
  have hG0 := hG
  unfold fX7_even at h
  refine lv_aload_n hx hb dX7_even_0 rfl (lv_at hl 0 rfl) ?_
  refine xa_get (C := RX7) (T := TX7) (N := 7) cx hG hP 0 rfl rfl uX7 2 (by decide) lf_X7_30 rfl dX7_even_1 ?_
  refine xa_getN (C := RX1) (T := TX1) (N := 9) cx hG hP 1 rfl rfl uX1 5 (by decide) nf_5 rfl dX7_even_4 ?_
  refine lv_if_ne (tgt := 13) hx hb dX7_even_7 (by decide) (fun c1 => ?_) (fun c1 => ?_)
  · have h := itn c1 h
    refine lv_aload_n hx hb dX7_even_13 rfl (lv_at hl 0 rfl) ?_
    refine xa_get (C := RX7) (T := TX7) (N := 7) cx hG hP 0 rfl rfl uX7 2 (by decide) lf_X7_30 rfl dX7_even_14 ?_
    refine lv_aload_n hx hb dX7_even_17 rfl (lv_at hl 0 rfl) ?_
    refine xa_get (C := RX7) (T := TX7) (N := 7) cx hG hP 0 rfl rfl uX7 2 (by decide) lf_X7_30 rfl dX7_even_18 ?_
    obtain ⟨r2, hr3, h⟩ := bnd h
    refine ro_i (runVN (As := []) (rest := [.ref ((a_t_now 0))]) hG cx hl.1 (ctX1_row l g a_t_now t_now_told t_now_lines t_now_kinds t_now_acts t_now_rows r2 hr3) kmX1_row kvX1_row nm_25 ⟨rfl, rfl⟩ ⟨Nat.le_of_ble_eq_true rfl, Nat.le_of_ble_eq_true rfl⟩ (roV (q0 := 1) (ci := 1) hG (hP.sub [1, 3] rfl) hP rfl rfl) rfl rfl (Nat.le_of_ble_eq_true rfl) dX7_even_21 ⟨Nat.le_of_ble_eq_true rfl, Nat.le_of_ble_eq_true rfl⟩) ?_
    refine lv_aload_n hx hb dX7_even_24 rfl (lv_at hl 0 rfl) ?_
    refine xa_get (C := RX7) (T := TX7) (N := 7) cx hG hP 0 rfl rfl uX7 2 (by decide) lf_X7_30 rfl dX7_even_25 ?_
    obtain ⟨r4, hr5, h⟩ := bnd h
    refine ro_i (runVN (As := []) (rest := [.int r2, .ref ((a_t_now 0))]) hG cx hl.1 (ctX1_plies l g a_t_now t_now_told t_now_lines t_now_kinds t_now_acts t_now_sizes r4 hr5) kmX1_plies kvX1_plies nm_17 ⟨rfl, rfl⟩ ⟨Nat.le_of_ble_eq_true rfl, Nat.le_of_ble_eq_true rfl⟩ (roV (q0 := 1) (ci := 1) hG (hP.sub [1, 4] rfl) hP rfl rfl) rfl rfl (Nat.le_of_ble_eq_true rfl) dX7_even_28 ⟨Nat.le_of_ble_eq_true rfl, Nat.le_of_ble_eq_true rfl⟩) ?_
    obtain ⟨r6, hr7, h⟩ := bnd h
    refine ro_i (runVN (As := [.int r2, .int r4]) (rest := []) hG cx hl.1 (ctX1_shape l g a_t_now t_now_told t_now_lines t_now_kinds t_now_acts t_now_cells r2 r4 r6 hr7) kmX1_shape kvX1_shape nm_29 ⟨rfl, rfl⟩ ⟨Nat.le_of_ble_eq_true rfl, Nat.le_of_ble_eq_true rfl⟩ (roV (q0 := 1) (ci := 1) hG (hP.sub [1, 2] rfl) hP rfl rfl) rfl rfl (Nat.le_of_ble_eq_true rfl) dX7_even_31 ⟨Nat.le_of_ble_eq_true rfl, Nat.le_of_ble_eq_true rfl⟩) ?_
    refine lv_istore_n (lv' := [(1, .int r6), (0, .ref ((a_t 0)))]) hx hb dX7_even_34 rfl hl (by decide) rfl (fun ls hl => ?_)
    refine lv_aload_n hx hb dX7_even_35 rfl (lv_at hl 1 rfl) ?_
    refine xa_get (C := RX7) (T := TX7) (N := 7) cx hG hP 0 rfl rfl uX7 2 (by decide) lf_X7_30 rfl dX7_even_36 ?_
    obtain ⟨r8, hr9, h⟩ := bnd h
    refine ro_z (runVN (As := []) (rest := []) hG cx hl.1 (ctX1_isBalanced l g a_t_now t_now_told t_now_lines t_now_kinds t_now_acts t_now_rows t_now_sizes r8 hr9) kmX1_isBalanced kvX1_isBalanced nm_31 ⟨rfl, rfl⟩ ⟨Nat.le_of_ble_eq_true rfl, Nat.le_of_ble_eq_true rfl⟩ (roV (q0 := 1) (ci := 1) hG (hP.sub [1, 3, 4] rfl) hP rfl rfl) rfl rfl (Nat.le_of_ble_eq_true rfl) dX7_even_39 ⟨Nat.le_of_ble_eq_true rfl, Nat.le_of_ble_eq_true rfl⟩) (fun hz10 => ?_)
    refine lv_if_eq (tgt := 52) hx hb dX7_even_42 (by decide) (fun c11 => ?_) (fun c11 => ?_)
    · have h := itp c11 h
      refine lv_iload_n hx hb dX7_even_52 rfl (lv_at hl 0 rfl) ?_
      exact hret _ _ _ dX7_even_53 (Option.some.inj h)
    · have h := itn c11 h
      refine lv_iload_n hx hb dX7_even_45 rfl (lv_at hl 0 rfl) ?_
      refine lv_bipush (v := 8) hx hb dX7_even_46 (by decide) ?_
      refine lv_ior hx hb dX7_even_48 ?_
      refine lv_goto (tgt := 53) hx hb dX7_even_49 (by decide) ?_
      exact hret _ _ _ dX7_even_53 (Option.some.inj h)
  · have h := itp c1 h
    refine lv_bipush (v := -2) hx hb dX7_even_10 (by decide) ?_
    exact hret _ _ _ dX7_even_12 (Option.some.inj h)
-- X7_warp
theorem dX7_warp_0 : decode cX7_warp 0 = .ok (.aload_n 0, 1) := by decide +kernel
theorem dX7_warp_1 : decode cX7_warp 1 = .ok (.getfield 30, 3) := by decide +kernel
theorem dX7_warp_4 : decode cX7_warp 4 = .ok (.getfield 139, 3) := by decide +kernel
theorem dX7_warp_7 : decode cX7_warp 7 = .ok (.ifCond .eq 14, 3) := by decide +kernel
theorem dX7_warp_10 : decode cX7_warp 10 = .ok (.aload_n 0, 1) := by decide +kernel
theorem dX7_warp_11 : decode cX7_warp 11 = .ok (.getfield 30, 3) := by decide +kernel
theorem dX7_warp_14 : decode cX7_warp 14 = .ok (.iconst 0, 1) := by decide +kernel
theorem dX7_warp_15 : decode cX7_warp 15 = .ok (.invokevirtual 158, 3) := by decide +kernel
theorem dX7_warp_18 : decode cX7_warp 18 = .ok (.goto 6, 3) := by decide +kernel
theorem dX7_warp_21 : decode cX7_warp 21 = .ok (.ldc2_w 162, 3) := by decide +kernel
theorem dX7_warp_24 : decode cX7_warp 24 = .ok (.lreturn, 1) := by decide +kernel
noncomputable def fX7_warp  (t_now_cells : Nat → Int32) (t_now_rows : Nat → Int32) (t_now_sizes : Nat → Int32) (t_now_told : Int32) (t_now_acts : Int32) : Option (Int64) := (if t_now_told = 0 then some (-2) else (fX1_warpWithout t_now_cells t_now_rows t_now_sizes t_now_acts 0).bind fun r2 => some r2)
set_option maxHeartbeats 4000000 in
set_option maxRecDepth 100000 in
theorem ctX7_warp (l : Launch) (g : GT) (a_t : Nat → Nat) (a_t_tape : Nat → Nat) (a_t_reader : Nat → Nat) (a_t_now : Nat → Nat) (a_t_choices : Nat → Nat) (a_t_ways : Nat → Nat) (a_t_stress : Nat → Nat) (t_now_told : Int32) (t_now_lines : Int32) (t_now_kinds : Int32) (t_now_acts : Int32) (t_now_cells : Nat → Int32) (t_now_rows : Nat → Int32) (t_now_sizes : Nat → Int32) (o : Int64) (h : fX7_warp t_now_cells t_now_rows t_now_sizes t_now_told t_now_acts = some o) : Met l yX7_warp (Cond.code yX7_warp cX7_warp 1 (some .long) :: Tw) ⟨4, 0, 0, 97⟩ (va_Pc [.ref ((a_t 0))] (roB g [((a_t 0), .inr (6, [.ref (a_t_tape 0), .ref (a_t_reader 0), .ref (a_t_now 0), .ref (a_t 4), .ref (a_t_choices 0), .ref (a_t_ways 0), .ref (a_t_stress 0)])), ((a_t_now 0), .inr (1, [.ref (a_t_now 1), .ref (a_t_now 2), .ref (a_t_now 3), .ref (a_t_now 4), .ref (a_t_now 5), .int t_now_told, .int t_now_lines, .int t_now_kinds, .int t_now_acts])), ((a_t_now 2), .inl (g.2.2.1 0, 144, .inl t_now_cells)), ((a_t_now 3), .inl (g.2.2.1 0, 31, .inl t_now_rows)), ((a_t_now 4), .inl (g.2.2.1 0, 31, .inl t_now_sizes))])) (vp_Sl (fun x => x = o)) 0 0 (fun _ => False) := by
  refine ro_metl (by decide) (Nat.le_of_ble_eq_true rfl) (lv0 := [(0, .ref ((a_t 0)))]) rfl ?_
  intro p e s m args below meth c ls Q cx hret hG hP hl
  have hx := cx.1
  have hb := cx.2.1
  have hG0 := hG
  unfold fX7_warp at h
  refine lv_aload_n hx hb dX7_warp_0 rfl (lv_at hl 0 rfl) ?_
  refine xa_get (C := RX7) (T := TX7) (N := 7) cx hG hP 0 rfl rfl uX7 2 (by decide) lf_X7_30 rfl dX7_warp_1 ?_
  refine xa_getN (C := RX1) (T := TX1) (N := 9) cx hG hP 1 rfl rfl uX1 5 (by decide) nf_5 rfl dX7_warp_4 ?_
  refine lv_if_eq (tgt := 21) hx hb dX7_warp_7 (by decide) (fun c1 => ?_) (fun c1 => ?_)
  · have h := itp c1 h
    refine lv_ldc2 (own := RX7) (v := -2) hx hb cx.2.2.2.1 (cx.2.2.2.2 _ cl_X7_162) dX7_warp_21 ?_
    exact hret _ _ _ dX7_warp_24 (Option.some.inj h)
  · have h := itn c1 h
    refine lv_aload_n hx hb dX7_warp_10 rfl (lv_at hl 0 rfl) ?_
    refine xa_get (C := RX7) (T := TX7) (N := 7) cx hG hP 0 rfl rfl uX7 2 (by decide) lf_X7_30 rfl dX7_warp_11 ?_
    refine lv_iconst (v := 0) hx hb dX7_warp_14 (by decide) ?_
    obtain ⟨r2, hr3, h⟩ := bnd h
    refine ro_l (runVN (As := [.int (0)]) (rest := []) hG cx hl.1 (ctX1_warpWithout l g a_t_now t_now_told t_now_lines t_now_kinds t_now_acts t_now_cells t_now_rows t_now_sizes (0) r2 hr3) kmX1_warpWithout kvX1_warpWithout nm_32 ⟨rfl, rfl⟩ ⟨Nat.le_of_ble_eq_true rfl, Nat.le_of_ble_eq_true rfl⟩ (roV (q0 := 1) (ci := 1) hG (hP.sub [1, 2, 3, 4] rfl) hP rfl rfl) rfl rfl (Nat.le_of_ble_eq_true rfl) dX7_warp_15 ⟨Nat.le_of_ble_eq_true rfl, Nat.le_of_ble_eq_true rfl⟩) ?_
    refine lv_goto (tgt := 24) hx hb dX7_warp_18 (by decide) ?_
    exact hret _ _ _ dX7_warp_24 (Option.some.inj h)
-- X7_twist
theorem dX7_twist_0 : decode cX7_twist 0 = .ok (.aload_n 0, 1) := by decide +kernel
theorem dX7_twist_1 : decode cX7_twist 1 = .ok (.getfield 30, 3) := by decide +kernel
theorem dX7_twist_4 : decode cX7_twist 4 = .ok (.getfield 139, 3) := by decide +kernel
theorem dX7_twist_7 : decode cX7_twist 7 = .ok (.ifCond .eq 13, 3) := by decide +kernel
theorem dX7_twist_10 : decode cX7_twist 10 = .ok (.aload_n 0, 1) := by decide +kernel
theorem dX7_twist_11 : decode cX7_twist 11 = .ok (.getfield 30, 3) := by decide +kernel
theorem dX7_twist_14 : decode cX7_twist 14 = .ok (.invokevirtual 164, 3) := by decide +kernel
theorem dX7_twist_17 : decode cX7_twist 17 = .ok (.goto 6, 3) := by decide +kernel
theorem dX7_twist_20 : decode cX7_twist 20 = .ok (.ldc2_w 162, 3) := by decide +kernel
theorem dX7_twist_23 : decode cX7_twist 23 = .ok (.lreturn, 1) := by decide +kernel
noncomputable def fX7_twist  (t_now_cells : Nat → Int32) (t_now_rows : Nat → Int32) (t_now_sizes : Nat → Int32) (t_now_told : Int32) (t_now_acts : Int32) : Option (Int64) := (if t_now_told = 0 then some (-2) else (fX1_twistNow t_now_cells t_now_rows t_now_sizes t_now_acts).bind fun r2 => some r2)
set_option maxHeartbeats 4000000 in
set_option maxRecDepth 100000 in
theorem ctX7_twist (l : Launch) (g : GT) (a_t : Nat → Nat) (a_t_tape : Nat → Nat) (a_t_reader : Nat → Nat) (a_t_now : Nat → Nat) (a_t_choices : Nat → Nat) (a_t_ways : Nat → Nat) (a_t_stress : Nat → Nat) (t_now_told : Int32) (t_now_lines : Int32) (t_now_kinds : Int32) (t_now_acts : Int32) (t_now_cells : Nat → Int32) (t_now_rows : Nat → Int32) (t_now_sizes : Nat → Int32) (o : Int64) (h : fX7_twist t_now_cells t_now_rows t_now_sizes t_now_told t_now_acts = some o) : Met l yX7_twist (Cond.code yX7_twist cX7_twist 1 (some .long) :: Tw) ⟨4, 0, 0, 93⟩ (va_Pc [.ref ((a_t 0))] (roB g [((a_t 0), .inr (6, [.ref (a_t_tape 0), .ref (a_t_reader 0), .ref (a_t_now 0), .ref (a_t 4), .ref (a_t_choices 0), .ref (a_t_ways 0), .ref (a_t_stress 0)])), ((a_t_now 0), .inr (1, [.ref (a_t_now 1), .ref (a_t_now 2), .ref (a_t_now 3), .ref (a_t_now 4), .ref (a_t_now 5), .int t_now_told, .int t_now_lines, .int t_now_kinds, .int t_now_acts])), ((a_t_now 2), .inl (g.2.2.1 0, 144, .inl t_now_cells)), ((a_t_now 3), .inl (g.2.2.1 0, 31, .inl t_now_rows)), ((a_t_now 4), .inl (g.2.2.1 0, 31, .inl t_now_sizes))])) (vp_Sl (fun x => x = o)) 0 0 (fun _ => False) := by
  refine ro_metl (by decide) (Nat.le_of_ble_eq_true rfl) (lv0 := [(0, .ref ((a_t 0)))]) rfl ?_
  intro p e s m args below meth c ls Q cx hret hG hP hl
  have hx := cx.1
  have hb := cx.2.1
  have hG0 := hG
  unfold fX7_twist at h
  refine lv_aload_n hx hb dX7_twist_0 rfl (lv_at hl 0 rfl) ?_
  refine xa_get (C := RX7) (T := TX7) (N := 7) cx hG hP 0 rfl rfl uX7 2 (by decide) lf_X7_30 rfl dX7_twist_1 ?_
  refine xa_getN (C := RX1) (T := TX1) (N := 9) cx hG hP 1 rfl rfl uX1 5 (by decide) nf_5 rfl dX7_twist_4 ?_
  refine lv_if_eq (tgt := 20) hx hb dX7_twist_7 (by decide) (fun c1 => ?_) (fun c1 => ?_)
  · have h := itp c1 h
    refine lv_ldc2 (own := RX7) (v := -2) hx hb cx.2.2.2.1 (cx.2.2.2.2 _ cl_X7_162) dX7_twist_20 ?_
    exact hret _ _ _ dX7_twist_23 (Option.some.inj h)
  · have h := itn c1 h
    refine lv_aload_n hx hb dX7_twist_10 rfl (lv_at hl 0 rfl) ?_
    refine xa_get (C := RX7) (T := TX7) (N := 7) cx hG hP 0 rfl rfl uX7 2 (by decide) lf_X7_30 rfl dX7_twist_11 ?_
    obtain ⟨r2, hr3, h⟩ := bnd h
    refine ro_l (runVN (As := []) (rest := []) hG cx hl.1 (ctX1_twistNow l g a_t_now t_now_told t_now_lines t_now_kinds t_now_acts t_now_cells t_now_rows t_now_sizes r2 hr3) kmX1_twistNow kvX1_twistNow nm_33 ⟨rfl, rfl⟩ ⟨Nat.le_of_ble_eq_true rfl, Nat.le_of_ble_eq_true rfl⟩ (roV (q0 := 1) (ci := 1) hG (hP.sub [1, 2, 3, 4] rfl) hP rfl rfl) rfl rfl (Nat.le_of_ble_eq_true rfl) dX7_twist_14 ⟨Nat.le_of_ble_eq_true rfl, Nat.le_of_ble_eq_true rfl⟩) ?_
    refine lv_goto (tgt := 23) hx hb dX7_twist_17 (by decide) ?_
    exact hret _ _ _ dX7_twist_23 (Option.some.inj h)
-- X7_run
theorem dX7_run_0 : decode cX7_run 0 = .ok (.aload_n 0, 1) := by decide +kernel
theorem dX7_run_1 : decode cX7_run 1 = .ok (.getfield 30, 3) := by decide +kernel
theorem dX7_run_4 : decode cX7_run 4 = .ok (.getfield 139, 3) := by decide +kernel
theorem dX7_run_7 : decode cX7_run 7 = .ok (.ifCond .eq 12, 3) := by decide +kernel
theorem dX7_run_10 : decode cX7_run 10 = .ok (.iload_n 1, 1) := by decide +kernel
theorem dX7_run_11 : decode cX7_run 11 = .ok (.ifCond .lt 8, 3) := by decide +kernel
theorem dX7_run_14 : decode cX7_run 14 = .ok (.iload_n 1, 1) := by decide +kernel
theorem dX7_run_15 : decode cX7_run 15 = .ok (.iconst 1, 1) := by decide +kernel
theorem dX7_run_16 : decode cX7_run 16 = .ok (.if_icmp .le 6, 3) := by decide +kernel
theorem dX7_run_19 : decode cX7_run 19 = .ok (.bipush (-2), 2) := by decide +kernel
theorem dX7_run_21 : decode cX7_run 21 = .ok (.ireturn, 1) := by decide +kernel
theorem dX7_run_22 : decode cX7_run 22 = .ok (.aload_n 0, 1) := by decide +kernel
theorem dX7_run_23 : decode cX7_run 23 = .ok (.getfield 30, 3) := by decide +kernel
theorem dX7_run_26 : decode cX7_run 26 = .ok (.invokevirtual 132, 3) := by decide +kernel
theorem dX7_run_29 : decode cX7_run 29 = .ok (.aload_n 0, 1) := by decide +kernel
theorem dX7_run_30 : decode cX7_run 30 = .ok (.getfield 30, 3) := by decide +kernel
theorem dX7_run_33 : decode cX7_run 33 = .ok (.invokevirtual 97, 3) := by decide +kernel
theorem dX7_run_36 : decode cX7_run 36 = .ok (.invokestatic 168, 3) := by decide +kernel
theorem dX7_run_39 : decode cX7_run 39 = .ok (.istore_n 2, 1) := by decide +kernel
theorem dX7_run_40 : decode cX7_run 40 = .ok (.iload_n 1, 1) := by decide +kernel
theorem dX7_run_41 : decode cX7_run 41 = .ok (.ifCond .ne 7, 3) := by decide +kernel
theorem dX7_run_44 : decode cX7_run 44 = .ok (.iload_n 2, 1) := by decide +kernel
theorem dX7_run_45 : decode cX7_run 45 = .ok (.goto 21, 3) := by decide +kernel
theorem dX7_run_48 : decode cX7_run 48 = .ok (.aload_n 0, 1) := by decide +kernel
theorem dX7_run_49 : decode cX7_run 49 = .ok (.getfield 30, 3) := by decide +kernel
theorem dX7_run_52 : decode cX7_run 52 = .ok (.invokevirtual 132, 3) := by decide +kernel
theorem dX7_run_55 : decode cX7_run 55 = .ok (.aload_n 0, 1) := by decide +kernel
theorem dX7_run_56 : decode cX7_run 56 = .ok (.getfield 30, 3) := by decide +kernel
theorem dX7_run_59 : decode cX7_run 59 = .ok (.invokevirtual 97, 3) := by decide +kernel
theorem dX7_run_62 : decode cX7_run 62 = .ok (.iload_n 2, 1) := by decide +kernel
theorem dX7_run_63 : decode cX7_run 63 = .ok (.invokestatic 171, 3) := by decide +kernel
theorem dX7_run_66 : decode cX7_run 66 = .ok (.ireturn, 1) := by decide +kernel
noncomputable def fX7_run  (t_now_rows : Nat → Int32) (t_now_sizes : Nat → Int32) (t_now_told : Int32) (t_now_acts : Int32) (v1 : Int32) : Option (Int32) := (if t_now_told = 0 then some (-2) else (if v1 < 0 then some (-2) else (if v1 ≤ 1 then (fX1_row t_now_rows t_now_acts).bind fun r4 => (fX1_plies t_now_sizes t_now_acts).bind fun r6 => (fX3_longestRun r4 r6).bind fun r8 => (if v1 = 0 then some r8 else (fX1_row t_now_rows t_now_acts).bind fun r11 => (fX1_plies t_now_sizes t_now_acts).bind fun r13 => (fX3_firstRun r11 r13 r8).bind fun r15 => some r15) else some (-2))))
set_option maxHeartbeats 4000000 in
set_option maxRecDepth 100000 in
theorem ctX7_run (l : Launch) (g : GT) (a_t : Nat → Nat) (a_t_tape : Nat → Nat) (a_t_reader : Nat → Nat) (a_t_now : Nat → Nat) (a_t_choices : Nat → Nat) (a_t_ways : Nat → Nat) (a_t_stress : Nat → Nat) (t_now_told : Int32) (t_now_lines : Int32) (t_now_kinds : Int32) (t_now_acts : Int32) (t_now_rows : Nat → Int32) (t_now_sizes : Nat → Int32) (v1 : Int32) (o : Int32) (h : fX7_run t_now_rows t_now_sizes t_now_told t_now_acts v1 = some o) : Met l yX7_run (Cond.code yX7_run cX7_run 3 (some .int) :: Tw) ⟨2, 0, 0, 50⟩ (va_Pc [.ref ((a_t 0)), .int v1] (roB g [((a_t 0), .inr (6, [.ref (a_t_tape 0), .ref (a_t_reader 0), .ref (a_t_now 0), .ref (a_t 4), .ref (a_t_choices 0), .ref (a_t_ways 0), .ref (a_t_stress 0)])), ((a_t_now 0), .inr (1, [.ref (a_t_now 1), .ref (a_t_now 2), .ref (a_t_now 3), .ref (a_t_now 4), .ref (a_t_now 5), .int t_now_told, .int t_now_lines, .int t_now_kinds, .int t_now_acts])), ((a_t_now 3), .inl (g.2.2.1 0, 31, .inl t_now_rows)), ((a_t_now 4), .inl (g.2.2.1 0, 31, .inl t_now_sizes))])) (vp_Si (fun x => x = o)) 0 0 (fun _ => False) := by
  refine ro_meti (by decide) (Nat.le_of_ble_eq_true rfl) (lv0 := [(0, .ref ((a_t 0))), (1, .int v1)]) rfl ?_
  intro p e s m args below meth c ls Q cx hret hG hP hl
  have hx := cx.1
  have hb := cx.2.1
  have hG0 := hG
  unfold fX7_run at h
  refine lv_aload_n hx hb dX7_run_0 rfl (lv_at hl 0 rfl) ?_
  refine xa_get (C := RX7) (T := TX7) (N := 7) cx hG hP 0 rfl rfl uX7 2 (by decide) lf_X7_30 rfl dX7_run_1 ?_
  refine xa_getN (C := RX1) (T := TX1) (N := 9) cx hG hP 1 rfl rfl uX1 5 (by decide) nf_5 rfl dX7_run_4 ?_
  refine lv_if_eq (tgt := 19) hx hb dX7_run_7 (by decide) (fun c1 => ?_) (fun c1 => ?_)
  · have h := itp c1 h
    refine lv_bipush (v := -2) hx hb dX7_run_19 (by decide) ?_
    exact hret _ _ _ dX7_run_21 (Option.some.inj h)
  · have h := itn c1 h
    refine lv_iload_n hx hb dX7_run_10 rfl (lv_at hl 1 rfl) ?_
    refine lv_if_lt (tgt := 19) hx hb dX7_run_11 (by decide) (fun c2 => ?_) (fun c2 => ?_)
    · have h := itp c2 h
      refine lv_bipush (v := -2) hx hb dX7_run_19 (by decide) ?_
      exact hret _ _ _ dX7_run_21 (Option.some.inj h)
    · have h := itn c2 h
      refine lv_iload_n hx hb dX7_run_14 rfl (lv_at hl 1 rfl) ?_
      refine lv_iconst (v := 1) hx hb dX7_run_15 (by decide) ?_
      refine lv_icmp_le (tgt := 22) hx hb dX7_run_16 (by decide) (fun c3 => ?_) (fun c3 => ?_)
      · have h := itp c3 h
        refine lv_aload_n hx hb dX7_run_22 rfl (lv_at hl 0 rfl) ?_
        refine xa_get (C := RX7) (T := TX7) (N := 7) cx hG hP 0 rfl rfl uX7 2 (by decide) lf_X7_30 rfl dX7_run_23 ?_
        obtain ⟨r4, hr5, h⟩ := bnd h
        refine ro_i (runVN (As := []) (rest := []) hG cx hl.1 (ctX1_row l g a_t_now t_now_told t_now_lines t_now_kinds t_now_acts t_now_rows r4 hr5) kmX1_row kvX1_row nm_25 ⟨rfl, rfl⟩ ⟨Nat.le_of_ble_eq_true rfl, Nat.le_of_ble_eq_true rfl⟩ (roV (q0 := 1) (ci := 1) hG (hP.sub [1, 2] rfl) hP rfl rfl) rfl rfl (Nat.le_of_ble_eq_true rfl) dX7_run_26 ⟨Nat.le_of_ble_eq_true rfl, Nat.le_of_ble_eq_true rfl⟩) ?_
        refine lv_aload_n hx hb dX7_run_29 rfl (lv_at hl 0 rfl) ?_
        refine xa_get (C := RX7) (T := TX7) (N := 7) cx hG hP 0 rfl rfl uX7 2 (by decide) lf_X7_30 rfl dX7_run_30 ?_
        obtain ⟨r6, hr7, h⟩ := bnd h
        refine ro_i (runVN (As := []) (rest := [.int r4]) hG cx hl.1 (ctX1_plies l g a_t_now t_now_told t_now_lines t_now_kinds t_now_acts t_now_sizes r6 hr7) kmX1_plies kvX1_plies nm_17 ⟨rfl, rfl⟩ ⟨Nat.le_of_ble_eq_true rfl, Nat.le_of_ble_eq_true rfl⟩ (roV (q0 := 1) (ci := 1) hG (hP.sub [1, 3] rfl) hP rfl rfl) rfl rfl (Nat.le_of_ble_eq_true rfl) dX7_run_33 ⟨Nat.le_of_ble_eq_true rfl, Nat.le_of_ble_eq_true rfl⟩) ?_
        obtain ⟨r8, hr9, h⟩ := bnd h
        refine ro_i (runSN (As := [.int r4, .int r6]) (rest := []) hG cx hl.1 (ctX3_longestRun l g r4 r6 r8 hr9) kmX3_longestRun ksX3_longestRun nm_34 ⟨rfl, rfl⟩ ⟨Nat.le_of_ble_eq_true rfl, Nat.le_of_ble_eq_true rfl⟩ (roS hG (hP.sub [] rfl)) rfl rfl (Nat.le_of_ble_eq_true rfl) dX7_run_36 ⟨Nat.le_of_ble_eq_true rfl, Nat.le_of_ble_eq_true rfl⟩) ?_
        refine lv_istore_n (lv' := [(2, .int r8), (0, .ref ((a_t 0))), (1, .int v1)]) hx hb dX7_run_39 rfl hl (by decide) rfl (fun ls hl => ?_)
        refine lv_iload_n hx hb dX7_run_40 rfl (lv_at hl 2 rfl) ?_
        refine lv_if_ne (tgt := 48) hx hb dX7_run_41 (by decide) (fun c10 => ?_) (fun c10 => ?_)
        · have h := itn c10 h
          refine lv_aload_n hx hb dX7_run_48 rfl (lv_at hl 1 rfl) ?_
          refine xa_get (C := RX7) (T := TX7) (N := 7) cx hG hP 0 rfl rfl uX7 2 (by decide) lf_X7_30 rfl dX7_run_49 ?_
          obtain ⟨r11, hr12, h⟩ := bnd h
          refine ro_i (runVN (As := []) (rest := []) hG cx hl.1 (ctX1_row l g a_t_now t_now_told t_now_lines t_now_kinds t_now_acts t_now_rows r11 hr12) kmX1_row kvX1_row nm_25 ⟨rfl, rfl⟩ ⟨Nat.le_of_ble_eq_true rfl, Nat.le_of_ble_eq_true rfl⟩ (roV (q0 := 1) (ci := 1) hG (hP.sub [1, 2] rfl) hP rfl rfl) rfl rfl (Nat.le_of_ble_eq_true rfl) dX7_run_52 ⟨Nat.le_of_ble_eq_true rfl, Nat.le_of_ble_eq_true rfl⟩) ?_
          refine lv_aload_n hx hb dX7_run_55 rfl (lv_at hl 1 rfl) ?_
          refine xa_get (C := RX7) (T := TX7) (N := 7) cx hG hP 0 rfl rfl uX7 2 (by decide) lf_X7_30 rfl dX7_run_56 ?_
          obtain ⟨r13, hr14, h⟩ := bnd h
          refine ro_i (runVN (As := []) (rest := [.int r11]) hG cx hl.1 (ctX1_plies l g a_t_now t_now_told t_now_lines t_now_kinds t_now_acts t_now_sizes r13 hr14) kmX1_plies kvX1_plies nm_17 ⟨rfl, rfl⟩ ⟨Nat.le_of_ble_eq_true rfl, Nat.le_of_ble_eq_true rfl⟩ (roV (q0 := 1) (ci := 1) hG (hP.sub [1, 3] rfl) hP rfl rfl) rfl rfl (Nat.le_of_ble_eq_true rfl) dX7_run_59 ⟨Nat.le_of_ble_eq_true rfl, Nat.le_of_ble_eq_true rfl⟩) ?_
          refine lv_iload_n hx hb dX7_run_62 rfl (lv_at hl 0 rfl) ?_
          obtain ⟨r15, hr16, h⟩ := bnd h
          refine ro_i (runSN (As := [.int r11, .int r13, .int r8]) (rest := []) hG cx hl.1 (ctX3_firstRun l g r11 r13 r8 r15 hr16) kmX3_firstRun ksX3_firstRun nm_35 ⟨rfl, rfl⟩ ⟨Nat.le_of_ble_eq_true rfl, Nat.le_of_ble_eq_true rfl⟩ (roS hG (hP.sub [] rfl)) rfl rfl (Nat.le_of_ble_eq_true rfl) dX7_run_63 ⟨Nat.le_of_ble_eq_true rfl, Nat.le_of_ble_eq_true rfl⟩) ?_
          exact hret _ _ _ dX7_run_66 (Option.some.inj h)
        · have h := itp c10 h
          refine lv_iload_n hx hb dX7_run_44 rfl (lv_at hl 0 rfl) ?_
          refine lv_goto (tgt := 66) hx hb dX7_run_45 (by decide) ?_
          exact hret _ _ _ dX7_run_66 (Option.some.inj h)
      · have h := itn c3 h
        refine lv_bipush (v := -2) hx hb dX7_run_19 (by decide) ?_
        exact hret _ _ _ dX7_run_21 (Option.some.inj h)
-- X7_likes
theorem dX7_likes_0 : decode cX7_likes 0 = .ok (.aload_n 0, 1) := by decide +kernel
theorem dX7_likes_1 : decode cX7_likes 1 = .ok (.getfield 30, 3) := by decide +kernel
theorem dX7_likes_4 : decode cX7_likes 4 = .ok (.getfield 139, 3) := by decide +kernel
theorem dX7_likes_7 : decode cX7_likes 7 = .ok (.ifCond .eq 23, 3) := by decide +kernel
theorem dX7_likes_10 : decode cX7_likes 10 = .ok (.aload_n 0, 1) := by decide +kernel
theorem dX7_likes_11 : decode cX7_likes 11 = .ok (.getfield 30, 3) := by decide +kernel
theorem dX7_likes_14 : decode cX7_likes 14 = .ok (.invokevirtual 132, 3) := by decide +kernel
theorem dX7_likes_17 : decode cX7_likes 17 = .ok (.aload_n 0, 1) := by decide +kernel
theorem dX7_likes_18 : decode cX7_likes 18 = .ok (.getfield 30, 3) := by decide +kernel
theorem dX7_likes_21 : decode cX7_likes 21 = .ok (.invokevirtual 97, 3) := by decide +kernel
theorem dX7_likes_24 : decode cX7_likes 24 = .ok (.invokestatic 174, 3) := by decide +kernel
theorem dX7_likes_27 : decode cX7_likes 27 = .ok (.goto 5, 3) := by decide +kernel
theorem dX7_likes_30 : decode cX7_likes 30 = .ok (.bipush (-2), 2) := by decide +kernel
theorem dX7_likes_32 : decode cX7_likes 32 = .ok (.ireturn, 1) := by decide +kernel
noncomputable def fX7_likes  (t_now_rows : Nat → Int32) (t_now_sizes : Nat → Int32) (t_now_told : Int32) (t_now_acts : Int32) : Option (Int32) := (if t_now_told = 0 then some (-2) else (fX1_row t_now_rows t_now_acts).bind fun r2 => (fX1_plies t_now_sizes t_now_acts).bind fun r4 => (fX3_likeNeighbours r2 r4).bind fun r6 => some r6)
set_option maxHeartbeats 4000000 in
set_option maxRecDepth 100000 in
theorem ctX7_likes (l : Launch) (g : GT) (a_t : Nat → Nat) (a_t_tape : Nat → Nat) (a_t_reader : Nat → Nat) (a_t_now : Nat → Nat) (a_t_choices : Nat → Nat) (a_t_ways : Nat → Nat) (a_t_stress : Nat → Nat) (t_now_told : Int32) (t_now_lines : Int32) (t_now_kinds : Int32) (t_now_acts : Int32) (t_now_rows : Nat → Int32) (t_now_sizes : Nat → Int32) (o : Int32) (h : fX7_likes t_now_rows t_now_sizes t_now_told t_now_acts = some o) : Met l yX7_likes (Cond.code yX7_likes cX7_likes 1 (some .int) :: Tw) ⟨2, 0, 0, 44⟩ (va_Pc [.ref ((a_t 0))] (roB g [((a_t 0), .inr (6, [.ref (a_t_tape 0), .ref (a_t_reader 0), .ref (a_t_now 0), .ref (a_t 4), .ref (a_t_choices 0), .ref (a_t_ways 0), .ref (a_t_stress 0)])), ((a_t_now 0), .inr (1, [.ref (a_t_now 1), .ref (a_t_now 2), .ref (a_t_now 3), .ref (a_t_now 4), .ref (a_t_now 5), .int t_now_told, .int t_now_lines, .int t_now_kinds, .int t_now_acts])), ((a_t_now 3), .inl (g.2.2.1 0, 31, .inl t_now_rows)), ((a_t_now 4), .inl (g.2.2.1 0, 31, .inl t_now_sizes))])) (vp_Si (fun x => x = o)) 0 0 (fun _ => False) := by
  refine ro_meti (by decide) (Nat.le_of_ble_eq_true rfl) (lv0 := [(0, .ref ((a_t 0)))]) rfl ?_
  intro p e s m args below meth c ls Q cx hret hG hP hl
  have hx := cx.1
  have hb := cx.2.1
  have hG0 := hG
  unfold fX7_likes at h
  refine lv_aload_n hx hb dX7_likes_0 rfl (lv_at hl 0 rfl) ?_
  refine xa_get (C := RX7) (T := TX7) (N := 7) cx hG hP 0 rfl rfl uX7 2 (by decide) lf_X7_30 rfl dX7_likes_1 ?_
  refine xa_getN (C := RX1) (T := TX1) (N := 9) cx hG hP 1 rfl rfl uX1 5 (by decide) nf_5 rfl dX7_likes_4 ?_
  refine lv_if_eq (tgt := 30) hx hb dX7_likes_7 (by decide) (fun c1 => ?_) (fun c1 => ?_)
  · have h := itp c1 h
    refine lv_bipush (v := -2) hx hb dX7_likes_30 (by decide) ?_
    exact hret _ _ _ dX7_likes_32 (Option.some.inj h)
  · have h := itn c1 h
    refine lv_aload_n hx hb dX7_likes_10 rfl (lv_at hl 0 rfl) ?_
    refine xa_get (C := RX7) (T := TX7) (N := 7) cx hG hP 0 rfl rfl uX7 2 (by decide) lf_X7_30 rfl dX7_likes_11 ?_
    obtain ⟨r2, hr3, h⟩ := bnd h
    refine ro_i (runVN (As := []) (rest := []) hG cx hl.1 (ctX1_row l g a_t_now t_now_told t_now_lines t_now_kinds t_now_acts t_now_rows r2 hr3) kmX1_row kvX1_row nm_25 ⟨rfl, rfl⟩ ⟨Nat.le_of_ble_eq_true rfl, Nat.le_of_ble_eq_true rfl⟩ (roV (q0 := 1) (ci := 1) hG (hP.sub [1, 2] rfl) hP rfl rfl) rfl rfl (Nat.le_of_ble_eq_true rfl) dX7_likes_14 ⟨Nat.le_of_ble_eq_true rfl, Nat.le_of_ble_eq_true rfl⟩) ?_
    refine lv_aload_n hx hb dX7_likes_17 rfl (lv_at hl 0 rfl) ?_
    refine xa_get (C := RX7) (T := TX7) (N := 7) cx hG hP 0 rfl rfl uX7 2 (by decide) lf_X7_30 rfl dX7_likes_18 ?_
    obtain ⟨r4, hr5, h⟩ := bnd h
    refine ro_i (runVN (As := []) (rest := [.int r2]) hG cx hl.1 (ctX1_plies l g a_t_now t_now_told t_now_lines t_now_kinds t_now_acts t_now_sizes r4 hr5) kmX1_plies kvX1_plies nm_17 ⟨rfl, rfl⟩ ⟨Nat.le_of_ble_eq_true rfl, Nat.le_of_ble_eq_true rfl⟩ (roV (q0 := 1) (ci := 1) hG (hP.sub [1, 3] rfl) hP rfl rfl) rfl rfl (Nat.le_of_ble_eq_true rfl) dX7_likes_21 ⟨Nat.le_of_ble_eq_true rfl, Nat.le_of_ble_eq_true rfl⟩) ?_
    obtain ⟨r6, hr7, h⟩ := bnd h
    refine ro_i (runSN (As := [.int r2, .int r4]) (rest := []) hG cx hl.1 (ctX3_likeNeighbours l g r2 r4 r6 hr7) kmX3_likeNeighbours ksX3_likeNeighbours nm_36 ⟨rfl, rfl⟩ ⟨Nat.le_of_ble_eq_true rfl, Nat.le_of_ble_eq_true rfl⟩ (roS hG (hP.sub [] rfl)) rfl rfl (Nat.le_of_ble_eq_true rfl) dX7_likes_24 ⟨Nat.le_of_ble_eq_true rfl, Nat.le_of_ble_eq_true rfl⟩) ?_
    refine lv_goto (tgt := 32) hx hb dX7_likes_27 (by decide) ?_
    exact hret _ _ _ dX7_likes_32 (Option.some.inj h)
-- X7_isLoad
theorem dX7_isLoad_0 : decode cX7_isLoad 0 = .ok (.iload_n 0, 1) := by decide +kernel
theorem dX7_isLoad_1 : decode cX7_isLoad 1 = .ok (.sipush (-999), 3) := by decide +kernel
theorem dX7_isLoad_4 : decode cX7_isLoad 4 = .ok (.if_icmp .lt 14, 3) := by decide +kernel
theorem dX7_isLoad_7 : decode cX7_isLoad 7 = .ok (.iload_n 0, 1) := by decide +kernel
theorem dX7_isLoad_8 : decode cX7_isLoad 8 = .ok (.sipush 999, 3) := by decide +kernel
theorem dX7_isLoad_11 : decode cX7_isLoad 11 = .ok (.if_icmp .gt 7, 3) := by decide +kernel
theorem dX7_isLoad_14 : decode cX7_isLoad 14 = .ok (.iconst 1, 1) := by decide +kernel
theorem dX7_isLoad_15 : decode cX7_isLoad 15 = .ok (.goto 4, 3) := by decide +kernel
theorem dX7_isLoad_18 : decode cX7_isLoad 18 = .ok (.iconst 0, 1) := by decide +kernel
theorem dX7_isLoad_19 : decode cX7_isLoad 19 = .ok (.ireturn, 1) := by decide +kernel
noncomputable def fX7_isLoad  (v0 : Int32) : Int32 := (if v0 < (-999) then (0) else (if 999 < v0 then (0) else (1)))
set_option maxHeartbeats 4000000 in
set_option maxRecDepth 100000 in
theorem ctX7_isLoad (l : Launch) (g : GT) (v0 : Int32) (o : Int32) (h : fX7_isLoad v0 = o) : Met l yX7_isLoad (Cond.code yX7_isLoad cX7_isLoad 1 (some .boolean) :: Tw) ⟨0, 0, 0, 0⟩ (va_Pc [.int v0] (roB g [])) (vp_Si (fun x => x = o ∧ (x = 0 ∨ x = 1))) 0 0 (fun _ => False) := by
  refine ro_metz (by decide) (Nat.le_of_ble_eq_true rfl) (lv0 := [(0, .int v0)]) rfl ?_
  intro p e s m args below meth c ls Q cx hret hG hP hl
  have hx := cx.1
  have hb := cx.2.1
  have hG0 := hG
  unfold fX7_isLoad at h
  refine lv_iload_n hx hb dX7_isLoad_0 rfl (lv_at hl 0 rfl) ?_
  refine lv_sipush (v := -999) hx hb dX7_isLoad_1 (by decide) ?_
  refine lv_icmp_lt (tgt := 18) hx hb dX7_isLoad_4 (by decide) (fun c1 => ?_) (fun c1 => ?_)
  · have h := itp c1 h
    refine lv_iconst (v := 0) hx hb dX7_isLoad_18 (by decide) ?_
    exact hret _ _ _ dX7_isLoad_19 (by decide) h
  · have h := itn c1 h
    refine lv_iload_n hx hb dX7_isLoad_7 rfl (lv_at hl 0 rfl) ?_
    refine lv_sipush (v := 999) hx hb dX7_isLoad_8 (by decide) ?_
    refine lv_icmp_gt (tgt := 18) hx hb dX7_isLoad_11 (by decide) (fun c2 => ?_) (fun c2 => ?_)
    · have h := itp c2 h
      refine lv_iconst (v := 0) hx hb dX7_isLoad_18 (by decide) ?_
      exact hret _ _ _ dX7_isLoad_19 (by decide) h
    · have h := itn c2 h
      refine lv_iconst (v := 1) hx hb dX7_isLoad_14 (by decide) ?_
      refine lv_goto (tgt := 19) hx hb dX7_isLoad_15 (by decide) ?_
      exact hret _ _ _ dX7_isLoad_19 (by decide) h
-- X7_areLoads
theorem dX7_areLoads_0 : decode cX7_areLoads 0 = .ok (.aload_n 0, 1) := by decide +kernel
theorem dX7_areLoads_1 : decode cX7_areLoads 1 = .ok (.getfield 30, 3) := by decide +kernel
theorem dX7_areLoads_4 : decode cX7_areLoads 4 = .ok (.getfield 139, 3) := by decide +kernel
theorem dX7_areLoads_7 : decode cX7_areLoads 7 = .ok (.ifCond .eq 28, 3) := by decide +kernel
theorem dX7_areLoads_10 : decode cX7_areLoads 10 = .ok (.iload_n 1, 1) := by decide +kernel
theorem dX7_areLoads_11 : decode cX7_areLoads 11 = .ok (.invokestatic 373, 3) := by decide +kernel
theorem dX7_areLoads_14 : decode cX7_areLoads 14 = .ok (.ifCond .eq 21, 3) := by decide +kernel
theorem dX7_areLoads_17 : decode cX7_areLoads 17 = .ok (.iload_n 2, 1) := by decide +kernel
theorem dX7_areLoads_18 : decode cX7_areLoads 18 = .ok (.invokestatic 373, 3) := by decide +kernel
theorem dX7_areLoads_21 : decode cX7_areLoads 21 = .ok (.ifCond .eq 14, 3) := by decide +kernel
theorem dX7_areLoads_24 : decode cX7_areLoads 24 = .ok (.iload_n 3, 1) := by decide +kernel
theorem dX7_areLoads_25 : decode cX7_areLoads 25 = .ok (.invokestatic 373, 3) := by decide +kernel
theorem dX7_areLoads_28 : decode cX7_areLoads 28 = .ok (.ifCond .eq 7, 3) := by decide +kernel
theorem dX7_areLoads_31 : decode cX7_areLoads 31 = .ok (.iconst 1, 1) := by decide +kernel
theorem dX7_areLoads_32 : decode cX7_areLoads 32 = .ok (.goto 4, 3) := by decide +kernel
theorem dX7_areLoads_35 : decode cX7_areLoads 35 = .ok (.iconst 0, 1) := by decide +kernel
theorem dX7_areLoads_36 : decode cX7_areLoads 36 = .ok (.ireturn, 1) := by decide +kernel
noncomputable def fX7_areLoads  (t_now_told : Int32) (v1 : Int32) (v2 : Int32) (v3 : Int32) : Int32 := (if t_now_told = 0 then (0) else (if (fX7_isLoad v1) = 0 then (0) else (if (fX7_isLoad v2) = 0 then (0) else (if (fX7_isLoad v3) = 0 then (0) else (1)))))
set_option maxHeartbeats 4000000 in
set_option maxRecDepth 100000 in
theorem ctX7_areLoads (l : Launch) (g : GT) (a_t : Nat → Nat) (a_t_tape : Nat → Nat) (a_t_reader : Nat → Nat) (a_t_now : Nat → Nat) (a_t_choices : Nat → Nat) (a_t_ways : Nat → Nat) (a_t_stress : Nat → Nat) (t_now_told : Int32) (t_now_lines : Int32) (t_now_kinds : Int32) (t_now_acts : Int32) (v1 : Int32) (v2 : Int32) (v3 : Int32) (o : Int32) (h : fX7_areLoads t_now_told v1 v2 v3 = o) : Met l yX7_areLoads (Cond.code yX7_areLoads cX7_areLoads 4 (some .boolean) :: Tw) ⟨1, 0, 0, 20⟩ (va_Pc [.ref ((a_t 0)), .int v1, .int v2, .int v3] (roB g [((a_t 0), .inr (6, [.ref (a_t_tape 0), .ref (a_t_reader 0), .ref (a_t_now 0), .ref (a_t 4), .ref (a_t_choices 0), .ref (a_t_ways 0), .ref (a_t_stress 0)])), ((a_t_now 0), .inr (1, [.ref (a_t_now 1), .ref (a_t_now 2), .ref (a_t_now 3), .ref (a_t_now 4), .ref (a_t_now 5), .int t_now_told, .int t_now_lines, .int t_now_kinds, .int t_now_acts]))])) (vp_Si (fun x => x = o ∧ (x = 0 ∨ x = 1))) 0 0 (fun _ => False) := by
  refine ro_metz (by decide) (Nat.le_of_ble_eq_true rfl) (lv0 := [(0, .ref ((a_t 0))), (1, .int v1), (2, .int v2), (3, .int v3)]) rfl ?_
  intro p e s m args below meth c ls Q cx hret hG hP hl
  have hx := cx.1
  have hb := cx.2.1
  have hG0 := hG
  unfold fX7_areLoads at h
  refine lv_aload_n hx hb dX7_areLoads_0 rfl (lv_at hl 0 rfl) ?_
  refine xa_get (C := RX7) (T := TX7) (N := 7) cx hG hP 0 rfl rfl uX7 2 (by decide) lf_X7_30 rfl dX7_areLoads_1 ?_
  refine xa_getN (C := RX1) (T := TX1) (N := 9) cx hG hP 1 rfl rfl uX1 5 (by decide) nf_5 rfl dX7_areLoads_4 ?_
  refine lv_if_eq (tgt := 35) hx hb dX7_areLoads_7 (by decide) (fun c1 => ?_) (fun c1 => ?_)
  · have h := itp c1 h
    refine lv_iconst (v := 0) hx hb dX7_areLoads_35 (by decide) ?_
    exact hret _ _ _ dX7_areLoads_36 (by decide) h
  · have h := itn c1 h
    refine lv_iload_n hx hb dX7_areLoads_10 rfl (lv_at hl 1 rfl) ?_
    refine ro_z (runS (As := [.int v1]) (rest := []) cx hl.1 (ctX7_isLoad l g v1 (fX7_isLoad v1) rfl) kmX7_isLoad ksX7_isLoad lm_X7_373 ⟨rfl, rfl⟩ ⟨Nat.le_of_ble_eq_true rfl, Nat.le_of_ble_eq_true rfl⟩ (roS hG (hP.sub [] rfl)) rfl rfl (Nat.le_of_ble_eq_true rfl) dX7_areLoads_11 ⟨Nat.le_of_ble_eq_true rfl, Nat.le_of_ble_eq_true rfl⟩) (fun hz2 => ?_)
    refine lv_if_eq (tgt := 35) hx hb dX7_areLoads_14 (by decide) (fun c3 => ?_) (fun c3 => ?_)
    · have h := itp c3 h
      refine lv_iconst (v := 0) hx hb dX7_areLoads_35 (by decide) ?_
      exact hret _ _ _ dX7_areLoads_36 (by decide) h
    · have h := itn c3 h
      refine lv_iload_n hx hb dX7_areLoads_17 rfl (lv_at hl 2 rfl) ?_
      refine ro_z (runS (As := [.int v2]) (rest := []) cx hl.1 (ctX7_isLoad l g v2 (fX7_isLoad v2) rfl) kmX7_isLoad ksX7_isLoad lm_X7_373 ⟨rfl, rfl⟩ ⟨Nat.le_of_ble_eq_true rfl, Nat.le_of_ble_eq_true rfl⟩ (roS hG (hP.sub [] rfl)) rfl rfl (Nat.le_of_ble_eq_true rfl) dX7_areLoads_18 ⟨Nat.le_of_ble_eq_true rfl, Nat.le_of_ble_eq_true rfl⟩) (fun hz4 => ?_)
      refine lv_if_eq (tgt := 35) hx hb dX7_areLoads_21 (by decide) (fun c5 => ?_) (fun c5 => ?_)
      · have h := itp c5 h
        refine lv_iconst (v := 0) hx hb dX7_areLoads_35 (by decide) ?_
        exact hret _ _ _ dX7_areLoads_36 (by decide) h
      · have h := itn c5 h
        refine lv_iload_n hx hb dX7_areLoads_24 rfl (lv_at hl 3 rfl) ?_
        refine ro_z (runS (As := [.int v3]) (rest := []) cx hl.1 (ctX7_isLoad l g v3 (fX7_isLoad v3) rfl) kmX7_isLoad ksX7_isLoad lm_X7_373 ⟨rfl, rfl⟩ ⟨Nat.le_of_ble_eq_true rfl, Nat.le_of_ble_eq_true rfl⟩ (roS hG (hP.sub [] rfl)) rfl rfl (Nat.le_of_ble_eq_true rfl) dX7_areLoads_25 ⟨Nat.le_of_ble_eq_true rfl, Nat.le_of_ble_eq_true rfl⟩) (fun hz6 => ?_)
        refine lv_if_eq (tgt := 35) hx hb dX7_areLoads_28 (by decide) (fun c7 => ?_) (fun c7 => ?_)
        · have h := itp c7 h
          refine lv_iconst (v := 0) hx hb dX7_areLoads_35 (by decide) ?_
          exact hret _ _ _ dX7_areLoads_36 (by decide) h
        · have h := itn c7 h
          refine lv_iconst (v := 1) hx hb dX7_areLoads_31 (by decide) ?_
          refine lv_goto (tgt := 36) hx hb dX7_areLoads_32 (by decide) ?_
          exact hret _ _ _ dX7_areLoads_36 (by decide) h
-- X7_isFlat
theorem dX7_isFlat_0 : decode cX7_isFlat 0 = .ok (.aload_n 0, 1) := by decide +kernel
theorem dX7_isFlat_1 : decode cX7_isFlat 1 = .ok (.getfield 30, 3) := by decide +kernel
theorem dX7_isFlat_4 : decode cX7_isFlat 4 = .ok (.aload_n 0, 1) := by decide +kernel
theorem dX7_isFlat_5 : decode cX7_isFlat 5 = .ok (.getfield 30, 3) := by decide +kernel
theorem dX7_isFlat_8 : decode cX7_isFlat 8 = .ok (.invokevirtual 132, 3) := by decide +kernel
theorem dX7_isFlat_11 : decode cX7_isFlat 11 = .ok (.aload_n 0, 1) := by decide +kernel
theorem dX7_isFlat_12 : decode cX7_isFlat 12 = .ok (.getfield 30, 3) := by decide +kernel
theorem dX7_isFlat_15 : decode cX7_isFlat 15 = .ok (.invokevirtual 97, 3) := by decide +kernel
theorem dX7_isFlat_18 : decode cX7_isFlat 18 = .ok (.invokevirtual 152, 3) := by decide +kernel
theorem dX7_isFlat_21 : decode cX7_isFlat 21 = .ok (.iconst 2, 1) := by decide +kernel
theorem dX7_isFlat_22 : decode cX7_isFlat 22 = .ok (.iand, 1) := by decide +kernel
theorem dX7_isFlat_23 : decode cX7_isFlat 23 = .ok (.ifCond .eq 7, 3) := by decide +kernel
theorem dX7_isFlat_26 : decode cX7_isFlat 26 = .ok (.iconst 1, 1) := by decide +kernel
theorem dX7_isFlat_27 : decode cX7_isFlat 27 = .ok (.goto 4, 3) := by decide +kernel
theorem dX7_isFlat_30 : decode cX7_isFlat 30 = .ok (.iconst 0, 1) := by decide +kernel
theorem dX7_isFlat_31 : decode cX7_isFlat 31 = .ok (.ireturn, 1) := by decide +kernel
noncomputable def fX7_isFlat  (t_now_cells : Nat → Int32) (t_now_rows : Nat → Int32) (t_now_sizes : Nat → Int32) (t_now_acts : Int32) : Option (Int32) := (fX1_row t_now_rows t_now_acts).bind fun r1 => (fX1_plies t_now_sizes t_now_acts).bind fun r3 => (fX1_shape t_now_cells r1 r3).bind fun r5 => (if (r5 &&& 2) = 0 then some (0) else some (1))
set_option maxHeartbeats 4000000 in
set_option maxRecDepth 100000 in
theorem ctX7_isFlat (l : Launch) (g : GT) (a_t : Nat → Nat) (a_t_tape : Nat → Nat) (a_t_reader : Nat → Nat) (a_t_now : Nat → Nat) (a_t_choices : Nat → Nat) (a_t_ways : Nat → Nat) (a_t_stress : Nat → Nat) (t_now_told : Int32) (t_now_lines : Int32) (t_now_kinds : Int32) (t_now_acts : Int32) (t_now_cells : Nat → Int32) (t_now_rows : Nat → Int32) (t_now_sizes : Nat → Int32) (o : Int32) (h : fX7_isFlat t_now_cells t_now_rows t_now_sizes t_now_acts = some o) : Met l yX7_isFlat (Cond.code yX7_isFlat cX7_isFlat 1 (some .boolean) :: Tw) ⟨4, 0, 0, 99⟩ (va_Pc [.ref ((a_t 0))] (roB g [((a_t 0), .inr (6, [.ref (a_t_tape 0), .ref (a_t_reader 0), .ref (a_t_now 0), .ref (a_t 4), .ref (a_t_choices 0), .ref (a_t_ways 0), .ref (a_t_stress 0)])), ((a_t_now 0), .inr (1, [.ref (a_t_now 1), .ref (a_t_now 2), .ref (a_t_now 3), .ref (a_t_now 4), .ref (a_t_now 5), .int t_now_told, .int t_now_lines, .int t_now_kinds, .int t_now_acts])), ((a_t_now 2), .inl (g.2.2.1 0, 144, .inl t_now_cells)), ((a_t_now 3), .inl (g.2.2.1 0, 31, .inl t_now_rows)), ((a_t_now 4), .inl (g.2.2.1 0, 31, .inl t_now_sizes))])) (vp_Si (fun x => x = o ∧ (x = 0 ∨ x = 1))) 0 0 (fun _ => False) := by
  refine ro_metz (by decide) (Nat.le_of_ble_eq_true rfl) (lv0 := [(0, .ref ((a_t 0)))]) rfl ?_
  intro p e s m args below meth c ls Q cx hret hG hP hl
  have hx := cx.1
  have hb := cx.2.1
  have hG0 := hG
  unfold fX7_isFlat at h
  refine lv_aload_n hx hb dX7_isFlat_0 rfl (lv_at hl 0 rfl) ?_
  refine xa_get (C := RX7) (T := TX7) (N := 7) cx hG hP 0 rfl rfl uX7 2 (by decide) lf_X7_30 rfl dX7_isFlat_1 ?_
  refine lv_aload_n hx hb dX7_isFlat_4 rfl (lv_at hl 0 rfl) ?_
  refine xa_get (C := RX7) (T := TX7) (N := 7) cx hG hP 0 rfl rfl uX7 2 (by decide) lf_X7_30 rfl dX7_isFlat_5 ?_
  obtain ⟨r1, hr2, h⟩ := bnd h
  refine ro_i (runVN (As := []) (rest := [.ref ((a_t_now 0))]) hG cx hl.1 (ctX1_row l g a_t_now t_now_told t_now_lines t_now_kinds t_now_acts t_now_rows r1 hr2) kmX1_row kvX1_row nm_25 ⟨rfl, rfl⟩ ⟨Nat.le_of_ble_eq_true rfl, Nat.le_of_ble_eq_true rfl⟩ (roV (q0 := 1) (ci := 1) hG (hP.sub [1, 3] rfl) hP rfl rfl) rfl rfl (Nat.le_of_ble_eq_true rfl) dX7_isFlat_8 ⟨Nat.le_of_ble_eq_true rfl, Nat.le_of_ble_eq_true rfl⟩) ?_
  refine lv_aload_n hx hb dX7_isFlat_11 rfl (lv_at hl 0 rfl) ?_
  refine xa_get (C := RX7) (T := TX7) (N := 7) cx hG hP 0 rfl rfl uX7 2 (by decide) lf_X7_30 rfl dX7_isFlat_12 ?_
  obtain ⟨r3, hr4, h⟩ := bnd h
  refine ro_i (runVN (As := []) (rest := [.int r1, .ref ((a_t_now 0))]) hG cx hl.1 (ctX1_plies l g a_t_now t_now_told t_now_lines t_now_kinds t_now_acts t_now_sizes r3 hr4) kmX1_plies kvX1_plies nm_17 ⟨rfl, rfl⟩ ⟨Nat.le_of_ble_eq_true rfl, Nat.le_of_ble_eq_true rfl⟩ (roV (q0 := 1) (ci := 1) hG (hP.sub [1, 4] rfl) hP rfl rfl) rfl rfl (Nat.le_of_ble_eq_true rfl) dX7_isFlat_15 ⟨Nat.le_of_ble_eq_true rfl, Nat.le_of_ble_eq_true rfl⟩) ?_
  obtain ⟨r5, hr6, h⟩ := bnd h
  refine ro_i (runVN (As := [.int r1, .int r3]) (rest := []) hG cx hl.1 (ctX1_shape l g a_t_now t_now_told t_now_lines t_now_kinds t_now_acts t_now_cells r1 r3 r5 hr6) kmX1_shape kvX1_shape nm_29 ⟨rfl, rfl⟩ ⟨Nat.le_of_ble_eq_true rfl, Nat.le_of_ble_eq_true rfl⟩ (roV (q0 := 1) (ci := 1) hG (hP.sub [1, 2] rfl) hP rfl rfl) rfl rfl (Nat.le_of_ble_eq_true rfl) dX7_isFlat_18 ⟨Nat.le_of_ble_eq_true rfl, Nat.le_of_ble_eq_true rfl⟩) ?_
  refine lv_iconst (v := 2) hx hb dX7_isFlat_21 (by decide) ?_
  refine lv_iand hx hb dX7_isFlat_22 ?_
  refine lv_if_eq (tgt := 30) hx hb dX7_isFlat_23 (by decide) (fun c7 => ?_) (fun c7 => ?_)
  · have h := itp c7 h
    refine lv_iconst (v := 0) hx hb dX7_isFlat_30 (by decide) ?_
    exact hret _ _ _ dX7_isFlat_31 (by decide) (Option.some.inj h)
  · have h := itn c7 h
    refine lv_iconst (v := 1) hx hb dX7_isFlat_26 (by decide) ?_
    refine lv_goto (tgt := 31) hx hb dX7_isFlat_27 (by decide) ?_
    exact hret _ _ _ dX7_isFlat_31 (by decide) (Option.some.inj h)
-- X7_yielding
theorem dX7_yielding_0 : decode cX7_yielding 0 = .ok (.aload_n 0, 1) := by decide +kernel
theorem dX7_yielding_1 : decode cX7_yielding 1 = .ok (.getfield 55, 3) := by decide +kernel
theorem dX7_yielding_4 : decode cX7_yielding 4 = .ok (.aload_n 0, 1) := by decide +kernel
theorem dX7_yielding_5 : decode cX7_yielding 5 = .ok (.getfield 30, 3) := by decide +kernel
theorem dX7_yielding_8 : decode cX7_yielding 8 = .ok (.iload_n 1, 1) := by decide +kernel
theorem dX7_yielding_9 : decode cX7_yielding 9 = .ok (.iconst 0, 1) := by decide +kernel
theorem dX7_yielding_10 : decode cX7_yielding 10 = .ok (.invokevirtual 185, 3) := by decide +kernel
theorem dX7_yielding_13 : decode cX7_yielding 13 = .ok (.aload_n 0, 1) := by decide +kernel
theorem dX7_yielding_14 : decode cX7_yielding 14 = .ok (.invokevirtual 189, 3) := by decide +kernel
theorem dX7_yielding_17 : decode cX7_yielding 17 = .ok (.ifCond .eq 15, 3) := by decide +kernel
theorem dX7_yielding_20 : decode cX7_yielding 20 = .ok (.aload_n 0, 1) := by decide +kernel
theorem dX7_yielding_21 : decode cX7_yielding 21 = .ok (.getfield 55, 3) := by decide +kernel
theorem dX7_yielding_24 : decode cX7_yielding 24 = .ok (.getfield 192, 3) := by decide +kernel
theorem dX7_yielding_27 : decode cX7_yielding 27 = .ok (.lconst 0, 1) := by decide +kernel
theorem dX7_yielding_28 : decode cX7_yielding 28 = .ok (.lcmp, 1) := by decide +kernel
theorem dX7_yielding_29 : decode cX7_yielding 29 = .ok (.ifCond .ne 7, 3) := by decide +kernel
theorem dX7_yielding_32 : decode cX7_yielding 32 = .ok (.ldc2_w 196, 3) := by decide +kernel
theorem dX7_yielding_35 : decode cX7_yielding 35 = .ok (.lreturn, 1) := by decide +kernel
theorem dX7_yielding_36 : decode cX7_yielding 36 = .ok (.aload_n 0, 1) := by decide +kernel
theorem dX7_yielding_37 : decode cX7_yielding 37 = .ok (.getfield 55, 3) := by decide +kernel
theorem dX7_yielding_40 : decode cX7_yielding 40 = .ok (.iload 4, 2) := by decide +kernel
theorem dX7_yielding_42 : decode cX7_yielding 42 = .ok (.iload 5, 2) := by decide +kernel
theorem dX7_yielding_44 : decode cX7_yielding 44 = .ok (.iload 6, 2) := by decide +kernel
theorem dX7_yielding_46 : decode cX7_yielding 46 = .ok (.invokevirtual 198, 3) := by decide +kernel
theorem dX7_yielding_49 : decode cX7_yielding 49 = .ok (.aload_n 0, 1) := by decide +kernel
theorem dX7_yielding_50 : decode cX7_yielding 50 = .ok (.getfield 55, 3) := by decide +kernel
theorem dX7_yielding_53 : decode cX7_yielding 53 = .ok (.iload_n 2, 1) := by decide +kernel
theorem dX7_yielding_54 : decode cX7_yielding 54 = .ok (.invokevirtual 202, 3) := by decide +kernel
theorem dX7_yielding_57 : decode cX7_yielding 57 = .ok (.aload_n 0, 1) := by decide +kernel
theorem dX7_yielding_58 : decode cX7_yielding 58 = .ok (.getfield 55, 3) := by decide +kernel
theorem dX7_yielding_61 : decode cX7_yielding 61 = .ok (.getfield 192, 3) := by decide +kernel
theorem dX7_yielding_64 : decode cX7_yielding 64 = .ok (.iload_n 3, 1) := by decide +kernel
theorem dX7_yielding_65 : decode cX7_yielding 65 = .ok (.invokestatic 205, 3) := by decide +kernel
theorem dX7_yielding_68 : decode cX7_yielding 68 = .ok (.lreturn, 1) := by decide +kernel
noncomputable def fX7_yielding  (t_now_cells : Nat → Int32) (t_now_rows : Nat → Int32) (t_now_sizes : Nat → Int32) (t_now_acts : Int32) (t_stress_cells : Nat → Int64) (t_stress_parts : Nat → Int64) (t_stress_det : Int64) (v1 : Int32) (v2 : Int32) (v3 : Int32) (v4 : Int32) (v5 : Int32) (v6 : Int32) : Option (Int64 × (Nat → Int64) × (Nat → Int64) × Int64) := ob2 (fX4_take t_stress_cells t_stress_det t_now_cells t_now_rows t_now_sizes t_now_acts v1 0) fun w2 w3 => (fX7_isFlat t_now_cells t_now_rows t_now_sizes t_now_acts).bind fun r5 => (if r5 = 0 then some ((-9223372036854775807), w2, t_stress_parts, w3) else (if (lg_cmp w3 0) = 0 then some ((-9223372036854775807), w2, t_stress_parts, w3) else (fX4_solve w2 t_stress_parts v4 v5 v6).bind fun w11 => (fX4_part w11 v2).bind fun r13 => (fX4_inLowestTerms r13 w3 v3).bind fun r15 => some (r15, w2, w11, w3)))
set_option maxHeartbeats 4000000 in
set_option maxRecDepth 100000 in
theorem ctX7_yielding (l : Launch) (g : GT) (sz : Nat) (a_t : Nat → Nat) (a_t_tape : Nat → Nat) (a_t_reader : Nat → Nat) (a_t_now : Nat → Nat) (a_t_choices : Nat → Nat) (a_t_ways : Nat → Nat) (a_t_stress : Nat → Nat) (t_now_told : Int32) (t_now_lines : Int32) (t_now_kinds : Int32) (t_now_acts : Int32) (t_now_cells : Nat → Int32) (t_now_rows : Nat → Int32) (t_now_sizes : Nat → Int32) (t_stress_det : Int64) (t_stress_cells : Nat → Int64) (t_stress_parts : Nat → Int64) (v1 : Int32) (v2 : Int32) (v3 : Int32) (v4 : Int32) (v5 : Int32) (v6 : Int32) (o : Int64) (o_t_stress_cells : Nat → Int64) (o_t_stress_parts : Nat → Int64) (o_t_stress_det : Int64) (h : fX7_yielding t_now_cells t_now_rows t_now_sizes t_now_acts t_stress_cells t_stress_parts t_stress_det v1 v2 v3 v4 v5 v6 = some (o, o_t_stress_cells, o_t_stress_parts, o_t_stress_det)) : Met l yX7_yielding (Cond.code yX7_yielding cX7_yielding 7 (some .long) :: Tw) ⟨5, 0, 0, 119⟩ (va_Pc [.ref ((a_t 0)), .int v1, .int v2, .int v3, .int v4, .int v5, .int v6] (rwB g [((a_t 0), .inr (6, [.ref (a_t_tape 0), .ref (a_t_reader 0), .ref (a_t_now 0), .ref (a_t 4), .ref (a_t_choices 0), .ref (a_t_ways 0), .ref (a_t_stress 0)])), ((a_t_now 0), .inr (1, [.ref (a_t_now 1), .ref (a_t_now 2), .ref (a_t_now 3), .ref (a_t_now 4), .ref (a_t_now 5), .int t_now_told, .int t_now_lines, .int t_now_kinds, .int t_now_acts])), ((a_t_now 2), .inl (g.2.2.1 0, 144, .inl t_now_cells)), ((a_t_now 3), .inl (g.2.2.1 0, 31, .inl t_now_rows)), ((a_t_now 4), .inl (g.2.2.1 0, 31, .inl t_now_sizes)), ((a_t_stress 0), .inr (3, [.ref (a_t_stress 1), .ref (a_t_stress 2), .long t_stress_det])), ((a_t_stress 1), .inl (g.2.2.1 1, 9, .inr (.inl t_stress_cells))), ((a_t_stress 2), .inl (g.2.2.1 1, 3, .inr (.inl t_stress_parts)))] sz)) (va_Ql (fun x (_ : Nat → Nat) => x = o) (fun u => rwE g (va_A [((a_t 0), .inr (6, [.ref (a_t_tape 0), .ref (a_t_reader 0), .ref (a_t_now 0), .ref (a_t 4), .ref (a_t_choices 0), .ref (a_t_ways 0), .ref (a_t_stress 0)])), ((a_t_now 0), .inr (1, [.ref (a_t_now 1), .ref (a_t_now 2), .ref (a_t_now 3), .ref (a_t_now 4), .ref (a_t_now 5), .int t_now_told, .int t_now_lines, .int t_now_kinds, .int t_now_acts])), ((a_t_now 2), .inl (g.2.2.1 0, 144, .inl t_now_cells)), ((a_t_now 3), .inl (g.2.2.1 0, 31, .inl t_now_rows)), ((a_t_now 4), .inl (g.2.2.1 0, 31, .inl t_now_sizes)), ((a_t_stress 0), .inr (3, [.ref (a_t_stress 1), .ref (a_t_stress 2), .long t_stress_det])), ((a_t_stress 1), .inl (g.2.2.1 1, 9, .inr (.inl t_stress_cells))), ((a_t_stress 2), .inl (g.2.2.1 1, 3, .inr (.inl t_stress_parts)))] sz) [((a_t 0), .inr (6, [.ref (a_t_tape 0), .ref (a_t_reader 0), .ref (a_t_now 0), .ref (a_t 4), .ref (a_t_choices 0), .ref (a_t_ways 0), .ref (a_t_stress 0)])), ((a_t_now 0), .inr (1, [.ref (a_t_now 1), .ref (a_t_now 2), .ref (a_t_now 3), .ref (a_t_now 4), .ref (a_t_now 5), .int t_now_told, .int t_now_lines, .int t_now_kinds, .int t_now_acts])), ((a_t_now 2), .inl (g.2.2.1 0, 144, .inl t_now_cells)), ((a_t_now 3), .inl (g.2.2.1 0, 31, .inl t_now_rows)), ((a_t_now 4), .inl (g.2.2.1 0, 31, .inl t_now_sizes)), ((a_t_stress 0), .inr (3, [.ref (a_t_stress 1), .ref (a_t_stress 2), .long o_t_stress_det])), ((a_t_stress 1), .inl (g.2.2.1 1, 9, .inr (.inl o_t_stress_cells))), ((a_t_stress 2), .inl (g.2.2.1 1, 3, .inr (.inl o_t_stress_parts)))]) (va_A [((a_t 0), .inr (6, [.ref (a_t_tape 0), .ref (a_t_reader 0), .ref (a_t_now 0), .ref (a_t 4), .ref (a_t_choices 0), .ref (a_t_ways 0), .ref (a_t_stress 0)])), ((a_t_now 0), .inr (1, [.ref (a_t_now 1), .ref (a_t_now 2), .ref (a_t_now 3), .ref (a_t_now 4), .ref (a_t_now 5), .int t_now_told, .int t_now_lines, .int t_now_kinds, .int t_now_acts])), ((a_t_now 2), .inl (g.2.2.1 0, 144, .inl t_now_cells)), ((a_t_now 3), .inl (g.2.2.1 0, 31, .inl t_now_rows)), ((a_t_now 4), .inl (g.2.2.1 0, 31, .inl t_now_sizes)), ((a_t_stress 0), .inr (3, [.ref (a_t_stress 1), .ref (a_t_stress 2), .long t_stress_det])), ((a_t_stress 1), .inl (g.2.2.1 1, 9, .inr (.inl t_stress_cells))), ((a_t_stress 2), .inl (g.2.2.1 1, 3, .inr (.inl t_stress_parts)))] sz)) 0 0 (va_A [((a_t 0), .inr (6, [.ref (a_t_tape 0), .ref (a_t_reader 0), .ref (a_t_now 0), .ref (a_t 4), .ref (a_t_choices 0), .ref (a_t_ways 0), .ref (a_t_stress 0)])), ((a_t_now 0), .inr (1, [.ref (a_t_now 1), .ref (a_t_now 2), .ref (a_t_now 3), .ref (a_t_now 4), .ref (a_t_now 5), .int t_now_told, .int t_now_lines, .int t_now_kinds, .int t_now_acts])), ((a_t_now 2), .inl (g.2.2.1 0, 144, .inl t_now_cells)), ((a_t_now 3), .inl (g.2.2.1 0, 31, .inl t_now_rows)), ((a_t_now 4), .inl (g.2.2.1 0, 31, .inl t_now_sizes)), ((a_t_stress 0), .inr (3, [.ref (a_t_stress 1), .ref (a_t_stress 2), .long t_stress_det])), ((a_t_stress 1), .inl (g.2.2.1 1, 9, .inr (.inl t_stress_cells))), ((a_t_stress 2), .inl (g.2.2.1 1, 3, .inr (.inl t_stress_parts)))] sz) := by
  refine rw_metl (by decide) (Nat.le_of_ble_eq_true rfl) (lv0 := [(0, .ref ((a_t 0))), (1, .int v1), (2, .int v2), (3, .int v3), (4, .int v4), (5, .int v5), (6, .int v6)]) rfl ?_
  intro p e s m args below meth c ls Q A cx hret hG hAb hb0 hA hP hD hl
  have hx := cx.1
  have hb := cx.2.1
  have hG0 := hG
  have hGk : ∀ {H : Heap} {locs : List Loc}, va_S A s.heap H locs → GE g s H := fun hS => hG0.keptS hAb hS
  have hSb : ∀ {H : Heap} {locs : List Loc}, va_S A s.heap H locs → va_S (fun a => g.1 ≤ a) s.heap H locs := fun hS => ⟨hS.1, fun q h1 h2 => hS.2.1 q h1 (fun z => h2 (hAb q z)), fun l hl => hAb _ (hS.2.2 l hl)⟩
  have hS : va_S A s.heap s.heap [] := va_S.rf
  have hrt : ∀ (u : Nat → Nat) (pc : Nat) (ls : Array Slot) (v : Int64) (x_t_stress_cells : Nat → Int64) (x_t_stress_parts : Nat → Int64) (x_t_stress_det : Int64) (H : Heap) (locs : List Loc), decode cX7_yielding pc = .ok (.lreturn, 1) → some (v, x_t_stress_cells, x_t_stress_parts, x_t_stress_det) = some (o, o_t_stress_cells, o_t_stress_parts, o_t_stress_det) → va_P g.2.1 vwCl [((a_t 0), .inr (6, [.ref (a_t_tape 0), .ref (a_t_reader 0), .ref (a_t_now 0), .ref (a_t 4), .ref (a_t_choices 0), .ref (a_t_ways 0), .ref (a_t_stress 0)])), ((a_t_now 0), .inr (1, [.ref (a_t_now 1), .ref (a_t_now 2), .ref (a_t_now 3), .ref (a_t_now 4), .ref (a_t_now 5), .int t_now_told, .int t_now_lines, .int t_now_kinds, .int t_now_acts])), ((a_t_now 2), .inl (g.2.2.1 0, 144, .inl t_now_cells)), ((a_t_now 3), .inl (g.2.2.1 0, 31, .inl t_now_rows)), ((a_t_now 4), .inl (g.2.2.1 0, 31, .inl t_now_sizes)), ((a_t_stress 0), .inr (3, [.ref (a_t_stress 1), .ref (a_t_stress 2), .long x_t_stress_det])), ((a_t_stress 1), .inl (g.2.2.1 1, 9, .inr (.inl x_t_stress_cells))), ((a_t_stress 2), .inl (g.2.2.1 1, 3, .inr (.inl x_t_stress_parts)))] H → va_D A [((a_t 0), .inr (6, [.ref (a_t_tape 0), .ref (a_t_reader 0), .ref (a_t_now 0), .ref (a_t 4), .ref (a_t_choices 0), .ref (a_t_ways 0), .ref (a_t_stress 0)])), ((a_t_now 0), .inr (1, [.ref (a_t_now 1), .ref (a_t_now 2), .ref (a_t_now 3), .ref (a_t_now 4), .ref (a_t_now 5), .int t_now_told, .int t_now_lines, .int t_now_kinds, .int t_now_acts])), ((a_t_now 2), .inl (g.2.2.1 0, 144, .inl t_now_cells)), ((a_t_now 3), .inl (g.2.2.1 0, 31, .inl t_now_rows)), ((a_t_now 4), .inl (g.2.2.1 0, 31, .inl t_now_sizes)), ((a_t_stress 0), .inr (3, [.ref (a_t_stress 1), .ref (a_t_stress 2), .long x_t_stress_det])), ((a_t_stress 1), .inl (g.2.2.1 1, 9, .inr (.inl x_t_stress_cells))), ((a_t_stress 2), .inl (g.2.2.1 1, 3, .inr (.inl x_t_stress_parts)))] → va_S A s.heap H locs → W p l e ⟨5, 0, 0, 119⟩ s m args below meth c H locs 0 0 Q (F0 m pc ls [.long v]) := by
    intro u pc ls v x_t_stress_cells x_t_stress_parts x_t_stress_det H locs hd h hP hD hS
    cases h
    exact hret u _ _ _ _ _ hd rfl hP hD hS
  unfold fX7_yielding at h
  refine lv_aload_n hx hb dX7_yielding_0 rfl (lv_at hl 0 rfl) ?_
  refine xa_get (C := RX7) (T := TX7) (N := 7) cx hG hP 0 rfl rfl uX7 6 (by decide) lf_X7_55 rfl dX7_yielding_1 ?_
  refine lv_aload_n hx hb dX7_yielding_4 rfl (lv_at hl 0 rfl) ?_
  refine xa_get (C := RX7) (T := TX7) (N := 7) cx hG hP 0 rfl rfl uX7 2 (by decide) lf_X7_30 rfl dX7_yielding_5 ?_
  refine lv_iload_n hx hb dX7_yielding_8 rfl (lv_at hl 1 rfl) ?_
  refine lv_iconst (v := 0) hx hb dX7_yielding_9 (by decide) ?_
  obtain ⟨w2, w3, hr1, h⟩ := ob2_out h
  refine rw_v (WN := fun u4 => [((a_t 0), .inr (6, [.ref (a_t_tape 0), .ref (a_t_reader 0), .ref (a_t_now 0), .ref (a_t 4), .ref (a_t_choices 0), .ref (a_t_ways 0), .ref (a_t_stress 0)])), ((a_t_stress 2), .inl (g.2.2.1 1, 3, .inr (.inl t_stress_parts))), ((a_t_stress 0), .inr (3, [.ref (a_t_stress 1), .ref (a_t_stress 2), .long w3])), ((a_t_stress 1), .inl (g.2.2.1 1, 9, .inr (.inl w2))), ((a_t_now 0), .inr (1, [.ref (a_t_now 1), .ref (a_t_now 2), .ref (a_t_now 3), .ref (a_t_now 4), .ref (a_t_now 5), .int t_now_told, .int t_now_lines, .int t_now_kinds, .int t_now_acts])), ((a_t_now 2), .inl (g.2.2.1 0, 144, .inl t_now_cells)), ((a_t_now 3), .inl (g.2.2.1 0, 31, .inl t_now_rows)), ((a_t_now 4), .inl (g.2.2.1 0, 31, .inl t_now_sizes))]) (wr := [((a_t 0), .inr (6, [.ref (a_t_tape 0), .ref (a_t_reader 0), .ref (a_t_now 0), .ref (a_t 4), .ref (a_t_choices 0), .ref (a_t_ways 0), .ref (a_t_stress 0)])), ((a_t_stress 2), .inl (g.2.2.1 1, 3, .inr (.inl t_stress_parts)))]) (runVN (As := [.ref ((a_t_now 0)), .int v1, .int (0)]) (rest := []) hG cx hl.1 (ctX4_take l g s.heap.size a_t_stress a_t_now t_stress_det t_stress_cells t_now_told t_now_lines t_now_kinds t_now_acts t_now_cells t_now_rows t_now_sizes v1 (0) w2 w3 hr1) kmX4_take kvX4_take nm_37 ⟨rfl, rfl⟩ ⟨Nat.le_of_ble_eq_true rfl, Nat.le_of_ble_eq_true rfl⟩ (rwV (q0 := 5) (ci := 3) hG (hP.sub [5, 6, 1, 2, 3, 4] rfl) (hD.sub [5, 6, 1, 2, 3, 4] (by decide) rfl) hAb hb0 hS hP rfl rfl) rfl rfl (Nat.le_of_ble_eq_true rfl) dX7_yielding_10 ⟨Nat.le_of_ble_eq_true rfl, Nat.le_of_ble_eq_true rfl⟩) hP hD hS hA [5, 6, 1, 2, 3, 4] [0, 7] rfl rfl (by decide) (by decide) (fun _ => rfl) (fun u4 H locs hP hD hS => ?_)
  have hG := hGk hS
  refine lv_aload_n hx hb dX7_yielding_13 rfl (lv_at hl 0 rfl) ?_
  obtain ⟨r5, hr6, h⟩ := bnd h
  refine ro_z (runV (As := []) (rest := []) cx hl.1 (ctX7_isFlat l g a_t a_t_tape a_t_reader a_t_now a_t_choices a_t_ways a_t_stress t_now_told t_now_lines t_now_kinds t_now_acts t_now_cells t_now_rows t_now_sizes r5 hr6) kmX7_isFlat kvX7_isFlat lm_X7_189 ⟨rfl, rfl⟩ ⟨Nat.le_of_ble_eq_true rfl, Nat.le_of_ble_eq_true rfl⟩ (roV (q0 := 0) (ci := 6) hG (hP.sub [0, 4, 5, 6, 7] rfl) hP rfl rfl) rfl rfl (Nat.le_of_ble_eq_true rfl) dX7_yielding_14 ⟨Nat.le_of_ble_eq_true rfl, Nat.le_of_ble_eq_true rfl⟩) (fun hz7 => ?_)
  refine lv_if_eq (tgt := 32) hx hb dX7_yielding_17 (by decide) (fun c8 => ?_) (fun c8 => ?_)
  · have h := itp c8 h
    refine lv_ldc2 (own := RX7) (v := -9223372036854775807) hx hb cx.2.2.2.1 (cx.2.2.2.2 _ cl_X7_196) dX7_yielding_32 ?_
    exact hrt (fun _ => 0) _ _ ((-9223372036854775807)) w2 t_stress_parts w3 _ _ dX7_yielding_35 h (hP.sub [0, 4, 5, 6, 7, 2, 3, 1] rfl) (hD.sub [0, 4, 5, 6, 7, 2, 3, 1] (by decide) rfl) hS
  · have h := itn c8 h
    refine lv_aload_n hx hb dX7_yielding_20 rfl (lv_at hl 0 rfl) ?_
    refine xa_get (C := RX7) (T := TX7) (N := 7) cx hG hP 0 rfl rfl uX7 6 (by decide) lf_X7_55 rfl dX7_yielding_21 ?_
    refine xa_getN (C := RX4) (T := TX4) (N := 3) cx hG hP 2 rfl rfl uX4 2 (by decide) nf_14 rfl dX7_yielding_24 ?_
    refine lv_lconst (v := 0) hx hb dX7_yielding_27 (by decide) ?_
    refine W.lcmp hx hb dX7_yielding_28 ?_
    refine lv_if_ne (tgt := 36) hx hb dX7_yielding_29 (by decide) (fun c9 => ?_) (fun c9 => ?_)
    · have h := itn c9 h
      refine lv_aload_n hx hb dX7_yielding_36 rfl (lv_at hl 0 rfl) ?_
      refine xa_get (C := RX7) (T := TX7) (N := 7) cx hG hP 0 rfl rfl uX7 6 (by decide) lf_X7_55 rfl dX7_yielding_37 ?_
      refine lv_iload hx hb dX7_yielding_40 (lv_at hl 4 rfl) ?_
      refine lv_iload hx hb dX7_yielding_42 (lv_at hl 5 rfl) ?_
      refine lv_iload hx hb dX7_yielding_44 (lv_at hl 6 rfl) ?_
      obtain ⟨w11, hr10, h⟩ := bnd h
      refine rw_v (WN := fun u12 => [((a_t 0), .inr (6, [.ref (a_t_tape 0), .ref (a_t_reader 0), .ref (a_t_now 0), .ref (a_t 4), .ref (a_t_choices 0), .ref (a_t_ways 0), .ref (a_t_stress 0)])), ((a_t_now 0), .inr (1, [.ref (a_t_now 1), .ref (a_t_now 2), .ref (a_t_now 3), .ref (a_t_now 4), .ref (a_t_now 5), .int t_now_told, .int t_now_lines, .int t_now_kinds, .int t_now_acts])), ((a_t_now 2), .inl (g.2.2.1 0, 144, .inl t_now_cells)), ((a_t_now 3), .inl (g.2.2.1 0, 31, .inl t_now_rows)), ((a_t_now 4), .inl (g.2.2.1 0, 31, .inl t_now_sizes)), ((a_t_stress 0), .inr (3, [.ref (a_t_stress 1), .ref (a_t_stress 2), .long w3])), ((a_t_stress 1), .inl (g.2.2.1 1, 9, .inr (.inl w2))), ((a_t_stress 2), .inl (g.2.2.1 1, 3, .inr (.inl w11)))]) (wr := [((a_t 0), .inr (6, [.ref (a_t_tape 0), .ref (a_t_reader 0), .ref (a_t_now 0), .ref (a_t 4), .ref (a_t_choices 0), .ref (a_t_ways 0), .ref (a_t_stress 0)])), ((a_t_now 0), .inr (1, [.ref (a_t_now 1), .ref (a_t_now 2), .ref (a_t_now 3), .ref (a_t_now 4), .ref (a_t_now 5), .int t_now_told, .int t_now_lines, .int t_now_kinds, .int t_now_acts])), ((a_t_now 2), .inl (g.2.2.1 0, 144, .inl t_now_cells)), ((a_t_now 3), .inl (g.2.2.1 0, 31, .inl t_now_rows)), ((a_t_now 4), .inl (g.2.2.1 0, 31, .inl t_now_sizes))]) (runVN (As := [.int v4, .int v5, .int v6]) (rest := []) hG cx hl.1 (ctX4_solve l g H.size a_t_stress w3 w2 t_stress_parts v4 v5 v6 w11 hr10) kmX4_solve kvX4_solve nm_39 ⟨rfl, rfl⟩ ⟨Nat.le_of_ble_eq_true rfl, Nat.le_of_ble_eq_true rfl⟩ (rwV (q0 := 2) (ci := 3) hG (hP.sub [2, 3, 1] rfl) (hD.sub [2, 3, 1] (by decide) rfl) hAb hb0 hS hP rfl rfl) rfl rfl (Nat.le_of_ble_eq_true rfl) dX7_yielding_46 ⟨Nat.le_of_ble_eq_true rfl, Nat.le_of_ble_eq_true rfl⟩) hP hD hS hA [2, 3, 1] [0, 4, 5, 6, 7] rfl rfl (by decide) (by decide) (fun _ => rfl) (fun u12 H locs hP hD hS => ?_)
      have hG := hGk hS
      refine lv_aload_n hx hb dX7_yielding_49 rfl (lv_at hl 0 rfl) ?_
      refine xa_get (C := RX7) (T := TX7) (N := 7) cx hG hP 0 rfl rfl uX7 6 (by decide) lf_X7_55 rfl dX7_yielding_50 ?_
      refine lv_iload_n hx hb dX7_yielding_53 rfl (lv_at hl 2 rfl) ?_
      obtain ⟨r13, hr14, h⟩ := bnd h
      refine ro_l (runVN (As := [.int v2]) (rest := []) hG cx hl.1 (ctX4_part l g a_t_stress w3 w11 v2 r13 hr14) kmX4_part kvX4_part nm_40 ⟨rfl, rfl⟩ ⟨Nat.le_of_ble_eq_true rfl, Nat.le_of_ble_eq_true rfl⟩ (roV (q0 := 5) (ci := 3) hG (hP.sub [5, 7] rfl) hP rfl rfl) rfl rfl (Nat.le_of_ble_eq_true rfl) dX7_yielding_54 ⟨Nat.le_of_ble_eq_true rfl, Nat.le_of_ble_eq_true rfl⟩) ?_
      refine lv_aload_n hx hb dX7_yielding_57 rfl (lv_at hl 0 rfl) ?_
      refine xa_get (C := RX7) (T := TX7) (N := 7) cx hG hP 0 rfl rfl uX7 6 (by decide) lf_X7_55 rfl dX7_yielding_58 ?_
      refine xa_getN (C := RX4) (T := TX4) (N := 3) cx hG hP 5 rfl rfl uX4 2 (by decide) nf_14 rfl dX7_yielding_61 ?_
      refine lv_iload_n hx hb dX7_yielding_64 rfl (lv_at hl 3 rfl) ?_
      obtain ⟨r15, hr16, h⟩ := bnd h
      refine ro_l (runSN (As := [.long r13, .long w3, .int v3]) (rest := []) hG cx hl.1 (ctX4_inLowestTerms l g r13 w3 v3 r15 hr16) kmX4_inLowestTerms ksX4_inLowestTerms nm_41 ⟨rfl, rfl⟩ ⟨Nat.le_of_ble_eq_true rfl, Nat.le_of_ble_eq_true rfl⟩ (roS hG (hP.sub [] rfl)) rfl rfl (Nat.le_of_ble_eq_true rfl) dX7_yielding_65 ⟨Nat.le_of_ble_eq_true rfl, Nat.le_of_ble_eq_true rfl⟩) ?_
      exact hrt (fun _ => 0) _ _ r15 w2 w11 w3 _ _ dX7_yielding_68 h (hP.sub [0, 1, 2, 3, 4, 5, 6, 7] rfl) (hD.sub [0, 1, 2, 3, 4, 5, 6, 7] (by decide) rfl) hS
    · have h := itp c9 h
      refine lv_ldc2 (own := RX7) (v := -9223372036854775807) hx hb cx.2.2.2.1 (cx.2.2.2.2 _ cl_X7_196) dX7_yielding_32 ?_
      exact hrt (fun _ => 0) _ _ ((-9223372036854775807)) w2 t_stress_parts w3 _ _ dX7_yielding_35 h (hP.sub [0, 4, 5, 6, 7, 2, 3, 1] rfl) (hD.sub [0, 4, 5, 6, 7, 2, 3, 1] (by decide) rfl) hS
-- X7_strain
theorem dX7_strain_0 : decode cX7_strain 0 = .ok (.aload_n 0, 1) := by decide +kernel
theorem dX7_strain_1 : decode cX7_strain 1 = .ok (.iload_n 1, 1) := by decide +kernel
theorem dX7_strain_2 : decode cX7_strain 2 = .ok (.iload_n 2, 1) := by decide +kernel
theorem dX7_strain_3 : decode cX7_strain 3 = .ok (.iload_n 3, 1) := by decide +kernel
theorem dX7_strain_4 : decode cX7_strain 4 = .ok (.invokevirtual 177, 3) := by decide +kernel
theorem dX7_strain_7 : decode cX7_strain 7 = .ok (.ifCond .eq 22, 3) := by decide +kernel
theorem dX7_strain_10 : decode cX7_strain 10 = .ok (.iload 4, 2) := by decide +kernel
theorem dX7_strain_12 : decode cX7_strain 12 = .ok (.invokestatic 143, 3) := by decide +kernel
theorem dX7_strain_15 : decode cX7_strain 15 = .ok (.ifCond .eq 14, 3) := by decide +kernel
theorem dX7_strain_18 : decode cX7_strain 18 = .ok (.iload 5, 2) := by decide +kernel
theorem dX7_strain_20 : decode cX7_strain 20 = .ok (.ifCond .lt 9, 3) := by decide +kernel
theorem dX7_strain_23 : decode cX7_strain 23 = .ok (.iload 5, 2) := by decide +kernel
theorem dX7_strain_25 : decode cX7_strain 25 = .ok (.iconst 1, 1) := by decide +kernel
theorem dX7_strain_26 : decode cX7_strain 26 = .ok (.if_icmp .le 7, 3) := by decide +kernel
theorem dX7_strain_29 : decode cX7_strain 29 = .ok (.ldc2_w 146, 3) := by decide +kernel
theorem dX7_strain_32 : decode cX7_strain 32 = .ok (.lreturn, 1) := by decide +kernel
theorem dX7_strain_33 : decode cX7_strain 33 = .ok (.aload_n 0, 1) := by decide +kernel
theorem dX7_strain_34 : decode cX7_strain 34 = .ok (.iconst 0, 1) := by decide +kernel
theorem dX7_strain_35 : decode cX7_strain 35 = .ok (.iload 4, 2) := by decide +kernel
theorem dX7_strain_37 : decode cX7_strain 37 = .ok (.iload 5, 2) := by decide +kernel
theorem dX7_strain_39 : decode cX7_strain 39 = .ok (.iload_n 1, 1) := by decide +kernel
theorem dX7_strain_40 : decode cX7_strain 40 = .ok (.iload_n 2, 1) := by decide +kernel
theorem dX7_strain_41 : decode cX7_strain 41 = .ok (.iload_n 3, 1) := by decide +kernel
theorem dX7_strain_42 : decode cX7_strain 42 = .ok (.invokevirtual 181, 3) := by decide +kernel
theorem dX7_strain_45 : decode cX7_strain 45 = .ok (.lreturn, 1) := by decide +kernel
noncomputable def fX7_strain  (t_now_cells : Nat → Int32) (t_now_rows : Nat → Int32) (t_now_sizes : Nat → Int32) (t_now_told : Int32) (t_now_acts : Int32) (t_stress_cells : Nat → Int64) (t_stress_parts : Nat → Int64) (t_stress_det : Int64) (v1 : Int32) (v2 : Int32) (v3 : Int32) (v4 : Int32) (v5 : Int32) : Option (Int64 × (Nat → Int64) × (Nat → Int64) × Int64) := (if (fX7_areLoads t_now_told v1 v2 v3) = 0 then some ((-9223372036854775808), t_stress_cells, t_stress_parts, t_stress_det) else (if (fX7_isAxis v4) = 0 then some ((-9223372036854775808), t_stress_cells, t_stress_parts, t_stress_det) else (if v5 < 0 then some ((-9223372036854775808), t_stress_cells, t_stress_parts, t_stress_det) else (if v5 ≤ 1 then ob4 (fX7_yielding t_now_cells t_now_rows t_now_sizes t_now_acts t_stress_cells t_stress_parts t_stress_det 0 v4 v5 v1 v2 v3) fun r8 w9 w10 w11 => some (r8, w9, w10, w11) else some ((-9223372036854775808), t_stress_cells, t_stress_parts, t_stress_det)))))
set_option maxHeartbeats 4000000 in
set_option maxRecDepth 100000 in
theorem ctX7_strain (l : Launch) (g : GT) (sz : Nat) (a_t : Nat → Nat) (a_t_tape : Nat → Nat) (a_t_reader : Nat → Nat) (a_t_now : Nat → Nat) (a_t_choices : Nat → Nat) (a_t_ways : Nat → Nat) (a_t_stress : Nat → Nat) (t_now_told : Int32) (t_now_lines : Int32) (t_now_kinds : Int32) (t_now_acts : Int32) (t_now_cells : Nat → Int32) (t_now_rows : Nat → Int32) (t_now_sizes : Nat → Int32) (t_stress_det : Int64) (t_stress_cells : Nat → Int64) (t_stress_parts : Nat → Int64) (v1 : Int32) (v2 : Int32) (v3 : Int32) (v4 : Int32) (v5 : Int32) (o : Int64) (o_t_stress_cells : Nat → Int64) (o_t_stress_parts : Nat → Int64) (o_t_stress_det : Int64) (h : fX7_strain t_now_cells t_now_rows t_now_sizes t_now_told t_now_acts t_stress_cells t_stress_parts t_stress_det v1 v2 v3 v4 v5 = some (o, o_t_stress_cells, o_t_stress_parts, o_t_stress_det)) : Met l yX7_strain (Cond.code yX7_strain cX7_strain 6 (some .long) :: Tw) ⟨6, 0, 0, 145⟩ (va_Pc [.ref ((a_t 0)), .int v1, .int v2, .int v3, .int v4, .int v5] (rwB g [((a_t 0), .inr (6, [.ref (a_t_tape 0), .ref (a_t_reader 0), .ref (a_t_now 0), .ref (a_t 4), .ref (a_t_choices 0), .ref (a_t_ways 0), .ref (a_t_stress 0)])), ((a_t_now 0), .inr (1, [.ref (a_t_now 1), .ref (a_t_now 2), .ref (a_t_now 3), .ref (a_t_now 4), .ref (a_t_now 5), .int t_now_told, .int t_now_lines, .int t_now_kinds, .int t_now_acts])), ((a_t_now 2), .inl (g.2.2.1 0, 144, .inl t_now_cells)), ((a_t_now 3), .inl (g.2.2.1 0, 31, .inl t_now_rows)), ((a_t_now 4), .inl (g.2.2.1 0, 31, .inl t_now_sizes)), ((a_t_stress 0), .inr (3, [.ref (a_t_stress 1), .ref (a_t_stress 2), .long t_stress_det])), ((a_t_stress 1), .inl (g.2.2.1 1, 9, .inr (.inl t_stress_cells))), ((a_t_stress 2), .inl (g.2.2.1 1, 3, .inr (.inl t_stress_parts)))] sz)) (va_Ql (fun x (_ : Nat → Nat) => x = o) (fun u => rwE g (va_A [((a_t 0), .inr (6, [.ref (a_t_tape 0), .ref (a_t_reader 0), .ref (a_t_now 0), .ref (a_t 4), .ref (a_t_choices 0), .ref (a_t_ways 0), .ref (a_t_stress 0)])), ((a_t_now 0), .inr (1, [.ref (a_t_now 1), .ref (a_t_now 2), .ref (a_t_now 3), .ref (a_t_now 4), .ref (a_t_now 5), .int t_now_told, .int t_now_lines, .int t_now_kinds, .int t_now_acts])), ((a_t_now 2), .inl (g.2.2.1 0, 144, .inl t_now_cells)), ((a_t_now 3), .inl (g.2.2.1 0, 31, .inl t_now_rows)), ((a_t_now 4), .inl (g.2.2.1 0, 31, .inl t_now_sizes)), ((a_t_stress 0), .inr (3, [.ref (a_t_stress 1), .ref (a_t_stress 2), .long t_stress_det])), ((a_t_stress 1), .inl (g.2.2.1 1, 9, .inr (.inl t_stress_cells))), ((a_t_stress 2), .inl (g.2.2.1 1, 3, .inr (.inl t_stress_parts)))] sz) [((a_t 0), .inr (6, [.ref (a_t_tape 0), .ref (a_t_reader 0), .ref (a_t_now 0), .ref (a_t 4), .ref (a_t_choices 0), .ref (a_t_ways 0), .ref (a_t_stress 0)])), ((a_t_now 0), .inr (1, [.ref (a_t_now 1), .ref (a_t_now 2), .ref (a_t_now 3), .ref (a_t_now 4), .ref (a_t_now 5), .int t_now_told, .int t_now_lines, .int t_now_kinds, .int t_now_acts])), ((a_t_now 2), .inl (g.2.2.1 0, 144, .inl t_now_cells)), ((a_t_now 3), .inl (g.2.2.1 0, 31, .inl t_now_rows)), ((a_t_now 4), .inl (g.2.2.1 0, 31, .inl t_now_sizes)), ((a_t_stress 0), .inr (3, [.ref (a_t_stress 1), .ref (a_t_stress 2), .long o_t_stress_det])), ((a_t_stress 1), .inl (g.2.2.1 1, 9, .inr (.inl o_t_stress_cells))), ((a_t_stress 2), .inl (g.2.2.1 1, 3, .inr (.inl o_t_stress_parts)))]) (va_A [((a_t 0), .inr (6, [.ref (a_t_tape 0), .ref (a_t_reader 0), .ref (a_t_now 0), .ref (a_t 4), .ref (a_t_choices 0), .ref (a_t_ways 0), .ref (a_t_stress 0)])), ((a_t_now 0), .inr (1, [.ref (a_t_now 1), .ref (a_t_now 2), .ref (a_t_now 3), .ref (a_t_now 4), .ref (a_t_now 5), .int t_now_told, .int t_now_lines, .int t_now_kinds, .int t_now_acts])), ((a_t_now 2), .inl (g.2.2.1 0, 144, .inl t_now_cells)), ((a_t_now 3), .inl (g.2.2.1 0, 31, .inl t_now_rows)), ((a_t_now 4), .inl (g.2.2.1 0, 31, .inl t_now_sizes)), ((a_t_stress 0), .inr (3, [.ref (a_t_stress 1), .ref (a_t_stress 2), .long t_stress_det])), ((a_t_stress 1), .inl (g.2.2.1 1, 9, .inr (.inl t_stress_cells))), ((a_t_stress 2), .inl (g.2.2.1 1, 3, .inr (.inl t_stress_parts)))] sz)) 0 0 (va_A [((a_t 0), .inr (6, [.ref (a_t_tape 0), .ref (a_t_reader 0), .ref (a_t_now 0), .ref (a_t 4), .ref (a_t_choices 0), .ref (a_t_ways 0), .ref (a_t_stress 0)])), ((a_t_now 0), .inr (1, [.ref (a_t_now 1), .ref (a_t_now 2), .ref (a_t_now 3), .ref (a_t_now 4), .ref (a_t_now 5), .int t_now_told, .int t_now_lines, .int t_now_kinds, .int t_now_acts])), ((a_t_now 2), .inl (g.2.2.1 0, 144, .inl t_now_cells)), ((a_t_now 3), .inl (g.2.2.1 0, 31, .inl t_now_rows)), ((a_t_now 4), .inl (g.2.2.1 0, 31, .inl t_now_sizes)), ((a_t_stress 0), .inr (3, [.ref (a_t_stress 1), .ref (a_t_stress 2), .long t_stress_det])), ((a_t_stress 1), .inl (g.2.2.1 1, 9, .inr (.inl t_stress_cells))), ((a_t_stress 2), .inl (g.2.2.1 1, 3, .inr (.inl t_stress_parts)))] sz) := by
  refine rw_metl (by decide) (Nat.le_of_ble_eq_true rfl) (lv0 := [(0, .ref ((a_t 0))), (1, .int v1), (2, .int v2), (3, .int v3), (4, .int v4), (5, .int v5)]) rfl ?_
  intro p e s m args below meth c ls Q A cx hret hG hAb hb0 hA hP hD hl
  have hx := cx.1
  have hb := cx.2.1
  have hG0 := hG
  have hGk : ∀ {H : Heap} {locs : List Loc}, va_S A s.heap H locs → GE g s H := fun hS => hG0.keptS hAb hS
  have hSb : ∀ {H : Heap} {locs : List Loc}, va_S A s.heap H locs → va_S (fun a => g.1 ≤ a) s.heap H locs := fun hS => ⟨hS.1, fun q h1 h2 => hS.2.1 q h1 (fun z => h2 (hAb q z)), fun l hl => hAb _ (hS.2.2 l hl)⟩
  have hS : va_S A s.heap s.heap [] := va_S.rf
  have hrt : ∀ (u : Nat → Nat) (pc : Nat) (ls : Array Slot) (v : Int64) (x_t_stress_cells : Nat → Int64) (x_t_stress_parts : Nat → Int64) (x_t_stress_det : Int64) (H : Heap) (locs : List Loc), decode cX7_strain pc = .ok (.lreturn, 1) → some (v, x_t_stress_cells, x_t_stress_parts, x_t_stress_det) = some (o, o_t_stress_cells, o_t_stress_parts, o_t_stress_det) → va_P g.2.1 vwCl [((a_t 0), .inr (6, [.ref (a_t_tape 0), .ref (a_t_reader 0), .ref (a_t_now 0), .ref (a_t 4), .ref (a_t_choices 0), .ref (a_t_ways 0), .ref (a_t_stress 0)])), ((a_t_now 0), .inr (1, [.ref (a_t_now 1), .ref (a_t_now 2), .ref (a_t_now 3), .ref (a_t_now 4), .ref (a_t_now 5), .int t_now_told, .int t_now_lines, .int t_now_kinds, .int t_now_acts])), ((a_t_now 2), .inl (g.2.2.1 0, 144, .inl t_now_cells)), ((a_t_now 3), .inl (g.2.2.1 0, 31, .inl t_now_rows)), ((a_t_now 4), .inl (g.2.2.1 0, 31, .inl t_now_sizes)), ((a_t_stress 0), .inr (3, [.ref (a_t_stress 1), .ref (a_t_stress 2), .long x_t_stress_det])), ((a_t_stress 1), .inl (g.2.2.1 1, 9, .inr (.inl x_t_stress_cells))), ((a_t_stress 2), .inl (g.2.2.1 1, 3, .inr (.inl x_t_stress_parts)))] H → va_D A [((a_t 0), .inr (6, [.ref (a_t_tape 0), .ref (a_t_reader 0), .ref (a_t_now 0), .ref (a_t 4), .ref (a_t_choices 0), .ref (a_t_ways 0), .ref (a_t_stress 0)])), ((a_t_now 0), .inr (1, [.ref (a_t_now 1), .ref (a_t_now 2), .ref (a_t_now 3), .ref (a_t_now 4), .ref (a_t_now 5), .int t_now_told, .int t_now_lines, .int t_now_kinds, .int t_now_acts])), ((a_t_now 2), .inl (g.2.2.1 0, 144, .inl t_now_cells)), ((a_t_now 3), .inl (g.2.2.1 0, 31, .inl t_now_rows)), ((a_t_now 4), .inl (g.2.2.1 0, 31, .inl t_now_sizes)), ((a_t_stress 0), .inr (3, [.ref (a_t_stress 1), .ref (a_t_stress 2), .long x_t_stress_det])), ((a_t_stress 1), .inl (g.2.2.1 1, 9, .inr (.inl x_t_stress_cells))), ((a_t_stress 2), .inl (g.2.2.1 1, 3, .inr (.inl x_t_stress_parts)))] → va_S A s.heap H locs → W p l e ⟨6, 0, 0, 145⟩ s m args below meth c H locs 0 0 Q (F0 m pc ls [.long v]) := by
    intro u pc ls v x_t_stress_cells x_t_stress_parts x_t_stress_det H locs hd h hP hD hS
    cases h
    exact hret u _ _ _ _ _ hd rfl hP hD hS
  unfold fX7_strain at h
  refine lv_aload_n hx hb dX7_strain_0 rfl (lv_at hl 0 rfl) ?_
  refine lv_iload_n hx hb dX7_strain_1 rfl (lv_at hl 1 rfl) ?_
  refine lv_iload_n hx hb dX7_strain_2 rfl (lv_at hl 2 rfl) ?_
  refine lv_iload_n hx hb dX7_strain_3 rfl (lv_at hl 3 rfl) ?_
  refine ro_z (runV (As := [.int v1, .int v2, .int v3]) (rest := []) cx hl.1 (ctX7_areLoads l g a_t a_t_tape a_t_reader a_t_now a_t_choices a_t_ways a_t_stress t_now_told t_now_lines t_now_kinds t_now_acts v1 v2 v3 (fX7_areLoads t_now_told v1 v2 v3) rfl) kmX7_areLoads kvX7_areLoads lm_X7_177 ⟨rfl, rfl⟩ ⟨Nat.le_of_ble_eq_true rfl, Nat.le_of_ble_eq_true rfl⟩ (roV (q0 := 0) (ci := 6) hG (hP.sub [0, 1] rfl) hP rfl rfl) rfl rfl (Nat.le_of_ble_eq_true rfl) dX7_strain_4 ⟨Nat.le_of_ble_eq_true rfl, Nat.le_of_ble_eq_true rfl⟩) (fun hz1 => ?_)
  refine lv_if_eq (tgt := 29) hx hb dX7_strain_7 (by decide) (fun c2 => ?_) (fun c2 => ?_)
  · have h := itp c2 h
    refine lv_ldc2 (own := RX7) (v := -9223372036854775808) hx hb cx.2.2.2.1 (cx.2.2.2.2 _ cl_X7_146) dX7_strain_29 ?_
    exact hrt (fun _ => 0) _ _ ((-9223372036854775808)) t_stress_cells t_stress_parts t_stress_det _ _ dX7_strain_32 h (hP.sub [0, 1, 2, 3, 4, 5, 6, 7] rfl) (hD.sub [0, 1, 2, 3, 4, 5, 6, 7] (by decide) rfl) hS
  · have h := itn c2 h
    refine lv_iload hx hb dX7_strain_10 (lv_at hl 4 rfl) ?_
    refine ro_z (runS (As := [.int v4]) (rest := []) cx hl.1 (ctX7_isAxis l g v4 (fX7_isAxis v4) rfl) kmX7_isAxis ksX7_isAxis lm_X7_143 ⟨rfl, rfl⟩ ⟨Nat.le_of_ble_eq_true rfl, Nat.le_of_ble_eq_true rfl⟩ (roS hG (hP.sub [] rfl)) rfl rfl (Nat.le_of_ble_eq_true rfl) dX7_strain_12 ⟨Nat.le_of_ble_eq_true rfl, Nat.le_of_ble_eq_true rfl⟩) (fun hz3 => ?_)
    refine lv_if_eq (tgt := 29) hx hb dX7_strain_15 (by decide) (fun c4 => ?_) (fun c4 => ?_)
    · have h := itp c4 h
      refine lv_ldc2 (own := RX7) (v := -9223372036854775808) hx hb cx.2.2.2.1 (cx.2.2.2.2 _ cl_X7_146) dX7_strain_29 ?_
      exact hrt (fun _ => 0) _ _ ((-9223372036854775808)) t_stress_cells t_stress_parts t_stress_det _ _ dX7_strain_32 h (hP.sub [0, 1, 2, 3, 4, 5, 6, 7] rfl) (hD.sub [0, 1, 2, 3, 4, 5, 6, 7] (by decide) rfl) hS
    · have h := itn c4 h
      refine lv_iload hx hb dX7_strain_18 (lv_at hl 5 rfl) ?_
      refine lv_if_lt (tgt := 29) hx hb dX7_strain_20 (by decide) (fun c5 => ?_) (fun c5 => ?_)
      · have h := itp c5 h
        refine lv_ldc2 (own := RX7) (v := -9223372036854775808) hx hb cx.2.2.2.1 (cx.2.2.2.2 _ cl_X7_146) dX7_strain_29 ?_
        exact hrt (fun _ => 0) _ _ ((-9223372036854775808)) t_stress_cells t_stress_parts t_stress_det _ _ dX7_strain_32 h (hP.sub [0, 1, 2, 3, 4, 5, 6, 7] rfl) (hD.sub [0, 1, 2, 3, 4, 5, 6, 7] (by decide) rfl) hS
      · have h := itn c5 h
        refine lv_iload hx hb dX7_strain_23 (lv_at hl 5 rfl) ?_
        refine lv_iconst (v := 1) hx hb dX7_strain_25 (by decide) ?_
        refine lv_icmp_le (tgt := 33) hx hb dX7_strain_26 (by decide) (fun c6 => ?_) (fun c6 => ?_)
        · have h := itp c6 h
          refine lv_aload_n hx hb dX7_strain_33 rfl (lv_at hl 0 rfl) ?_
          refine lv_iconst (v := 0) hx hb dX7_strain_34 (by decide) ?_
          refine lv_iload hx hb dX7_strain_35 (lv_at hl 4 rfl) ?_
          refine lv_iload hx hb dX7_strain_37 (lv_at hl 5 rfl) ?_
          refine lv_iload_n hx hb dX7_strain_39 rfl (lv_at hl 1 rfl) ?_
          refine lv_iload_n hx hb dX7_strain_40 rfl (lv_at hl 2 rfl) ?_
          refine lv_iload_n hx hb dX7_strain_41 rfl (lv_at hl 3 rfl) ?_
          obtain ⟨r8, w9, w10, w11, hr7, h⟩ := ob4_out h
          refine rw_l (WN := fun u12 => [((a_t 0), .inr (6, [.ref (a_t_tape 0), .ref (a_t_reader 0), .ref (a_t_now 0), .ref (a_t 4), .ref (a_t_choices 0), .ref (a_t_ways 0), .ref (a_t_stress 0)])), ((a_t_now 0), .inr (1, [.ref (a_t_now 1), .ref (a_t_now 2), .ref (a_t_now 3), .ref (a_t_now 4), .ref (a_t_now 5), .int t_now_told, .int t_now_lines, .int t_now_kinds, .int t_now_acts])), ((a_t_now 2), .inl (g.2.2.1 0, 144, .inl t_now_cells)), ((a_t_now 3), .inl (g.2.2.1 0, 31, .inl t_now_rows)), ((a_t_now 4), .inl (g.2.2.1 0, 31, .inl t_now_sizes)), ((a_t_stress 0), .inr (3, [.ref (a_t_stress 1), .ref (a_t_stress 2), .long w11])), ((a_t_stress 1), .inl (g.2.2.1 1, 9, .inr (.inl w9))), ((a_t_stress 2), .inl (g.2.2.1 1, 3, .inr (.inl w10)))]) (wr := []) (runV (As := [.int (0), .int v4, .int v5, .int v1, .int v2, .int v3]) (rest := []) cx hl.1 (ctX7_yielding l g s.heap.size a_t a_t_tape a_t_reader a_t_now a_t_choices a_t_ways a_t_stress t_now_told t_now_lines t_now_kinds t_now_acts t_now_cells t_now_rows t_now_sizes t_stress_det t_stress_cells t_stress_parts (0) v4 v5 v1 v2 v3 r8 w9 w10 w11 hr7) kmX7_yielding kvX7_yielding lm_X7_181 ⟨rfl, rfl⟩ ⟨Nat.le_of_ble_eq_true rfl, Nat.le_of_ble_eq_true rfl⟩ (rwV (q0 := 0) (ci := 6) hG (hP.sub [0, 1, 2, 3, 4, 5, 6, 7] rfl) (hD.sub [0, 1, 2, 3, 4, 5, 6, 7] (by decide) rfl) hAb hb0 hS hP rfl rfl) rfl rfl (Nat.le_of_ble_eq_true rfl) dX7_strain_42 ⟨Nat.le_of_ble_eq_true rfl, Nat.le_of_ble_eq_true rfl⟩) hP hD hS hA [0, 1, 2, 3, 4, 5, 6, 7] [] rfl rfl (by decide) (by decide) (fun _ => rfl) (fun u12 H locs hP hD hS => ?_)
          have hG := hGk hS
          exact hrt (fun _ => 0) _ _ r8 w9 w10 w11 _ _ dX7_strain_45 h (hP.sub [0, 1, 2, 3, 4, 5, 6, 7] rfl) (hD.sub [0, 1, 2, 3, 4, 5, 6, 7] (by decide) rfl) hS
        · have h := itn c6 h
          refine lv_ldc2 (own := RX7) (v := -9223372036854775808) hx hb cx.2.2.2.1 (cx.2.2.2.2 _ cl_X7_146) dX7_strain_29 ?_
          exact hrt (fun _ => 0) _ _ ((-9223372036854775808)) t_stress_cells t_stress_parts t_stress_det _ _ dX7_strain_32 h (hP.sub [0, 1, 2, 3, 4, 5, 6, 7] rfl) (hD.sub [0, 1, 2, 3, 4, 5, 6, 7] (by decide) rfl) hS
-- X7_bend
theorem dX7_bend_0 : decode cX7_bend 0 = .ok (.aload_n 0, 1) := by decide +kernel
theorem dX7_bend_1 : decode cX7_bend 1 = .ok (.iload_n 1, 1) := by decide +kernel
theorem dX7_bend_2 : decode cX7_bend 2 = .ok (.iload_n 2, 1) := by decide +kernel
theorem dX7_bend_3 : decode cX7_bend 3 = .ok (.iload_n 3, 1) := by decide +kernel
theorem dX7_bend_4 : decode cX7_bend 4 = .ok (.invokevirtual 177, 3) := by decide +kernel
theorem dX7_bend_7 : decode cX7_bend 7 = .ok (.ifCond .eq 22, 3) := by decide +kernel
theorem dX7_bend_10 : decode cX7_bend 10 = .ok (.iload 4, 2) := by decide +kernel
theorem dX7_bend_12 : decode cX7_bend 12 = .ok (.invokestatic 143, 3) := by decide +kernel
theorem dX7_bend_15 : decode cX7_bend 15 = .ok (.ifCond .eq 14, 3) := by decide +kernel
theorem dX7_bend_18 : decode cX7_bend 18 = .ok (.iload 5, 2) := by decide +kernel
theorem dX7_bend_20 : decode cX7_bend 20 = .ok (.ifCond .lt 9, 3) := by decide +kernel
theorem dX7_bend_23 : decode cX7_bend 23 = .ok (.iload 5, 2) := by decide +kernel
theorem dX7_bend_25 : decode cX7_bend 25 = .ok (.iconst 1, 1) := by decide +kernel
theorem dX7_bend_26 : decode cX7_bend 26 = .ok (.if_icmp .le 7, 3) := by decide +kernel
theorem dX7_bend_29 : decode cX7_bend 29 = .ok (.ldc2_w 146, 3) := by decide +kernel
theorem dX7_bend_32 : decode cX7_bend 32 = .ok (.lreturn, 1) := by decide +kernel
theorem dX7_bend_33 : decode cX7_bend 33 = .ok (.aload_n 0, 1) := by decide +kernel
theorem dX7_bend_34 : decode cX7_bend 34 = .ok (.iconst 2, 1) := by decide +kernel
theorem dX7_bend_35 : decode cX7_bend 35 = .ok (.iload 4, 2) := by decide +kernel
theorem dX7_bend_37 : decode cX7_bend 37 = .ok (.iload 5, 2) := by decide +kernel
theorem dX7_bend_39 : decode cX7_bend 39 = .ok (.iload_n 1, 1) := by decide +kernel
theorem dX7_bend_40 : decode cX7_bend 40 = .ok (.iload_n 2, 1) := by decide +kernel
theorem dX7_bend_41 : decode cX7_bend 41 = .ok (.iload_n 3, 1) := by decide +kernel
theorem dX7_bend_42 : decode cX7_bend 42 = .ok (.invokevirtual 181, 3) := by decide +kernel
theorem dX7_bend_45 : decode cX7_bend 45 = .ok (.lreturn, 1) := by decide +kernel
noncomputable def fX7_bend  (t_now_cells : Nat → Int32) (t_now_rows : Nat → Int32) (t_now_sizes : Nat → Int32) (t_now_told : Int32) (t_now_acts : Int32) (t_stress_cells : Nat → Int64) (t_stress_parts : Nat → Int64) (t_stress_det : Int64) (v1 : Int32) (v2 : Int32) (v3 : Int32) (v4 : Int32) (v5 : Int32) : Option (Int64 × (Nat → Int64) × (Nat → Int64) × Int64) := (if (fX7_areLoads t_now_told v1 v2 v3) = 0 then some ((-9223372036854775808), t_stress_cells, t_stress_parts, t_stress_det) else (if (fX7_isAxis v4) = 0 then some ((-9223372036854775808), t_stress_cells, t_stress_parts, t_stress_det) else (if v5 < 0 then some ((-9223372036854775808), t_stress_cells, t_stress_parts, t_stress_det) else (if v5 ≤ 1 then ob4 (fX7_yielding t_now_cells t_now_rows t_now_sizes t_now_acts t_stress_cells t_stress_parts t_stress_det 2 v4 v5 v1 v2 v3) fun r8 w9 w10 w11 => some (r8, w9, w10, w11) else some ((-9223372036854775808), t_stress_cells, t_stress_parts, t_stress_det)))))
set_option maxHeartbeats 4000000 in
set_option maxRecDepth 100000 in
theorem ctX7_bend (l : Launch) (g : GT) (sz : Nat) (a_t : Nat → Nat) (a_t_tape : Nat → Nat) (a_t_reader : Nat → Nat) (a_t_now : Nat → Nat) (a_t_choices : Nat → Nat) (a_t_ways : Nat → Nat) (a_t_stress : Nat → Nat) (t_now_told : Int32) (t_now_lines : Int32) (t_now_kinds : Int32) (t_now_acts : Int32) (t_now_cells : Nat → Int32) (t_now_rows : Nat → Int32) (t_now_sizes : Nat → Int32) (t_stress_det : Int64) (t_stress_cells : Nat → Int64) (t_stress_parts : Nat → Int64) (v1 : Int32) (v2 : Int32) (v3 : Int32) (v4 : Int32) (v5 : Int32) (o : Int64) (o_t_stress_cells : Nat → Int64) (o_t_stress_parts : Nat → Int64) (o_t_stress_det : Int64) (h : fX7_bend t_now_cells t_now_rows t_now_sizes t_now_told t_now_acts t_stress_cells t_stress_parts t_stress_det v1 v2 v3 v4 v5 = some (o, o_t_stress_cells, o_t_stress_parts, o_t_stress_det)) : Met l yX7_bend (Cond.code yX7_bend cX7_bend 6 (some .long) :: Tw) ⟨6, 0, 0, 145⟩ (va_Pc [.ref ((a_t 0)), .int v1, .int v2, .int v3, .int v4, .int v5] (rwB g [((a_t 0), .inr (6, [.ref (a_t_tape 0), .ref (a_t_reader 0), .ref (a_t_now 0), .ref (a_t 4), .ref (a_t_choices 0), .ref (a_t_ways 0), .ref (a_t_stress 0)])), ((a_t_now 0), .inr (1, [.ref (a_t_now 1), .ref (a_t_now 2), .ref (a_t_now 3), .ref (a_t_now 4), .ref (a_t_now 5), .int t_now_told, .int t_now_lines, .int t_now_kinds, .int t_now_acts])), ((a_t_now 2), .inl (g.2.2.1 0, 144, .inl t_now_cells)), ((a_t_now 3), .inl (g.2.2.1 0, 31, .inl t_now_rows)), ((a_t_now 4), .inl (g.2.2.1 0, 31, .inl t_now_sizes)), ((a_t_stress 0), .inr (3, [.ref (a_t_stress 1), .ref (a_t_stress 2), .long t_stress_det])), ((a_t_stress 1), .inl (g.2.2.1 1, 9, .inr (.inl t_stress_cells))), ((a_t_stress 2), .inl (g.2.2.1 1, 3, .inr (.inl t_stress_parts)))] sz)) (va_Ql (fun x (_ : Nat → Nat) => x = o) (fun u => rwE g (va_A [((a_t 0), .inr (6, [.ref (a_t_tape 0), .ref (a_t_reader 0), .ref (a_t_now 0), .ref (a_t 4), .ref (a_t_choices 0), .ref (a_t_ways 0), .ref (a_t_stress 0)])), ((a_t_now 0), .inr (1, [.ref (a_t_now 1), .ref (a_t_now 2), .ref (a_t_now 3), .ref (a_t_now 4), .ref (a_t_now 5), .int t_now_told, .int t_now_lines, .int t_now_kinds, .int t_now_acts])), ((a_t_now 2), .inl (g.2.2.1 0, 144, .inl t_now_cells)), ((a_t_now 3), .inl (g.2.2.1 0, 31, .inl t_now_rows)), ((a_t_now 4), .inl (g.2.2.1 0, 31, .inl t_now_sizes)), ((a_t_stress 0), .inr (3, [.ref (a_t_stress 1), .ref (a_t_stress 2), .long t_stress_det])), ((a_t_stress 1), .inl (g.2.2.1 1, 9, .inr (.inl t_stress_cells))), ((a_t_stress 2), .inl (g.2.2.1 1, 3, .inr (.inl t_stress_parts)))] sz) [((a_t 0), .inr (6, [.ref (a_t_tape 0), .ref (a_t_reader 0), .ref (a_t_now 0), .ref (a_t 4), .ref (a_t_choices 0), .ref (a_t_ways 0), .ref (a_t_stress 0)])), ((a_t_now 0), .inr (1, [.ref (a_t_now 1), .ref (a_t_now 2), .ref (a_t_now 3), .ref (a_t_now 4), .ref (a_t_now 5), .int t_now_told, .int t_now_lines, .int t_now_kinds, .int t_now_acts])), ((a_t_now 2), .inl (g.2.2.1 0, 144, .inl t_now_cells)), ((a_t_now 3), .inl (g.2.2.1 0, 31, .inl t_now_rows)), ((a_t_now 4), .inl (g.2.2.1 0, 31, .inl t_now_sizes)), ((a_t_stress 0), .inr (3, [.ref (a_t_stress 1), .ref (a_t_stress 2), .long o_t_stress_det])), ((a_t_stress 1), .inl (g.2.2.1 1, 9, .inr (.inl o_t_stress_cells))), ((a_t_stress 2), .inl (g.2.2.1 1, 3, .inr (.inl o_t_stress_parts)))]) (va_A [((a_t 0), .inr (6, [.ref (a_t_tape 0), .ref (a_t_reader 0), .ref (a_t_now 0), .ref (a_t 4), .ref (a_t_choices 0), .ref (a_t_ways 0), .ref (a_t_stress 0)])), ((a_t_now 0), .inr (1, [.ref (a_t_now 1), .ref (a_t_now 2), .ref (a_t_now 3), .ref (a_t_now 4), .ref (a_t_now 5), .int t_now_told, .int t_now_lines, .int t_now_kinds, .int t_now_acts])), ((a_t_now 2), .inl (g.2.2.1 0, 144, .inl t_now_cells)), ((a_t_now 3), .inl (g.2.2.1 0, 31, .inl t_now_rows)), ((a_t_now 4), .inl (g.2.2.1 0, 31, .inl t_now_sizes)), ((a_t_stress 0), .inr (3, [.ref (a_t_stress 1), .ref (a_t_stress 2), .long t_stress_det])), ((a_t_stress 1), .inl (g.2.2.1 1, 9, .inr (.inl t_stress_cells))), ((a_t_stress 2), .inl (g.2.2.1 1, 3, .inr (.inl t_stress_parts)))] sz)) 0 0 (va_A [((a_t 0), .inr (6, [.ref (a_t_tape 0), .ref (a_t_reader 0), .ref (a_t_now 0), .ref (a_t 4), .ref (a_t_choices 0), .ref (a_t_ways 0), .ref (a_t_stress 0)])), ((a_t_now 0), .inr (1, [.ref (a_t_now 1), .ref (a_t_now 2), .ref (a_t_now 3), .ref (a_t_now 4), .ref (a_t_now 5), .int t_now_told, .int t_now_lines, .int t_now_kinds, .int t_now_acts])), ((a_t_now 2), .inl (g.2.2.1 0, 144, .inl t_now_cells)), ((a_t_now 3), .inl (g.2.2.1 0, 31, .inl t_now_rows)), ((a_t_now 4), .inl (g.2.2.1 0, 31, .inl t_now_sizes)), ((a_t_stress 0), .inr (3, [.ref (a_t_stress 1), .ref (a_t_stress 2), .long t_stress_det])), ((a_t_stress 1), .inl (g.2.2.1 1, 9, .inr (.inl t_stress_cells))), ((a_t_stress 2), .inl (g.2.2.1 1, 3, .inr (.inl t_stress_parts)))] sz) := by
  refine rw_metl (by decide) (Nat.le_of_ble_eq_true rfl) (lv0 := [(0, .ref ((a_t 0))), (1, .int v1), (2, .int v2), (3, .int v3), (4, .int v4), (5, .int v5)]) rfl ?_
  intro p e s m args below meth c ls Q A cx hret hG hAb hb0 hA hP hD hl
  have hx := cx.1
  have hb := cx.2.1
  have hG0 := hG
  have hGk : ∀ {H : Heap} {locs : List Loc}, va_S A s.heap H locs → GE g s H := fun hS => hG0.keptS hAb hS
  have hSb : ∀ {H : Heap} {locs : List Loc}, va_S A s.heap H locs → va_S (fun a => g.1 ≤ a) s.heap H locs := fun hS => ⟨hS.1, fun q h1 h2 => hS.2.1 q h1 (fun z => h2 (hAb q z)), fun l hl => hAb _ (hS.2.2 l hl)⟩
  have hS : va_S A s.heap s.heap [] := va_S.rf
  have hrt : ∀ (u : Nat → Nat) (pc : Nat) (ls : Array Slot) (v : Int64) (x_t_stress_cells : Nat → Int64) (x_t_stress_parts : Nat → Int64) (x_t_stress_det : Int64) (H : Heap) (locs : List Loc), decode cX7_bend pc = .ok (.lreturn, 1) → some (v, x_t_stress_cells, x_t_stress_parts, x_t_stress_det) = some (o, o_t_stress_cells, o_t_stress_parts, o_t_stress_det) → va_P g.2.1 vwCl [((a_t 0), .inr (6, [.ref (a_t_tape 0), .ref (a_t_reader 0), .ref (a_t_now 0), .ref (a_t 4), .ref (a_t_choices 0), .ref (a_t_ways 0), .ref (a_t_stress 0)])), ((a_t_now 0), .inr (1, [.ref (a_t_now 1), .ref (a_t_now 2), .ref (a_t_now 3), .ref (a_t_now 4), .ref (a_t_now 5), .int t_now_told, .int t_now_lines, .int t_now_kinds, .int t_now_acts])), ((a_t_now 2), .inl (g.2.2.1 0, 144, .inl t_now_cells)), ((a_t_now 3), .inl (g.2.2.1 0, 31, .inl t_now_rows)), ((a_t_now 4), .inl (g.2.2.1 0, 31, .inl t_now_sizes)), ((a_t_stress 0), .inr (3, [.ref (a_t_stress 1), .ref (a_t_stress 2), .long x_t_stress_det])), ((a_t_stress 1), .inl (g.2.2.1 1, 9, .inr (.inl x_t_stress_cells))), ((a_t_stress 2), .inl (g.2.2.1 1, 3, .inr (.inl x_t_stress_parts)))] H → va_D A [((a_t 0), .inr (6, [.ref (a_t_tape 0), .ref (a_t_reader 0), .ref (a_t_now 0), .ref (a_t 4), .ref (a_t_choices 0), .ref (a_t_ways 0), .ref (a_t_stress 0)])), ((a_t_now 0), .inr (1, [.ref (a_t_now 1), .ref (a_t_now 2), .ref (a_t_now 3), .ref (a_t_now 4), .ref (a_t_now 5), .int t_now_told, .int t_now_lines, .int t_now_kinds, .int t_now_acts])), ((a_t_now 2), .inl (g.2.2.1 0, 144, .inl t_now_cells)), ((a_t_now 3), .inl (g.2.2.1 0, 31, .inl t_now_rows)), ((a_t_now 4), .inl (g.2.2.1 0, 31, .inl t_now_sizes)), ((a_t_stress 0), .inr (3, [.ref (a_t_stress 1), .ref (a_t_stress 2), .long x_t_stress_det])), ((a_t_stress 1), .inl (g.2.2.1 1, 9, .inr (.inl x_t_stress_cells))), ((a_t_stress 2), .inl (g.2.2.1 1, 3, .inr (.inl x_t_stress_parts)))] → va_S A s.heap H locs → W p l e ⟨6, 0, 0, 145⟩ s m args below meth c H locs 0 0 Q (F0 m pc ls [.long v]) := by
    intro u pc ls v x_t_stress_cells x_t_stress_parts x_t_stress_det H locs hd h hP hD hS
    cases h
    exact hret u _ _ _ _ _ hd rfl hP hD hS
  unfold fX7_bend at h
  refine lv_aload_n hx hb dX7_bend_0 rfl (lv_at hl 0 rfl) ?_
  refine lv_iload_n hx hb dX7_bend_1 rfl (lv_at hl 1 rfl) ?_
  refine lv_iload_n hx hb dX7_bend_2 rfl (lv_at hl 2 rfl) ?_
  refine lv_iload_n hx hb dX7_bend_3 rfl (lv_at hl 3 rfl) ?_
  refine ro_z (runV (As := [.int v1, .int v2, .int v3]) (rest := []) cx hl.1 (ctX7_areLoads l g a_t a_t_tape a_t_reader a_t_now a_t_choices a_t_ways a_t_stress t_now_told t_now_lines t_now_kinds t_now_acts v1 v2 v3 (fX7_areLoads t_now_told v1 v2 v3) rfl) kmX7_areLoads kvX7_areLoads lm_X7_177 ⟨rfl, rfl⟩ ⟨Nat.le_of_ble_eq_true rfl, Nat.le_of_ble_eq_true rfl⟩ (roV (q0 := 0) (ci := 6) hG (hP.sub [0, 1] rfl) hP rfl rfl) rfl rfl (Nat.le_of_ble_eq_true rfl) dX7_bend_4 ⟨Nat.le_of_ble_eq_true rfl, Nat.le_of_ble_eq_true rfl⟩) (fun hz1 => ?_)
  refine lv_if_eq (tgt := 29) hx hb dX7_bend_7 (by decide) (fun c2 => ?_) (fun c2 => ?_)
  · have h := itp c2 h
    refine lv_ldc2 (own := RX7) (v := -9223372036854775808) hx hb cx.2.2.2.1 (cx.2.2.2.2 _ cl_X7_146) dX7_bend_29 ?_
    exact hrt (fun _ => 0) _ _ ((-9223372036854775808)) t_stress_cells t_stress_parts t_stress_det _ _ dX7_bend_32 h (hP.sub [0, 1, 2, 3, 4, 5, 6, 7] rfl) (hD.sub [0, 1, 2, 3, 4, 5, 6, 7] (by decide) rfl) hS
  · have h := itn c2 h
    refine lv_iload hx hb dX7_bend_10 (lv_at hl 4 rfl) ?_
    refine ro_z (runS (As := [.int v4]) (rest := []) cx hl.1 (ctX7_isAxis l g v4 (fX7_isAxis v4) rfl) kmX7_isAxis ksX7_isAxis lm_X7_143 ⟨rfl, rfl⟩ ⟨Nat.le_of_ble_eq_true rfl, Nat.le_of_ble_eq_true rfl⟩ (roS hG (hP.sub [] rfl)) rfl rfl (Nat.le_of_ble_eq_true rfl) dX7_bend_12 ⟨Nat.le_of_ble_eq_true rfl, Nat.le_of_ble_eq_true rfl⟩) (fun hz3 => ?_)
    refine lv_if_eq (tgt := 29) hx hb dX7_bend_15 (by decide) (fun c4 => ?_) (fun c4 => ?_)
    · have h := itp c4 h
      refine lv_ldc2 (own := RX7) (v := -9223372036854775808) hx hb cx.2.2.2.1 (cx.2.2.2.2 _ cl_X7_146) dX7_bend_29 ?_
      exact hrt (fun _ => 0) _ _ ((-9223372036854775808)) t_stress_cells t_stress_parts t_stress_det _ _ dX7_bend_32 h (hP.sub [0, 1, 2, 3, 4, 5, 6, 7] rfl) (hD.sub [0, 1, 2, 3, 4, 5, 6, 7] (by decide) rfl) hS
    · have h := itn c4 h
      refine lv_iload hx hb dX7_bend_18 (lv_at hl 5 rfl) ?_
      refine lv_if_lt (tgt := 29) hx hb dX7_bend_20 (by decide) (fun c5 => ?_) (fun c5 => ?_)
      · have h := itp c5 h
        refine lv_ldc2 (own := RX7) (v := -9223372036854775808) hx hb cx.2.2.2.1 (cx.2.2.2.2 _ cl_X7_146) dX7_bend_29 ?_
        exact hrt (fun _ => 0) _ _ ((-9223372036854775808)) t_stress_cells t_stress_parts t_stress_det _ _ dX7_bend_32 h (hP.sub [0, 1, 2, 3, 4, 5, 6, 7] rfl) (hD.sub [0, 1, 2, 3, 4, 5, 6, 7] (by decide) rfl) hS
      · have h := itn c5 h
        refine lv_iload hx hb dX7_bend_23 (lv_at hl 5 rfl) ?_
        refine lv_iconst (v := 1) hx hb dX7_bend_25 (by decide) ?_
        refine lv_icmp_le (tgt := 33) hx hb dX7_bend_26 (by decide) (fun c6 => ?_) (fun c6 => ?_)
        · have h := itp c6 h
          refine lv_aload_n hx hb dX7_bend_33 rfl (lv_at hl 0 rfl) ?_
          refine lv_iconst (v := 2) hx hb dX7_bend_34 (by decide) ?_
          refine lv_iload hx hb dX7_bend_35 (lv_at hl 4 rfl) ?_
          refine lv_iload hx hb dX7_bend_37 (lv_at hl 5 rfl) ?_
          refine lv_iload_n hx hb dX7_bend_39 rfl (lv_at hl 1 rfl) ?_
          refine lv_iload_n hx hb dX7_bend_40 rfl (lv_at hl 2 rfl) ?_
          refine lv_iload_n hx hb dX7_bend_41 rfl (lv_at hl 3 rfl) ?_
          obtain ⟨r8, w9, w10, w11, hr7, h⟩ := ob4_out h
          refine rw_l (WN := fun u12 => [((a_t 0), .inr (6, [.ref (a_t_tape 0), .ref (a_t_reader 0), .ref (a_t_now 0), .ref (a_t 4), .ref (a_t_choices 0), .ref (a_t_ways 0), .ref (a_t_stress 0)])), ((a_t_now 0), .inr (1, [.ref (a_t_now 1), .ref (a_t_now 2), .ref (a_t_now 3), .ref (a_t_now 4), .ref (a_t_now 5), .int t_now_told, .int t_now_lines, .int t_now_kinds, .int t_now_acts])), ((a_t_now 2), .inl (g.2.2.1 0, 144, .inl t_now_cells)), ((a_t_now 3), .inl (g.2.2.1 0, 31, .inl t_now_rows)), ((a_t_now 4), .inl (g.2.2.1 0, 31, .inl t_now_sizes)), ((a_t_stress 0), .inr (3, [.ref (a_t_stress 1), .ref (a_t_stress 2), .long w11])), ((a_t_stress 1), .inl (g.2.2.1 1, 9, .inr (.inl w9))), ((a_t_stress 2), .inl (g.2.2.1 1, 3, .inr (.inl w10)))]) (wr := []) (runV (As := [.int (2), .int v4, .int v5, .int v1, .int v2, .int v3]) (rest := []) cx hl.1 (ctX7_yielding l g s.heap.size a_t a_t_tape a_t_reader a_t_now a_t_choices a_t_ways a_t_stress t_now_told t_now_lines t_now_kinds t_now_acts t_now_cells t_now_rows t_now_sizes t_stress_det t_stress_cells t_stress_parts (2) v4 v5 v1 v2 v3 r8 w9 w10 w11 hr7) kmX7_yielding kvX7_yielding lm_X7_181 ⟨rfl, rfl⟩ ⟨Nat.le_of_ble_eq_true rfl, Nat.le_of_ble_eq_true rfl⟩ (rwV (q0 := 0) (ci := 6) hG (hP.sub [0, 1, 2, 3, 4, 5, 6, 7] rfl) (hD.sub [0, 1, 2, 3, 4, 5, 6, 7] (by decide) rfl) hAb hb0 hS hP rfl rfl) rfl rfl (Nat.le_of_ble_eq_true rfl) dX7_bend_42 ⟨Nat.le_of_ble_eq_true rfl, Nat.le_of_ble_eq_true rfl⟩) hP hD hS hA [0, 1, 2, 3, 4, 5, 6, 7] [] rfl rfl (by decide) (by decide) (fun _ => rfl) (fun u12 H locs hP hD hS => ?_)
          have hG := hGk hS
          exact hrt (fun _ => 0) _ _ r8 w9 w10 w11 _ _ dX7_bend_45 h (hP.sub [0, 1, 2, 3, 4, 5, 6, 7] rfl) (hD.sub [0, 1, 2, 3, 4, 5, 6, 7] (by decide) rfl) hS
        · have h := itn c6 h
          refine lv_ldc2 (own := RX7) (v := -9223372036854775808) hx hb cx.2.2.2.1 (cx.2.2.2.2 _ cl_X7_146) dX7_bend_29 ?_
          exact hrt (fun _ => 0) _ _ ((-9223372036854775808)) t_stress_cells t_stress_parts t_stress_det _ _ dX7_bend_32 h (hP.sub [0, 1, 2, 3, 4, 5, 6, 7] rfl) (hD.sub [0, 1, 2, 3, 4, 5, 6, 7] (by decide) rfl) hS
-- X7_factor
theorem dX7_factor_0 : decode cX7_factor 0 = .ok (.aload_n 0, 1) := by decide +kernel
theorem dX7_factor_1 : decode cX7_factor 1 = .ok (.iload_n 1, 1) := by decide +kernel
theorem dX7_factor_2 : decode cX7_factor 2 = .ok (.iload_n 2, 1) := by decide +kernel
theorem dX7_factor_3 : decode cX7_factor 3 = .ok (.iload_n 3, 1) := by decide +kernel
theorem dX7_factor_4 : decode cX7_factor 4 = .ok (.invokevirtual 177, 3) := by decide +kernel
theorem dX7_factor_7 : decode cX7_factor 7 = .ok (.ifCond .eq 14, 3) := by decide +kernel
theorem dX7_factor_10 : decode cX7_factor 10 = .ok (.iload 4, 2) := by decide +kernel
theorem dX7_factor_12 : decode cX7_factor 12 = .ok (.ifCond .lt 9, 3) := by decide +kernel
theorem dX7_factor_15 : decode cX7_factor 15 = .ok (.iload 4, 2) := by decide +kernel
theorem dX7_factor_17 : decode cX7_factor 17 = .ok (.iconst 2, 1) := by decide +kernel
theorem dX7_factor_18 : decode cX7_factor 18 = .ok (.if_icmp .le 7, 3) := by decide +kernel
theorem dX7_factor_21 : decode cX7_factor 21 = .ok (.ldc2_w 162, 3) := by decide +kernel
theorem dX7_factor_24 : decode cX7_factor 24 = .ok (.lreturn, 1) := by decide +kernel
theorem dX7_factor_25 : decode cX7_factor 25 = .ok (.aload_n 0, 1) := by decide +kernel
theorem dX7_factor_26 : decode cX7_factor 26 = .ok (.getfield 55, 3) := by decide +kernel
theorem dX7_factor_29 : decode cX7_factor 29 = .ok (.aload_n 0, 1) := by decide +kernel
theorem dX7_factor_30 : decode cX7_factor 30 = .ok (.getfield 30, 3) := by decide +kernel
theorem dX7_factor_33 : decode cX7_factor 33 = .ok (.iconst 0, 1) := by decide +kernel
theorem dX7_factor_34 : decode cX7_factor 34 = .ok (.iconst 0, 1) := by decide +kernel
theorem dX7_factor_35 : decode cX7_factor 35 = .ok (.invokevirtual 185, 3) := by decide +kernel
theorem dX7_factor_38 : decode cX7_factor 38 = .ok (.aload_n 0, 1) := by decide +kernel
theorem dX7_factor_39 : decode cX7_factor 39 = .ok (.invokevirtual 189, 3) := by decide +kernel
theorem dX7_factor_42 : decode cX7_factor 42 = .ok (.ifCond .eq 15, 3) := by decide +kernel
theorem dX7_factor_45 : decode cX7_factor 45 = .ok (.aload_n 0, 1) := by decide +kernel
theorem dX7_factor_46 : decode cX7_factor 46 = .ok (.getfield 55, 3) := by decide +kernel
theorem dX7_factor_49 : decode cX7_factor 49 = .ok (.getfield 192, 3) := by decide +kernel
theorem dX7_factor_52 : decode cX7_factor 52 = .ok (.lconst 0, 1) := by decide +kernel
theorem dX7_factor_53 : decode cX7_factor 53 = .ok (.lcmp, 1) := by decide +kernel
theorem dX7_factor_54 : decode cX7_factor 54 = .ok (.ifCond .ne 7, 3) := by decide +kernel
theorem dX7_factor_57 : decode cX7_factor 57 = .ok (.ldc2_w 209, 3) := by decide +kernel
theorem dX7_factor_60 : decode cX7_factor 60 = .ok (.lreturn, 1) := by decide +kernel
theorem dX7_factor_61 : decode cX7_factor 61 = .ok (.aload_n 0, 1) := by decide +kernel
theorem dX7_factor_62 : decode cX7_factor 62 = .ok (.getfield 55, 3) := by decide +kernel
theorem dX7_factor_65 : decode cX7_factor 65 = .ok (.iload_n 1, 1) := by decide +kernel
theorem dX7_factor_66 : decode cX7_factor 66 = .ok (.iload_n 2, 1) := by decide +kernel
theorem dX7_factor_67 : decode cX7_factor 67 = .ok (.iload_n 3, 1) := by decide +kernel
theorem dX7_factor_68 : decode cX7_factor 68 = .ok (.invokevirtual 198, 3) := by decide +kernel
theorem dX7_factor_71 : decode cX7_factor 71 = .ok (.aload_n 0, 1) := by decide +kernel
theorem dX7_factor_72 : decode cX7_factor 72 = .ok (.getfield 55, 3) := by decide +kernel
theorem dX7_factor_75 : decode cX7_factor 75 = .ok (.aload_n 0, 1) := by decide +kernel
theorem dX7_factor_76 : decode cX7_factor 76 = .ok (.getfield 30, 3) := by decide +kernel
theorem dX7_factor_79 : decode cX7_factor 79 = .ok (.invokevirtual 211, 3) := by decide +kernel
theorem dX7_factor_82 : decode cX7_factor 82 = .ok (.istore 5, 2) := by decide +kernel
theorem dX7_factor_84 : decode cX7_factor 84 = .ok (.iload 5, 2) := by decide +kernel
theorem dX7_factor_86 : decode cX7_factor 86 = .ok (.iconst (-1), 1) := by decide +kernel
theorem dX7_factor_87 : decode cX7_factor 87 = .ok (.if_icmp .eq 9, 3) := by decide +kernel
theorem dX7_factor_90 : decode cX7_factor 90 = .ok (.iload 4, 2) := by decide +kernel
theorem dX7_factor_92 : decode cX7_factor 92 = .ok (.iconst 2, 1) := by decide +kernel
theorem dX7_factor_93 : decode cX7_factor 93 = .ok (.if_icmp .ne 7, 3) := by decide +kernel
theorem dX7_factor_96 : decode cX7_factor 96 = .ok (.iload 5, 2) := by decide +kernel
theorem dX7_factor_98 : decode cX7_factor 98 = .ok (.i2l, 1) := by decide +kernel
theorem dX7_factor_99 : decode cX7_factor 99 = .ok (.lreturn, 1) := by decide +kernel
theorem dX7_factor_100 : decode cX7_factor 100 = .ok (.aload_n 0, 1) := by decide +kernel
theorem dX7_factor_101 : decode cX7_factor 101 = .ok (.getfield 55, 3) := by decide +kernel
theorem dX7_factor_104 : decode cX7_factor 104 = .ok (.aload_n 0, 1) := by decide +kernel
theorem dX7_factor_105 : decode cX7_factor 105 = .ok (.getfield 30, 3) := by decide +kernel
theorem dX7_factor_108 : decode cX7_factor 108 = .ok (.invokevirtual 132, 3) := by decide +kernel
theorem dX7_factor_111 : decode cX7_factor 111 = .ok (.iload 5, 2) := by decide +kernel
theorem dX7_factor_113 : decode cX7_factor 113 = .ok (.invokestatic 215, 3) := by decide +kernel
theorem dX7_factor_116 : decode cX7_factor 116 = .ok (.invokevirtual 218, 3) := by decide +kernel
theorem dX7_factor_119 : decode cX7_factor 119 = .ok (.invokestatic 221, 3) := by decide +kernel
theorem dX7_factor_122 : decode cX7_factor 122 = .ok (.lstore 6, 2) := by decide +kernel
theorem dX7_factor_124 : decode cX7_factor 124 = .ok (.aload_n 0, 1) := by decide +kernel
theorem dX7_factor_125 : decode cX7_factor 125 = .ok (.getfield 55, 3) := by decide +kernel
theorem dX7_factor_128 : decode cX7_factor 128 = .ok (.aload_n 0, 1) := by decide +kernel
theorem dX7_factor_129 : decode cX7_factor 129 = .ok (.getfield 30, 3) := by decide +kernel
theorem dX7_factor_132 : decode cX7_factor 132 = .ok (.iload 5, 2) := by decide +kernel
theorem dX7_factor_134 : decode cX7_factor 134 = .ok (.invokevirtual 227, 3) := by decide +kernel
theorem dX7_factor_137 : decode cX7_factor 137 = .ok (.lload 6, 2) := by decide +kernel
theorem dX7_factor_139 : decode cX7_factor 139 = .ok (.iload 4, 2) := by decide +kernel
theorem dX7_factor_141 : decode cX7_factor 141 = .ok (.invokestatic 205, 3) := by decide +kernel
theorem dX7_factor_144 : decode cX7_factor 144 = .ok (.lreturn, 1) := by decide +kernel
noncomputable def fX7_factor  (t_now_numbers : Nat → Int32) (t_now_cells : Nat → Int32) (t_now_rows : Nat → Int32) (t_now_sizes : Nat → Int32) (t_now_told : Int32) (t_now_acts : Int32) (t_stress_cells : Nat → Int64) (t_stress_parts : Nat → Int64) (t_stress_det : Int64) (v1 : Int32) (v2 : Int32) (v3 : Int32) (v4 : Int32) : Option (Int64 × (Nat → Int64) × (Nat → Int64) × Int64) := (if (fX7_areLoads t_now_told v1 v2 v3) = 0 then some ((-2), t_stress_cells, t_stress_parts, t_stress_det) else (if v4 < 0 then some ((-2), t_stress_cells, t_stress_parts, t_stress_det) else (if v4 ≤ 2 then ob2 (fX4_take t_stress_cells t_stress_det t_now_cells t_now_rows t_now_sizes t_now_acts 0 0) fun w6 w7 => (fX7_isFlat t_now_cells t_now_rows t_now_sizes t_now_acts).bind fun r9 => (if r9 = 0 then some ((-6), w6, t_stress_parts, w7) else (if (lg_cmp w7 0) = 0 then some ((-6), w6, t_stress_parts, w7) else (fX4_solve w6 t_stress_parts v1 v2 v3).bind fun w15 => (fX4_weakest w15 t_now_numbers t_now_rows t_now_sizes t_now_acts).bind fun r17 => (if r17 = (-1) then some (r17.toInt64, w6, w15, w7) else (if v4 = 2 then some (r17.toInt64, w6, w15, w7) else (fX1_row t_now_rows t_now_acts).bind fun r21 => (fX4_along w15 (fX3_angleAt r21 r17)).bind fun r23 => (fX4_bound w7 t_now_numbers t_now_rows t_now_acts r17).bind fun r25 => (fX4_inLowestTerms r25 (labs r23) v4).bind fun r27 => some (r27, w6, w15, w7))))) else some ((-2), t_stress_cells, t_stress_parts, t_stress_det))))
set_option maxHeartbeats 4000000 in
set_option maxRecDepth 100000 in
theorem ctX7_factor (l : Launch) (g : GT) (sz : Nat) (a_t : Nat → Nat) (a_t_tape : Nat → Nat) (a_t_reader : Nat → Nat) (a_t_now : Nat → Nat) (a_t_choices : Nat → Nat) (a_t_ways : Nat → Nat) (a_t_stress : Nat → Nat) (t_now_told : Int32) (t_now_lines : Int32) (t_now_kinds : Int32) (t_now_acts : Int32) (t_now_numbers : Nat → Int32) (t_now_cells : Nat → Int32) (t_now_rows : Nat → Int32) (t_now_sizes : Nat → Int32) (t_stress_det : Int64) (t_stress_cells : Nat → Int64) (t_stress_parts : Nat → Int64) (v1 : Int32) (v2 : Int32) (v3 : Int32) (v4 : Int32) (o : Int64) (o_t_stress_cells : Nat → Int64) (o_t_stress_parts : Nat → Int64) (o_t_stress_det : Int64) (h : fX7_factor t_now_numbers t_now_cells t_now_rows t_now_sizes t_now_told t_now_acts t_stress_cells t_stress_parts t_stress_det v1 v2 v3 v4 = some (o, o_t_stress_cells, o_t_stress_parts, o_t_stress_det)) : Met l yX7_factor (Cond.code yX7_factor cX7_factor 8 (some .long) :: Tw) ⟨5, 0, 0, 119⟩ (va_Pc [.ref ((a_t 0)), .int v1, .int v2, .int v3, .int v4] (rwB g [((a_t 0), .inr (6, [.ref (a_t_tape 0), .ref (a_t_reader 0), .ref (a_t_now 0), .ref (a_t 4), .ref (a_t_choices 0), .ref (a_t_ways 0), .ref (a_t_stress 0)])), ((a_t_now 0), .inr (1, [.ref (a_t_now 1), .ref (a_t_now 2), .ref (a_t_now 3), .ref (a_t_now 4), .ref (a_t_now 5), .int t_now_told, .int t_now_lines, .int t_now_kinds, .int t_now_acts])), ((a_t_now 1), .inl (g.2.2.1 0, 15, .inl t_now_numbers)), ((a_t_now 2), .inl (g.2.2.1 0, 144, .inl t_now_cells)), ((a_t_now 3), .inl (g.2.2.1 0, 31, .inl t_now_rows)), ((a_t_now 4), .inl (g.2.2.1 0, 31, .inl t_now_sizes)), ((a_t_stress 0), .inr (3, [.ref (a_t_stress 1), .ref (a_t_stress 2), .long t_stress_det])), ((a_t_stress 1), .inl (g.2.2.1 1, 9, .inr (.inl t_stress_cells))), ((a_t_stress 2), .inl (g.2.2.1 1, 3, .inr (.inl t_stress_parts)))] sz)) (va_Ql (fun x (_ : Nat → Nat) => x = o) (fun u => rwE g (va_A [((a_t 0), .inr (6, [.ref (a_t_tape 0), .ref (a_t_reader 0), .ref (a_t_now 0), .ref (a_t 4), .ref (a_t_choices 0), .ref (a_t_ways 0), .ref (a_t_stress 0)])), ((a_t_now 0), .inr (1, [.ref (a_t_now 1), .ref (a_t_now 2), .ref (a_t_now 3), .ref (a_t_now 4), .ref (a_t_now 5), .int t_now_told, .int t_now_lines, .int t_now_kinds, .int t_now_acts])), ((a_t_now 1), .inl (g.2.2.1 0, 15, .inl t_now_numbers)), ((a_t_now 2), .inl (g.2.2.1 0, 144, .inl t_now_cells)), ((a_t_now 3), .inl (g.2.2.1 0, 31, .inl t_now_rows)), ((a_t_now 4), .inl (g.2.2.1 0, 31, .inl t_now_sizes)), ((a_t_stress 0), .inr (3, [.ref (a_t_stress 1), .ref (a_t_stress 2), .long t_stress_det])), ((a_t_stress 1), .inl (g.2.2.1 1, 9, .inr (.inl t_stress_cells))), ((a_t_stress 2), .inl (g.2.2.1 1, 3, .inr (.inl t_stress_parts)))] sz) [((a_t 0), .inr (6, [.ref (a_t_tape 0), .ref (a_t_reader 0), .ref (a_t_now 0), .ref (a_t 4), .ref (a_t_choices 0), .ref (a_t_ways 0), .ref (a_t_stress 0)])), ((a_t_now 0), .inr (1, [.ref (a_t_now 1), .ref (a_t_now 2), .ref (a_t_now 3), .ref (a_t_now 4), .ref (a_t_now 5), .int t_now_told, .int t_now_lines, .int t_now_kinds, .int t_now_acts])), ((a_t_now 1), .inl (g.2.2.1 0, 15, .inl t_now_numbers)), ((a_t_now 2), .inl (g.2.2.1 0, 144, .inl t_now_cells)), ((a_t_now 3), .inl (g.2.2.1 0, 31, .inl t_now_rows)), ((a_t_now 4), .inl (g.2.2.1 0, 31, .inl t_now_sizes)), ((a_t_stress 0), .inr (3, [.ref (a_t_stress 1), .ref (a_t_stress 2), .long o_t_stress_det])), ((a_t_stress 1), .inl (g.2.2.1 1, 9, .inr (.inl o_t_stress_cells))), ((a_t_stress 2), .inl (g.2.2.1 1, 3, .inr (.inl o_t_stress_parts)))]) (va_A [((a_t 0), .inr (6, [.ref (a_t_tape 0), .ref (a_t_reader 0), .ref (a_t_now 0), .ref (a_t 4), .ref (a_t_choices 0), .ref (a_t_ways 0), .ref (a_t_stress 0)])), ((a_t_now 0), .inr (1, [.ref (a_t_now 1), .ref (a_t_now 2), .ref (a_t_now 3), .ref (a_t_now 4), .ref (a_t_now 5), .int t_now_told, .int t_now_lines, .int t_now_kinds, .int t_now_acts])), ((a_t_now 1), .inl (g.2.2.1 0, 15, .inl t_now_numbers)), ((a_t_now 2), .inl (g.2.2.1 0, 144, .inl t_now_cells)), ((a_t_now 3), .inl (g.2.2.1 0, 31, .inl t_now_rows)), ((a_t_now 4), .inl (g.2.2.1 0, 31, .inl t_now_sizes)), ((a_t_stress 0), .inr (3, [.ref (a_t_stress 1), .ref (a_t_stress 2), .long t_stress_det])), ((a_t_stress 1), .inl (g.2.2.1 1, 9, .inr (.inl t_stress_cells))), ((a_t_stress 2), .inl (g.2.2.1 1, 3, .inr (.inl t_stress_parts)))] sz)) 0 0 (va_A [((a_t 0), .inr (6, [.ref (a_t_tape 0), .ref (a_t_reader 0), .ref (a_t_now 0), .ref (a_t 4), .ref (a_t_choices 0), .ref (a_t_ways 0), .ref (a_t_stress 0)])), ((a_t_now 0), .inr (1, [.ref (a_t_now 1), .ref (a_t_now 2), .ref (a_t_now 3), .ref (a_t_now 4), .ref (a_t_now 5), .int t_now_told, .int t_now_lines, .int t_now_kinds, .int t_now_acts])), ((a_t_now 1), .inl (g.2.2.1 0, 15, .inl t_now_numbers)), ((a_t_now 2), .inl (g.2.2.1 0, 144, .inl t_now_cells)), ((a_t_now 3), .inl (g.2.2.1 0, 31, .inl t_now_rows)), ((a_t_now 4), .inl (g.2.2.1 0, 31, .inl t_now_sizes)), ((a_t_stress 0), .inr (3, [.ref (a_t_stress 1), .ref (a_t_stress 2), .long t_stress_det])), ((a_t_stress 1), .inl (g.2.2.1 1, 9, .inr (.inl t_stress_cells))), ((a_t_stress 2), .inl (g.2.2.1 1, 3, .inr (.inl t_stress_parts)))] sz) := by
  refine rw_metl (by decide) (Nat.le_of_ble_eq_true rfl) (lv0 := [(0, .ref ((a_t 0))), (1, .int v1), (2, .int v2), (3, .int v3), (4, .int v4)]) rfl ?_
  intro p e s m args below meth c ls Q A cx hret hG hAb hb0 hA hP hD hl
  have hx := cx.1
  have hb := cx.2.1
  have hG0 := hG
  have hGk : ∀ {H : Heap} {locs : List Loc}, va_S A s.heap H locs → GE g s H := fun hS => hG0.keptS hAb hS
  have hSb : ∀ {H : Heap} {locs : List Loc}, va_S A s.heap H locs → va_S (fun a => g.1 ≤ a) s.heap H locs := fun hS => ⟨hS.1, fun q h1 h2 => hS.2.1 q h1 (fun z => h2 (hAb q z)), fun l hl => hAb _ (hS.2.2 l hl)⟩
  have hS : va_S A s.heap s.heap [] := va_S.rf
  have hrt : ∀ (u : Nat → Nat) (pc : Nat) (ls : Array Slot) (v : Int64) (x_t_stress_cells : Nat → Int64) (x_t_stress_parts : Nat → Int64) (x_t_stress_det : Int64) (H : Heap) (locs : List Loc), decode cX7_factor pc = .ok (.lreturn, 1) → some (v, x_t_stress_cells, x_t_stress_parts, x_t_stress_det) = some (o, o_t_stress_cells, o_t_stress_parts, o_t_stress_det) → va_P g.2.1 vwCl [((a_t 0), .inr (6, [.ref (a_t_tape 0), .ref (a_t_reader 0), .ref (a_t_now 0), .ref (a_t 4), .ref (a_t_choices 0), .ref (a_t_ways 0), .ref (a_t_stress 0)])), ((a_t_now 0), .inr (1, [.ref (a_t_now 1), .ref (a_t_now 2), .ref (a_t_now 3), .ref (a_t_now 4), .ref (a_t_now 5), .int t_now_told, .int t_now_lines, .int t_now_kinds, .int t_now_acts])), ((a_t_now 1), .inl (g.2.2.1 0, 15, .inl t_now_numbers)), ((a_t_now 2), .inl (g.2.2.1 0, 144, .inl t_now_cells)), ((a_t_now 3), .inl (g.2.2.1 0, 31, .inl t_now_rows)), ((a_t_now 4), .inl (g.2.2.1 0, 31, .inl t_now_sizes)), ((a_t_stress 0), .inr (3, [.ref (a_t_stress 1), .ref (a_t_stress 2), .long x_t_stress_det])), ((a_t_stress 1), .inl (g.2.2.1 1, 9, .inr (.inl x_t_stress_cells))), ((a_t_stress 2), .inl (g.2.2.1 1, 3, .inr (.inl x_t_stress_parts)))] H → va_D A [((a_t 0), .inr (6, [.ref (a_t_tape 0), .ref (a_t_reader 0), .ref (a_t_now 0), .ref (a_t 4), .ref (a_t_choices 0), .ref (a_t_ways 0), .ref (a_t_stress 0)])), ((a_t_now 0), .inr (1, [.ref (a_t_now 1), .ref (a_t_now 2), .ref (a_t_now 3), .ref (a_t_now 4), .ref (a_t_now 5), .int t_now_told, .int t_now_lines, .int t_now_kinds, .int t_now_acts])), ((a_t_now 1), .inl (g.2.2.1 0, 15, .inl t_now_numbers)), ((a_t_now 2), .inl (g.2.2.1 0, 144, .inl t_now_cells)), ((a_t_now 3), .inl (g.2.2.1 0, 31, .inl t_now_rows)), ((a_t_now 4), .inl (g.2.2.1 0, 31, .inl t_now_sizes)), ((a_t_stress 0), .inr (3, [.ref (a_t_stress 1), .ref (a_t_stress 2), .long x_t_stress_det])), ((a_t_stress 1), .inl (g.2.2.1 1, 9, .inr (.inl x_t_stress_cells))), ((a_t_stress 2), .inl (g.2.2.1 1, 3, .inr (.inl x_t_stress_parts)))] → va_S A s.heap H locs → W p l e ⟨5, 0, 0, 119⟩ s m args below meth c H locs 0 0 Q (F0 m pc ls [.long v]) := by
    intro u pc ls v x_t_stress_cells x_t_stress_parts x_t_stress_det H locs hd h hP hD hS
    cases h
    exact hret u _ _ _ _ _ hd rfl hP hD hS
  unfold fX7_factor at h
  refine lv_aload_n hx hb dX7_factor_0 rfl (lv_at hl 0 rfl) ?_
  refine lv_iload_n hx hb dX7_factor_1 rfl (lv_at hl 1 rfl) ?_
  refine lv_iload_n hx hb dX7_factor_2 rfl (lv_at hl 2 rfl) ?_
  refine lv_iload_n hx hb dX7_factor_3 rfl (lv_at hl 3 rfl) ?_
  refine ro_z (runV (As := [.int v1, .int v2, .int v3]) (rest := []) cx hl.1 (ctX7_areLoads l g a_t a_t_tape a_t_reader a_t_now a_t_choices a_t_ways a_t_stress t_now_told t_now_lines t_now_kinds t_now_acts v1 v2 v3 (fX7_areLoads t_now_told v1 v2 v3) rfl) kmX7_areLoads kvX7_areLoads lm_X7_177 ⟨rfl, rfl⟩ ⟨Nat.le_of_ble_eq_true rfl, Nat.le_of_ble_eq_true rfl⟩ (roV (q0 := 0) (ci := 6) hG (hP.sub [0, 1] rfl) hP rfl rfl) rfl rfl (Nat.le_of_ble_eq_true rfl) dX7_factor_4 ⟨Nat.le_of_ble_eq_true rfl, Nat.le_of_ble_eq_true rfl⟩) (fun hz1 => ?_)
  refine lv_if_eq (tgt := 21) hx hb dX7_factor_7 (by decide) (fun c2 => ?_) (fun c2 => ?_)
  · have h := itp c2 h
    refine lv_ldc2 (own := RX7) (v := -2) hx hb cx.2.2.2.1 (cx.2.2.2.2 _ cl_X7_162) dX7_factor_21 ?_
    exact hrt (fun _ => 0) _ _ ((-2)) t_stress_cells t_stress_parts t_stress_det _ _ dX7_factor_24 h (hP.sub [0, 1, 2, 3, 4, 5, 6, 7, 8] rfl) (hD.sub [0, 1, 2, 3, 4, 5, 6, 7, 8] (by decide) rfl) hS
  · have h := itn c2 h
    refine lv_iload hx hb dX7_factor_10 (lv_at hl 4 rfl) ?_
    refine lv_if_lt (tgt := 21) hx hb dX7_factor_12 (by decide) (fun c3 => ?_) (fun c3 => ?_)
    · have h := itp c3 h
      refine lv_ldc2 (own := RX7) (v := -2) hx hb cx.2.2.2.1 (cx.2.2.2.2 _ cl_X7_162) dX7_factor_21 ?_
      exact hrt (fun _ => 0) _ _ ((-2)) t_stress_cells t_stress_parts t_stress_det _ _ dX7_factor_24 h (hP.sub [0, 1, 2, 3, 4, 5, 6, 7, 8] rfl) (hD.sub [0, 1, 2, 3, 4, 5, 6, 7, 8] (by decide) rfl) hS
    · have h := itn c3 h
      refine lv_iload hx hb dX7_factor_15 (lv_at hl 4 rfl) ?_
      refine lv_iconst (v := 2) hx hb dX7_factor_17 (by decide) ?_
      refine lv_icmp_le (tgt := 25) hx hb dX7_factor_18 (by decide) (fun c4 => ?_) (fun c4 => ?_)
      · have h := itp c4 h
        refine lv_aload_n hx hb dX7_factor_25 rfl (lv_at hl 0 rfl) ?_
        refine xa_get (C := RX7) (T := TX7) (N := 7) cx hG hP 0 rfl rfl uX7 6 (by decide) lf_X7_55 rfl dX7_factor_26 ?_
        refine lv_aload_n hx hb dX7_factor_29 rfl (lv_at hl 0 rfl) ?_
        refine xa_get (C := RX7) (T := TX7) (N := 7) cx hG hP 0 rfl rfl uX7 2 (by decide) lf_X7_30 rfl dX7_factor_30 ?_
        refine lv_iconst (v := 0) hx hb dX7_factor_33 (by decide) ?_
        refine lv_iconst (v := 0) hx hb dX7_factor_34 (by decide) ?_
        obtain ⟨w6, w7, hr5, h⟩ := ob2_out h
        refine rw_v (WN := fun u8 => [((a_t 0), .inr (6, [.ref (a_t_tape 0), .ref (a_t_reader 0), .ref (a_t_now 0), .ref (a_t 4), .ref (a_t_choices 0), .ref (a_t_ways 0), .ref (a_t_stress 0)])), ((a_t_now 1), .inl (g.2.2.1 0, 15, .inl t_now_numbers)), ((a_t_stress 2), .inl (g.2.2.1 1, 3, .inr (.inl t_stress_parts))), ((a_t_stress 0), .inr (3, [.ref (a_t_stress 1), .ref (a_t_stress 2), .long w7])), ((a_t_stress 1), .inl (g.2.2.1 1, 9, .inr (.inl w6))), ((a_t_now 0), .inr (1, [.ref (a_t_now 1), .ref (a_t_now 2), .ref (a_t_now 3), .ref (a_t_now 4), .ref (a_t_now 5), .int t_now_told, .int t_now_lines, .int t_now_kinds, .int t_now_acts])), ((a_t_now 2), .inl (g.2.2.1 0, 144, .inl t_now_cells)), ((a_t_now 3), .inl (g.2.2.1 0, 31, .inl t_now_rows)), ((a_t_now 4), .inl (g.2.2.1 0, 31, .inl t_now_sizes))]) (wr := [((a_t 0), .inr (6, [.ref (a_t_tape 0), .ref (a_t_reader 0), .ref (a_t_now 0), .ref (a_t 4), .ref (a_t_choices 0), .ref (a_t_ways 0), .ref (a_t_stress 0)])), ((a_t_now 1), .inl (g.2.2.1 0, 15, .inl t_now_numbers)), ((a_t_stress 2), .inl (g.2.2.1 1, 3, .inr (.inl t_stress_parts)))]) (runVN (As := [.ref ((a_t_now 0)), .int (0), .int (0)]) (rest := []) hG cx hl.1 (ctX4_take l g s.heap.size a_t_stress a_t_now t_stress_det t_stress_cells t_now_told t_now_lines t_now_kinds t_now_acts t_now_cells t_now_rows t_now_sizes (0) (0) w6 w7 hr5) kmX4_take kvX4_take nm_37 ⟨rfl, rfl⟩ ⟨Nat.le_of_ble_eq_true rfl, Nat.le_of_ble_eq_true rfl⟩ (rwV (q0 := 6) (ci := 3) hG (hP.sub [6, 7, 1, 3, 4, 5] rfl) (hD.sub [6, 7, 1, 3, 4, 5] (by decide) rfl) hAb hb0 hS hP rfl rfl) rfl rfl (Nat.le_of_ble_eq_true rfl) dX7_factor_35 ⟨Nat.le_of_ble_eq_true rfl, Nat.le_of_ble_eq_true rfl⟩) hP hD hS hA [6, 7, 1, 3, 4, 5] [0, 2, 8] rfl rfl (by decide) (by decide) (fun _ => rfl) (fun u8 H locs hP hD hS => ?_)
        have hG := hGk hS
        refine lv_aload_n hx hb dX7_factor_38 rfl (lv_at hl 0 rfl) ?_
        obtain ⟨r9, hr10, h⟩ := bnd h
        refine ro_z (runV (As := []) (rest := []) cx hl.1 (ctX7_isFlat l g a_t a_t_tape a_t_reader a_t_now a_t_choices a_t_ways a_t_stress t_now_told t_now_lines t_now_kinds t_now_acts t_now_cells t_now_rows t_now_sizes r9 hr10) kmX7_isFlat kvX7_isFlat lm_X7_189 ⟨rfl, rfl⟩ ⟨Nat.le_of_ble_eq_true rfl, Nat.le_of_ble_eq_true rfl⟩ (roV (q0 := 0) (ci := 6) hG (hP.sub [0, 5, 6, 7, 8] rfl) hP rfl rfl) rfl rfl (Nat.le_of_ble_eq_true rfl) dX7_factor_39 ⟨Nat.le_of_ble_eq_true rfl, Nat.le_of_ble_eq_true rfl⟩) (fun hz11 => ?_)
        refine lv_if_eq (tgt := 57) hx hb dX7_factor_42 (by decide) (fun c12 => ?_) (fun c12 => ?_)
        · have h := itp c12 h
          refine lv_ldc2 (own := RX7) (v := -6) hx hb cx.2.2.2.1 (cx.2.2.2.2 _ cl_X7_209) dX7_factor_57 ?_
          exact hrt (fun _ => 0) _ _ ((-6)) w6 t_stress_parts w7 _ _ dX7_factor_60 h (hP.sub [0, 5, 1, 6, 7, 8, 3, 4, 2] rfl) (hD.sub [0, 5, 1, 6, 7, 8, 3, 4, 2] (by decide) rfl) hS
        · have h := itn c12 h
          refine lv_aload_n hx hb dX7_factor_45 rfl (lv_at hl 0 rfl) ?_
          refine xa_get (C := RX7) (T := TX7) (N := 7) cx hG hP 0 rfl rfl uX7 6 (by decide) lf_X7_55 rfl dX7_factor_46 ?_
          refine xa_getN (C := RX4) (T := TX4) (N := 3) cx hG hP 3 rfl rfl uX4 2 (by decide) nf_14 rfl dX7_factor_49 ?_
          refine lv_lconst (v := 0) hx hb dX7_factor_52 (by decide) ?_
          refine W.lcmp hx hb dX7_factor_53 ?_
          refine lv_if_ne (tgt := 61) hx hb dX7_factor_54 (by decide) (fun c13 => ?_) (fun c13 => ?_)
          · have h := itn c13 h
            refine lv_aload_n hx hb dX7_factor_61 rfl (lv_at hl 0 rfl) ?_
            refine xa_get (C := RX7) (T := TX7) (N := 7) cx hG hP 0 rfl rfl uX7 6 (by decide) lf_X7_55 rfl dX7_factor_62 ?_
            refine lv_iload_n hx hb dX7_factor_65 rfl (lv_at hl 1 rfl) ?_
            refine lv_iload_n hx hb dX7_factor_66 rfl (lv_at hl 2 rfl) ?_
            refine lv_iload_n hx hb dX7_factor_67 rfl (lv_at hl 3 rfl) ?_
            obtain ⟨w15, hr14, h⟩ := bnd h
            refine rw_v (WN := fun u16 => [((a_t 0), .inr (6, [.ref (a_t_tape 0), .ref (a_t_reader 0), .ref (a_t_now 0), .ref (a_t 4), .ref (a_t_choices 0), .ref (a_t_ways 0), .ref (a_t_stress 0)])), ((a_t_now 1), .inl (g.2.2.1 0, 15, .inl t_now_numbers)), ((a_t_now 0), .inr (1, [.ref (a_t_now 1), .ref (a_t_now 2), .ref (a_t_now 3), .ref (a_t_now 4), .ref (a_t_now 5), .int t_now_told, .int t_now_lines, .int t_now_kinds, .int t_now_acts])), ((a_t_now 2), .inl (g.2.2.1 0, 144, .inl t_now_cells)), ((a_t_now 3), .inl (g.2.2.1 0, 31, .inl t_now_rows)), ((a_t_now 4), .inl (g.2.2.1 0, 31, .inl t_now_sizes)), ((a_t_stress 0), .inr (3, [.ref (a_t_stress 1), .ref (a_t_stress 2), .long w7])), ((a_t_stress 1), .inl (g.2.2.1 1, 9, .inr (.inl w6))), ((a_t_stress 2), .inl (g.2.2.1 1, 3, .inr (.inl w15)))]) (wr := [((a_t 0), .inr (6, [.ref (a_t_tape 0), .ref (a_t_reader 0), .ref (a_t_now 0), .ref (a_t 4), .ref (a_t_choices 0), .ref (a_t_ways 0), .ref (a_t_stress 0)])), ((a_t_now 1), .inl (g.2.2.1 0, 15, .inl t_now_numbers)), ((a_t_now 0), .inr (1, [.ref (a_t_now 1), .ref (a_t_now 2), .ref (a_t_now 3), .ref (a_t_now 4), .ref (a_t_now 5), .int t_now_told, .int t_now_lines, .int t_now_kinds, .int t_now_acts])), ((a_t_now 2), .inl (g.2.2.1 0, 144, .inl t_now_cells)), ((a_t_now 3), .inl (g.2.2.1 0, 31, .inl t_now_rows)), ((a_t_now 4), .inl (g.2.2.1 0, 31, .inl t_now_sizes))]) (runVN (As := [.int v1, .int v2, .int v3]) (rest := []) hG cx hl.1 (ctX4_solve l g H.size a_t_stress w7 w6 t_stress_parts v1 v2 v3 w15 hr14) kmX4_solve kvX4_solve nm_39 ⟨rfl, rfl⟩ ⟨Nat.le_of_ble_eq_true rfl, Nat.le_of_ble_eq_true rfl⟩ (rwV (q0 := 3) (ci := 3) hG (hP.sub [3, 4, 2] rfl) (hD.sub [3, 4, 2] (by decide) rfl) hAb hb0 hS hP rfl rfl) rfl rfl (Nat.le_of_ble_eq_true rfl) dX7_factor_68 ⟨Nat.le_of_ble_eq_true rfl, Nat.le_of_ble_eq_true rfl⟩) hP hD hS hA [3, 4, 2] [0, 1, 5, 6, 7, 8] rfl rfl (by decide) (by decide) (fun _ => rfl) (fun u16 H locs hP hD hS => ?_)
            have hG := hGk hS
            refine lv_aload_n hx hb dX7_factor_71 rfl (lv_at hl 0 rfl) ?_
            refine xa_get (C := RX7) (T := TX7) (N := 7) cx hG hP 0 rfl rfl uX7 6 (by decide) lf_X7_55 rfl dX7_factor_72 ?_
            refine lv_aload_n hx hb dX7_factor_75 rfl (lv_at hl 0 rfl) ?_
            refine xa_get (C := RX7) (T := TX7) (N := 7) cx hG hP 0 rfl rfl uX7 2 (by decide) lf_X7_30 rfl dX7_factor_76 ?_
            obtain ⟨r17, hr18, h⟩ := bnd h
            refine ro_i (runVN (As := [.ref ((a_t_now 0))]) (rest := []) hG cx hl.1 (ctX4_weakest l g a_t_stress a_t_now w7 w15 t_now_told t_now_lines t_now_kinds t_now_acts t_now_numbers t_now_rows t_now_sizes r17 hr18) kmX4_weakest kvX4_weakest nm_42 ⟨rfl, rfl⟩ ⟨Nat.le_of_ble_eq_true rfl, Nat.le_of_ble_eq_true rfl⟩ (roV (q0 := 6) (ci := 3) hG (hP.sub [6, 8, 2, 1, 4, 5] rfl) hP rfl rfl) rfl rfl (Nat.le_of_ble_eq_true rfl) dX7_factor_79 ⟨Nat.le_of_ble_eq_true rfl, Nat.le_of_ble_eq_true rfl⟩) ?_
            refine lv_istore (lv' := [(5, .int r17), (0, .ref ((a_t 0))), (1, .int v1), (2, .int v2), (3, .int v3), (4, .int v4)]) hx hb dX7_factor_82 hl (by decide) rfl (fun ls hl => ?_)
            refine lv_iload hx hb dX7_factor_84 (lv_at hl 0 rfl) ?_
            refine lv_iconst (v := -1) hx hb dX7_factor_86 (by decide) ?_
            refine lv_icmp_eq (tgt := 96) hx hb dX7_factor_87 (by decide) (fun c19 => ?_) (fun c19 => ?_)
            · have h := itp c19 h
              refine lv_iload hx hb dX7_factor_96 (lv_at hl 0 rfl) ?_
              refine lv_i2l (v := r17.toInt64) hx hb dX7_factor_98 rfl ?_
              exact hrt (fun _ => 0) _ _ r17.toInt64 w6 w15 w7 _ _ dX7_factor_99 h (hP.sub [0, 2, 1, 3, 4, 5, 6, 7, 8] rfl) (hD.sub [0, 2, 1, 3, 4, 5, 6, 7, 8] (by decide) rfl) hS
            · have h := itn c19 h
              refine lv_iload hx hb dX7_factor_90 (lv_at hl 5 rfl) ?_
              refine lv_iconst (v := 2) hx hb dX7_factor_92 (by decide) ?_
              refine lv_icmp_ne (tgt := 100) hx hb dX7_factor_93 (by decide) (fun c20 => ?_) (fun c20 => ?_)
              · have h := itn c20 h
                refine lv_aload_n hx hb dX7_factor_100 rfl (lv_at hl 1 rfl) ?_
                refine xa_get (C := RX7) (T := TX7) (N := 7) cx hG hP 0 rfl rfl uX7 6 (by decide) lf_X7_55 rfl dX7_factor_101 ?_
                refine lv_aload_n hx hb dX7_factor_104 rfl (lv_at hl 1 rfl) ?_
                refine xa_get (C := RX7) (T := TX7) (N := 7) cx hG hP 0 rfl rfl uX7 2 (by decide) lf_X7_30 rfl dX7_factor_105 ?_
                obtain ⟨r21, hr22, h⟩ := bnd h
                refine ro_i (runVN (As := []) (rest := [.ref ((a_t_stress 0))]) hG cx hl.1 (ctX1_row l g a_t_now t_now_told t_now_lines t_now_kinds t_now_acts t_now_rows r21 hr22) kmX1_row kvX1_row nm_25 ⟨rfl, rfl⟩ ⟨Nat.le_of_ble_eq_true rfl, Nat.le_of_ble_eq_true rfl⟩ (roV (q0 := 2) (ci := 1) hG (hP.sub [2, 4] rfl) hP rfl rfl) rfl rfl (Nat.le_of_ble_eq_true rfl) dX7_factor_108 ⟨Nat.le_of_ble_eq_true rfl, Nat.le_of_ble_eq_true rfl⟩) ?_
                refine lv_iload hx hb dX7_factor_111 (lv_at hl 0 rfl) ?_
                refine ro_i (runSN (As := [.int r21, .int r17]) (rest := [.ref ((a_t_stress 0))]) hG cx hl.1 (ctX3_angleAt l g r21 r17 (fX3_angleAt r21 r17) rfl) kmX3_angleAt ksX3_angleAt nm_47 ⟨rfl, rfl⟩ ⟨Nat.le_of_ble_eq_true rfl, Nat.le_of_ble_eq_true rfl⟩ (roS hG (hP.sub [] rfl)) rfl rfl (Nat.le_of_ble_eq_true rfl) dX7_factor_113 ⟨Nat.le_of_ble_eq_true rfl, Nat.le_of_ble_eq_true rfl⟩) ?_
                obtain ⟨r23, hr24, h⟩ := bnd h
                refine ro_l (runVN (As := [.int (fX3_angleAt r21 r17)]) (rest := []) hG cx hl.1 (ctX4_along l g a_t_stress w7 w15 (fX3_angleAt r21 r17) r23 hr24) kmX4_along kvX4_along nm_48 ⟨rfl, rfl⟩ ⟨Nat.le_of_ble_eq_true rfl, Nat.le_of_ble_eq_true rfl⟩ (roV (q0 := 6) (ci := 3) hG (hP.sub [6, 8] rfl) hP rfl rfl) rfl rfl (Nat.le_of_ble_eq_true rfl) dX7_factor_116 ⟨Nat.le_of_ble_eq_true rfl, Nat.le_of_ble_eq_true rfl⟩) ?_
                refine xm_labs cx hl.1 lm_X7_221 ⟨ksJ9_abs_067f4, kmJ9_abs_067f4.2.1, kmJ9_abs_067f4.1⟩ (Nat.le_of_ble_eq_true rfl) (Nat.le_of_ble_eq_true rfl) (Nat.le_of_ble_eq_true rfl) (Nat.le_of_ble_eq_true rfl) dX7_factor_119 ?_
                refine lv_lstore (lv' := [(6, .long (labs r23)), (5, .int r17), (0, .ref ((a_t 0))), (1, .int v1), (2, .int v2), (3, .int v3), (4, .int v4)]) hx hb dX7_factor_122 hl (by decide) rfl (fun ls hl => ?_)
                refine lv_aload_n hx hb dX7_factor_124 rfl (lv_at hl 2 rfl) ?_
                refine xa_get (C := RX7) (T := TX7) (N := 7) cx hG hP 0 rfl rfl uX7 6 (by decide) lf_X7_55 rfl dX7_factor_125 ?_
                refine lv_aload_n hx hb dX7_factor_128 rfl (lv_at hl 2 rfl) ?_
                refine xa_get (C := RX7) (T := TX7) (N := 7) cx hG hP 0 rfl rfl uX7 2 (by decide) lf_X7_30 rfl dX7_factor_129 ?_
                refine lv_iload hx hb dX7_factor_132 (lv_at hl 1 rfl) ?_
                obtain ⟨r25, hr26, h⟩ := bnd h
                refine ro_l (runVN (As := [.ref ((a_t_now 0)), .int r17]) (rest := []) hG cx hl.1 (ctX4_bound l g a_t_stress a_t_now w7 t_now_told t_now_lines t_now_kinds t_now_acts t_now_numbers t_now_rows r17 r25 hr26) kmX4_bound kvX4_bound nm_49 ⟨rfl, rfl⟩ ⟨Nat.le_of_ble_eq_true rfl, Nat.le_of_ble_eq_true rfl⟩ (roV (q0 := 6) (ci := 3) hG (hP.sub [6, 2, 1, 4] rfl) hP rfl rfl) rfl rfl (Nat.le_of_ble_eq_true rfl) dX7_factor_134 ⟨Nat.le_of_ble_eq_true rfl, Nat.le_of_ble_eq_true rfl⟩) ?_
                refine lv_lload hx hb dX7_factor_137 (lv_at hl 0 rfl) ?_
                refine lv_iload hx hb dX7_factor_139 (lv_at hl 6 rfl) ?_
                obtain ⟨r27, hr28, h⟩ := bnd h
                refine ro_l (runSN (As := [.long r25, .long (labs r23), .int v4]) (rest := []) hG cx hl.1 (ctX4_inLowestTerms l g r25 (labs r23) v4 r27 hr28) kmX4_inLowestTerms ksX4_inLowestTerms nm_41 ⟨rfl, rfl⟩ ⟨Nat.le_of_ble_eq_true rfl, Nat.le_of_ble_eq_true rfl⟩ (roS hG (hP.sub [] rfl)) rfl rfl (Nat.le_of_ble_eq_true rfl) dX7_factor_141 ⟨Nat.le_of_ble_eq_true rfl, Nat.le_of_ble_eq_true rfl⟩) ?_
                exact hrt (fun _ => 0) _ _ r27 w6 w15 w7 _ _ dX7_factor_144 h (hP.sub [0, 2, 1, 3, 4, 5, 6, 7, 8] rfl) (hD.sub [0, 2, 1, 3, 4, 5, 6, 7, 8] (by decide) rfl) hS
              · have h := itp c20 h
                refine lv_iload hx hb dX7_factor_96 (lv_at hl 0 rfl) ?_
                refine lv_i2l (v := r17.toInt64) hx hb dX7_factor_98 rfl ?_
                exact hrt (fun _ => 0) _ _ r17.toInt64 w6 w15 w7 _ _ dX7_factor_99 h (hP.sub [0, 2, 1, 3, 4, 5, 6, 7, 8] rfl) (hD.sub [0, 2, 1, 3, 4, 5, 6, 7, 8] (by decide) rfl) hS
          · have h := itp c13 h
            refine lv_ldc2 (own := RX7) (v := -6) hx hb cx.2.2.2.1 (cx.2.2.2.2 _ cl_X7_209) dX7_factor_57 ?_
            exact hrt (fun _ => 0) _ _ ((-6)) w6 t_stress_parts w7 _ _ dX7_factor_60 h (hP.sub [0, 5, 1, 6, 7, 8, 3, 4, 2] rfl) (hD.sub [0, 5, 1, 6, 7, 8, 3, 4, 2] (by decide) rfl) hS
      · have h := itn c4 h
        refine lv_ldc2 (own := RX7) (v := -2) hx hb cx.2.2.2.1 (cx.2.2.2.2 _ cl_X7_162) dX7_factor_21 ?_
        exact hrt (fun _ => 0) _ _ ((-2)) t_stress_cells t_stress_parts t_stress_det _ _ dX7_factor_24 h (hP.sub [0, 1, 2, 3, 4, 5, 6, 7, 8] rfl) (hD.sub [0, 1, 2, 3, 4, 5, 6, 7, 8] (by decide) rfl) hS
-- X7_modulus
theorem dX7_modulus_0 : decode cX7_modulus 0 = .ok (.aload_n 0, 1) := by decide +kernel
theorem dX7_modulus_1 : decode cX7_modulus 1 = .ok (.getfield 30, 3) := by decide +kernel
theorem dX7_modulus_4 : decode cX7_modulus 4 = .ok (.getfield 139, 3) := by decide +kernel
theorem dX7_modulus_7 : decode cX7_modulus 7 = .ok (.ifCond .eq 21, 3) := by decide +kernel
theorem dX7_modulus_10 : decode cX7_modulus 10 = .ok (.iload_n 1, 1) := by decide +kernel
theorem dX7_modulus_11 : decode cX7_modulus 11 = .ok (.ifCond .lt 17, 3) := by decide +kernel
theorem dX7_modulus_14 : decode cX7_modulus 14 = .ok (.iload_n 1, 1) := by decide +kernel
theorem dX7_modulus_15 : decode cX7_modulus 15 = .ok (.iconst 1, 1) := by decide +kernel
theorem dX7_modulus_16 : decode cX7_modulus 16 = .ok (.if_icmp .gt 12, 3) := by decide +kernel
theorem dX7_modulus_19 : decode cX7_modulus 19 = .ok (.iload_n 2, 1) := by decide +kernel
theorem dX7_modulus_20 : decode cX7_modulus 20 = .ok (.ifCond .lt 8, 3) := by decide +kernel
theorem dX7_modulus_23 : decode cX7_modulus 23 = .ok (.iload_n 2, 1) := by decide +kernel
theorem dX7_modulus_24 : decode cX7_modulus 24 = .ok (.iconst 1, 1) := by decide +kernel
theorem dX7_modulus_25 : decode cX7_modulus 25 = .ok (.if_icmp .le 7, 3) := by decide +kernel
theorem dX7_modulus_28 : decode cX7_modulus 28 = .ok (.ldc2_w 162, 3) := by decide +kernel
theorem dX7_modulus_31 : decode cX7_modulus 31 = .ok (.lreturn, 1) := by decide +kernel
theorem dX7_modulus_32 : decode cX7_modulus 32 = .ok (.aload_n 0, 1) := by decide +kernel
theorem dX7_modulus_33 : decode cX7_modulus 33 = .ok (.getfield 55, 3) := by decide +kernel
theorem dX7_modulus_36 : decode cX7_modulus 36 = .ok (.aload_n 0, 1) := by decide +kernel
theorem dX7_modulus_37 : decode cX7_modulus 37 = .ok (.getfield 30, 3) := by decide +kernel
theorem dX7_modulus_40 : decode cX7_modulus 40 = .ok (.iconst 0, 1) := by decide +kernel
theorem dX7_modulus_41 : decode cX7_modulus 41 = .ok (.iconst 0, 1) := by decide +kernel
theorem dX7_modulus_42 : decode cX7_modulus 42 = .ok (.invokevirtual 185, 3) := by decide +kernel
theorem dX7_modulus_45 : decode cX7_modulus 45 = .ok (.aload_n 0, 1) := by decide +kernel
theorem dX7_modulus_46 : decode cX7_modulus 46 = .ok (.getfield 55, 3) := by decide +kernel
theorem dX7_modulus_49 : decode cX7_modulus 49 = .ok (.iload_n 1, 1) := by decide +kernel
theorem dX7_modulus_50 : decode cX7_modulus 50 = .ok (.iload_n 1, 1) := by decide +kernel
theorem dX7_modulus_51 : decode cX7_modulus 51 = .ok (.invokevirtual 231, 3) := by decide +kernel
theorem dX7_modulus_54 : decode cX7_modulus 54 = .ok (.lstore_n 3, 1) := by decide +kernel
theorem dX7_modulus_55 : decode cX7_modulus 55 = .ok (.lload_n 3, 1) := by decide +kernel
theorem dX7_modulus_56 : decode cX7_modulus 56 = .ok (.lconst 0, 1) := by decide +kernel
theorem dX7_modulus_57 : decode cX7_modulus 57 = .ok (.lcmp, 1) := by decide +kernel
theorem dX7_modulus_58 : decode cX7_modulus 58 = .ok (.ifCond .ne 9, 3) := by decide +kernel
theorem dX7_modulus_61 : decode cX7_modulus 61 = .ok (.ldc2_w 209, 3) := by decide +kernel
theorem dX7_modulus_64 : decode cX7_modulus 64 = .ok (.goto 15, 3) := by decide +kernel
theorem dX7_modulus_67 : decode cX7_modulus 67 = .ok (.aload_n 0, 1) := by decide +kernel
theorem dX7_modulus_68 : decode cX7_modulus 68 = .ok (.getfield 55, 3) := by decide +kernel
theorem dX7_modulus_71 : decode cX7_modulus 71 = .ok (.getfield 192, 3) := by decide +kernel
theorem dX7_modulus_74 : decode cX7_modulus 74 = .ok (.lload_n 3, 1) := by decide +kernel
theorem dX7_modulus_75 : decode cX7_modulus 75 = .ok (.iload_n 2, 1) := by decide +kernel
theorem dX7_modulus_76 : decode cX7_modulus 76 = .ok (.invokestatic 205, 3) := by decide +kernel
theorem dX7_modulus_79 : decode cX7_modulus 79 = .ok (.lreturn, 1) := by decide +kernel
noncomputable def fX7_modulus  (t_now_cells : Nat → Int32) (t_now_rows : Nat → Int32) (t_now_sizes : Nat → Int32) (t_now_told : Int32) (t_now_acts : Int32) (t_stress_cells : Nat → Int64) (t_stress_det : Int64) (v1 : Int32) (v2 : Int32) : Option (Int64 × (Nat → Int64) × Int64) := (if t_now_told = 0 then some ((-2), t_stress_cells, t_stress_det) else (if v1 < 0 then some ((-2), t_stress_cells, t_stress_det) else (if 1 < v1 then some ((-2), t_stress_cells, t_stress_det) else (if v2 < 0 then some ((-2), t_stress_cells, t_stress_det) else (if v2 ≤ 1 then ob2 (fX4_take t_stress_cells t_stress_det t_now_cells t_now_rows t_now_sizes t_now_acts 0 0) fun w7 w8 => (fX4_cofactor w7 v1 v1).bind fun r10 => (if (lg_cmp r10 0) = 0 then some ((-6), w7, w8) else (fX4_inLowestTerms w8 r10 v2).bind fun r13 => some (r13, w7, w8)) else some ((-2), t_stress_cells, t_stress_det))))))
set_option maxHeartbeats 4000000 in
set_option maxRecDepth 100000 in
theorem ctX7_modulus (l : Launch) (g : GT) (sz : Nat) (a_t : Nat → Nat) (a_t_tape : Nat → Nat) (a_t_reader : Nat → Nat) (a_t_now : Nat → Nat) (a_t_choices : Nat → Nat) (a_t_ways : Nat → Nat) (a_t_stress : Nat → Nat) (t_now_told : Int32) (t_now_lines : Int32) (t_now_kinds : Int32) (t_now_acts : Int32) (t_now_cells : Nat → Int32) (t_now_rows : Nat → Int32) (t_now_sizes : Nat → Int32) (t_stress_det : Int64) (t_stress_cells : Nat → Int64) (v1 : Int32) (v2 : Int32) (o : Int64) (o_t_stress_cells : Nat → Int64) (o_t_stress_det : Int64) (h : fX7_modulus t_now_cells t_now_rows t_now_sizes t_now_told t_now_acts t_stress_cells t_stress_det v1 v2 = some (o, o_t_stress_cells, o_t_stress_det)) : Met l yX7_modulus (Cond.code yX7_modulus cX7_modulus 5 (some .long) :: Tw) ⟨4, 0, 0, 97⟩ (va_Pc [.ref ((a_t 0)), .int v1, .int v2] (rwB g [((a_t 0), .inr (6, [.ref (a_t_tape 0), .ref (a_t_reader 0), .ref (a_t_now 0), .ref (a_t 4), .ref (a_t_choices 0), .ref (a_t_ways 0), .ref (a_t_stress 0)])), ((a_t_now 0), .inr (1, [.ref (a_t_now 1), .ref (a_t_now 2), .ref (a_t_now 3), .ref (a_t_now 4), .ref (a_t_now 5), .int t_now_told, .int t_now_lines, .int t_now_kinds, .int t_now_acts])), ((a_t_now 2), .inl (g.2.2.1 0, 144, .inl t_now_cells)), ((a_t_now 3), .inl (g.2.2.1 0, 31, .inl t_now_rows)), ((a_t_now 4), .inl (g.2.2.1 0, 31, .inl t_now_sizes)), ((a_t_stress 0), .inr (3, [.ref (a_t_stress 1), .ref (a_t_stress 2), .long t_stress_det])), ((a_t_stress 1), .inl (g.2.2.1 1, 9, .inr (.inl t_stress_cells)))] sz)) (va_Ql (fun x (_ : Nat → Nat) => x = o) (fun u => rwE g (va_A [((a_t 0), .inr (6, [.ref (a_t_tape 0), .ref (a_t_reader 0), .ref (a_t_now 0), .ref (a_t 4), .ref (a_t_choices 0), .ref (a_t_ways 0), .ref (a_t_stress 0)])), ((a_t_now 0), .inr (1, [.ref (a_t_now 1), .ref (a_t_now 2), .ref (a_t_now 3), .ref (a_t_now 4), .ref (a_t_now 5), .int t_now_told, .int t_now_lines, .int t_now_kinds, .int t_now_acts])), ((a_t_now 2), .inl (g.2.2.1 0, 144, .inl t_now_cells)), ((a_t_now 3), .inl (g.2.2.1 0, 31, .inl t_now_rows)), ((a_t_now 4), .inl (g.2.2.1 0, 31, .inl t_now_sizes)), ((a_t_stress 0), .inr (3, [.ref (a_t_stress 1), .ref (a_t_stress 2), .long t_stress_det])), ((a_t_stress 1), .inl (g.2.2.1 1, 9, .inr (.inl t_stress_cells)))] sz) [((a_t 0), .inr (6, [.ref (a_t_tape 0), .ref (a_t_reader 0), .ref (a_t_now 0), .ref (a_t 4), .ref (a_t_choices 0), .ref (a_t_ways 0), .ref (a_t_stress 0)])), ((a_t_now 0), .inr (1, [.ref (a_t_now 1), .ref (a_t_now 2), .ref (a_t_now 3), .ref (a_t_now 4), .ref (a_t_now 5), .int t_now_told, .int t_now_lines, .int t_now_kinds, .int t_now_acts])), ((a_t_now 2), .inl (g.2.2.1 0, 144, .inl t_now_cells)), ((a_t_now 3), .inl (g.2.2.1 0, 31, .inl t_now_rows)), ((a_t_now 4), .inl (g.2.2.1 0, 31, .inl t_now_sizes)), ((a_t_stress 0), .inr (3, [.ref (a_t_stress 1), .ref (a_t_stress 2), .long o_t_stress_det])), ((a_t_stress 1), .inl (g.2.2.1 1, 9, .inr (.inl o_t_stress_cells)))]) (va_A [((a_t 0), .inr (6, [.ref (a_t_tape 0), .ref (a_t_reader 0), .ref (a_t_now 0), .ref (a_t 4), .ref (a_t_choices 0), .ref (a_t_ways 0), .ref (a_t_stress 0)])), ((a_t_now 0), .inr (1, [.ref (a_t_now 1), .ref (a_t_now 2), .ref (a_t_now 3), .ref (a_t_now 4), .ref (a_t_now 5), .int t_now_told, .int t_now_lines, .int t_now_kinds, .int t_now_acts])), ((a_t_now 2), .inl (g.2.2.1 0, 144, .inl t_now_cells)), ((a_t_now 3), .inl (g.2.2.1 0, 31, .inl t_now_rows)), ((a_t_now 4), .inl (g.2.2.1 0, 31, .inl t_now_sizes)), ((a_t_stress 0), .inr (3, [.ref (a_t_stress 1), .ref (a_t_stress 2), .long t_stress_det])), ((a_t_stress 1), .inl (g.2.2.1 1, 9, .inr (.inl t_stress_cells)))] sz)) 0 0 (va_A [((a_t 0), .inr (6, [.ref (a_t_tape 0), .ref (a_t_reader 0), .ref (a_t_now 0), .ref (a_t 4), .ref (a_t_choices 0), .ref (a_t_ways 0), .ref (a_t_stress 0)])), ((a_t_now 0), .inr (1, [.ref (a_t_now 1), .ref (a_t_now 2), .ref (a_t_now 3), .ref (a_t_now 4), .ref (a_t_now 5), .int t_now_told, .int t_now_lines, .int t_now_kinds, .int t_now_acts])), ((a_t_now 2), .inl (g.2.2.1 0, 144, .inl t_now_cells)), ((a_t_now 3), .inl (g.2.2.1 0, 31, .inl t_now_rows)), ((a_t_now 4), .inl (g.2.2.1 0, 31, .inl t_now_sizes)), ((a_t_stress 0), .inr (3, [.ref (a_t_stress 1), .ref (a_t_stress 2), .long t_stress_det])), ((a_t_stress 1), .inl (g.2.2.1 1, 9, .inr (.inl t_stress_cells)))] sz) := by
  refine rw_metl (by decide) (Nat.le_of_ble_eq_true rfl) (lv0 := [(0, .ref ((a_t 0))), (1, .int v1), (2, .int v2)]) rfl ?_
  intro p e s m args below meth c ls Q A cx hret hG hAb hb0 hA hP hD hl
  have hx := cx.1
  have hb := cx.2.1
  have hG0 := hG
  have hGk : ∀ {H : Heap} {locs : List Loc}, va_S A s.heap H locs → GE g s H := fun hS => hG0.keptS hAb hS
  have hSb : ∀ {H : Heap} {locs : List Loc}, va_S A s.heap H locs → va_S (fun a => g.1 ≤ a) s.heap H locs := fun hS => ⟨hS.1, fun q h1 h2 => hS.2.1 q h1 (fun z => h2 (hAb q z)), fun l hl => hAb _ (hS.2.2 l hl)⟩
  have hS : va_S A s.heap s.heap [] := va_S.rf
  have hrt : ∀ (u : Nat → Nat) (pc : Nat) (ls : Array Slot) (v : Int64) (x_t_stress_cells : Nat → Int64) (x_t_stress_det : Int64) (H : Heap) (locs : List Loc), decode cX7_modulus pc = .ok (.lreturn, 1) → some (v, x_t_stress_cells, x_t_stress_det) = some (o, o_t_stress_cells, o_t_stress_det) → va_P g.2.1 vwCl [((a_t 0), .inr (6, [.ref (a_t_tape 0), .ref (a_t_reader 0), .ref (a_t_now 0), .ref (a_t 4), .ref (a_t_choices 0), .ref (a_t_ways 0), .ref (a_t_stress 0)])), ((a_t_now 0), .inr (1, [.ref (a_t_now 1), .ref (a_t_now 2), .ref (a_t_now 3), .ref (a_t_now 4), .ref (a_t_now 5), .int t_now_told, .int t_now_lines, .int t_now_kinds, .int t_now_acts])), ((a_t_now 2), .inl (g.2.2.1 0, 144, .inl t_now_cells)), ((a_t_now 3), .inl (g.2.2.1 0, 31, .inl t_now_rows)), ((a_t_now 4), .inl (g.2.2.1 0, 31, .inl t_now_sizes)), ((a_t_stress 0), .inr (3, [.ref (a_t_stress 1), .ref (a_t_stress 2), .long x_t_stress_det])), ((a_t_stress 1), .inl (g.2.2.1 1, 9, .inr (.inl x_t_stress_cells)))] H → va_D A [((a_t 0), .inr (6, [.ref (a_t_tape 0), .ref (a_t_reader 0), .ref (a_t_now 0), .ref (a_t 4), .ref (a_t_choices 0), .ref (a_t_ways 0), .ref (a_t_stress 0)])), ((a_t_now 0), .inr (1, [.ref (a_t_now 1), .ref (a_t_now 2), .ref (a_t_now 3), .ref (a_t_now 4), .ref (a_t_now 5), .int t_now_told, .int t_now_lines, .int t_now_kinds, .int t_now_acts])), ((a_t_now 2), .inl (g.2.2.1 0, 144, .inl t_now_cells)), ((a_t_now 3), .inl (g.2.2.1 0, 31, .inl t_now_rows)), ((a_t_now 4), .inl (g.2.2.1 0, 31, .inl t_now_sizes)), ((a_t_stress 0), .inr (3, [.ref (a_t_stress 1), .ref (a_t_stress 2), .long x_t_stress_det])), ((a_t_stress 1), .inl (g.2.2.1 1, 9, .inr (.inl x_t_stress_cells)))] → va_S A s.heap H locs → W p l e ⟨4, 0, 0, 97⟩ s m args below meth c H locs 0 0 Q (F0 m pc ls [.long v]) := by
    intro u pc ls v x_t_stress_cells x_t_stress_det H locs hd h hP hD hS
    cases h
    exact hret u _ _ _ _ _ hd rfl hP hD hS
  unfold fX7_modulus at h
  refine lv_aload_n hx hb dX7_modulus_0 rfl (lv_at hl 0 rfl) ?_
  refine xa_get (C := RX7) (T := TX7) (N := 7) cx hG hP 0 rfl rfl uX7 2 (by decide) lf_X7_30 rfl dX7_modulus_1 ?_
  refine xa_getN (C := RX1) (T := TX1) (N := 9) cx hG hP 1 rfl rfl uX1 5 (by decide) nf_5 rfl dX7_modulus_4 ?_
  refine lv_if_eq (tgt := 28) hx hb dX7_modulus_7 (by decide) (fun c1 => ?_) (fun c1 => ?_)
  · have h := itp c1 h
    refine lv_ldc2 (own := RX7) (v := -2) hx hb cx.2.2.2.1 (cx.2.2.2.2 _ cl_X7_162) dX7_modulus_28 ?_
    exact hrt (fun _ => 0) _ _ ((-2)) t_stress_cells t_stress_det _ _ dX7_modulus_31 h (hP.sub [0, 1, 2, 3, 4, 5, 6] rfl) (hD.sub [0, 1, 2, 3, 4, 5, 6] (by decide) rfl) hS
  · have h := itn c1 h
    refine lv_iload_n hx hb dX7_modulus_10 rfl (lv_at hl 1 rfl) ?_
    refine lv_if_lt (tgt := 28) hx hb dX7_modulus_11 (by decide) (fun c2 => ?_) (fun c2 => ?_)
    · have h := itp c2 h
      refine lv_ldc2 (own := RX7) (v := -2) hx hb cx.2.2.2.1 (cx.2.2.2.2 _ cl_X7_162) dX7_modulus_28 ?_
      exact hrt (fun _ => 0) _ _ ((-2)) t_stress_cells t_stress_det _ _ dX7_modulus_31 h (hP.sub [0, 1, 2, 3, 4, 5, 6] rfl) (hD.sub [0, 1, 2, 3, 4, 5, 6] (by decide) rfl) hS
    · have h := itn c2 h
      refine lv_iload_n hx hb dX7_modulus_14 rfl (lv_at hl 1 rfl) ?_
      refine lv_iconst (v := 1) hx hb dX7_modulus_15 (by decide) ?_
      refine lv_icmp_gt (tgt := 28) hx hb dX7_modulus_16 (by decide) (fun c3 => ?_) (fun c3 => ?_)
      · have h := itp c3 h
        refine lv_ldc2 (own := RX7) (v := -2) hx hb cx.2.2.2.1 (cx.2.2.2.2 _ cl_X7_162) dX7_modulus_28 ?_
        exact hrt (fun _ => 0) _ _ ((-2)) t_stress_cells t_stress_det _ _ dX7_modulus_31 h (hP.sub [0, 1, 2, 3, 4, 5, 6] rfl) (hD.sub [0, 1, 2, 3, 4, 5, 6] (by decide) rfl) hS
      · have h := itn c3 h
        refine lv_iload_n hx hb dX7_modulus_19 rfl (lv_at hl 2 rfl) ?_
        refine lv_if_lt (tgt := 28) hx hb dX7_modulus_20 (by decide) (fun c4 => ?_) (fun c4 => ?_)
        · have h := itp c4 h
          refine lv_ldc2 (own := RX7) (v := -2) hx hb cx.2.2.2.1 (cx.2.2.2.2 _ cl_X7_162) dX7_modulus_28 ?_
          exact hrt (fun _ => 0) _ _ ((-2)) t_stress_cells t_stress_det _ _ dX7_modulus_31 h (hP.sub [0, 1, 2, 3, 4, 5, 6] rfl) (hD.sub [0, 1, 2, 3, 4, 5, 6] (by decide) rfl) hS
        · have h := itn c4 h
          refine lv_iload_n hx hb dX7_modulus_23 rfl (lv_at hl 2 rfl) ?_
          refine lv_iconst (v := 1) hx hb dX7_modulus_24 (by decide) ?_
          refine lv_icmp_le (tgt := 32) hx hb dX7_modulus_25 (by decide) (fun c5 => ?_) (fun c5 => ?_)
          · have h := itp c5 h
            refine lv_aload_n hx hb dX7_modulus_32 rfl (lv_at hl 0 rfl) ?_
            refine xa_get (C := RX7) (T := TX7) (N := 7) cx hG hP 0 rfl rfl uX7 6 (by decide) lf_X7_55 rfl dX7_modulus_33 ?_
            refine lv_aload_n hx hb dX7_modulus_36 rfl (lv_at hl 0 rfl) ?_
            refine xa_get (C := RX7) (T := TX7) (N := 7) cx hG hP 0 rfl rfl uX7 2 (by decide) lf_X7_30 rfl dX7_modulus_37 ?_
            refine lv_iconst (v := 0) hx hb dX7_modulus_40 (by decide) ?_
            refine lv_iconst (v := 0) hx hb dX7_modulus_41 (by decide) ?_
            obtain ⟨w7, w8, hr6, h⟩ := ob2_out h
            refine rw_v (WN := fun u9 => [((a_t 0), .inr (6, [.ref (a_t_tape 0), .ref (a_t_reader 0), .ref (a_t_now 0), .ref (a_t 4), .ref (a_t_choices 0), .ref (a_t_ways 0), .ref (a_t_stress 0)])), ((a_t_stress 0), .inr (3, [.ref (a_t_stress 1), .ref (a_t_stress 2), .long w8])), ((a_t_stress 1), .inl (g.2.2.1 1, 9, .inr (.inl w7))), ((a_t_now 0), .inr (1, [.ref (a_t_now 1), .ref (a_t_now 2), .ref (a_t_now 3), .ref (a_t_now 4), .ref (a_t_now 5), .int t_now_told, .int t_now_lines, .int t_now_kinds, .int t_now_acts])), ((a_t_now 2), .inl (g.2.2.1 0, 144, .inl t_now_cells)), ((a_t_now 3), .inl (g.2.2.1 0, 31, .inl t_now_rows)), ((a_t_now 4), .inl (g.2.2.1 0, 31, .inl t_now_sizes))]) (wr := [((a_t 0), .inr (6, [.ref (a_t_tape 0), .ref (a_t_reader 0), .ref (a_t_now 0), .ref (a_t 4), .ref (a_t_choices 0), .ref (a_t_ways 0), .ref (a_t_stress 0)]))]) (runVN (As := [.ref ((a_t_now 0)), .int (0), .int (0)]) (rest := []) hG cx hl.1 (ctX4_take l g s.heap.size a_t_stress a_t_now t_stress_det t_stress_cells t_now_told t_now_lines t_now_kinds t_now_acts t_now_cells t_now_rows t_now_sizes (0) (0) w7 w8 hr6) kmX4_take kvX4_take nm_37 ⟨rfl, rfl⟩ ⟨Nat.le_of_ble_eq_true rfl, Nat.le_of_ble_eq_true rfl⟩ (rwV (q0 := 5) (ci := 3) hG (hP.sub [5, 6, 1, 2, 3, 4] rfl) (hD.sub [5, 6, 1, 2, 3, 4] (by decide) rfl) hAb hb0 hS hP rfl rfl) rfl rfl (Nat.le_of_ble_eq_true rfl) dX7_modulus_42 ⟨Nat.le_of_ble_eq_true rfl, Nat.le_of_ble_eq_true rfl⟩) hP hD hS hA [5, 6, 1, 2, 3, 4] [0] rfl rfl (by decide) (by decide) (fun _ => rfl) (fun u9 H locs hP hD hS => ?_)
            have hG := hGk hS
            refine lv_aload_n hx hb dX7_modulus_45 rfl (lv_at hl 0 rfl) ?_
            refine xa_get (C := RX7) (T := TX7) (N := 7) cx hG hP 0 rfl rfl uX7 6 (by decide) lf_X7_55 rfl dX7_modulus_46 ?_
            refine lv_iload_n hx hb dX7_modulus_49 rfl (lv_at hl 1 rfl) ?_
            refine lv_iload_n hx hb dX7_modulus_50 rfl (lv_at hl 1 rfl) ?_
            obtain ⟨r10, hr11, h⟩ := bnd h
            refine ro_l (runVN (As := [.int v1, .int v1]) (rest := []) hG cx hl.1 (ctX4_cofactor l g a_t_stress w8 w7 v1 v1 r10 hr11) kmX4_cofactor kvX4_cofactor nm_50 ⟨rfl, rfl⟩ ⟨Nat.le_of_ble_eq_true rfl, Nat.le_of_ble_eq_true rfl⟩ (roV (q0 := 1) (ci := 3) hG (hP.sub [1, 2] rfl) hP rfl rfl) rfl rfl (Nat.le_of_ble_eq_true rfl) dX7_modulus_51 ⟨Nat.le_of_ble_eq_true rfl, Nat.le_of_ble_eq_true rfl⟩) ?_
            refine lv_lstore_n (lv' := [(3, .long r10), (0, .ref ((a_t 0))), (1, .int v1), (2, .int v2)]) hx hb dX7_modulus_54 rfl hl (by decide) rfl (fun ls hl => ?_)
            refine lv_lload_n hx hb dX7_modulus_55 rfl (lv_at hl 0 rfl) ?_
            refine lv_lconst (v := 0) hx hb dX7_modulus_56 (by decide) ?_
            refine W.lcmp hx hb dX7_modulus_57 ?_
            refine lv_if_ne (tgt := 67) hx hb dX7_modulus_58 (by decide) (fun c12 => ?_) (fun c12 => ?_)
            · have h := itn c12 h
              refine lv_aload_n hx hb dX7_modulus_67 rfl (lv_at hl 1 rfl) ?_
              refine xa_get (C := RX7) (T := TX7) (N := 7) cx hG hP 0 rfl rfl uX7 6 (by decide) lf_X7_55 rfl dX7_modulus_68 ?_
              refine xa_getN (C := RX4) (T := TX4) (N := 3) cx hG hP 1 rfl rfl uX4 2 (by decide) nf_14 rfl dX7_modulus_71 ?_
              refine lv_lload_n hx hb dX7_modulus_74 rfl (lv_at hl 0 rfl) ?_
              refine lv_iload_n hx hb dX7_modulus_75 rfl (lv_at hl 3 rfl) ?_
              obtain ⟨r13, hr14, h⟩ := bnd h
              refine ro_l (runSN (As := [.long w8, .long r10, .int v2]) (rest := []) hG cx hl.1 (ctX4_inLowestTerms l g w8 r10 v2 r13 hr14) kmX4_inLowestTerms ksX4_inLowestTerms nm_41 ⟨rfl, rfl⟩ ⟨Nat.le_of_ble_eq_true rfl, Nat.le_of_ble_eq_true rfl⟩ (roS hG (hP.sub [] rfl)) rfl rfl (Nat.le_of_ble_eq_true rfl) dX7_modulus_76 ⟨Nat.le_of_ble_eq_true rfl, Nat.le_of_ble_eq_true rfl⟩) ?_
              exact hrt (fun _ => 0) _ _ r13 w7 w8 _ _ dX7_modulus_79 h (hP.sub [0, 3, 4, 5, 6, 1, 2] rfl) (hD.sub [0, 3, 4, 5, 6, 1, 2] (by decide) rfl) hS
            · have h := itp c12 h
              refine lv_ldc2 (own := RX7) (v := -6) hx hb cx.2.2.2.1 (cx.2.2.2.2 _ cl_X7_209) dX7_modulus_61 ?_
              refine lv_goto (tgt := 79) hx hb dX7_modulus_64 (by decide) ?_
              exact hrt (fun _ => 0) _ _ ((-6)) w7 w8 _ _ dX7_modulus_79 h (hP.sub [0, 3, 4, 5, 6, 1, 2] rfl) (hD.sub [0, 3, 4, 5, 6, 1, 2] (by decide) rfl) hS
          · have h := itn c5 h
            refine lv_ldc2 (own := RX7) (v := -2) hx hb cx.2.2.2.1 (cx.2.2.2.2 _ cl_X7_162) dX7_modulus_28 ?_
            exact hrt (fun _ => 0) _ _ ((-2)) t_stress_cells t_stress_det _ _ dX7_modulus_31 h (hP.sub [0, 1, 2, 3, 4, 5, 6] rfl) (hD.sub [0, 1, 2, 3, 4, 5, 6] (by decide) rfl) hS
-- X7_carries
theorem dX7_carries_0 : decode cX7_carries 0 = .ok (.aload_n 0, 1) := by decide +kernel
theorem dX7_carries_1 : decode cX7_carries 1 = .ok (.getfield 30, 3) := by decide +kernel
theorem dX7_carries_4 : decode cX7_carries 4 = .ok (.getfield 139, 3) := by decide +kernel
theorem dX7_carries_7 : decode cX7_carries 7 = .ok (.ifCond .eq 12, 3) := by decide +kernel
theorem dX7_carries_10 : decode cX7_carries 10 = .ok (.iload_n 1, 1) := by decide +kernel
theorem dX7_carries_11 : decode cX7_carries 11 = .ok (.ifCond .lt 8, 3) := by decide +kernel
theorem dX7_carries_14 : decode cX7_carries 14 = .ok (.iload_n 1, 1) := by decide +kernel
theorem dX7_carries_15 : decode cX7_carries 15 = .ok (.iconst 1, 1) := by decide +kernel
theorem dX7_carries_16 : decode cX7_carries 16 = .ok (.if_icmp .le 6, 3) := by decide +kernel
theorem dX7_carries_19 : decode cX7_carries 19 = .ok (.bipush (-2), 2) := by decide +kernel
theorem dX7_carries_21 : decode cX7_carries 21 = .ok (.ireturn, 1) := by decide +kernel
theorem dX7_carries_22 : decode cX7_carries 22 = .ok (.aload_n 0, 1) := by decide +kernel
theorem dX7_carries_23 : decode cX7_carries 23 = .ok (.getfield 55, 3) := by decide +kernel
theorem dX7_carries_26 : decode cX7_carries 26 = .ok (.aload_n 0, 1) := by decide +kernel
theorem dX7_carries_27 : decode cX7_carries 27 = .ok (.getfield 30, 3) := by decide +kernel
theorem dX7_carries_30 : decode cX7_carries 30 = .ok (.iconst 0, 1) := by decide +kernel
theorem dX7_carries_31 : decode cX7_carries 31 = .ok (.iconst 0, 1) := by decide +kernel
theorem dX7_carries_32 : decode cX7_carries 32 = .ok (.invokevirtual 185, 3) := by decide +kernel
theorem dX7_carries_35 : decode cX7_carries 35 = .ok (.aload_n 0, 1) := by decide +kernel
theorem dX7_carries_36 : decode cX7_carries 36 = .ok (.getfield 55, 3) := by decide +kernel
theorem dX7_carries_39 : decode cX7_carries 39 = .ok (.getfield 192, 3) := by decide +kernel
theorem dX7_carries_42 : decode cX7_carries 42 = .ok (.lconst 0, 1) := by decide +kernel
theorem dX7_carries_43 : decode cX7_carries 43 = .ok (.lcmp, 1) := by decide +kernel
theorem dX7_carries_44 : decode cX7_carries 44 = .ok (.ifCond .ne 5, 3) := by decide +kernel
theorem dX7_carries_47 : decode cX7_carries 47 = .ok (.iconst (-1), 1) := by decide +kernel
theorem dX7_carries_48 : decode cX7_carries 48 = .ok (.ireturn, 1) := by decide +kernel
theorem dX7_carries_49 : decode cX7_carries 49 = .ok (.aload_n 0, 1) := by decide +kernel
theorem dX7_carries_50 : decode cX7_carries 50 = .ok (.getfield 55, 3) := by decide +kernel
theorem dX7_carries_53 : decode cX7_carries 53 = .ok (.iload_n 1, 1) := by decide +kernel
theorem dX7_carries_54 : decode cX7_carries 54 = .ok (.ifCond .ne 7, 3) := by decide +kernel
theorem dX7_carries_57 : decode cX7_carries 57 = .ok (.iconst 1, 1) := by decide +kernel
theorem dX7_carries_58 : decode cX7_carries 58 = .ok (.goto 4, 3) := by decide +kernel
theorem dX7_carries_61 : decode cX7_carries 61 = .ok (.iconst 0, 1) := by decide +kernel
theorem dX7_carries_62 : decode cX7_carries 62 = .ok (.iload_n 1, 1) := by decide +kernel
theorem dX7_carries_63 : decode cX7_carries 63 = .ok (.iconst 1, 1) := by decide +kernel
theorem dX7_carries_64 : decode cX7_carries 64 = .ok (.if_icmp .ne 7, 3) := by decide +kernel
theorem dX7_carries_67 : decode cX7_carries 67 = .ok (.iconst 1, 1) := by decide +kernel
theorem dX7_carries_68 : decode cX7_carries 68 = .ok (.goto 4, 3) := by decide +kernel
theorem dX7_carries_71 : decode cX7_carries 71 = .ok (.iconst 0, 1) := by decide +kernel
theorem dX7_carries_72 : decode cX7_carries 72 = .ok (.iconst 0, 1) := by decide +kernel
theorem dX7_carries_73 : decode cX7_carries 73 = .ok (.invokevirtual 198, 3) := by decide +kernel
theorem dX7_carries_76 : decode cX7_carries 76 = .ok (.aload_n 0, 1) := by decide +kernel
theorem dX7_carries_77 : decode cX7_carries 77 = .ok (.getfield 55, 3) := by decide +kernel
theorem dX7_carries_80 : decode cX7_carries 80 = .ok (.aload_n 0, 1) := by decide +kernel
theorem dX7_carries_81 : decode cX7_carries 81 = .ok (.getfield 30, 3) := by decide +kernel
theorem dX7_carries_84 : decode cX7_carries 84 = .ok (.sipush 999, 3) := by decide +kernel
theorem dX7_carries_87 : decode cX7_carries 87 = .ok (.invokevirtual 235, 3) := by decide +kernel
theorem dX7_carries_90 : decode cX7_carries 90 = .ok (.ireturn, 1) := by decide +kernel
noncomputable def fX7_carries_72  (t_now_numbers : Nat → Int32) (t_now_rows : Nat → Int32) (t_now_sizes : Nat → Int32) (t_now_acts : Int32) (t_stress_cells : Nat → Int64) (t_stress_parts : Nat → Int64) (t_stress_det : Int64) (z1 : Int32) (z2 : Int32) : Option (Int32 × (Nat → Int64) × (Nat → Int64) × Int64) := (fX4_solve t_stress_cells t_stress_parts z1 z2 0).bind fun w12 => (fX4_greatestTimes w12 t_stress_det t_now_numbers t_now_rows t_now_sizes t_now_acts 999).bind fun r14 => some (r14, t_stress_cells, w12, t_stress_det)
noncomputable def fX7_carries_62  (t_now_numbers : Nat → Int32) (t_now_rows : Nat → Int32) (t_now_sizes : Nat → Int32) (t_now_acts : Int32) (t_stress_cells : Nat → Int64) (t_stress_parts : Nat → Int64) (t_stress_det : Int64) (v1 : Int32) (z1 : Int32) : Option (Int32 × (Nat → Int64) × (Nat → Int64) × Int64) := (if v1 = 1 then fX7_carries_72 t_now_numbers t_now_rows t_now_sizes t_now_acts t_stress_cells t_stress_parts t_stress_det z1 1 else fX7_carries_72 t_now_numbers t_now_rows t_now_sizes t_now_acts t_stress_cells t_stress_parts t_stress_det z1 0)
noncomputable def fX7_carries  (t_now_numbers : Nat → Int32) (t_now_cells : Nat → Int32) (t_now_rows : Nat → Int32) (t_now_sizes : Nat → Int32) (t_now_told : Int32) (t_now_acts : Int32) (t_stress_cells : Nat → Int64) (t_stress_parts : Nat → Int64) (t_stress_det : Int64) (v1 : Int32) : Option (Int32 × (Nat → Int64) × (Nat → Int64) × Int64) := (if t_now_told = 0 then some ((-2), t_stress_cells, t_stress_parts, t_stress_det) else (if v1 < 0 then some ((-2), t_stress_cells, t_stress_parts, t_stress_det) else (if v1 ≤ 1 then ob2 (fX4_take t_stress_cells t_stress_det t_now_cells t_now_rows t_now_sizes t_now_acts 0 0) fun w5 w6 => (if (lg_cmp w6 0) = 0 then some ((-1), w5, t_stress_parts, w6) else (if v1 = 0 then fX7_carries_62 t_now_numbers t_now_rows t_now_sizes t_now_acts w5 t_stress_parts w6 v1 1 else fX7_carries_62 t_now_numbers t_now_rows t_now_sizes t_now_acts w5 t_stress_parts w6 v1 0)) else some ((-2), t_stress_cells, t_stress_parts, t_stress_det))))
set_option maxHeartbeats 4000000 in
set_option maxRecDepth 100000 in
theorem ctX7_carries (l : Launch) (g : GT) (sz : Nat) (a_t : Nat → Nat) (a_t_tape : Nat → Nat) (a_t_reader : Nat → Nat) (a_t_now : Nat → Nat) (a_t_choices : Nat → Nat) (a_t_ways : Nat → Nat) (a_t_stress : Nat → Nat) (t_now_told : Int32) (t_now_lines : Int32) (t_now_kinds : Int32) (t_now_acts : Int32) (t_now_numbers : Nat → Int32) (t_now_cells : Nat → Int32) (t_now_rows : Nat → Int32) (t_now_sizes : Nat → Int32) (t_stress_det : Int64) (t_stress_cells : Nat → Int64) (t_stress_parts : Nat → Int64) (v1 : Int32) (o : Int32) (o_t_stress_cells : Nat → Int64) (o_t_stress_parts : Nat → Int64) (o_t_stress_det : Int64) (h : fX7_carries t_now_numbers t_now_cells t_now_rows t_now_sizes t_now_told t_now_acts t_stress_cells t_stress_parts t_stress_det v1 = some (o, o_t_stress_cells, o_t_stress_parts, o_t_stress_det)) : Met l yX7_carries (Cond.code yX7_carries cX7_carries 2 (some .int) :: Tw) ⟨4, 0, 0, 97⟩ (va_Pc [.ref ((a_t 0)), .int v1] (rwB g [((a_t 0), .inr (6, [.ref (a_t_tape 0), .ref (a_t_reader 0), .ref (a_t_now 0), .ref (a_t 4), .ref (a_t_choices 0), .ref (a_t_ways 0), .ref (a_t_stress 0)])), ((a_t_now 0), .inr (1, [.ref (a_t_now 1), .ref (a_t_now 2), .ref (a_t_now 3), .ref (a_t_now 4), .ref (a_t_now 5), .int t_now_told, .int t_now_lines, .int t_now_kinds, .int t_now_acts])), ((a_t_now 1), .inl (g.2.2.1 0, 15, .inl t_now_numbers)), ((a_t_now 2), .inl (g.2.2.1 0, 144, .inl t_now_cells)), ((a_t_now 3), .inl (g.2.2.1 0, 31, .inl t_now_rows)), ((a_t_now 4), .inl (g.2.2.1 0, 31, .inl t_now_sizes)), ((a_t_stress 0), .inr (3, [.ref (a_t_stress 1), .ref (a_t_stress 2), .long t_stress_det])), ((a_t_stress 1), .inl (g.2.2.1 1, 9, .inr (.inl t_stress_cells))), ((a_t_stress 2), .inl (g.2.2.1 1, 3, .inr (.inl t_stress_parts)))] sz)) (va_Qi (fun x (_ : Nat → Nat) => x = o) (fun u => rwE g (va_A [((a_t 0), .inr (6, [.ref (a_t_tape 0), .ref (a_t_reader 0), .ref (a_t_now 0), .ref (a_t 4), .ref (a_t_choices 0), .ref (a_t_ways 0), .ref (a_t_stress 0)])), ((a_t_now 0), .inr (1, [.ref (a_t_now 1), .ref (a_t_now 2), .ref (a_t_now 3), .ref (a_t_now 4), .ref (a_t_now 5), .int t_now_told, .int t_now_lines, .int t_now_kinds, .int t_now_acts])), ((a_t_now 1), .inl (g.2.2.1 0, 15, .inl t_now_numbers)), ((a_t_now 2), .inl (g.2.2.1 0, 144, .inl t_now_cells)), ((a_t_now 3), .inl (g.2.2.1 0, 31, .inl t_now_rows)), ((a_t_now 4), .inl (g.2.2.1 0, 31, .inl t_now_sizes)), ((a_t_stress 0), .inr (3, [.ref (a_t_stress 1), .ref (a_t_stress 2), .long t_stress_det])), ((a_t_stress 1), .inl (g.2.2.1 1, 9, .inr (.inl t_stress_cells))), ((a_t_stress 2), .inl (g.2.2.1 1, 3, .inr (.inl t_stress_parts)))] sz) [((a_t 0), .inr (6, [.ref (a_t_tape 0), .ref (a_t_reader 0), .ref (a_t_now 0), .ref (a_t 4), .ref (a_t_choices 0), .ref (a_t_ways 0), .ref (a_t_stress 0)])), ((a_t_now 0), .inr (1, [.ref (a_t_now 1), .ref (a_t_now 2), .ref (a_t_now 3), .ref (a_t_now 4), .ref (a_t_now 5), .int t_now_told, .int t_now_lines, .int t_now_kinds, .int t_now_acts])), ((a_t_now 1), .inl (g.2.2.1 0, 15, .inl t_now_numbers)), ((a_t_now 2), .inl (g.2.2.1 0, 144, .inl t_now_cells)), ((a_t_now 3), .inl (g.2.2.1 0, 31, .inl t_now_rows)), ((a_t_now 4), .inl (g.2.2.1 0, 31, .inl t_now_sizes)), ((a_t_stress 0), .inr (3, [.ref (a_t_stress 1), .ref (a_t_stress 2), .long o_t_stress_det])), ((a_t_stress 1), .inl (g.2.2.1 1, 9, .inr (.inl o_t_stress_cells))), ((a_t_stress 2), .inl (g.2.2.1 1, 3, .inr (.inl o_t_stress_parts)))]) (va_A [((a_t 0), .inr (6, [.ref (a_t_tape 0), .ref (a_t_reader 0), .ref (a_t_now 0), .ref (a_t 4), .ref (a_t_choices 0), .ref (a_t_ways 0), .ref (a_t_stress 0)])), ((a_t_now 0), .inr (1, [.ref (a_t_now 1), .ref (a_t_now 2), .ref (a_t_now 3), .ref (a_t_now 4), .ref (a_t_now 5), .int t_now_told, .int t_now_lines, .int t_now_kinds, .int t_now_acts])), ((a_t_now 1), .inl (g.2.2.1 0, 15, .inl t_now_numbers)), ((a_t_now 2), .inl (g.2.2.1 0, 144, .inl t_now_cells)), ((a_t_now 3), .inl (g.2.2.1 0, 31, .inl t_now_rows)), ((a_t_now 4), .inl (g.2.2.1 0, 31, .inl t_now_sizes)), ((a_t_stress 0), .inr (3, [.ref (a_t_stress 1), .ref (a_t_stress 2), .long t_stress_det])), ((a_t_stress 1), .inl (g.2.2.1 1, 9, .inr (.inl t_stress_cells))), ((a_t_stress 2), .inl (g.2.2.1 1, 3, .inr (.inl t_stress_parts)))] sz)) 0 0 (va_A [((a_t 0), .inr (6, [.ref (a_t_tape 0), .ref (a_t_reader 0), .ref (a_t_now 0), .ref (a_t 4), .ref (a_t_choices 0), .ref (a_t_ways 0), .ref (a_t_stress 0)])), ((a_t_now 0), .inr (1, [.ref (a_t_now 1), .ref (a_t_now 2), .ref (a_t_now 3), .ref (a_t_now 4), .ref (a_t_now 5), .int t_now_told, .int t_now_lines, .int t_now_kinds, .int t_now_acts])), ((a_t_now 1), .inl (g.2.2.1 0, 15, .inl t_now_numbers)), ((a_t_now 2), .inl (g.2.2.1 0, 144, .inl t_now_cells)), ((a_t_now 3), .inl (g.2.2.1 0, 31, .inl t_now_rows)), ((a_t_now 4), .inl (g.2.2.1 0, 31, .inl t_now_sizes)), ((a_t_stress 0), .inr (3, [.ref (a_t_stress 1), .ref (a_t_stress 2), .long t_stress_det])), ((a_t_stress 1), .inl (g.2.2.1 1, 9, .inr (.inl t_stress_cells))), ((a_t_stress 2), .inl (g.2.2.1 1, 3, .inr (.inl t_stress_parts)))] sz) := by
  refine rw_meti (by decide) (Nat.le_of_ble_eq_true rfl) (lv0 := [(0, .ref ((a_t 0))), (1, .int v1)]) rfl ?_
  intro p e s m args below meth c ls Q A cx hret hG hAb hb0 hA hP hD hl
  have hx := cx.1
  have hb := cx.2.1
  have hG0 := hG
  have hGk : ∀ {H : Heap} {locs : List Loc}, va_S A s.heap H locs → GE g s H := fun hS => hG0.keptS hAb hS
  have hSb : ∀ {H : Heap} {locs : List Loc}, va_S A s.heap H locs → va_S (fun a => g.1 ≤ a) s.heap H locs := fun hS => ⟨hS.1, fun q h1 h2 => hS.2.1 q h1 (fun z => h2 (hAb q z)), fun l hl => hAb _ (hS.2.2 l hl)⟩
  have hS : va_S A s.heap s.heap [] := va_S.rf
  have hrt : ∀ (u : Nat → Nat) (pc : Nat) (ls : Array Slot) (v : Int32) (x_t_stress_cells : Nat → Int64) (x_t_stress_parts : Nat → Int64) (x_t_stress_det : Int64) (H : Heap) (locs : List Loc), decode cX7_carries pc = .ok (.ireturn, 1) → some (v, x_t_stress_cells, x_t_stress_parts, x_t_stress_det) = some (o, o_t_stress_cells, o_t_stress_parts, o_t_stress_det) → va_P g.2.1 vwCl [((a_t 0), .inr (6, [.ref (a_t_tape 0), .ref (a_t_reader 0), .ref (a_t_now 0), .ref (a_t 4), .ref (a_t_choices 0), .ref (a_t_ways 0), .ref (a_t_stress 0)])), ((a_t_now 0), .inr (1, [.ref (a_t_now 1), .ref (a_t_now 2), .ref (a_t_now 3), .ref (a_t_now 4), .ref (a_t_now 5), .int t_now_told, .int t_now_lines, .int t_now_kinds, .int t_now_acts])), ((a_t_now 1), .inl (g.2.2.1 0, 15, .inl t_now_numbers)), ((a_t_now 2), .inl (g.2.2.1 0, 144, .inl t_now_cells)), ((a_t_now 3), .inl (g.2.2.1 0, 31, .inl t_now_rows)), ((a_t_now 4), .inl (g.2.2.1 0, 31, .inl t_now_sizes)), ((a_t_stress 0), .inr (3, [.ref (a_t_stress 1), .ref (a_t_stress 2), .long x_t_stress_det])), ((a_t_stress 1), .inl (g.2.2.1 1, 9, .inr (.inl x_t_stress_cells))), ((a_t_stress 2), .inl (g.2.2.1 1, 3, .inr (.inl x_t_stress_parts)))] H → va_D A [((a_t 0), .inr (6, [.ref (a_t_tape 0), .ref (a_t_reader 0), .ref (a_t_now 0), .ref (a_t 4), .ref (a_t_choices 0), .ref (a_t_ways 0), .ref (a_t_stress 0)])), ((a_t_now 0), .inr (1, [.ref (a_t_now 1), .ref (a_t_now 2), .ref (a_t_now 3), .ref (a_t_now 4), .ref (a_t_now 5), .int t_now_told, .int t_now_lines, .int t_now_kinds, .int t_now_acts])), ((a_t_now 1), .inl (g.2.2.1 0, 15, .inl t_now_numbers)), ((a_t_now 2), .inl (g.2.2.1 0, 144, .inl t_now_cells)), ((a_t_now 3), .inl (g.2.2.1 0, 31, .inl t_now_rows)), ((a_t_now 4), .inl (g.2.2.1 0, 31, .inl t_now_sizes)), ((a_t_stress 0), .inr (3, [.ref (a_t_stress 1), .ref (a_t_stress 2), .long x_t_stress_det])), ((a_t_stress 1), .inl (g.2.2.1 1, 9, .inr (.inl x_t_stress_cells))), ((a_t_stress 2), .inl (g.2.2.1 1, 3, .inr (.inl x_t_stress_parts)))] → va_S A s.heap H locs → W p l e ⟨4, 0, 0, 97⟩ s m args below meth c H locs 0 0 Q (F0 m pc ls [.int v]) := by
    intro u pc ls v x_t_stress_cells x_t_stress_parts x_t_stress_det H locs hd h hP hD hS
    cases h
    exact hret u _ _ _ _ _ hd rfl hP hD hS
  have w72 : ∀ (t_stress_cells : Nat → Int64) (t_stress_parts : Nat → Int64) (t_stress_det : Int64) (z1 : Int32) (z2 : Int32) (H : Heap) (locs : List Loc), va_P g.2.1 vwCl [((a_t 0), .inr (6, [.ref (a_t_tape 0), .ref (a_t_reader 0), .ref (a_t_now 0), .ref (a_t 4), .ref (a_t_choices 0), .ref (a_t_ways 0), .ref (a_t_stress 0)])), ((a_t_now 0), .inr (1, [.ref (a_t_now 1), .ref (a_t_now 2), .ref (a_t_now 3), .ref (a_t_now 4), .ref (a_t_now 5), .int t_now_told, .int t_now_lines, .int t_now_kinds, .int t_now_acts])), ((a_t_now 1), .inl (g.2.2.1 0, 15, .inl t_now_numbers)), ((a_t_now 2), .inl (g.2.2.1 0, 144, .inl t_now_cells)), ((a_t_now 3), .inl (g.2.2.1 0, 31, .inl t_now_rows)), ((a_t_now 4), .inl (g.2.2.1 0, 31, .inl t_now_sizes)), ((a_t_stress 0), .inr (3, [.ref (a_t_stress 1), .ref (a_t_stress 2), .long t_stress_det])), ((a_t_stress 1), .inl (g.2.2.1 1, 9, .inr (.inl t_stress_cells))), ((a_t_stress 2), .inl (g.2.2.1 1, 3, .inr (.inl t_stress_parts)))] H → va_D A [((a_t 0), .inr (6, [.ref (a_t_tape 0), .ref (a_t_reader 0), .ref (a_t_now 0), .ref (a_t 4), .ref (a_t_choices 0), .ref (a_t_ways 0), .ref (a_t_stress 0)])), ((a_t_now 0), .inr (1, [.ref (a_t_now 1), .ref (a_t_now 2), .ref (a_t_now 3), .ref (a_t_now 4), .ref (a_t_now 5), .int t_now_told, .int t_now_lines, .int t_now_kinds, .int t_now_acts])), ((a_t_now 1), .inl (g.2.2.1 0, 15, .inl t_now_numbers)), ((a_t_now 2), .inl (g.2.2.1 0, 144, .inl t_now_cells)), ((a_t_now 3), .inl (g.2.2.1 0, 31, .inl t_now_rows)), ((a_t_now 4), .inl (g.2.2.1 0, 31, .inl t_now_sizes)), ((a_t_stress 0), .inr (3, [.ref (a_t_stress 1), .ref (a_t_stress 2), .long t_stress_det])), ((a_t_stress 1), .inl (g.2.2.1 1, 9, .inr (.inl t_stress_cells))), ((a_t_stress 2), .inl (g.2.2.1 1, 3, .inr (.inl t_stress_parts)))] → va_S A s.heap H locs → ∀ (ls : Array Slot), lv_has ls 2 [(0, .ref ((a_t 0)))] → fX7_carries_72  t_now_numbers t_now_rows t_now_sizes t_now_acts t_stress_cells t_stress_parts t_stress_det z1 z2 = some (o, o_t_stress_cells, o_t_stress_parts, o_t_stress_det) → W p l e ⟨4, 0, 0, 97⟩ s m args below meth c H locs 0 0 Q (F0 m 72 ls [.int z2, .int z1, .ref ((a_t_stress 0))]) := by
    intro t_stress_cells t_stress_parts t_stress_det z1 z2 H locs hP hD hS ls hl h
    unfold fX7_carries_72 at h
    have hG := hGk hS
    refine lv_iconst (v := 0) hx hb dX7_carries_72 (by decide) ?_
    obtain ⟨w12, hr11, h⟩ := bnd h
    refine rw_v (WN := fun u13 => [((a_t 0), .inr (6, [.ref (a_t_tape 0), .ref (a_t_reader 0), .ref (a_t_now 0), .ref (a_t 4), .ref (a_t_choices 0), .ref (a_t_ways 0), .ref (a_t_stress 0)])), ((a_t_now 0), .inr (1, [.ref (a_t_now 1), .ref (a_t_now 2), .ref (a_t_now 3), .ref (a_t_now 4), .ref (a_t_now 5), .int t_now_told, .int t_now_lines, .int t_now_kinds, .int t_now_acts])), ((a_t_now 1), .inl (g.2.2.1 0, 15, .inl t_now_numbers)), ((a_t_now 2), .inl (g.2.2.1 0, 144, .inl t_now_cells)), ((a_t_now 3), .inl (g.2.2.1 0, 31, .inl t_now_rows)), ((a_t_now 4), .inl (g.2.2.1 0, 31, .inl t_now_sizes)), ((a_t_stress 0), .inr (3, [.ref (a_t_stress 1), .ref (a_t_stress 2), .long t_stress_det])), ((a_t_stress 1), .inl (g.2.2.1 1, 9, .inr (.inl t_stress_cells))), ((a_t_stress 2), .inl (g.2.2.1 1, 3, .inr (.inl w12)))]) (wr := [((a_t 0), .inr (6, [.ref (a_t_tape 0), .ref (a_t_reader 0), .ref (a_t_now 0), .ref (a_t 4), .ref (a_t_choices 0), .ref (a_t_ways 0), .ref (a_t_stress 0)])), ((a_t_now 0), .inr (1, [.ref (a_t_now 1), .ref (a_t_now 2), .ref (a_t_now 3), .ref (a_t_now 4), .ref (a_t_now 5), .int t_now_told, .int t_now_lines, .int t_now_kinds, .int t_now_acts])), ((a_t_now 1), .inl (g.2.2.1 0, 15, .inl t_now_numbers)), ((a_t_now 2), .inl (g.2.2.1 0, 144, .inl t_now_cells)), ((a_t_now 3), .inl (g.2.2.1 0, 31, .inl t_now_rows)), ((a_t_now 4), .inl (g.2.2.1 0, 31, .inl t_now_sizes))]) (runVN (As := [.int z1, .int z2, .int (0)]) (rest := []) hG cx hl.1 (ctX4_solve l g H.size a_t_stress t_stress_det t_stress_cells t_stress_parts z1 z2 (0) w12 hr11) kmX4_solve kvX4_solve nm_39 ⟨rfl, rfl⟩ ⟨Nat.le_of_ble_eq_true rfl, Nat.le_of_ble_eq_true rfl⟩ (rwV (q0 := 6) (ci := 3) hG (hP.sub [6, 7, 8] rfl) (hD.sub [6, 7, 8] (by decide) rfl) hAb hb0 hS hP rfl rfl) rfl rfl (Nat.le_of_ble_eq_true rfl) dX7_carries_73 ⟨Nat.le_of_ble_eq_true rfl, Nat.le_of_ble_eq_true rfl⟩) hP hD hS hA [6, 7, 8] [0, 1, 2, 3, 4, 5] rfl rfl (by decide) (by decide) (fun _ => rfl) (fun u13 H locs hP hD hS => ?_)
    have hG := hGk hS
    refine lv_aload_n hx hb dX7_carries_76 rfl (lv_at hl 0 rfl) ?_
    refine xa_get (C := RX7) (T := TX7) (N := 7) cx hG hP 0 rfl rfl uX7 6 (by decide) lf_X7_55 rfl dX7_carries_77 ?_
    refine lv_aload_n hx hb dX7_carries_80 rfl (lv_at hl 0 rfl) ?_
    refine xa_get (C := RX7) (T := TX7) (N := 7) cx hG hP 0 rfl rfl uX7 2 (by decide) lf_X7_30 rfl dX7_carries_81 ?_
    refine lv_sipush (v := 999) hx hb dX7_carries_84 (by decide) ?_
    obtain ⟨r14, hr15, h⟩ := bnd h
    refine ro_i (runVN (As := [.ref ((a_t_now 0)), .int (999)]) (rest := []) hG cx hl.1 (ctX4_greatestTimes l g a_t_stress a_t_now t_stress_det w12 t_now_told t_now_lines t_now_kinds t_now_acts t_now_numbers t_now_rows t_now_sizes (999) r14 hr15) kmX4_greatestTimes kvX4_greatestTimes nm_51 ⟨rfl, rfl⟩ ⟨Nat.le_of_ble_eq_true rfl, Nat.le_of_ble_eq_true rfl⟩ (roV (q0 := 6) (ci := 3) hG (hP.sub [6, 8, 1, 2, 4, 5] rfl) hP rfl rfl) rfl rfl (Nat.le_of_ble_eq_true rfl) dX7_carries_87 ⟨Nat.le_of_ble_eq_true rfl, Nat.le_of_ble_eq_true rfl⟩) ?_
    exact hrt (fun _ => 0) _ _ r14 t_stress_cells w12 t_stress_det _ _ dX7_carries_90 h (hP.sub [0, 1, 2, 3, 4, 5, 6, 7, 8] rfl) (hD.sub [0, 1, 2, 3, 4, 5, 6, 7, 8] (by decide) rfl) hS
  have w62 : ∀ (t_stress_cells : Nat → Int64) (t_stress_parts : Nat → Int64) (t_stress_det : Int64) (v1 : Int32) (z1 : Int32) (H : Heap) (locs : List Loc), va_P g.2.1 vwCl [((a_t 0), .inr (6, [.ref (a_t_tape 0), .ref (a_t_reader 0), .ref (a_t_now 0), .ref (a_t 4), .ref (a_t_choices 0), .ref (a_t_ways 0), .ref (a_t_stress 0)])), ((a_t_now 0), .inr (1, [.ref (a_t_now 1), .ref (a_t_now 2), .ref (a_t_now 3), .ref (a_t_now 4), .ref (a_t_now 5), .int t_now_told, .int t_now_lines, .int t_now_kinds, .int t_now_acts])), ((a_t_now 1), .inl (g.2.2.1 0, 15, .inl t_now_numbers)), ((a_t_now 2), .inl (g.2.2.1 0, 144, .inl t_now_cells)), ((a_t_now 3), .inl (g.2.2.1 0, 31, .inl t_now_rows)), ((a_t_now 4), .inl (g.2.2.1 0, 31, .inl t_now_sizes)), ((a_t_stress 0), .inr (3, [.ref (a_t_stress 1), .ref (a_t_stress 2), .long t_stress_det])), ((a_t_stress 1), .inl (g.2.2.1 1, 9, .inr (.inl t_stress_cells))), ((a_t_stress 2), .inl (g.2.2.1 1, 3, .inr (.inl t_stress_parts)))] H → va_D A [((a_t 0), .inr (6, [.ref (a_t_tape 0), .ref (a_t_reader 0), .ref (a_t_now 0), .ref (a_t 4), .ref (a_t_choices 0), .ref (a_t_ways 0), .ref (a_t_stress 0)])), ((a_t_now 0), .inr (1, [.ref (a_t_now 1), .ref (a_t_now 2), .ref (a_t_now 3), .ref (a_t_now 4), .ref (a_t_now 5), .int t_now_told, .int t_now_lines, .int t_now_kinds, .int t_now_acts])), ((a_t_now 1), .inl (g.2.2.1 0, 15, .inl t_now_numbers)), ((a_t_now 2), .inl (g.2.2.1 0, 144, .inl t_now_cells)), ((a_t_now 3), .inl (g.2.2.1 0, 31, .inl t_now_rows)), ((a_t_now 4), .inl (g.2.2.1 0, 31, .inl t_now_sizes)), ((a_t_stress 0), .inr (3, [.ref (a_t_stress 1), .ref (a_t_stress 2), .long t_stress_det])), ((a_t_stress 1), .inl (g.2.2.1 1, 9, .inr (.inl t_stress_cells))), ((a_t_stress 2), .inl (g.2.2.1 1, 3, .inr (.inl t_stress_parts)))] → va_S A s.heap H locs → ∀ (ls : Array Slot), lv_has ls 2 [(0, .ref ((a_t 0))), (1, .int v1)] → fX7_carries_62  t_now_numbers t_now_rows t_now_sizes t_now_acts t_stress_cells t_stress_parts t_stress_det v1 z1 = some (o, o_t_stress_cells, o_t_stress_parts, o_t_stress_det) → W p l e ⟨4, 0, 0, 97⟩ s m args below meth c H locs 0 0 Q (F0 m 62 ls [.int z1, .ref ((a_t_stress 0))]) := by
    intro t_stress_cells t_stress_parts t_stress_det v1 z1 H locs hP hD hS ls hl h
    unfold fX7_carries_62 at h
    have hG := hGk hS
    refine lv_iload_n hx hb dX7_carries_62 rfl (lv_at hl 1 rfl) ?_
    refine lv_iconst (v := 1) hx hb dX7_carries_63 (by decide) ?_
    refine lv_icmp_ne (tgt := 71) hx hb dX7_carries_64 (by decide) (fun c10 => ?_) (fun c10 => ?_)
    · have h := itn c10 h
      refine lv_iconst (v := 0) hx hb dX7_carries_71 (by decide) ?_
      exact w72 t_stress_cells t_stress_parts t_stress_det z1 0 _ _ hP hD hS _ (lv_sub hl [0] rfl) h
    · have h := itp c10 h
      refine lv_iconst (v := 1) hx hb dX7_carries_67 (by decide) ?_
      refine lv_goto (tgt := 72) hx hb dX7_carries_68 (by decide) ?_
      exact w72 t_stress_cells t_stress_parts t_stress_det z1 1 _ _ hP hD hS _ (lv_sub hl [0] rfl) h
  unfold fX7_carries at h
  refine lv_aload_n hx hb dX7_carries_0 rfl (lv_at hl 0 rfl) ?_
  refine xa_get (C := RX7) (T := TX7) (N := 7) cx hG hP 0 rfl rfl uX7 2 (by decide) lf_X7_30 rfl dX7_carries_1 ?_
  refine xa_getN (C := RX1) (T := TX1) (N := 9) cx hG hP 1 rfl rfl uX1 5 (by decide) nf_5 rfl dX7_carries_4 ?_
  refine lv_if_eq (tgt := 19) hx hb dX7_carries_7 (by decide) (fun c1 => ?_) (fun c1 => ?_)
  · have h := itp c1 h
    refine lv_bipush (v := -2) hx hb dX7_carries_19 (by decide) ?_
    exact hrt (fun _ => 0) _ _ ((-2)) t_stress_cells t_stress_parts t_stress_det _ _ dX7_carries_21 h (hP.sub [0, 1, 2, 3, 4, 5, 6, 7, 8] rfl) (hD.sub [0, 1, 2, 3, 4, 5, 6, 7, 8] (by decide) rfl) hS
  · have h := itn c1 h
    refine lv_iload_n hx hb dX7_carries_10 rfl (lv_at hl 1 rfl) ?_
    refine lv_if_lt (tgt := 19) hx hb dX7_carries_11 (by decide) (fun c2 => ?_) (fun c2 => ?_)
    · have h := itp c2 h
      refine lv_bipush (v := -2) hx hb dX7_carries_19 (by decide) ?_
      exact hrt (fun _ => 0) _ _ ((-2)) t_stress_cells t_stress_parts t_stress_det _ _ dX7_carries_21 h (hP.sub [0, 1, 2, 3, 4, 5, 6, 7, 8] rfl) (hD.sub [0, 1, 2, 3, 4, 5, 6, 7, 8] (by decide) rfl) hS
    · have h := itn c2 h
      refine lv_iload_n hx hb dX7_carries_14 rfl (lv_at hl 1 rfl) ?_
      refine lv_iconst (v := 1) hx hb dX7_carries_15 (by decide) ?_
      refine lv_icmp_le (tgt := 22) hx hb dX7_carries_16 (by decide) (fun c3 => ?_) (fun c3 => ?_)
      · have h := itp c3 h
        refine lv_aload_n hx hb dX7_carries_22 rfl (lv_at hl 0 rfl) ?_
        refine xa_get (C := RX7) (T := TX7) (N := 7) cx hG hP 0 rfl rfl uX7 6 (by decide) lf_X7_55 rfl dX7_carries_23 ?_
        refine lv_aload_n hx hb dX7_carries_26 rfl (lv_at hl 0 rfl) ?_
        refine xa_get (C := RX7) (T := TX7) (N := 7) cx hG hP 0 rfl rfl uX7 2 (by decide) lf_X7_30 rfl dX7_carries_27 ?_
        refine lv_iconst (v := 0) hx hb dX7_carries_30 (by decide) ?_
        refine lv_iconst (v := 0) hx hb dX7_carries_31 (by decide) ?_
        obtain ⟨w5, w6, hr4, h⟩ := ob2_out h
        refine rw_v (WN := fun u7 => [((a_t 0), .inr (6, [.ref (a_t_tape 0), .ref (a_t_reader 0), .ref (a_t_now 0), .ref (a_t 4), .ref (a_t_choices 0), .ref (a_t_ways 0), .ref (a_t_stress 0)])), ((a_t_now 1), .inl (g.2.2.1 0, 15, .inl t_now_numbers)), ((a_t_stress 2), .inl (g.2.2.1 1, 3, .inr (.inl t_stress_parts))), ((a_t_stress 0), .inr (3, [.ref (a_t_stress 1), .ref (a_t_stress 2), .long w6])), ((a_t_stress 1), .inl (g.2.2.1 1, 9, .inr (.inl w5))), ((a_t_now 0), .inr (1, [.ref (a_t_now 1), .ref (a_t_now 2), .ref (a_t_now 3), .ref (a_t_now 4), .ref (a_t_now 5), .int t_now_told, .int t_now_lines, .int t_now_kinds, .int t_now_acts])), ((a_t_now 2), .inl (g.2.2.1 0, 144, .inl t_now_cells)), ((a_t_now 3), .inl (g.2.2.1 0, 31, .inl t_now_rows)), ((a_t_now 4), .inl (g.2.2.1 0, 31, .inl t_now_sizes))]) (wr := [((a_t 0), .inr (6, [.ref (a_t_tape 0), .ref (a_t_reader 0), .ref (a_t_now 0), .ref (a_t 4), .ref (a_t_choices 0), .ref (a_t_ways 0), .ref (a_t_stress 0)])), ((a_t_now 1), .inl (g.2.2.1 0, 15, .inl t_now_numbers)), ((a_t_stress 2), .inl (g.2.2.1 1, 3, .inr (.inl t_stress_parts)))]) (runVN (As := [.ref ((a_t_now 0)), .int (0), .int (0)]) (rest := []) hG cx hl.1 (ctX4_take l g s.heap.size a_t_stress a_t_now t_stress_det t_stress_cells t_now_told t_now_lines t_now_kinds t_now_acts t_now_cells t_now_rows t_now_sizes (0) (0) w5 w6 hr4) kmX4_take kvX4_take nm_37 ⟨rfl, rfl⟩ ⟨Nat.le_of_ble_eq_true rfl, Nat.le_of_ble_eq_true rfl⟩ (rwV (q0 := 6) (ci := 3) hG (hP.sub [6, 7, 1, 3, 4, 5] rfl) (hD.sub [6, 7, 1, 3, 4, 5] (by decide) rfl) hAb hb0 hS hP rfl rfl) rfl rfl (Nat.le_of_ble_eq_true rfl) dX7_carries_32 ⟨Nat.le_of_ble_eq_true rfl, Nat.le_of_ble_eq_true rfl⟩) hP hD hS hA [6, 7, 1, 3, 4, 5] [0, 2, 8] rfl rfl (by decide) (by decide) (fun _ => rfl) (fun u7 H locs hP hD hS => ?_)
        have hG := hGk hS
        refine lv_aload_n hx hb dX7_carries_35 rfl (lv_at hl 0 rfl) ?_
        refine xa_get (C := RX7) (T := TX7) (N := 7) cx hG hP 0 rfl rfl uX7 6 (by decide) lf_X7_55 rfl dX7_carries_36 ?_
        refine xa_getN (C := RX4) (T := TX4) (N := 3) cx hG hP 3 rfl rfl uX4 2 (by decide) nf_14 rfl dX7_carries_39 ?_
        refine lv_lconst (v := 0) hx hb dX7_carries_42 (by decide) ?_
        refine W.lcmp hx hb dX7_carries_43 ?_
        refine lv_if_ne (tgt := 49) hx hb dX7_carries_44 (by decide) (fun c8 => ?_) (fun c8 => ?_)
        · have h := itn c8 h
          refine lv_aload_n hx hb dX7_carries_49 rfl (lv_at hl 0 rfl) ?_
          refine xa_get (C := RX7) (T := TX7) (N := 7) cx hG hP 0 rfl rfl uX7 6 (by decide) lf_X7_55 rfl dX7_carries_50 ?_
          refine lv_iload_n hx hb dX7_carries_53 rfl (lv_at hl 1 rfl) ?_
          refine lv_if_ne (tgt := 61) hx hb dX7_carries_54 (by decide) (fun c9 => ?_) (fun c9 => ?_)
          · have h := itn c9 h
            refine lv_iconst (v := 0) hx hb dX7_carries_61 (by decide) ?_
            exact w62 w5 t_stress_parts w6 v1 0 _ _ (hP.sub [0, 5, 1, 6, 7, 8, 3, 4, 2] rfl) (hD.sub [0, 5, 1, 6, 7, 8, 3, 4, 2] (by decide) rfl) hS _ (lv_sub hl [0, 1] rfl) h
          · have h := itp c9 h
            refine lv_iconst (v := 1) hx hb dX7_carries_57 (by decide) ?_
            refine lv_goto (tgt := 62) hx hb dX7_carries_58 (by decide) ?_
            exact w62 w5 t_stress_parts w6 v1 1 _ _ (hP.sub [0, 5, 1, 6, 7, 8, 3, 4, 2] rfl) (hD.sub [0, 5, 1, 6, 7, 8, 3, 4, 2] (by decide) rfl) hS _ (lv_sub hl [0, 1] rfl) h
        · have h := itp c8 h
          refine lv_iconst (v := -1) hx hb dX7_carries_47 (by decide) ?_
          exact hrt (fun _ => 0) _ _ ((-1)) w5 t_stress_parts w6 _ _ dX7_carries_48 h (hP.sub [0, 5, 1, 6, 7, 8, 3, 4, 2] rfl) (hD.sub [0, 5, 1, 6, 7, 8, 3, 4, 2] (by decide) rfl) hS
      · have h := itn c3 h
        refine lv_bipush (v := -2) hx hb dX7_carries_19 (by decide) ?_
        exact hrt (fun _ => 0) _ _ ((-2)) t_stress_cells t_stress_parts t_stress_det _ _ dX7_carries_21 h (hP.sub [0, 1, 2, 3, 4, 5, 6, 7, 8] rfl) (hD.sub [0, 1, 2, 3, 4, 5, 6, 7, 8] (by decide) rfl) hS
-- X7_isMask
theorem dX7_isMask_0 : decode cX7_isMask 0 = .ok (.aload_n 0, 1) := by decide +kernel
theorem dX7_isMask_1 : decode cX7_isMask 1 = .ok (.getfield 30, 3) := by decide +kernel
theorem dX7_isMask_4 : decode cX7_isMask 4 = .ok (.getfield 139, 3) := by decide +kernel
theorem dX7_isMask_7 : decode cX7_isMask 7 = .ok (.ifCond .eq 17, 3) := by decide +kernel
theorem dX7_isMask_10 : decode cX7_isMask 10 = .ok (.iload_n 1, 1) := by decide +kernel
theorem dX7_isMask_11 : decode cX7_isMask 11 = .ok (.ifCond .lt 13, 3) := by decide +kernel
theorem dX7_isMask_14 : decode cX7_isMask 14 = .ok (.iload_n 1, 1) := by decide +kernel
theorem dX7_isMask_15 : decode cX7_isMask 15 = .ok (.bipush 8, 2) := by decide +kernel
theorem dX7_isMask_17 : decode cX7_isMask 17 = .ok (.if_icmp .ge 7, 3) := by decide +kernel
theorem dX7_isMask_20 : decode cX7_isMask 20 = .ok (.iconst 1, 1) := by decide +kernel
theorem dX7_isMask_21 : decode cX7_isMask 21 = .ok (.goto 4, 3) := by decide +kernel
theorem dX7_isMask_24 : decode cX7_isMask 24 = .ok (.iconst 0, 1) := by decide +kernel
theorem dX7_isMask_25 : decode cX7_isMask 25 = .ok (.ireturn, 1) := by decide +kernel
noncomputable def fX7_isMask  (t_now_told : Int32) (v1 : Int32) : Int32 := (if t_now_told = 0 then (0) else (if v1 < 0 then (0) else (if 8 ≤ v1 then (0) else (1))))
set_option maxHeartbeats 4000000 in
set_option maxRecDepth 100000 in
theorem ctX7_isMask (l : Launch) (g : GT) (a_t : Nat → Nat) (a_t_tape : Nat → Nat) (a_t_reader : Nat → Nat) (a_t_now : Nat → Nat) (a_t_choices : Nat → Nat) (a_t_ways : Nat → Nat) (a_t_stress : Nat → Nat) (t_now_told : Int32) (t_now_lines : Int32) (t_now_kinds : Int32) (t_now_acts : Int32) (v1 : Int32) (o : Int32) (h : fX7_isMask t_now_told v1 = o) : Met l yX7_isMask (Cond.code yX7_isMask cX7_isMask 2 (some .boolean) :: Tw) ⟨0, 0, 0, 0⟩ (va_Pc [.ref ((a_t 0)), .int v1] (roB g [((a_t 0), .inr (6, [.ref (a_t_tape 0), .ref (a_t_reader 0), .ref (a_t_now 0), .ref (a_t 4), .ref (a_t_choices 0), .ref (a_t_ways 0), .ref (a_t_stress 0)])), ((a_t_now 0), .inr (1, [.ref (a_t_now 1), .ref (a_t_now 2), .ref (a_t_now 3), .ref (a_t_now 4), .ref (a_t_now 5), .int t_now_told, .int t_now_lines, .int t_now_kinds, .int t_now_acts]))])) (vp_Si (fun x => x = o ∧ (x = 0 ∨ x = 1))) 0 0 (fun _ => False) := by
  refine ro_metz (by decide) (Nat.le_of_ble_eq_true rfl) (lv0 := [(0, .ref ((a_t 0))), (1, .int v1)]) rfl ?_
  intro p e s m args below meth c ls Q cx hret hG hP hl
  have hx := cx.1
  have hb := cx.2.1
  have hG0 := hG
  unfold fX7_isMask at h
  refine lv_aload_n hx hb dX7_isMask_0 rfl (lv_at hl 0 rfl) ?_
  refine xa_get (C := RX7) (T := TX7) (N := 7) cx hG hP 0 rfl rfl uX7 2 (by decide) lf_X7_30 rfl dX7_isMask_1 ?_
  refine xa_getN (C := RX1) (T := TX1) (N := 9) cx hG hP 1 rfl rfl uX1 5 (by decide) nf_5 rfl dX7_isMask_4 ?_
  refine lv_if_eq (tgt := 24) hx hb dX7_isMask_7 (by decide) (fun c1 => ?_) (fun c1 => ?_)
  · have h := itp c1 h
    refine lv_iconst (v := 0) hx hb dX7_isMask_24 (by decide) ?_
    exact hret _ _ _ dX7_isMask_25 (by decide) h
  · have h := itn c1 h
    refine lv_iload_n hx hb dX7_isMask_10 rfl (lv_at hl 1 rfl) ?_
    refine lv_if_lt (tgt := 24) hx hb dX7_isMask_11 (by decide) (fun c2 => ?_) (fun c2 => ?_)
    · have h := itp c2 h
      refine lv_iconst (v := 0) hx hb dX7_isMask_24 (by decide) ?_
      exact hret _ _ _ dX7_isMask_25 (by decide) h
    · have h := itn c2 h
      refine lv_iload_n hx hb dX7_isMask_14 rfl (lv_at hl 1 rfl) ?_
      refine lv_bipush (v := 8) hx hb dX7_isMask_15 (by decide) ?_
      refine lv_icmp_ge (tgt := 24) hx hb dX7_isMask_17 (by decide) (fun c3 => ?_) (fun c3 => ?_)
      · have h := itp c3 h
        refine lv_iconst (v := 0) hx hb dX7_isMask_24 (by decide) ?_
        exact hret _ _ _ dX7_isMask_25 (by decide) h
      · have h := itn c3 h
        refine lv_iconst (v := 1) hx hb dX7_isMask_20 (by decide) ?_
        refine lv_goto (tgt := 25) hx hb dX7_isMask_21 (by decide) ?_
        exact hret _ _ _ dX7_isMask_25 (by decide) h
-- X7_orders
theorem dX7_orders_0 : decode cX7_orders 0 = .ok (.aload_n 0, 1) := by decide +kernel
theorem dX7_orders_1 : decode cX7_orders 1 = .ok (.iload_n 1, 1) := by decide +kernel
theorem dX7_orders_2 : decode cX7_orders 2 = .ok (.invokevirtual 239, 3) := by decide +kernel
theorem dX7_orders_5 : decode cX7_orders 5 = .ok (.ifCond .ne 6, 3) := by decide +kernel
theorem dX7_orders_8 : decode cX7_orders 8 = .ok (.bipush (-2), 2) := by decide +kernel
theorem dX7_orders_10 : decode cX7_orders 10 = .ok (.ireturn, 1) := by decide +kernel
theorem dX7_orders_11 : decode cX7_orders 11 = .ok (.aload_n 0, 1) := by decide +kernel
theorem dX7_orders_12 : decode cX7_orders 12 = .ok (.getfield 41, 3) := by decide +kernel
theorem dX7_orders_15 : decode cX7_orders 15 = .ok (.aload_n 0, 1) := by decide +kernel
theorem dX7_orders_16 : decode cX7_orders 16 = .ok (.getfield 30, 3) := by decide +kernel
theorem dX7_orders_19 : decode cX7_orders 19 = .ok (.invokevirtual 242, 3) := by decide +kernel
theorem dX7_orders_22 : decode cX7_orders 22 = .ok (.aload_n 0, 1) := by decide +kernel
theorem dX7_orders_23 : decode cX7_orders 23 = .ok (.getfield 41, 3) := by decide +kernel
theorem dX7_orders_26 : decode cX7_orders 26 = .ok (.iload_n 1, 1) := by decide +kernel
theorem dX7_orders_27 : decode cX7_orders 27 = .ok (.invokevirtual 245, 3) := by decide +kernel
theorem dX7_orders_30 : decode cX7_orders 30 = .ok (.ireturn, 1) := by decide +kernel
noncomputable def fX7_orders (lim0 : Nat)  (t_now_cells : Nat → Int32) (t_now_rows : Nat → Int32) (t_now_sizes : Nat → Int32) (t_now_rooms : Nat → Int32) (t_now_told : Int32) (t_now_acts : Int32) (t_choices_rows_n : Nat) (t_choices_rows : Nat → Int64) (t_choices_size : Int32) (t_choices_ready : Int32) (t_choices_pool : Int32) (t_choices_plies : Int32) (t_choices_room : Int32) (v1 : Int32) : Option (Int32 × Nat × (Nat → Int64) × Int32 × Int32 × Int32 × Int32 × Int32) := (if (fX7_isMask t_now_told v1) = 0 then some ((-2), t_choices_rows_n, t_choices_rows, t_choices_size, t_choices_ready, t_choices_pool, t_choices_plies, t_choices_room) else ob7 (fX0_prepare lim0 t_choices_rows_n t_choices_rows t_choices_size t_choices_ready t_choices_pool t_choices_plies t_choices_room t_now_cells t_now_rows t_now_sizes t_now_rooms t_now_acts) fun w4 w5 w6 w7 w8 w9 w10 => (fX0_howMany w4 w5 w6 v1).bind fun r12 => some (r12, w4, w5, w6, w7, w8, w9, w10))
set_option maxHeartbeats 4000000 in
set_option maxRecDepth 100000 in
theorem ctX7_orders (l : Launch) (g : GT) (lim0 : Nat) (sz : Nat) (a_t : Nat → Nat) (a_t_tape : Nat → Nat) (a_t_reader : Nat → Nat) (a_t_now : Nat → Nat) (a_t_choices : Nat → Nat) (a_t_ways : Nat → Nat) (a_t_stress : Nat → Nat) (b_t_choices_rows : Nat) (b_t_choices_seen : Nat) (t_now_told : Int32) (t_now_lines : Int32) (t_now_kinds : Int32) (t_now_acts : Int32) (t_now_cells : Nat → Int32) (t_now_rows : Nat → Int32) (t_now_sizes : Nat → Int32) (t_now_rooms : Nat → Int32) (t_choices_size : Int32) (t_choices_ready : Int32) (t_choices_pool : Int32) (t_choices_plies : Int32) (t_choices_room : Int32) (t_choices_rows_n : Nat) (t_choices_rows : Nat → Int64) (v1 : Int32) (o : Int32) (o_t_choices_rows_n : Nat) (o_t_choices_rows : Nat → Int64) (o_t_choices_size : Int32) (o_t_choices_ready : Int32) (o_t_choices_pool : Int32) (o_t_choices_plies : Int32) (o_t_choices_room : Int32) (h : fX7_orders lim0 t_now_cells t_now_rows t_now_sizes t_now_rooms t_now_told t_now_acts t_choices_rows_n t_choices_rows t_choices_size t_choices_ready t_choices_pool t_choices_plies t_choices_room v1 = some (o, o_t_choices_rows_n, o_t_choices_rows, o_t_choices_size, o_t_choices_ready, o_t_choices_pool, o_t_choices_plies, o_t_choices_room)) : Met l yX7_orders (Cond.code yX7_orders cX7_orders 2 (some .int) :: Tw) ⟨16, 1, lim0, 520⟩ (va_Pc [.ref ((a_t 0)), .int v1] (rwB g [((a_t 0), .inr (6, [.ref (a_t_tape 0), .ref (a_t_reader 0), .ref (a_t_now 0), .ref (a_t 4), .ref (a_t_choices 0), .ref (a_t_ways 0), .ref (a_t_stress 0)])), ((a_t_now 0), .inr (1, [.ref (a_t_now 1), .ref (a_t_now 2), .ref (a_t_now 3), .ref (a_t_now 4), .ref (a_t_now 5), .int t_now_told, .int t_now_lines, .int t_now_kinds, .int t_now_acts])), ((a_t_now 2), .inl (g.2.2.1 0, 144, .inl t_now_cells)), ((a_t_now 3), .inl (g.2.2.1 0, 31, .inl t_now_rows)), ((a_t_now 4), .inl (g.2.2.1 0, 31, .inl t_now_sizes)), ((a_t_now 5), .inl (g.2.2.1 0, 31, .inl t_now_rooms)), ((a_t_choices 0), .inr (0, [.ref b_t_choices_rows, .ref b_t_choices_seen, .int t_choices_size, .int t_choices_ready, .int t_choices_pool, .int t_choices_plies, .int t_choices_room])), (b_t_choices_rows, .inl (g.2.2.1 1, t_choices_rows_n, .inr (.inl t_choices_rows)))] sz)) (va_Qi (fun x (_ : Nat → Nat) => x = o) (fun u => rwE g (va_A [((a_t 0), .inr (6, [.ref (a_t_tape 0), .ref (a_t_reader 0), .ref (a_t_now 0), .ref (a_t 4), .ref (a_t_choices 0), .ref (a_t_ways 0), .ref (a_t_stress 0)])), ((a_t_now 0), .inr (1, [.ref (a_t_now 1), .ref (a_t_now 2), .ref (a_t_now 3), .ref (a_t_now 4), .ref (a_t_now 5), .int t_now_told, .int t_now_lines, .int t_now_kinds, .int t_now_acts])), ((a_t_now 2), .inl (g.2.2.1 0, 144, .inl t_now_cells)), ((a_t_now 3), .inl (g.2.2.1 0, 31, .inl t_now_rows)), ((a_t_now 4), .inl (g.2.2.1 0, 31, .inl t_now_sizes)), ((a_t_now 5), .inl (g.2.2.1 0, 31, .inl t_now_rooms)), ((a_t_choices 0), .inr (0, [.ref b_t_choices_rows, .ref b_t_choices_seen, .int t_choices_size, .int t_choices_ready, .int t_choices_pool, .int t_choices_plies, .int t_choices_room])), (b_t_choices_rows, .inl (g.2.2.1 1, t_choices_rows_n, .inr (.inl t_choices_rows)))] sz) [((a_t 0), .inr (6, [.ref (a_t_tape 0), .ref (a_t_reader 0), .ref (a_t_now 0), .ref (a_t 4), .ref (a_t_choices 0), .ref (a_t_ways 0), .ref (a_t_stress 0)])), ((a_t_now 0), .inr (1, [.ref (a_t_now 1), .ref (a_t_now 2), .ref (a_t_now 3), .ref (a_t_now 4), .ref (a_t_now 5), .int t_now_told, .int t_now_lines, .int t_now_kinds, .int t_now_acts])), ((a_t_now 2), .inl (g.2.2.1 0, 144, .inl t_now_cells)), ((a_t_now 3), .inl (g.2.2.1 0, 31, .inl t_now_rows)), ((a_t_now 4), .inl (g.2.2.1 0, 31, .inl t_now_sizes)), ((a_t_now 5), .inl (g.2.2.1 0, 31, .inl t_now_rooms)), ((a_t_choices 0), .inr (0, [.ref (u 0), .ref b_t_choices_seen, .int o_t_choices_size, .int o_t_choices_ready, .int o_t_choices_pool, .int o_t_choices_plies, .int o_t_choices_room])), ((u 0), .inl (g.2.2.1 1, o_t_choices_rows_n, .inr (.inl o_t_choices_rows)))]) (va_A [((a_t 0), .inr (6, [.ref (a_t_tape 0), .ref (a_t_reader 0), .ref (a_t_now 0), .ref (a_t 4), .ref (a_t_choices 0), .ref (a_t_ways 0), .ref (a_t_stress 0)])), ((a_t_now 0), .inr (1, [.ref (a_t_now 1), .ref (a_t_now 2), .ref (a_t_now 3), .ref (a_t_now 4), .ref (a_t_now 5), .int t_now_told, .int t_now_lines, .int t_now_kinds, .int t_now_acts])), ((a_t_now 2), .inl (g.2.2.1 0, 144, .inl t_now_cells)), ((a_t_now 3), .inl (g.2.2.1 0, 31, .inl t_now_rows)), ((a_t_now 4), .inl (g.2.2.1 0, 31, .inl t_now_sizes)), ((a_t_now 5), .inl (g.2.2.1 0, 31, .inl t_now_rooms)), ((a_t_choices 0), .inr (0, [.ref b_t_choices_rows, .ref b_t_choices_seen, .int t_choices_size, .int t_choices_ready, .int t_choices_pool, .int t_choices_plies, .int t_choices_room])), (b_t_choices_rows, .inl (g.2.2.1 1, t_choices_rows_n, .inr (.inl t_choices_rows)))] sz)) 1 lim0 (va_A [((a_t 0), .inr (6, [.ref (a_t_tape 0), .ref (a_t_reader 0), .ref (a_t_now 0), .ref (a_t 4), .ref (a_t_choices 0), .ref (a_t_ways 0), .ref (a_t_stress 0)])), ((a_t_now 0), .inr (1, [.ref (a_t_now 1), .ref (a_t_now 2), .ref (a_t_now 3), .ref (a_t_now 4), .ref (a_t_now 5), .int t_now_told, .int t_now_lines, .int t_now_kinds, .int t_now_acts])), ((a_t_now 2), .inl (g.2.2.1 0, 144, .inl t_now_cells)), ((a_t_now 3), .inl (g.2.2.1 0, 31, .inl t_now_rows)), ((a_t_now 4), .inl (g.2.2.1 0, 31, .inl t_now_sizes)), ((a_t_now 5), .inl (g.2.2.1 0, 31, .inl t_now_rooms)), ((a_t_choices 0), .inr (0, [.ref b_t_choices_rows, .ref b_t_choices_seen, .int t_choices_size, .int t_choices_ready, .int t_choices_pool, .int t_choices_plies, .int t_choices_room])), (b_t_choices_rows, .inl (g.2.2.1 1, t_choices_rows_n, .inr (.inl t_choices_rows)))] sz) := by
  refine rw_meti (by decide) (Nat.le_of_ble_eq_true rfl) (lv0 := [(0, .ref ((a_t 0))), (1, .int v1)]) rfl ?_
  intro p e s m args below meth c ls Q A cx hret hG hAb hb0 hA hP hD hl
  have hx := cx.1
  have hb := cx.2.1
  have hG0 := hG
  have hGk : ∀ {H : Heap} {locs : List Loc}, va_S A s.heap H locs → GE g s H := fun hS => hG0.keptS hAb hS
  have hSb : ∀ {H : Heap} {locs : List Loc}, va_S A s.heap H locs → va_S (fun a => g.1 ≤ a) s.heap H locs := fun hS => ⟨hS.1, fun q h1 h2 => hS.2.1 q h1 (fun z => h2 (hAb q z)), fun l hl => hAb _ (hS.2.2 l hl)⟩
  have hS : va_S A s.heap s.heap [] := va_S.rf
  have hrt : ∀ (u : Nat → Nat) (pc : Nat) (ls : Array Slot) (v : Int32) (x_t_choices_rows_n : Nat) (x_t_choices_rows : Nat → Int64) (x_t_choices_size : Int32) (x_t_choices_ready : Int32) (x_t_choices_pool : Int32) (x_t_choices_plies : Int32) (x_t_choices_room : Int32) (H : Heap) (locs : List Loc), decode cX7_orders pc = .ok (.ireturn, 1) → some (v, x_t_choices_rows_n, x_t_choices_rows, x_t_choices_size, x_t_choices_ready, x_t_choices_pool, x_t_choices_plies, x_t_choices_room) = some (o, o_t_choices_rows_n, o_t_choices_rows, o_t_choices_size, o_t_choices_ready, o_t_choices_pool, o_t_choices_plies, o_t_choices_room) → va_P g.2.1 vwCl [((a_t 0), .inr (6, [.ref (a_t_tape 0), .ref (a_t_reader 0), .ref (a_t_now 0), .ref (a_t 4), .ref (a_t_choices 0), .ref (a_t_ways 0), .ref (a_t_stress 0)])), ((a_t_now 0), .inr (1, [.ref (a_t_now 1), .ref (a_t_now 2), .ref (a_t_now 3), .ref (a_t_now 4), .ref (a_t_now 5), .int t_now_told, .int t_now_lines, .int t_now_kinds, .int t_now_acts])), ((a_t_now 2), .inl (g.2.2.1 0, 144, .inl t_now_cells)), ((a_t_now 3), .inl (g.2.2.1 0, 31, .inl t_now_rows)), ((a_t_now 4), .inl (g.2.2.1 0, 31, .inl t_now_sizes)), ((a_t_now 5), .inl (g.2.2.1 0, 31, .inl t_now_rooms)), ((a_t_choices 0), .inr (0, [.ref (u 0), .ref b_t_choices_seen, .int x_t_choices_size, .int x_t_choices_ready, .int x_t_choices_pool, .int x_t_choices_plies, .int x_t_choices_room])), ((u 0), .inl (g.2.2.1 1, x_t_choices_rows_n, .inr (.inl x_t_choices_rows)))] H → va_D A [((a_t 0), .inr (6, [.ref (a_t_tape 0), .ref (a_t_reader 0), .ref (a_t_now 0), .ref (a_t 4), .ref (a_t_choices 0), .ref (a_t_ways 0), .ref (a_t_stress 0)])), ((a_t_now 0), .inr (1, [.ref (a_t_now 1), .ref (a_t_now 2), .ref (a_t_now 3), .ref (a_t_now 4), .ref (a_t_now 5), .int t_now_told, .int t_now_lines, .int t_now_kinds, .int t_now_acts])), ((a_t_now 2), .inl (g.2.2.1 0, 144, .inl t_now_cells)), ((a_t_now 3), .inl (g.2.2.1 0, 31, .inl t_now_rows)), ((a_t_now 4), .inl (g.2.2.1 0, 31, .inl t_now_sizes)), ((a_t_now 5), .inl (g.2.2.1 0, 31, .inl t_now_rooms)), ((a_t_choices 0), .inr (0, [.ref (u 0), .ref b_t_choices_seen, .int x_t_choices_size, .int x_t_choices_ready, .int x_t_choices_pool, .int x_t_choices_plies, .int x_t_choices_room])), ((u 0), .inl (g.2.2.1 1, x_t_choices_rows_n, .inr (.inl x_t_choices_rows)))] → va_S A s.heap H locs → W p l e ⟨16, 1, lim0, 520⟩ s m args below meth c H locs 1 lim0 Q (F0 m pc ls [.int v]) := by
    intro u pc ls v x_t_choices_rows_n x_t_choices_rows x_t_choices_size x_t_choices_ready x_t_choices_pool x_t_choices_plies x_t_choices_room H locs hd h hP hD hS
    cases h
    exact hret u _ _ _ _ _ hd rfl hP hD hS
  unfold fX7_orders at h
  refine lv_aload_n hx hb dX7_orders_0 rfl (lv_at hl 0 rfl) ?_
  refine lv_iload_n hx hb dX7_orders_1 rfl (lv_at hl 1 rfl) ?_
  refine ro_z (runV (As := [.int v1]) (rest := []) cx hl.1 (ctX7_isMask l g a_t a_t_tape a_t_reader a_t_now a_t_choices a_t_ways a_t_stress t_now_told t_now_lines t_now_kinds t_now_acts v1 (fX7_isMask t_now_told v1) rfl) kmX7_isMask kvX7_isMask lm_X7_239 ⟨rfl, rfl⟩ ⟨Nat.le_of_ble_eq_true rfl, Nat.le_of_ble_eq_true rfl⟩ (roV (q0 := 0) (ci := 6) hG (hP.sub [0, 1] rfl) hP rfl rfl) rfl rfl (Nat.le_of_ble_eq_true rfl) dX7_orders_2 ⟨Nat.le_of_ble_eq_true rfl, (show (0 + 0 : Nat) ≤ lim0 by omega)⟩) (fun hz1 => ?_)
  refine lv_if_ne (tgt := 11) hx hb dX7_orders_5 (by decide) (fun c2 => ?_) (fun c2 => ?_)
  · have h := itn c2 h
    refine lv_aload_n hx hb dX7_orders_11 rfl (lv_at hl 0 rfl) ?_
    refine xa_get (C := RX7) (T := TX7) (N := 7) cx hG hP 0 rfl rfl uX7 4 (by decide) lf_X7_41 rfl dX7_orders_12 ?_
    refine lv_aload_n hx hb dX7_orders_15 rfl (lv_at hl 0 rfl) ?_
    refine xa_get (C := RX7) (T := TX7) (N := 7) cx hG hP 0 rfl rfl uX7 2 (by decide) lf_X7_30 rfl dX7_orders_16 ?_
    obtain ⟨w4, w5, w6, w7, w8, w9, w10, hr3, h⟩ := ob7_out h
    refine rw_v (WN := fun u11 => [((a_t 0), .inr (6, [.ref (a_t_tape 0), .ref (a_t_reader 0), .ref (a_t_now 0), .ref (a_t 4), .ref (a_t_choices 0), .ref (a_t_ways 0), .ref (a_t_stress 0)])), ((a_t_choices 0), .inr (0, [.ref (u11 0), .ref b_t_choices_seen, .int w6, .int w7, .int w8, .int w9, .int w10])), ((u11 0), .inl (g.2.2.1 1, w4, .inr (.inl w5))), ((a_t_now 0), .inr (1, [.ref (a_t_now 1), .ref (a_t_now 2), .ref (a_t_now 3), .ref (a_t_now 4), .ref (a_t_now 5), .int t_now_told, .int t_now_lines, .int t_now_kinds, .int t_now_acts])), ((a_t_now 2), .inl (g.2.2.1 0, 144, .inl t_now_cells)), ((a_t_now 3), .inl (g.2.2.1 0, 31, .inl t_now_rows)), ((a_t_now 4), .inl (g.2.2.1 0, 31, .inl t_now_sizes)), ((a_t_now 5), .inl (g.2.2.1 0, 31, .inl t_now_rooms))]) (wr := [((a_t 0), .inr (6, [.ref (a_t_tape 0), .ref (a_t_reader 0), .ref (a_t_now 0), .ref (a_t 4), .ref (a_t_choices 0), .ref (a_t_ways 0), .ref (a_t_stress 0)]))]) (runVN (As := [.ref ((a_t_now 0))]) (rest := []) hG cx hl.1 (ctX0_prepare l g lim0 s.heap.size a_t_choices a_t_now b_t_choices_rows b_t_choices_seen t_choices_size t_choices_ready t_choices_pool t_choices_plies t_choices_room t_choices_rows_n t_choices_rows t_now_told t_now_lines t_now_kinds t_now_acts t_now_cells t_now_rows t_now_sizes t_now_rooms w4 w5 w6 w7 w8 w9 w10 hr3) kmX0_prepare kvX0_prepare nm_52 ⟨rfl, rfl⟩ ⟨Nat.le_of_ble_eq_true rfl, Nat.le_of_ble_eq_true rfl⟩ (rwV (q0 := 6) (ci := 0) hG (hP.sub [6, 7, 1, 2, 3, 4, 5] rfl) (hD.sub [6, 7, 1, 2, 3, 4, 5] (by decide) rfl) hAb hb0 hS hP rfl rfl) rfl rfl (Nat.le_of_ble_eq_true rfl) dX7_orders_19 ⟨Nat.le_of_ble_eq_true rfl, (show (0 + lim0 : Nat) ≤ lim0 by omega)⟩) hP hD hS hA [6, 7, 1, 2, 3, 4, 5] [0] rfl rfl (by decide) (by decide) (fun _ => rfl) (fun u11 H locs hP hD hS => ?_)
    have hG := hGk hS
    refine lv_aload_n hx hb dX7_orders_22 rfl (lv_at hl 0 rfl) ?_
    refine xa_get (C := RX7) (T := TX7) (N := 7) cx hG hP 0 rfl rfl uX7 4 (by decide) lf_X7_41 rfl dX7_orders_23 ?_
    refine lv_iload_n hx hb dX7_orders_26 rfl (lv_at hl 1 rfl) ?_
    obtain ⟨r12, hr13, h⟩ := bnd h
    refine ro_i (runVN (As := [.int v1]) (rest := []) hG cx hl.1 (ctX0_howMany l g a_t_choices (u11 0) b_t_choices_seen w6 w7 w8 w9 w10 w4 w5 v1 r12 hr13) kmX0_howMany kvX0_howMany nm_65 ⟨rfl, rfl⟩ ⟨Nat.le_of_ble_eq_true rfl, Nat.le_of_ble_eq_true rfl⟩ (roV (q0 := 1) (ci := 0) hG (hP.sub [1, 2] rfl) hP rfl rfl) rfl rfl (Nat.le_of_ble_eq_true rfl) dX7_orders_27 ⟨Nat.le_of_ble_eq_true rfl, (show (0 + lim0 + 0 : Nat) ≤ lim0 by omega)⟩) ?_
    refine W.widen (k := 1) (n := lim0) (Nat.le_of_ble_eq_true rfl) (show (0 + lim0 : Nat) ≤ lim0 by omega) ?_
    exact hrt (fun _ => (u11 0)) _ _ r12 w4 w5 w6 w7 w8 w9 w10 _ _ dX7_orders_30 h (hP.sub [0, 3, 4, 5, 6, 7, 1, 2] rfl) (hD.sub [0, 3, 4, 5, 6, 7, 1, 2] (by decide) rfl) hS
  · have h := itp c2 h
    refine lv_bipush (v := -2) hx hb dX7_orders_8 (by decide) ?_
    refine W.widen (k := 1) (n := lim0) (Nat.le_of_ble_eq_true rfl) (show (0 : Nat) ≤ lim0 by omega) ?_
    exact hrt (fun _ => b_t_choices_rows) _ _ ((-2)) t_choices_rows_n t_choices_rows t_choices_size t_choices_ready t_choices_pool t_choices_plies t_choices_room _ _ dX7_orders_10 h (hP.sub [0, 1, 2, 3, 4, 5, 6, 7] rfl) (hD.sub [0, 1, 2, 3, 4, 5, 6, 7] (by decide) rfl) hS
-- X7_order
theorem dX7_order_0 : decode cX7_order 0 = .ok (.aload_n 0, 1) := by decide +kernel
theorem dX7_order_1 : decode cX7_order 1 = .ok (.iload_n 1, 1) := by decide +kernel
theorem dX7_order_2 : decode cX7_order 2 = .ok (.invokevirtual 239, 3) := by decide +kernel
theorem dX7_order_5 : decode cX7_order 5 = .ok (.ifCond .eq 15, 3) := by decide +kernel
theorem dX7_order_8 : decode cX7_order 8 = .ok (.iload_n 2, 1) := by decide +kernel
theorem dX7_order_9 : decode cX7_order 9 = .ok (.ifCond .lt 11, 3) := by decide +kernel
theorem dX7_order_12 : decode cX7_order 12 = .ok (.aload_n 0, 1) := by decide +kernel
theorem dX7_order_13 : decode cX7_order 13 = .ok (.iload_n 3, 1) := by decide +kernel
theorem dX7_order_14 : decode cX7_order 14 = .ok (.invokevirtual 115, 3) := by decide +kernel
theorem dX7_order_17 : decode cX7_order 17 = .ok (.ifCond .ne 6, 3) := by decide +kernel
theorem dX7_order_20 : decode cX7_order 20 = .ok (.bipush (-2), 2) := by decide +kernel
theorem dX7_order_22 : decode cX7_order 22 = .ok (.ireturn, 1) := by decide +kernel
theorem dX7_order_23 : decode cX7_order 23 = .ok (.aload_n 0, 1) := by decide +kernel
theorem dX7_order_24 : decode cX7_order 24 = .ok (.getfield 41, 3) := by decide +kernel
theorem dX7_order_27 : decode cX7_order 27 = .ok (.aload_n 0, 1) := by decide +kernel
theorem dX7_order_28 : decode cX7_order 28 = .ok (.getfield 30, 3) := by decide +kernel
theorem dX7_order_31 : decode cX7_order 31 = .ok (.invokevirtual 242, 3) := by decide +kernel
theorem dX7_order_34 : decode cX7_order 34 = .ok (.aload_n 0, 1) := by decide +kernel
theorem dX7_order_35 : decode cX7_order 35 = .ok (.getfield 41, 3) := by decide +kernel
theorem dX7_order_38 : decode cX7_order 38 = .ok (.iload_n 1, 1) := by decide +kernel
theorem dX7_order_39 : decode cX7_order 39 = .ok (.iload_n 2, 1) := by decide +kernel
theorem dX7_order_40 : decode cX7_order 40 = .ok (.invokevirtual 247, 3) := by decide +kernel
theorem dX7_order_43 : decode cX7_order 43 = .ok (.istore 4, 2) := by decide +kernel
theorem dX7_order_45 : decode cX7_order 45 = .ok (.iload 4, 2) := by decide +kernel
theorem dX7_order_47 : decode cX7_order 47 = .ok (.iconst (-1), 1) := by decide +kernel
theorem dX7_order_48 : decode cX7_order 48 = .ok (.if_icmp .ne 7, 3) := by decide +kernel
theorem dX7_order_51 : decode cX7_order 51 = .ok (.iconst (-1), 1) := by decide +kernel
theorem dX7_order_52 : decode cX7_order 52 = .ok (.goto 16, 3) := by decide +kernel
theorem dX7_order_55 : decode cX7_order 55 = .ok (.aload_n 0, 1) := by decide +kernel
theorem dX7_order_56 : decode cX7_order 56 = .ok (.getfield 41, 3) := by decide +kernel
theorem dX7_order_59 : decode cX7_order 59 = .ok (.iload 4, 2) := by decide +kernel
theorem dX7_order_61 : decode cX7_order 61 = .ok (.invokevirtual 250, 3) := by decide +kernel
theorem dX7_order_64 : decode cX7_order 64 = .ok (.iload_n 3, 1) := by decide +kernel
theorem dX7_order_65 : decode cX7_order 65 = .ok (.invokestatic 253, 3) := by decide +kernel
theorem dX7_order_68 : decode cX7_order 68 = .ok (.ireturn, 1) := by decide +kernel
noncomputable def fX7_order (lim0 : Nat)  (t_now_cells : Nat → Int32) (t_now_rows : Nat → Int32) (t_now_sizes : Nat → Int32) (t_now_rooms : Nat → Int32) (t_now_told : Int32) (t_now_acts : Int32) (t_choices_rows_n : Nat) (t_choices_rows : Nat → Int64) (t_choices_size : Int32) (t_choices_ready : Int32) (t_choices_pool : Int32) (t_choices_plies : Int32) (t_choices_room : Int32) (v1 : Int32) (v2 : Int32) (v3 : Int32) : Option (Int32 × Nat × (Nat → Int64) × Int32 × Int32 × Int32 × Int32 × Int32) := (if (fX7_isMask t_now_told v1) = 0 then some ((-2), t_choices_rows_n, t_choices_rows, t_choices_size, t_choices_ready, t_choices_pool, t_choices_plies, t_choices_room) else (if v2 < 0 then some ((-2), t_choices_rows_n, t_choices_rows, t_choices_size, t_choices_ready, t_choices_pool, t_choices_plies, t_choices_room) else (fX7_isPly t_now_sizes t_now_told t_now_acts v3).bind fun r4 => (if r4 = 0 then some ((-2), t_choices_rows_n, t_choices_rows, t_choices_size, t_choices_ready, t_choices_pool, t_choices_plies, t_choices_room) else ob7 (fX0_prepare lim0 t_choices_rows_n t_choices_rows t_choices_size t_choices_ready t_choices_pool t_choices_plies t_choices_room t_now_cells t_now_rows t_now_sizes t_now_rooms t_now_acts) fun w9 w10 w11 w12 w13 w14 w15 => (fX0_find w9 w10 w11 v1 v2).bind fun r17 => (if r17 = (-1) then some ((-1), w9, w10, w11, w12, w13, w14, w15) else (fX0_rowAt w9 w10 r17).bind fun r20 => some ((fX3_typeAt r20 v3), w9, w10, w11, w12, w13, w14, w15)))))
set_option maxHeartbeats 4000000 in
set_option maxRecDepth 100000 in
theorem ctX7_order (l : Launch) (g : GT) (lim0 : Nat) (sz : Nat) (a_t : Nat → Nat) (a_t_tape : Nat → Nat) (a_t_reader : Nat → Nat) (a_t_now : Nat → Nat) (a_t_choices : Nat → Nat) (a_t_ways : Nat → Nat) (a_t_stress : Nat → Nat) (b_t_choices_rows : Nat) (b_t_choices_seen : Nat) (t_now_told : Int32) (t_now_lines : Int32) (t_now_kinds : Int32) (t_now_acts : Int32) (t_now_cells : Nat → Int32) (t_now_rows : Nat → Int32) (t_now_sizes : Nat → Int32) (t_now_rooms : Nat → Int32) (t_choices_size : Int32) (t_choices_ready : Int32) (t_choices_pool : Int32) (t_choices_plies : Int32) (t_choices_room : Int32) (t_choices_rows_n : Nat) (t_choices_rows : Nat → Int64) (v1 : Int32) (v2 : Int32) (v3 : Int32) (o : Int32) (o_t_choices_rows_n : Nat) (o_t_choices_rows : Nat → Int64) (o_t_choices_size : Int32) (o_t_choices_ready : Int32) (o_t_choices_pool : Int32) (o_t_choices_plies : Int32) (o_t_choices_room : Int32) (h : fX7_order lim0 t_now_cells t_now_rows t_now_sizes t_now_rooms t_now_told t_now_acts t_choices_rows_n t_choices_rows t_choices_size t_choices_ready t_choices_pool t_choices_plies t_choices_room v1 v2 v3 = some (o, o_t_choices_rows_n, o_t_choices_rows, o_t_choices_size, o_t_choices_ready, o_t_choices_pool, o_t_choices_plies, o_t_choices_room)) : Met l yX7_order (Cond.code yX7_order cX7_order 5 (some .int) :: Tw) ⟨16, 1, lim0, 520⟩ (va_Pc [.ref ((a_t 0)), .int v1, .int v2, .int v3] (rwB g [((a_t 0), .inr (6, [.ref (a_t_tape 0), .ref (a_t_reader 0), .ref (a_t_now 0), .ref (a_t 4), .ref (a_t_choices 0), .ref (a_t_ways 0), .ref (a_t_stress 0)])), ((a_t_now 0), .inr (1, [.ref (a_t_now 1), .ref (a_t_now 2), .ref (a_t_now 3), .ref (a_t_now 4), .ref (a_t_now 5), .int t_now_told, .int t_now_lines, .int t_now_kinds, .int t_now_acts])), ((a_t_now 2), .inl (g.2.2.1 0, 144, .inl t_now_cells)), ((a_t_now 3), .inl (g.2.2.1 0, 31, .inl t_now_rows)), ((a_t_now 4), .inl (g.2.2.1 0, 31, .inl t_now_sizes)), ((a_t_now 5), .inl (g.2.2.1 0, 31, .inl t_now_rooms)), ((a_t_choices 0), .inr (0, [.ref b_t_choices_rows, .ref b_t_choices_seen, .int t_choices_size, .int t_choices_ready, .int t_choices_pool, .int t_choices_plies, .int t_choices_room])), (b_t_choices_rows, .inl (g.2.2.1 1, t_choices_rows_n, .inr (.inl t_choices_rows)))] sz)) (va_Qi (fun x (_ : Nat → Nat) => x = o) (fun u => rwE g (va_A [((a_t 0), .inr (6, [.ref (a_t_tape 0), .ref (a_t_reader 0), .ref (a_t_now 0), .ref (a_t 4), .ref (a_t_choices 0), .ref (a_t_ways 0), .ref (a_t_stress 0)])), ((a_t_now 0), .inr (1, [.ref (a_t_now 1), .ref (a_t_now 2), .ref (a_t_now 3), .ref (a_t_now 4), .ref (a_t_now 5), .int t_now_told, .int t_now_lines, .int t_now_kinds, .int t_now_acts])), ((a_t_now 2), .inl (g.2.2.1 0, 144, .inl t_now_cells)), ((a_t_now 3), .inl (g.2.2.1 0, 31, .inl t_now_rows)), ((a_t_now 4), .inl (g.2.2.1 0, 31, .inl t_now_sizes)), ((a_t_now 5), .inl (g.2.2.1 0, 31, .inl t_now_rooms)), ((a_t_choices 0), .inr (0, [.ref b_t_choices_rows, .ref b_t_choices_seen, .int t_choices_size, .int t_choices_ready, .int t_choices_pool, .int t_choices_plies, .int t_choices_room])), (b_t_choices_rows, .inl (g.2.2.1 1, t_choices_rows_n, .inr (.inl t_choices_rows)))] sz) [((a_t 0), .inr (6, [.ref (a_t_tape 0), .ref (a_t_reader 0), .ref (a_t_now 0), .ref (a_t 4), .ref (a_t_choices 0), .ref (a_t_ways 0), .ref (a_t_stress 0)])), ((a_t_now 0), .inr (1, [.ref (a_t_now 1), .ref (a_t_now 2), .ref (a_t_now 3), .ref (a_t_now 4), .ref (a_t_now 5), .int t_now_told, .int t_now_lines, .int t_now_kinds, .int t_now_acts])), ((a_t_now 2), .inl (g.2.2.1 0, 144, .inl t_now_cells)), ((a_t_now 3), .inl (g.2.2.1 0, 31, .inl t_now_rows)), ((a_t_now 4), .inl (g.2.2.1 0, 31, .inl t_now_sizes)), ((a_t_now 5), .inl (g.2.2.1 0, 31, .inl t_now_rooms)), ((a_t_choices 0), .inr (0, [.ref (u 0), .ref b_t_choices_seen, .int o_t_choices_size, .int o_t_choices_ready, .int o_t_choices_pool, .int o_t_choices_plies, .int o_t_choices_room])), ((u 0), .inl (g.2.2.1 1, o_t_choices_rows_n, .inr (.inl o_t_choices_rows)))]) (va_A [((a_t 0), .inr (6, [.ref (a_t_tape 0), .ref (a_t_reader 0), .ref (a_t_now 0), .ref (a_t 4), .ref (a_t_choices 0), .ref (a_t_ways 0), .ref (a_t_stress 0)])), ((a_t_now 0), .inr (1, [.ref (a_t_now 1), .ref (a_t_now 2), .ref (a_t_now 3), .ref (a_t_now 4), .ref (a_t_now 5), .int t_now_told, .int t_now_lines, .int t_now_kinds, .int t_now_acts])), ((a_t_now 2), .inl (g.2.2.1 0, 144, .inl t_now_cells)), ((a_t_now 3), .inl (g.2.2.1 0, 31, .inl t_now_rows)), ((a_t_now 4), .inl (g.2.2.1 0, 31, .inl t_now_sizes)), ((a_t_now 5), .inl (g.2.2.1 0, 31, .inl t_now_rooms)), ((a_t_choices 0), .inr (0, [.ref b_t_choices_rows, .ref b_t_choices_seen, .int t_choices_size, .int t_choices_ready, .int t_choices_pool, .int t_choices_plies, .int t_choices_room])), (b_t_choices_rows, .inl (g.2.2.1 1, t_choices_rows_n, .inr (.inl t_choices_rows)))] sz)) 1 lim0 (va_A [((a_t 0), .inr (6, [.ref (a_t_tape 0), .ref (a_t_reader 0), .ref (a_t_now 0), .ref (a_t 4), .ref (a_t_choices 0), .ref (a_t_ways 0), .ref (a_t_stress 0)])), ((a_t_now 0), .inr (1, [.ref (a_t_now 1), .ref (a_t_now 2), .ref (a_t_now 3), .ref (a_t_now 4), .ref (a_t_now 5), .int t_now_told, .int t_now_lines, .int t_now_kinds, .int t_now_acts])), ((a_t_now 2), .inl (g.2.2.1 0, 144, .inl t_now_cells)), ((a_t_now 3), .inl (g.2.2.1 0, 31, .inl t_now_rows)), ((a_t_now 4), .inl (g.2.2.1 0, 31, .inl t_now_sizes)), ((a_t_now 5), .inl (g.2.2.1 0, 31, .inl t_now_rooms)), ((a_t_choices 0), .inr (0, [.ref b_t_choices_rows, .ref b_t_choices_seen, .int t_choices_size, .int t_choices_ready, .int t_choices_pool, .int t_choices_plies, .int t_choices_room])), (b_t_choices_rows, .inl (g.2.2.1 1, t_choices_rows_n, .inr (.inl t_choices_rows)))] sz) := by
  refine rw_meti (by decide) (Nat.le_of_ble_eq_true rfl) (lv0 := [(0, .ref ((a_t 0))), (1, .int v1), (2, .int v2), (3, .int v3)]) rfl ?_
  intro p e s m args below meth c ls Q A cx hret hG hAb hb0 hA hP hD hl
  have hx := cx.1
  have hb := cx.2.1
  have hG0 := hG
  have hGk : ∀ {H : Heap} {locs : List Loc}, va_S A s.heap H locs → GE g s H := fun hS => hG0.keptS hAb hS
  have hSb : ∀ {H : Heap} {locs : List Loc}, va_S A s.heap H locs → va_S (fun a => g.1 ≤ a) s.heap H locs := fun hS => ⟨hS.1, fun q h1 h2 => hS.2.1 q h1 (fun z => h2 (hAb q z)), fun l hl => hAb _ (hS.2.2 l hl)⟩
  have hS : va_S A s.heap s.heap [] := va_S.rf
  have hrt : ∀ (u : Nat → Nat) (pc : Nat) (ls : Array Slot) (v : Int32) (x_t_choices_rows_n : Nat) (x_t_choices_rows : Nat → Int64) (x_t_choices_size : Int32) (x_t_choices_ready : Int32) (x_t_choices_pool : Int32) (x_t_choices_plies : Int32) (x_t_choices_room : Int32) (H : Heap) (locs : List Loc), decode cX7_order pc = .ok (.ireturn, 1) → some (v, x_t_choices_rows_n, x_t_choices_rows, x_t_choices_size, x_t_choices_ready, x_t_choices_pool, x_t_choices_plies, x_t_choices_room) = some (o, o_t_choices_rows_n, o_t_choices_rows, o_t_choices_size, o_t_choices_ready, o_t_choices_pool, o_t_choices_plies, o_t_choices_room) → va_P g.2.1 vwCl [((a_t 0), .inr (6, [.ref (a_t_tape 0), .ref (a_t_reader 0), .ref (a_t_now 0), .ref (a_t 4), .ref (a_t_choices 0), .ref (a_t_ways 0), .ref (a_t_stress 0)])), ((a_t_now 0), .inr (1, [.ref (a_t_now 1), .ref (a_t_now 2), .ref (a_t_now 3), .ref (a_t_now 4), .ref (a_t_now 5), .int t_now_told, .int t_now_lines, .int t_now_kinds, .int t_now_acts])), ((a_t_now 2), .inl (g.2.2.1 0, 144, .inl t_now_cells)), ((a_t_now 3), .inl (g.2.2.1 0, 31, .inl t_now_rows)), ((a_t_now 4), .inl (g.2.2.1 0, 31, .inl t_now_sizes)), ((a_t_now 5), .inl (g.2.2.1 0, 31, .inl t_now_rooms)), ((a_t_choices 0), .inr (0, [.ref (u 0), .ref b_t_choices_seen, .int x_t_choices_size, .int x_t_choices_ready, .int x_t_choices_pool, .int x_t_choices_plies, .int x_t_choices_room])), ((u 0), .inl (g.2.2.1 1, x_t_choices_rows_n, .inr (.inl x_t_choices_rows)))] H → va_D A [((a_t 0), .inr (6, [.ref (a_t_tape 0), .ref (a_t_reader 0), .ref (a_t_now 0), .ref (a_t 4), .ref (a_t_choices 0), .ref (a_t_ways 0), .ref (a_t_stress 0)])), ((a_t_now 0), .inr (1, [.ref (a_t_now 1), .ref (a_t_now 2), .ref (a_t_now 3), .ref (a_t_now 4), .ref (a_t_now 5), .int t_now_told, .int t_now_lines, .int t_now_kinds, .int t_now_acts])), ((a_t_now 2), .inl (g.2.2.1 0, 144, .inl t_now_cells)), ((a_t_now 3), .inl (g.2.2.1 0, 31, .inl t_now_rows)), ((a_t_now 4), .inl (g.2.2.1 0, 31, .inl t_now_sizes)), ((a_t_now 5), .inl (g.2.2.1 0, 31, .inl t_now_rooms)), ((a_t_choices 0), .inr (0, [.ref (u 0), .ref b_t_choices_seen, .int x_t_choices_size, .int x_t_choices_ready, .int x_t_choices_pool, .int x_t_choices_plies, .int x_t_choices_room])), ((u 0), .inl (g.2.2.1 1, x_t_choices_rows_n, .inr (.inl x_t_choices_rows)))] → va_S A s.heap H locs → W p l e ⟨16, 1, lim0, 520⟩ s m args below meth c H locs 1 lim0 Q (F0 m pc ls [.int v]) := by
    intro u pc ls v x_t_choices_rows_n x_t_choices_rows x_t_choices_size x_t_choices_ready x_t_choices_pool x_t_choices_plies x_t_choices_room H locs hd h hP hD hS
    cases h
    exact hret u _ _ _ _ _ hd rfl hP hD hS
  unfold fX7_order at h
  refine lv_aload_n hx hb dX7_order_0 rfl (lv_at hl 0 rfl) ?_
  refine lv_iload_n hx hb dX7_order_1 rfl (lv_at hl 1 rfl) ?_
  refine ro_z (runV (As := [.int v1]) (rest := []) cx hl.1 (ctX7_isMask l g a_t a_t_tape a_t_reader a_t_now a_t_choices a_t_ways a_t_stress t_now_told t_now_lines t_now_kinds t_now_acts v1 (fX7_isMask t_now_told v1) rfl) kmX7_isMask kvX7_isMask lm_X7_239 ⟨rfl, rfl⟩ ⟨Nat.le_of_ble_eq_true rfl, Nat.le_of_ble_eq_true rfl⟩ (roV (q0 := 0) (ci := 6) hG (hP.sub [0, 1] rfl) hP rfl rfl) rfl rfl (Nat.le_of_ble_eq_true rfl) dX7_order_2 ⟨Nat.le_of_ble_eq_true rfl, (show (0 + 0 : Nat) ≤ lim0 by omega)⟩) (fun hz1 => ?_)
  refine lv_if_eq (tgt := 20) hx hb dX7_order_5 (by decide) (fun c2 => ?_) (fun c2 => ?_)
  · have h := itp c2 h
    refine lv_bipush (v := -2) hx hb dX7_order_20 (by decide) ?_
    refine W.widen (k := 1) (n := lim0) (Nat.le_of_ble_eq_true rfl) (show (0 : Nat) ≤ lim0 by omega) ?_
    exact hrt (fun _ => b_t_choices_rows) _ _ ((-2)) t_choices_rows_n t_choices_rows t_choices_size t_choices_ready t_choices_pool t_choices_plies t_choices_room _ _ dX7_order_22 h (hP.sub [0, 1, 2, 3, 4, 5, 6, 7] rfl) (hD.sub [0, 1, 2, 3, 4, 5, 6, 7] (by decide) rfl) hS
  · have h := itn c2 h
    refine lv_iload_n hx hb dX7_order_8 rfl (lv_at hl 2 rfl) ?_
    refine lv_if_lt (tgt := 20) hx hb dX7_order_9 (by decide) (fun c3 => ?_) (fun c3 => ?_)
    · have h := itp c3 h
      refine lv_bipush (v := -2) hx hb dX7_order_20 (by decide) ?_
      refine W.widen (k := 1) (n := lim0) (Nat.le_of_ble_eq_true rfl) (show (0 : Nat) ≤ lim0 by omega) ?_
      exact hrt (fun _ => b_t_choices_rows) _ _ ((-2)) t_choices_rows_n t_choices_rows t_choices_size t_choices_ready t_choices_pool t_choices_plies t_choices_room _ _ dX7_order_22 h (hP.sub [0, 1, 2, 3, 4, 5, 6, 7] rfl) (hD.sub [0, 1, 2, 3, 4, 5, 6, 7] (by decide) rfl) hS
    · have h := itn c3 h
      refine lv_aload_n hx hb dX7_order_12 rfl (lv_at hl 0 rfl) ?_
      refine lv_iload_n hx hb dX7_order_13 rfl (lv_at hl 3 rfl) ?_
      obtain ⟨r4, hr5, h⟩ := bnd h
      refine ro_z (runV (As := [.int v3]) (rest := []) cx hl.1 (ctX7_isPly l g a_t a_t_tape a_t_reader a_t_now a_t_choices a_t_ways a_t_stress t_now_told t_now_lines t_now_kinds t_now_acts t_now_sizes v3 r4 hr5) kmX7_isPly kvX7_isPly lm_X7_115 ⟨rfl, rfl⟩ ⟨Nat.le_of_ble_eq_true rfl, Nat.le_of_ble_eq_true rfl⟩ (roV (q0 := 0) (ci := 6) hG (hP.sub [0, 1, 4] rfl) hP rfl rfl) rfl rfl (Nat.le_of_ble_eq_true rfl) dX7_order_14 ⟨Nat.le_of_ble_eq_true rfl, (show (0 + 0 : Nat) ≤ lim0 by omega)⟩) (fun hz6 => ?_)
      refine lv_if_ne (tgt := 23) hx hb dX7_order_17 (by decide) (fun c7 => ?_) (fun c7 => ?_)
      · have h := itn c7 h
        refine lv_aload_n hx hb dX7_order_23 rfl (lv_at hl 0 rfl) ?_
        refine xa_get (C := RX7) (T := TX7) (N := 7) cx hG hP 0 rfl rfl uX7 4 (by decide) lf_X7_41 rfl dX7_order_24 ?_
        refine lv_aload_n hx hb dX7_order_27 rfl (lv_at hl 0 rfl) ?_
        refine xa_get (C := RX7) (T := TX7) (N := 7) cx hG hP 0 rfl rfl uX7 2 (by decide) lf_X7_30 rfl dX7_order_28 ?_
        obtain ⟨w9, w10, w11, w12, w13, w14, w15, hr8, h⟩ := ob7_out h
        refine rw_v (WN := fun u16 => [((a_t 0), .inr (6, [.ref (a_t_tape 0), .ref (a_t_reader 0), .ref (a_t_now 0), .ref (a_t 4), .ref (a_t_choices 0), .ref (a_t_ways 0), .ref (a_t_stress 0)])), ((a_t_choices 0), .inr (0, [.ref (u16 0), .ref b_t_choices_seen, .int w11, .int w12, .int w13, .int w14, .int w15])), ((u16 0), .inl (g.2.2.1 1, w9, .inr (.inl w10))), ((a_t_now 0), .inr (1, [.ref (a_t_now 1), .ref (a_t_now 2), .ref (a_t_now 3), .ref (a_t_now 4), .ref (a_t_now 5), .int t_now_told, .int t_now_lines, .int t_now_kinds, .int t_now_acts])), ((a_t_now 2), .inl (g.2.2.1 0, 144, .inl t_now_cells)), ((a_t_now 3), .inl (g.2.2.1 0, 31, .inl t_now_rows)), ((a_t_now 4), .inl (g.2.2.1 0, 31, .inl t_now_sizes)), ((a_t_now 5), .inl (g.2.2.1 0, 31, .inl t_now_rooms))]) (wr := [((a_t 0), .inr (6, [.ref (a_t_tape 0), .ref (a_t_reader 0), .ref (a_t_now 0), .ref (a_t 4), .ref (a_t_choices 0), .ref (a_t_ways 0), .ref (a_t_stress 0)]))]) (runVN (As := [.ref ((a_t_now 0))]) (rest := []) hG cx hl.1 (ctX0_prepare l g lim0 s.heap.size a_t_choices a_t_now b_t_choices_rows b_t_choices_seen t_choices_size t_choices_ready t_choices_pool t_choices_plies t_choices_room t_choices_rows_n t_choices_rows t_now_told t_now_lines t_now_kinds t_now_acts t_now_cells t_now_rows t_now_sizes t_now_rooms w9 w10 w11 w12 w13 w14 w15 hr8) kmX0_prepare kvX0_prepare nm_52 ⟨rfl, rfl⟩ ⟨Nat.le_of_ble_eq_true rfl, Nat.le_of_ble_eq_true rfl⟩ (rwV (q0 := 6) (ci := 0) hG (hP.sub [6, 7, 1, 2, 3, 4, 5] rfl) (hD.sub [6, 7, 1, 2, 3, 4, 5] (by decide) rfl) hAb hb0 hS hP rfl rfl) rfl rfl (Nat.le_of_ble_eq_true rfl) dX7_order_31 ⟨Nat.le_of_ble_eq_true rfl, (show (0 + lim0 : Nat) ≤ lim0 by omega)⟩) hP hD hS hA [6, 7, 1, 2, 3, 4, 5] [0] rfl rfl (by decide) (by decide) (fun _ => rfl) (fun u16 H locs hP hD hS => ?_)
        have hG := hGk hS
        refine lv_aload_n hx hb dX7_order_34 rfl (lv_at hl 0 rfl) ?_
        refine xa_get (C := RX7) (T := TX7) (N := 7) cx hG hP 0 rfl rfl uX7 4 (by decide) lf_X7_41 rfl dX7_order_35 ?_
        refine lv_iload_n hx hb dX7_order_38 rfl (lv_at hl 1 rfl) ?_
        refine lv_iload_n hx hb dX7_order_39 rfl (lv_at hl 2 rfl) ?_
        obtain ⟨r17, hr18, h⟩ := bnd h
        refine ro_i (runVN (As := [.int v1, .int v2]) (rest := []) hG cx hl.1 (ctX0_find l g a_t_choices (u16 0) b_t_choices_seen w11 w12 w13 w14 w15 w9 w10 v1 v2 r17 hr18) kmX0_find kvX0_find nm_66 ⟨rfl, rfl⟩ ⟨Nat.le_of_ble_eq_true rfl, Nat.le_of_ble_eq_true rfl⟩ (roV (q0 := 1) (ci := 0) hG (hP.sub [1, 2] rfl) hP rfl rfl) rfl rfl (Nat.le_of_ble_eq_true rfl) dX7_order_40 ⟨Nat.le_of_ble_eq_true rfl, (show (0 + lim0 + 0 : Nat) ≤ lim0 by omega)⟩) ?_
        refine lv_istore (lv' := [(4, .int r17), (0, .ref ((a_t 0))), (1, .int v1), (2, .int v2), (3, .int v3)]) hx hb dX7_order_43 hl (by decide) rfl (fun ls hl => ?_)
        refine lv_iload hx hb dX7_order_45 (lv_at hl 0 rfl) ?_
        refine lv_iconst (v := -1) hx hb dX7_order_47 (by decide) ?_
        refine lv_icmp_ne (tgt := 55) hx hb dX7_order_48 (by decide) (fun c19 => ?_) (fun c19 => ?_)
        · have h := itn c19 h
          refine lv_aload_n hx hb dX7_order_55 rfl (lv_at hl 1 rfl) ?_
          refine xa_get (C := RX7) (T := TX7) (N := 7) cx hG hP 0 rfl rfl uX7 4 (by decide) lf_X7_41 rfl dX7_order_56 ?_
          refine lv_iload hx hb dX7_order_59 (lv_at hl 0 rfl) ?_
          obtain ⟨r20, hr21, h⟩ := bnd h
          refine ro_i (runVN (As := [.int r17]) (rest := []) hG cx hl.1 (ctX0_rowAt l g a_t_choices (u16 0) b_t_choices_seen w11 w12 w13 w14 w15 w9 w10 r17 r20 hr21) kmX0_rowAt kvX0_rowAt nm_67 ⟨rfl, rfl⟩ ⟨Nat.le_of_ble_eq_true rfl, Nat.le_of_ble_eq_true rfl⟩ (roV (q0 := 1) (ci := 0) hG (hP.sub [1, 2] rfl) hP rfl rfl) rfl rfl (Nat.le_of_ble_eq_true rfl) dX7_order_61 ⟨Nat.le_of_ble_eq_true rfl, (show (0 + lim0 + 0 : Nat) ≤ lim0 by omega)⟩) ?_
          refine lv_iload_n hx hb dX7_order_64 rfl (lv_at hl 4 rfl) ?_
          refine ro_i (runSN (As := [.int r20, .int v3]) (rest := []) hG cx hl.1 (ctX3_typeAt l g r20 v3 (fX3_typeAt r20 v3) rfl) kmX3_typeAt ksX3_typeAt nm_68 ⟨rfl, rfl⟩ ⟨Nat.le_of_ble_eq_true rfl, Nat.le_of_ble_eq_true rfl⟩ (roS hG (hP.sub [] rfl)) rfl rfl (Nat.le_of_ble_eq_true rfl) dX7_order_65 ⟨Nat.le_of_ble_eq_true rfl, (show (0 + lim0 + 0 : Nat) ≤ lim0 by omega)⟩) ?_
          refine W.widen (k := 1) (n := lim0) (Nat.le_of_ble_eq_true rfl) (show (0 + lim0 : Nat) ≤ lim0 by omega) ?_
          exact hrt (fun _ => (u16 0)) _ _ ((fX3_typeAt r20 v3)) w9 w10 w11 w12 w13 w14 w15 _ _ dX7_order_68 h (hP.sub [0, 3, 4, 5, 6, 7, 1, 2] rfl) (hD.sub [0, 3, 4, 5, 6, 7, 1, 2] (by decide) rfl) hS
        · have h := itp c19 h
          refine lv_iconst (v := -1) hx hb dX7_order_51 (by decide) ?_
          refine lv_goto (tgt := 68) hx hb dX7_order_52 (by decide) ?_
          refine W.widen (k := 1) (n := lim0) (Nat.le_of_ble_eq_true rfl) (show (0 + lim0 : Nat) ≤ lim0 by omega) ?_
          exact hrt (fun _ => (u16 0)) _ _ ((-1)) w9 w10 w11 w12 w13 w14 w15 _ _ dX7_order_68 h (hP.sub [0, 3, 4, 5, 6, 7, 1, 2] rfl) (hD.sub [0, 3, 4, 5, 6, 7, 1, 2] (by decide) rfl) hS
      · have h := itp c7 h
        refine lv_bipush (v := -2) hx hb dX7_order_20 (by decide) ?_
        refine W.widen (k := 1) (n := lim0) (Nat.le_of_ble_eq_true rfl) (show (0 : Nat) ≤ lim0 by omega) ?_
        exact hrt (fun _ => b_t_choices_rows) _ _ ((-2)) t_choices_rows_n t_choices_rows t_choices_size t_choices_ready t_choices_pool t_choices_plies t_choices_room _ _ dX7_order_22 h (hP.sub [0, 1, 2, 3, 4, 5, 6, 7] rfl) (hD.sub [0, 1, 2, 3, 4, 5, 6, 7] (by decide) rfl) hS
