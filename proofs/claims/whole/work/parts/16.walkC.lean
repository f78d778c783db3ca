-- X7_rank
theorem dX7_rank_0 : decode cX7_rank 0 = .ok (.aload_n 0, 1) := by decide +kernel
theorem dX7_rank_1 : decode cX7_rank 1 = .ok (.iload_n 1, 1) := by decide +kernel
theorem dX7_rank_2 : decode cX7_rank 2 = .ok (.invokevirtual 239, 3) := by decide +kernel
theorem dX7_rank_5 : decode cX7_rank 5 = .ok (.ifCond .ne 6, 3) := by decide +kernel
theorem dX7_rank_8 : decode cX7_rank 8 = .ok (.bipush (-2), 2) := by decide +kernel
theorem dX7_rank_10 : decode cX7_rank 10 = .ok (.ireturn, 1) := by decide +kernel
theorem dX7_rank_11 : decode cX7_rank 11 = .ok (.aload_n 0, 1) := by decide +kernel
theorem dX7_rank_12 : decode cX7_rank 12 = .ok (.getfield 41, 3) := by decide +kernel
theorem dX7_rank_15 : decode cX7_rank 15 = .ok (.aload_n 0, 1) := by decide +kernel
theorem dX7_rank_16 : decode cX7_rank 16 = .ok (.getfield 30, 3) := by decide +kernel
theorem dX7_rank_19 : decode cX7_rank 19 = .ok (.invokevirtual 242, 3) := by decide +kernel
theorem dX7_rank_22 : decode cX7_rank 22 = .ok (.aload_n 0, 1) := by decide +kernel
theorem dX7_rank_23 : decode cX7_rank 23 = .ok (.getfield 41, 3) := by decide +kernel
theorem dX7_rank_26 : decode cX7_rank 26 = .ok (.iload_n 1, 1) := by decide +kernel
theorem dX7_rank_27 : decode cX7_rank 27 = .ok (.aload_n 0, 1) := by decide +kernel
theorem dX7_rank_28 : decode cX7_rank 28 = .ok (.getfield 30, 3) := by decide +kernel
theorem dX7_rank_31 : decode cX7_rank 31 = .ok (.invokevirtual 132, 3) := by decide +kernel
theorem dX7_rank_34 : decode cX7_rank 34 = .ok (.invokevirtual 255, 3) := by decide +kernel
theorem dX7_rank_37 : decode cX7_rank 37 = .ok (.ireturn, 1) := by decide +kernel
noncomputable def fX7_rank (lim0 : Nat)  (t_now_cells : Nat → Int32) (t_now_rows : Nat → Int32) (t_now_sizes : Nat → Int32) (t_now_rooms : Nat → Int32) (t_now_told : Int32) (t_now_acts : Int32) (t_choices_rows_n : Nat) (t_choices_rows : Nat → Int64) (t_choices_size : Int32) (t_choices_ready : Int32) (t_choices_pool : Int32) (t_choices_plies : Int32) (t_choices_room : Int32) (v1 : Int32) : Option (Int32 × Nat × (Nat → Int64) × Int32 × Int32 × Int32 × Int32 × Int32) := (if (fX7_isMask t_now_told v1) = 0 then some ((-2), t_choices_rows_n, t_choices_rows, t_choices_size, t_choices_ready, t_choices_pool, t_choices_plies, t_choices_room) else ob7 (fX0_prepare lim0 t_choices_rows_n t_choices_rows t_choices_size t_choices_ready t_choices_pool t_choices_plies t_choices_room t_now_cells t_now_rows t_now_sizes t_now_rooms t_now_acts) fun w4 w5 w6 w7 w8 w9 w10 => (fX1_row t_now_rows t_now_acts).bind fun r12 => (fX0_placeOf w4 w5 w6 v1 r12).bind fun r14 => some (r14, w4, w5, w6, w7, w8, w9, w10))
set_option maxHeartbeats 4000000 in
set_option maxRecDepth 100000 in
theorem ctX7_rank (l : Launch) (g : GT) (lim0 : Nat) (sz : Nat) (a_t : Nat → Nat) (a_t_tape : Nat → Nat) (a_t_reader : Nat → Nat) (a_t_now : Nat → Nat) (a_t_choices : Nat → Nat) (a_t_ways : Nat → Nat) (a_t_stress : Nat → Nat) (b_t_choices_rows : Nat) (b_t_choices_seen : Nat) (t_now_told : Int32) (t_now_lines : Int32) (t_now_kinds : Int32) (t_now_acts : Int32) (t_now_cells : Nat → Int32) (t_now_rows : Nat → Int32) (t_now_sizes : Nat → Int32) (t_now_rooms : Nat → Int32) (t_choices_size : Int32) (t_choices_ready : Int32) (t_choices_pool : Int32) (t_choices_plies : Int32) (t_choices_room : Int32) (t_choices_rows_n : Nat) (t_choices_rows : Nat → Int64) (v1 : Int32) (o : Int32) (o_t_choices_rows_n : Nat) (o_t_choices_rows : Nat → Int64) (o_t_choices_size : Int32) (o_t_choices_ready : Int32) (o_t_choices_pool : Int32) (o_t_choices_plies : Int32) (o_t_choices_room : Int32) (h : fX7_rank lim0 t_now_cells t_now_rows t_now_sizes t_now_rooms t_now_told t_now_acts t_choices_rows_n t_choices_rows t_choices_size t_choices_ready t_choices_pool t_choices_plies t_choices_room v1 = some (o, o_t_choices_rows_n, o_t_choices_rows, o_t_choices_size, o_t_choices_ready, o_t_choices_pool, o_t_choices_plies, o_t_choices_room)) : Met l yX7_rank (Cond.code yX7_rank cX7_rank 2 (some .int) :: Tw) ⟨16, 1, lim0, 520⟩ (va_Pc [.ref ((a_t 0)), .int v1] (rwB g [((a_t 0), .inr (6, [.ref (a_t_tape 0), .ref (a_t_reader 0), .ref (a_t_now 0), .ref (a_t 4), .ref (a_t_choices 0), .ref (a_t_ways 0), .ref (a_t_stress 0)])), ((a_t_now 0), .inr (1, [.ref (a_t_now 1), .ref (a_t_now 2), .ref (a_t_now 3), .ref (a_t_now 4), .ref (a_t_now 5), .int t_now_told, .int t_now_lines, .int t_now_kinds, .int t_now_acts])), ((a_t_now 2), .inl (g.2.2.1 0, 144, .inl t_now_cells)), ((a_t_now 3), .inl (g.2.2.1 0, 31, .inl t_now_rows)), ((a_t_now 4), .inl (g.2.2.1 0, 31, .inl t_now_sizes)), ((a_t_now 5), .inl (g.2.2.1 0, 31, .inl t_now_rooms)), ((a_t_choices 0), .inr (0, [.ref b_t_choices_rows, .ref b_t_choices_seen, .int t_choices_size, .int t_choices_ready, .int t_choices_pool, .int t_choices_plies, .int t_choices_room])), (b_t_choices_rows, .inl (g.2.2.1 1, t_choices_rows_n, .inr (.inl t_choices_rows)))] sz)) (va_Qi (fun x (_ : Nat → Nat) => x = o) (fun u => rwE g (va_A [((a_t 0), .inr (6, [.ref (a_t_tape 0), .ref (a_t_reader 0), .ref (a_t_now 0), .ref (a_t 4), .ref (a_t_choices 0), .ref (a_t_ways 0), .ref (a_t_stress 0)])), ((a_t_now 0), .inr (1, [.ref (a_t_now 1), .ref (a_t_now 2), .ref (a_t_now 3), .ref (a_t_now 4), .ref (a_t_now 5), .int t_now_told, .int t_now_lines, .int t_now_kinds, .int t_now_acts])), ((a_t_now 2), .inl (g.2.2.1 0, 144, .inl t_now_cells)), ((a_t_now 3), .inl (g.2.2.1 0, 31, .inl t_now_rows)), ((a_t_now 4), .inl (g.2.2.1 0, 31, .inl t_now_sizes)), ((a_t_now 5), .inl (g.2.2.1 0, 31, .inl t_now_rooms)), ((a_t_choices 0), .inr (0, [.ref b_t_choices_rows, .ref b_t_choices_seen, .int t_choices_size, .int t_choices_ready, .int t_choices_pool, .int t_choices_plies, .int t_choices_room])), (b_t_choices_rows, .inl (g.2.2.1 1, t_choices_rows_n, .inr (.inl t_choices_rows)))] sz) [((a_t 0), .inr (6, [.ref (a_t_tape 0), .ref (a_t_reader 0), .ref (a_t_now 0), .ref (a_t 4), .ref (a_t_choices 0), .ref (a_t_ways 0), .ref (a_t_stress 0)])), ((a_t_now 0), .inr (1, [.ref (a_t_now 1), .ref (a_t_now 2), .ref (a_t_now 3), .ref (a_t_now 4), .ref (a_t_now 5), .int t_now_told, .int t_now_lines, .int t_now_kinds, .int t_now_acts])), ((a_t_now 2), .inl (g.2.2.1 0, 144, .inl t_now_cells)), ((a_t_now 3), .inl (g.2.2.1 0, 31, .inl t_now_rows)), ((a_t_now 4), .inl (g.2.2.1 0, 31, .inl t_now_sizes)), ((a_t_now 5), .inl (g.2.2.1 0, 31, .inl t_now_rooms)), ((a_t_choices 0), .inr (0, [.ref (u 0), .ref b_t_choices_seen, .int o_t_choices_size, .int o_t_choices_ready, .int o_t_choices_pool, .int o_t_choices_plies, .int o_t_choices_room])), ((u 0), .inl (g.2.2.1 1, o_t_choices_rows_n, .inr (.inl o_t_choices_rows)))]) (va_A [((a_t 0), .inr (6, [.ref (a_t_tape 0), .ref (a_t_reader 0), .ref (a_t_now 0), .ref (a_t 4), .ref (a_t_choices 0), .ref (a_t_ways 0), .ref (a_t_stress 0)])), ((a_t_now 0), .inr (1, [.ref (a_t_now 1), .ref (a_t_now 2), .ref (a_t_now 3), .ref (a_t_now 4), .ref (a_t_now 5), .int t_now_told, .int t_now_lines, .int t_now_kinds, .int t_now_acts])), ((a_t_now 2), .inl (g.2.2.1 0, 144, .inl t_now_cells)), ((a_t_now 3), .inl (g.2.2.1 0, 31, .inl t_now_rows)), ((a_t_now 4), .inl (g.2.2.1 0, 31, .inl t_now_sizes)), ((a_t_now 5), .inl (g.2.2.1 0, 31, .inl t_now_rooms)), ((a_t_choices 0), .inr (0, [.ref b_t_choices_rows, .ref b_t_choices_seen, .int t_choices_size, .int t_choices_ready, .int t_choices_pool, .int t_choices_plies, .int t_choices_room])), (b_t_choices_rows, .inl (g.2.2.1 1, t_choices_rows_n, .inr (.inl t_choices_rows)))] sz)) 1 lim0 (va_A [((a_t 0), .inr (6, [.ref (a_t_tape 0), .ref (a_t_reader 0), .ref (a_t_now 0), .ref (a_t 4), .ref (a_t_choices 0), .ref (a_t_ways 0), .ref (a_t_stress 0)])), ((a_t_now 0), .inr (1, [.ref (a_t_now 1), .ref (a_t_now 2), .ref (a_t_now 3), .ref (a_t_now 4), .ref (a_t_now 5), .int t_now_told, .int t_now_lines, .int t_now_kinds, .int t_now_acts])), ((a_t_now 2), .inl (g.2.2.1 0, 144, .inl t_now_cells)), ((a_t_now 3), .inl (g.2.2.1 0, 31, .inl t_now_rows)), ((a_t_now 4), .inl (g.2.2.1 0, 31, .inl t_now_sizes)), ((a_t_now 5), .inl (g.2.2.1 0, 31, .inl t_now_rooms)), ((a_t_choices 0), .inr (0, [.ref b_t_choices_rows, .ref b_t_choices_seen, .int t_choices_size, .int t_choices_ready, .int t_choices_pool, .int t_choices_plies, .int t_choices_room])), (b_t_choices_rows, .inl (g.2.2.1 1, t_choices_rows_n, .inr (.inl t_choices_rows)))] sz) := by
  refine rw_meti (by decide) (Nat.le_of_ble_eq_true rfl) (lv0 := [(0, .ref ((a_t 0))), (1, .int v1)]) rfl ?_
  intro p e s m args below meth c ls Q A cx hret hG hAb hb0 hA hP hD hl
  have hx := cx.1
  have hb := cx.2.1
  have hG0 := hG
  have hGk : ∀ {H : Heap} {locs : List Loc}, va_S A s.heap H locs → GE g s H := fun hS => hG0.keptS hAb hS
  have hSb : ∀ {H : Heap} {locs : List Loc}, va_S A s.heap H locs → va_S (fun a => g.1 ≤ a) s.heap H locs := fun hS => ⟨hS.1, fun q h1 h2 => hS.2.1 q h1 (fun z => h2 (hAb q z)), fun l hl => hAb _ (hS.2.2 l hl)⟩
  have hS : va_S A s.heap s.heap [] := va_S.rf
  have hrt : ∀ (u : Nat → Nat) (pc : Nat) (ls : Array Slot) (v : Int32) (x_t_choices_rows_n : Nat) (x_t_choices_rows : Nat → Int64) (x_t_choices_size : Int32) (x_t_choices_ready : Int32) (x_t_choices_pool : Int32) (x_t_choices_plies : Int32) (x_t_choices_room : Int32) (H : Heap) (locs : List Loc), decode cX7_rank pc = .ok (.ireturn, 1) → some (v, x_t_choices_rows_n, x_t_choices_rows, x_t_choices_size, x_t_choices_ready, x_t_choices_pool, x_t_choices_plies, x_t_choices_room) = some (o, o_t_choices_rows_n, o_t_choices_rows, o_t_choices_size, o_t_choices_ready, o_t_choices_pool, o_t_choices_plies, o_t_choices_room) → va_P g.2.1 vwCl [((a_t 0), .inr (6, [.ref (a_t_tape 0), .ref (a_t_reader 0), .ref (a_t_now 0), .ref (a_t 4), .ref (a_t_choices 0), .ref (a_t_ways 0), .ref (a_t_stress 0)])), ((a_t_now 0), .inr (1, [.ref (a_t_now 1), .ref (a_t_now 2), .ref (a_t_now 3), .ref (a_t_now 4), .ref (a_t_now 5), .int t_now_told, .int t_now_lines, .int t_now_kinds, .int t_now_acts])), ((a_t_now 2), .inl (g.2.2.1 0, 144, .inl t_now_cells)), ((a_t_now 3), .inl (g.2.2.1 0, 31, .inl t_now_rows)), ((a_t_now 4), .inl (g.2.2.1 0, 31, .inl t_now_sizes)), ((a_t_now 5), .inl (g.2.2.1 0, 31, .inl t_now_rooms)), ((a_t_choices 0), .inr (0, [.ref (u 0), .ref b_t_choices_seen, .int x_t_choices_size, .int x_t_choices_ready, .int x_t_choices_pool, .int x_t_choices_plies, .int x_t_choices_room])), ((u 0), .inl (g.2.2.1 1, x_t_choices_rows_n, .inr (.inl x_t_choices_rows)))] H → va_D A [((a_t 0), .inr (6, [.ref (a_t_tape 0), .ref (a_t_reader 0), .ref (a_t_now 0), .ref (a_t 4), .ref (a_t_choices 0), .ref (a_t_ways 0), .ref (a_t_stress 0)])), ((a_t_now 0), .inr (1, [.ref (a_t_now 1), .ref (a_t_now 2), .ref (a_t_now 3), .ref (a_t_now 4), .ref (a_t_now 5), .int t_now_told, .int t_now_lines, .int t_now_kinds, .int t_now_acts])), ((a_t_now 2), .inl (g.2.2.1 0, 144, .inl t_now_cells)), ((a_t_now 3), .inl (g.2.2.1 0, 31, .inl t_now_rows)), ((a_t_now 4), .inl (g.2.2.1 0, 31, .inl t_now_sizes)), ((a_t_now 5), .inl (g.2.2.1 0, 31, .inl t_now_rooms)), ((a_t_choices 0), .inr (0, [.ref (u 0), .ref b_t_choices_seen, .int x_t_choices_size, .int x_t_choices_ready, .int x_t_choices_pool, .int x_t_choices_plies, .int x_t_choices_room])), ((u 0), .inl (g.2.2.1 1, x_t_choices_rows_n, .inr (.inl x_t_choices_rows)))] → va_S A s.heap H locs → W p l e ⟨16, 1, lim0, 520⟩ s m args below meth c H locs 1 lim0 Q (F0 m pc ls [.int v]) := by
    intro u pc ls v x_t_choices_rows_n x_t_choices_rows x_t_choices_size x_t_choices_ready x_t_choices_pool x_t_choices_plies x_t_choices_room H locs hd h hP hD hS
    cases h
    exact hret u _ _ _ _ _ hd rfl hP hD hS
  unfold fX7_rank at h
  refine lv_aload_n hx hb dX7_rank_0 rfl (lv_at hl 0 rfl) ?_
  refine lv_iload_n hx hb dX7_rank_1 rfl (lv_at hl 1 rfl) ?_
  refine ro_z (runV (As := [.int v1]) (rest := []) cx hl.1 (ctX7_isMask l g a_t a_t_tape a_t_reader a_t_now a_t_choices a_t_ways a_t_stress t_now_told t_now_lines t_now_kinds t_now_acts v1 (fX7_isMask t_now_told v1) rfl) kmX7_isMask kvX7_isMask lm_X7_239 ⟨rfl, rfl⟩ ⟨Nat.le_of_ble_eq_true rfl, Nat.le_of_ble_eq_true rfl⟩ (roV (q0 := 0) (ci := 6) hG (hP.sub [0, 1] rfl) hP rfl rfl) rfl rfl (Nat.le_of_ble_eq_true rfl) dX7_rank_2 ⟨Nat.le_of_ble_eq_true rfl, (show (0 + 0 : Nat) ≤ lim0 by omega)⟩) (fun hz1 => ?_)
  refine lv_if_ne (tgt := 11) hx hb dX7_rank_5 (by decide) (fun c2 => ?_) (fun c2 => ?_)
  · have h := itn c2 h
    refine lv_aload_n hx hb dX7_rank_11 rfl (lv_at hl 0 rfl) ?_
    refine xa_get (C := RX7) (T := TX7) (N := 7) cx hG hP 0 rfl rfl uX7 4 (by decide) lf_X7_41 rfl dX7_rank_12 ?_
    refine lv_aload_n hx hb dX7_rank_15 rfl (lv_at hl 0 rfl) ?_
    refine xa_get (C := RX7) (T := TX7) (N := 7) cx hG hP 0 rfl rfl uX7 2 (by decide) lf_X7_30 rfl dX7_rank_16 ?_
    obtain ⟨w4, w5, w6, w7, w8, w9, w10, hr3, h⟩ := ob7_out h
    refine rw_v (WN := fun u11 => [((a_t 0), .inr (6, [.ref (a_t_tape 0), .ref (a_t_reader 0), .ref (a_t_now 0), .ref (a_t 4), .ref (a_t_choices 0), .ref (a_t_ways 0), .ref (a_t_stress 0)])), ((a_t_choices 0), .inr (0, [.ref (u11 0), .ref b_t_choices_seen, .int w6, .int w7, .int w8, .int w9, .int w10])), ((u11 0), .inl (g.2.2.1 1, w4, .inr (.inl w5))), ((a_t_now 0), .inr (1, [.ref (a_t_now 1), .ref (a_t_now 2), .ref (a_t_now 3), .ref (a_t_now 4), .ref (a_t_now 5), .int t_now_told, .int t_now_lines, .int t_now_kinds, .int t_now_acts])), ((a_t_now 2), .inl (g.2.2.1 0, 144, .inl t_now_cells)), ((a_t_now 3), .inl (g.2.2.1 0, 31, .inl t_now_rows)), ((a_t_now 4), .inl (g.2.2.1 0, 31, .inl t_now_sizes)), ((a_t_now 5), .inl (g.2.2.1 0, 31, .inl t_now_rooms))]) (wr := [((a_t 0), .inr (6, [.ref (a_t_tape 0), .ref (a_t_reader 0), .ref (a_t_now 0), .ref (a_t 4), .ref (a_t_choices 0), .ref (a_t_ways 0), .ref (a_t_stress 0)]))]) (runVN (As := [.ref ((a_t_now 0))]) (rest := []) hG cx hl.1 (ctX0_prepare l g lim0 s.heap.size a_t_choices a_t_now b_t_choices_rows b_t_choices_seen t_choices_size t_choices_ready t_choices_pool t_choices_plies t_choices_room t_choices_rows_n t_choices_rows t_now_told t_now_lines t_now_kinds t_now_acts t_now_cells t_now_rows t_now_sizes t_now_rooms w4 w5 w6 w7 w8 w9 w10 hr3) kmX0_prepare kvX0_prepare nm_52 ⟨rfl, rfl⟩ ⟨Nat.le_of_ble_eq_true rfl, Nat.le_of_ble_eq_true rfl⟩ (rwV (q0 := 6) (ci := 0) hG (hP.sub [6, 7, 1, 2, 3, 4, 5] rfl) (hD.sub [6, 7, 1, 2, 3, 4, 5] (by decide) rfl) hAb hb0 hS hP rfl rfl) rfl rfl (Nat.le_of_ble_eq_true rfl) dX7_rank_19 ⟨Nat.le_of_ble_eq_true rfl, (show (0 + lim0 : Nat) ≤ lim0 by omega)⟩) hP hD hS hA [6, 7, 1, 2, 3, 4, 5] [0] rfl rfl (by decide) (by decide) (fun _ => rfl) (fun u11 H locs hP hD hS => ?_)
    have hG := hGk hS
    refine lv_aload_n hx hb dX7_rank_22 rfl (lv_at hl 0 rfl) ?_
    refine xa_get (C := RX7) (T := TX7) (N := 7) cx hG hP 0 rfl rfl uX7 4 (by decide) lf_X7_41 rfl dX7_rank_23 ?_
    refine lv_iload_n hx hb dX7_rank_26 rfl (lv_at hl 1 rfl) ?_
    refine lv_aload_n hx hb dX7_rank_27 rfl (lv_at hl 0 rfl) ?_
    refine xa_get (C := RX7) (T := TX7) (N := 7) cx hG hP 0 rfl rfl uX7 2 (by decide) lf_X7_30 rfl dX7_rank_28 ?_
    obtain ⟨r12, hr13, h⟩ := bnd h
    refine ro_i (runVN (As := []) (rest := [.int v1, .ref ((a_t_choices 0))]) hG cx hl.1 (ctX1_row l g a_t_now t_now_told t_now_lines t_now_kinds t_now_acts t_now_rows r12 hr13) kmX1_row kvX1_row nm_25 ⟨rfl, rfl⟩ ⟨Nat.le_of_ble_eq_true rfl, Nat.le_of_ble_eq_true rfl⟩ (roV (q0 := 3) (ci := 1) hG (hP.sub [3, 5] rfl) hP rfl rfl) rfl rfl (Nat.le_of_ble_eq_true rfl) dX7_rank_31 ⟨Nat.le_of_ble_eq_true rfl, (show (0 + lim0 + 0 : Nat) ≤ lim0 by omega)⟩) ?_
    obtain ⟨r14, hr15, h⟩ := bnd h
    refine ro_i (runVN (As := [.int v1, .int r12]) (rest := []) hG cx hl.1 (ctX0_placeOf l g a_t_choices (u11 0) b_t_choices_seen w6 w7 w8 w9 w10 w4 w5 v1 r12 r14 hr15) kmX0_placeOf kvX0_placeOf nm_69 ⟨rfl, rfl⟩ ⟨Nat.le_of_ble_eq_true rfl, Nat.le_of_ble_eq_true rfl⟩ (roV (q0 := 1) (ci := 0) hG (hP.sub [1, 2] rfl) hP rfl rfl) rfl rfl (Nat.le_of_ble_eq_true rfl) dX7_rank_34 ⟨Nat.le_of_ble_eq_true rfl, (show (0 + lim0 + 0 : Nat) ≤ lim0 by omega)⟩) ?_
    refine W.widen (k := 1) (n := lim0) (Nat.le_of_ble_eq_true rfl) (show (0 + lim0 : Nat) ≤ lim0 by omega) ?_
    exact hrt (fun _ => (u11 0)) _ _ r14 w4 w5 w6 w7 w8 w9 w10 _ _ dX7_rank_37 h (hP.sub [0, 3, 4, 5, 6, 7, 1, 2] rfl) (hD.sub [0, 3, 4, 5, 6, 7, 1, 2] (by decide) rfl) hS
  · have h := itp c2 h
    refine lv_bipush (v := -2) hx hb dX7_rank_8 (by decide) ?_
    refine W.widen (k := 1) (n := lim0) (Nat.le_of_ble_eq_true rfl) (show (0 : Nat) ≤ lim0 by omega) ?_
    exact hrt (fun _ => b_t_choices_rows) _ _ ((-2)) t_choices_rows_n t_choices_rows t_choices_size t_choices_ready t_choices_pool t_choices_plies t_choices_room _ _ dX7_rank_10 h (hP.sub [0, 1, 2, 3, 4, 5, 6, 7] rfl) (hD.sub [0, 1, 2, 3, 4, 5, 6, 7] (by decide) rfl) hS
-- X7_best
theorem dX7_best_0 : decode cX7_best 0 = .ok (.aload_n 0, 1) := by decide +kernel
theorem dX7_best_1 : decode cX7_best 1 = .ok (.iload_n 1, 1) := by decide +kernel
theorem dX7_best_2 : decode cX7_best 2 = .ok (.invokevirtual 239, 3) := by decide +kernel
theorem dX7_best_5 : decode cX7_best 5 = .ok (.ifCond .eq 12, 3) := by decide +kernel
theorem dX7_best_8 : decode cX7_best 8 = .ok (.iload_n 2, 1) := by decide +kernel
theorem dX7_best_9 : decode cX7_best 9 = .ok (.ifCond .lt 8, 3) := by decide +kernel
theorem dX7_best_12 : decode cX7_best 12 = .ok (.iload_n 2, 1) := by decide +kernel
theorem dX7_best_13 : decode cX7_best 13 = .ok (.iconst 3, 1) := by decide +kernel
theorem dX7_best_14 : decode cX7_best 14 = .ok (.if_icmp .le 6, 3) := by decide +kernel
theorem dX7_best_17 : decode cX7_best 17 = .ok (.bipush (-2), 2) := by decide +kernel
theorem dX7_best_19 : decode cX7_best 19 = .ok (.ireturn, 1) := by decide +kernel
theorem dX7_best_20 : decode cX7_best 20 = .ok (.aload_n 0, 1) := by decide +kernel
theorem dX7_best_21 : decode cX7_best 21 = .ok (.getfield 41, 3) := by decide +kernel
theorem dX7_best_24 : decode cX7_best 24 = .ok (.aload_n 0, 1) := by decide +kernel
theorem dX7_best_25 : decode cX7_best 25 = .ok (.getfield 30, 3) := by decide +kernel
theorem dX7_best_28 : decode cX7_best 28 = .ok (.invokevirtual 242, 3) := by decide +kernel
theorem dX7_best_31 : decode cX7_best 31 = .ok (.aload_n 0, 1) := by decide +kernel
theorem dX7_best_32 : decode cX7_best 32 = .ok (.getfield 41, 3) := by decide +kernel
theorem dX7_best_35 : decode cX7_best 35 = .ok (.aload_n 0, 1) := by decide +kernel
theorem dX7_best_36 : decode cX7_best 36 = .ok (.getfield 30, 3) := by decide +kernel
theorem dX7_best_39 : decode cX7_best 39 = .ok (.iload_n 1, 1) := by decide +kernel
theorem dX7_best_40 : decode cX7_best 40 = .ok (.iload_n 2, 1) := by decide +kernel
theorem dX7_best_41 : decode cX7_best 41 = .ok (.invokevirtual 258, 3) := by decide +kernel
theorem dX7_best_44 : decode cX7_best 44 = .ok (.istore_n 3, 1) := by decide +kernel
theorem dX7_best_45 : decode cX7_best 45 = .ok (.iload_n 3, 1) := by decide +kernel
theorem dX7_best_46 : decode cX7_best 46 = .ok (.iconst (-1), 1) := by decide +kernel
theorem dX7_best_47 : decode cX7_best 47 = .ok (.if_icmp .ne 7, 3) := by decide +kernel
theorem dX7_best_50 : decode cX7_best 50 = .ok (.iconst (-1), 1) := by decide +kernel
theorem dX7_best_51 : decode cX7_best 51 = .ok (.goto 12, 3) := by decide +kernel
theorem dX7_best_54 : decode cX7_best 54 = .ok (.aload_n 0, 1) := by decide +kernel
theorem dX7_best_55 : decode cX7_best 55 = .ok (.getfield 41, 3) := by decide +kernel
theorem dX7_best_58 : decode cX7_best 58 = .ok (.iload_n 1, 1) := by decide +kernel
theorem dX7_best_59 : decode cX7_best 59 = .ok (.iload_n 3, 1) := by decide +kernel
theorem dX7_best_60 : decode cX7_best 60 = .ok (.invokevirtual 262, 3) := by decide +kernel
theorem dX7_best_63 : decode cX7_best 63 = .ok (.ireturn, 1) := by decide +kernel
noncomputable def fX7_best (lim0 : Nat)  (t_now_cells : Nat → Int32) (t_now_rows : Nat → Int32) (t_now_sizes : Nat → Int32) (t_now_rooms : Nat → Int32) (t_now_told : Int32) (t_now_acts : Int32) (t_choices_rows_n : Nat) (t_choices_rows : Nat → Int64) (t_choices_size : Int32) (t_choices_ready : Int32) (t_choices_pool : Int32) (t_choices_plies : Int32) (t_choices_room : Int32) (v1 : Int32) (v2 : Int32) : Option (Int32 × Nat × (Nat → Int64) × Int32 × Int32 × Int32 × Int32 × Int32) := (if (fX7_isMask t_now_told v1) = 0 then some ((-2), t_choices_rows_n, t_choices_rows, t_choices_size, t_choices_ready, t_choices_pool, t_choices_plies, t_choices_room) else (if v2 < 0 then some ((-2), t_choices_rows_n, t_choices_rows, t_choices_size, t_choices_ready, t_choices_pool, t_choices_plies, t_choices_room) else (if v2 ≤ 3 then ob7 (fX0_prepare lim0 t_choices_rows_n t_choices_rows t_choices_size t_choices_ready t_choices_pool t_choices_plies t_choices_room t_now_cells t_now_rows t_now_sizes t_now_rooms t_now_acts) fun w6 w7 w8 w9 w10 w11 w12 => (fX0_bestIndex w6 w7 w8 w11 t_now_cells v1 v2).bind fun r14 => (if r14 = (-1) then some ((-1), w6, w7, w8, w9, w10, w11, w12) else (fX0_placeAt w6 w7 v1 r14).bind fun r17 => some (r17, w6, w7, w8, w9, w10, w11, w12)) else some ((-2), t_choices_rows_n, t_choices_rows, t_choices_size, t_choices_ready, t_choices_pool, t_choices_plies, t_choices_room))))
set_option maxHeartbeats 4000000 in
set_option maxRecDepth 100000 in
theorem ctX7_best (l : Launch) (g : GT) (lim0 : Nat) (sz : Nat) (a_t : Nat → Nat) (a_t_tape : Nat → Nat) (a_t_reader : Nat → Nat) (a_t_now : Nat → Nat) (a_t_choices : Nat → Nat) (a_t_ways : Nat → Nat) (a_t_stress : Nat → Nat) (b_t_choices_rows : Nat) (b_t_choices_seen : Nat) (t_now_told : Int32) (t_now_lines : Int32) (t_now_kinds : Int32) (t_now_acts : Int32) (t_now_cells : Nat → Int32) (t_now_rows : Nat → Int32) (t_now_sizes : Nat → Int32) (t_now_rooms : Nat → Int32) (t_choices_size : Int32) (t_choices_ready : Int32) (t_choices_pool : Int32) (t_choices_plies : Int32) (t_choices_room : Int32) (t_choices_rows_n : Nat) (t_choices_rows : Nat → Int64) (v1 : Int32) (v2 : Int32) (o : Int32) (o_t_choices_rows_n : Nat) (o_t_choices_rows : Nat → Int64) (o_t_choices_size : Int32) (o_t_choices_ready : Int32) (o_t_choices_pool : Int32) (o_t_choices_plies : Int32) (o_t_choices_room : Int32) (h : fX7_best lim0 t_now_cells t_now_rows t_now_sizes t_now_rooms t_now_told t_now_acts t_choices_rows_n t_choices_rows t_choices_size t_choices_ready t_choices_pool t_choices_plies t_choices_room v1 v2 = some (o, o_t_choices_rows_n, o_t_choices_rows, o_t_choices_size, o_t_choices_ready, o_t_choices_pool, o_t_choices_plies, o_t_choices_room)) : Met l yX7_best (Cond.code yX7_best cX7_best 4 (some .int) :: Tw) ⟨16, 1, lim0, 520⟩ (va_Pc [.ref ((a_t 0)), .int v1, .int v2] (rwB g [((a_t 0), .inr (6, [.ref (a_t_tape 0), .ref (a_t_reader 0), .ref (a_t_now 0), .ref (a_t 4), .ref (a_t_choices 0), .ref (a_t_ways 0), .ref (a_t_stress 0)])), ((a_t_now 0), .inr (1, [.ref (a_t_now 1), .ref (a_t_now 2), .ref (a_t_now 3), .ref (a_t_now 4), .ref (a_t_now 5), .int t_now_told, .int t_now_lines, .int t_now_kinds, .int t_now_acts])), ((a_t_now 2), .inl (g.2.2.1 0, 144, .inl t_now_cells)), ((a_t_now 3), .inl (g.2.2.1 0, 31, .inl t_now_rows)), ((a_t_now 4), .inl (g.2.2.1 0, 31, .inl t_now_sizes)), ((a_t_now 5), .inl (g.2.2.1 0, 31, .inl t_now_rooms)), ((a_t_choices 0), .inr (0, [.ref b_t_choices_rows, .ref b_t_choices_seen, .int t_choices_size, .int t_choices_ready, .int t_choices_pool, .int t_choices_plies, .int t_choices_room])), (b_t_choices_rows, .inl (g.2.2.1 1, t_choices_rows_n, .inr (.inl t_choices_rows)))] sz)) (va_Qi (fun x (_ : Nat → Nat) => x = o) (fun u => rwE g (va_A [((a_t 0), .inr (6, [.ref (a_t_tape 0), .ref (a_t_reader 0), .ref (a_t_now 0), .ref (a_t 4), .ref (a_t_choices 0), .ref (a_t_ways 0), .ref (a_t_stress 0)])), ((a_t_now 0), .inr (1, [.ref (a_t_now 1), .ref (a_t_now 2), .ref (a_t_now 3), .ref (a_t_now 4), .ref (a_t_now 5), .int t_now_told, .int t_now_lines, .int t_now_kinds, .int t_now_acts])), ((a_t_now 2), .inl (g.2.2.1 0, 144, .inl t_now_cells)), ((a_t_now 3), .inl (g.2.2.1 0, 31, .inl t_now_rows)), ((a_t_now 4), .inl (g.2.2.1 0, 31, .inl t_now_sizes)), ((a_t_now 5), .inl (g.2.2.1 0, 31, .inl t_now_rooms)), ((a_t_choices 0), .inr (0, [.ref b_t_choices_rows, .ref b_t_choices_seen, .int t_choices_size, .int t_choices_ready, .int t_choices_pool, .int t_choices_plies, .int t_choices_room])), (b_t_choices_rows, .inl (g.2.2.1 1, t_choices_rows_n, .inr (.inl t_choices_rows)))] sz) [((a_t 0), .inr (6, [.ref (a_t_tape 0), .ref (a_t_reader 0), .ref (a_t_now 0), .ref (a_t 4), .ref (a_t_choices 0), .ref (a_t_ways 0), .ref (a_t_stress 0)])), ((a_t_now 0), .inr (1, [.ref (a_t_now 1), .ref (a_t_now 2), .ref (a_t_now 3), .ref (a_t_now 4), .ref (a_t_now 5), .int t_now_told, .int t_now_lines, .int t_now_kinds, .int t_now_acts])), ((a_t_now 2), .inl (g.2.2.1 0, 144, .inl t_now_cells)), ((a_t_now 3), .inl (g.2.2.1 0, 31, .inl t_now_rows)), ((a_t_now 4), .inl (g.2.2.1 0, 31, .inl t_now_sizes)), ((a_t_now 5), .inl (g.2.2.1 0, 31, .inl t_now_rooms)), ((a_t_choices 0), .inr (0, [.ref (u 0), .ref b_t_choices_seen, .int o_t_choices_size, .int o_t_choices_ready, .int o_t_choices_pool, .int o_t_choices_plies, .int o_t_choices_room])), ((u 0), .inl (g.2.2.1 1, o_t_choices_rows_n, .inr (.inl o_t_choices_rows)))]) (va_A [((a_t 0), .inr (6, [.ref (a_t_tape 0), .ref (a_t_reader 0), .ref (a_t_now 0), .ref (a_t 4), .ref (a_t_choices 0), .ref (a_t_ways 0), .ref (a_t_stress 0)])), ((a_t_now 0), .inr (1, [.ref (a_t_now 1), .ref (a_t_now 2), .ref (a_t_now 3), .ref (a_t_now 4), .ref (a_t_now 5), .int t_now_told, .int t_now_lines, .int t_now_kinds, .int t_now_acts])), ((a_t_now 2), .inl (g.2.2.1 0, 144, .inl t_now_cells)), ((a_t_now 3), .inl (g.2.2.1 0, 31, .inl t_now_rows)), ((a_t_now 4), .inl (g.2.2.1 0, 31, .inl t_now_sizes)), ((a_t_now 5), .inl (g.2.2.1 0, 31, .inl t_now_rooms)), ((a_t_choices 0), .inr (0, [.ref b_t_choices_rows, .ref b_t_choices_seen, .int t_choices_size, .int t_choices_ready, .int t_choices_pool, .int t_choices_plies, .int t_choices_room])), (b_t_choices_rows, .inl (g.2.2.1 1, t_choices_rows_n, .inr (.inl t_choices_rows)))] sz)) 1 lim0 (va_A [((a_t 0), .inr (6, [.ref (a_t_tape 0), .ref (a_t_reader 0), .ref (a_t_now 0), .ref (a_t 4), .ref (a_t_choices 0), .ref (a_t_ways 0), .ref (a_t_stress 0)])), ((a_t_now 0), .inr (1, [.ref (a_t_now 1), .ref (a_t_now 2), .ref (a_t_now 3), .ref (a_t_now 4), .ref (a_t_now 5), .int t_now_told, .int t_now_lines, .int t_now_kinds, .int t_now_acts])), ((a_t_now 2), .inl (g.2.2.1 0, 144, .inl t_now_cells)), ((a_t_now 3), .inl (g.2.2.1 0, 31, .inl t_now_rows)), ((a_t_now 4), .inl (g.2.2.1 0, 31, .inl t_now_sizes)), ((a_t_now 5), .inl (g.2.2.1 0, 31, .inl t_now_rooms)), ((a_t_choices 0), .inr (0, [.ref b_t_choices_rows, .ref b_t_choices_seen, .int t_choices_size, .int t_choices_ready, .int t_choices_pool, .int t_choices_plies, .int t_choices_room])), (b_t_choices_rows, .inl (g.2.2.1 1, t_choices_rows_n, .inr (.inl t_choices_rows)))] sz) := by
  refine rw_meti (by decide) (Nat.le_of_ble_eq_true rfl) (lv0 := [(0, .ref ((a_t 0))), (1, .int v1), (2, .int v2)]) rfl ?_
  intro p e s m args below meth c ls Q A cx hret hG hAb hb0 hA hP hD hl
  have hx := cx.1
  have hb := cx.2.1
  have hG0 := hG
  have hGk : ∀ {H : Heap} {locs : List Loc}, va_S A s.heap H locs → GE g s H := fun hS => hG0.keptS hAb hS
  have hSb : ∀ {H : Heap} {locs : List Loc}, va_S A s.heap H locs → va_S (fun a => g.1 ≤ a) s.heap H locs := fun hS => ⟨hS.1, fun q h1 h2 => hS.2.1 q h1 (fun z => h2 (hAb q z)), fun l hl => hAb _ (hS.2.2 l hl)⟩
  have hS : va_S A s.heap s.heap [] := va_S.rf
  have hrt : ∀ (u : Nat → Nat) (pc : Nat) (ls : Array Slot) (v : Int32) (x_t_choices_rows_n : Nat) (x_t_choices_rows : Nat → Int64) (x_t_choices_size : Int32) (x_t_choices_ready : Int32) (x_t_choices_pool : Int32) (x_t_choices_plies : Int32) (x_t_choices_room : Int32) (H : Heap) (locs : List Loc), decode cX7_best pc = .ok (.ireturn, 1) → some (v, x_t_choices_rows_n, x_t_choices_rows, x_t_choices_size, x_t_choices_ready, x_t_choices_pool, x_t_choices_plies, x_t_choices_room) = some (o, o_t_choices_rows_n, o_t_choices_rows, o_t_choices_size, o_t_choices_ready, o_t_choices_pool, o_t_choices_plies, o_t_choices_room) → va_P g.2.1 vwCl [((a_t 0), .inr (6, [.ref (a_t_tape 0), .ref (a_t_reader 0), .ref (a_t_now 0), .ref (a_t 4), .ref (a_t_choices 0), .ref (a_t_ways 0), .ref (a_t_stress 0)])), ((a_t_now 0), .inr (1, [.ref (a_t_now 1), .ref (a_t_now 2), .ref (a_t_now 3), .ref (a_t_now 4), .ref (a_t_now 5), .int t_now_told, .int t_now_lines, .int t_now_kinds, .int t_now_acts])), ((a_t_now 2), .inl (g.2.2.1 0, 144, .inl t_now_cells)), ((a_t_now 3), .inl (g.2.2.1 0, 31, .inl t_now_rows)), ((a_t_now 4), .inl (g.2.2.1 0, 31, .inl t_now_sizes)), ((a_t_now 5), .inl (g.2.2.1 0, 31, .inl t_now_rooms)), ((a_t_choices 0), .inr (0, [.ref (u 0), .ref b_t_choices_seen, .int x_t_choices_size, .int x_t_choices_ready, .int x_t_choices_pool, .int x_t_choices_plies, .int x_t_choices_room])), ((u 0), .inl (g.2.2.1 1, x_t_choices_rows_n, .inr (.inl x_t_choices_rows)))] H → va_D A [((a_t 0), .inr (6, [.ref (a_t_tape 0), .ref (a_t_reader 0), .ref (a_t_now 0), .ref (a_t 4), .ref (a_t_choices 0), .ref (a_t_ways 0), .ref (a_t_stress 0)])), ((a_t_now 0), .inr (1, [.ref (a_t_now 1), .ref (a_t_now 2), .ref (a_t_now 3), .ref (a_t_now 4), .ref (a_t_now 5), .int t_now_told, .int t_now_lines, .int t_now_kinds, .int t_now_acts])), ((a_t_now 2), .inl (g.2.2.1 0, 144, .inl t_now_cells)), ((a_t_now 3), .inl (g.2.2.1 0, 31, .inl t_now_rows)), ((a_t_now 4), .inl (g.2.2.1 0, 31, .inl t_now_sizes)), ((a_t_now 5), .inl (g.2.2.1 0, 31, .inl t_now_rooms)), ((a_t_choices 0), .inr (0, [.ref (u 0), .ref b_t_choices_seen, .int x_t_choices_size, .int x_t_choices_ready, .int x_t_choices_pool, .int x_t_choices_plies, .int x_t_choices_room])), ((u 0), .inl (g.2.2.1 1, x_t_choices_rows_n, .inr (.inl x_t_choices_rows)))] → va_S A s.heap H locs → W p l e ⟨16, 1, lim0, 520⟩ s m args below meth c H locs 1 lim0 Q (F0 m pc ls [.int v]) := by
    intro u pc ls v x_t_choices_rows_n x_t_choices_rows x_t_choices_size x_t_choices_ready x_t_choices_pool x_t_choices_plies x_t_choices_room H locs hd h hP hD hS
    cases h
    exact hret u _ _ _ _ _ hd rfl hP hD hS
  unfold fX7_best at h
  refine lv_aload_n hx hb dX7_best_0 rfl (lv_at hl 0 rfl) ?_
  refine lv_iload_n hx hb dX7_best_1 rfl (lv_at hl 1 rfl) ?_
  refine ro_z (runV (As := [.int v1]) (rest := []) cx hl.1 (ctX7_isMask l g a_t a_t_tape a_t_reader a_t_now a_t_choices a_t_ways a_t_stress t_now_told t_now_lines t_now_kinds t_now_acts v1 (fX7_isMask t_now_told v1) rfl) kmX7_isMask kvX7_isMask lm_X7_239 ⟨rfl, rfl⟩ ⟨Nat.le_of_ble_eq_true rfl, Nat.le_of_ble_eq_true rfl⟩ (roV (q0 := 0) (ci := 6) hG (hP.sub [0, 1] rfl) hP rfl rfl) rfl rfl (Nat.le_of_ble_eq_true rfl) dX7_best_2 ⟨Nat.le_of_ble_eq_true rfl, (show (0 + 0 : Nat) ≤ lim0 by omega)⟩) (fun hz1 => ?_)
  refine lv_if_eq (tgt := 17) hx hb dX7_best_5 (by decide) (fun c2 => ?_) (fun c2 => ?_)
  · have h := itp c2 h
    refine lv_bipush (v := -2) hx hb dX7_best_17 (by decide) ?_
    refine W.widen (k := 1) (n := lim0) (Nat.le_of_ble_eq_true rfl) (show (0 : Nat) ≤ lim0 by omega) ?_
    exact hrt (fun _ => b_t_choices_rows) _ _ ((-2)) t_choices_rows_n t_choices_rows t_choices_size t_choices_ready t_choices_pool t_choices_plies t_choices_room _ _ dX7_best_19 h (hP.sub [0, 1, 2, 3, 4, 5, 6, 7] rfl) (hD.sub [0, 1, 2, 3, 4, 5, 6, 7] (by decide) rfl) hS
  · have h := itn c2 h
    refine lv_iload_n hx hb dX7_best_8 rfl (lv_at hl 2 rfl) ?_
    refine lv_if_lt (tgt := 17) hx hb dX7_best_9 (by decide) (fun c3 => ?_) (fun c3 => ?_)
    · have h := itp c3 h
      refine lv_bipush (v := -2) hx hb dX7_best_17 (by decide) ?_
      refine W.widen (k := 1) (n := lim0) (Nat.le_of_ble_eq_true rfl) (show (0 : Nat) ≤ lim0 by omega) ?_
      exact hrt (fun _ => b_t_choices_rows) _ _ ((-2)) t_choices_rows_n t_choices_rows t_choices_size t_choices_ready t_choices_pool t_choices_plies t_choices_room _ _ dX7_best_19 h (hP.sub [0, 1, 2, 3, 4, 5, 6, 7] rfl) (hD.sub [0, 1, 2, 3, 4, 5, 6, 7] (by decide) rfl) hS
    · have h := itn c3 h
      refine lv_iload_n hx hb dX7_best_12 rfl (lv_at hl 2 rfl) ?_
      refine lv_iconst (v := 3) hx hb dX7_best_13 (by decide) ?_
      refine lv_icmp_le (tgt := 20) hx hb dX7_best_14 (by decide) (fun c4 => ?_) (fun c4 => ?_)
      · have h := itp c4 h
        refine lv_aload_n hx hb dX7_best_20 rfl (lv_at hl 0 rfl) ?_
        refine xa_get (C := RX7) (T := TX7) (N := 7) cx hG hP 0 rfl rfl uX7 4 (by decide) lf_X7_41 rfl dX7_best_21 ?_
        refine lv_aload_n hx hb dX7_best_24 rfl (lv_at hl 0 rfl) ?_
        refine xa_get (C := RX7) (T := TX7) (N := 7) cx hG hP 0 rfl rfl uX7 2 (by decide) lf_X7_30 rfl dX7_best_25 ?_
        obtain ⟨w6, w7, w8, w9, w10, w11, w12, hr5, h⟩ := ob7_out h
        refine rw_v (WN := fun u13 => [((a_t 0), .inr (6, [.ref (a_t_tape 0), .ref (a_t_reader 0), .ref (a_t_now 0), .ref (a_t 4), .ref (a_t_choices 0), .ref (a_t_ways 0), .ref (a_t_stress 0)])), ((a_t_choices 0), .inr (0, [.ref (u13 0), .ref b_t_choices_seen, .int w8, .int w9, .int w10, .int w11, .int w12])), ((u13 0), .inl (g.2.2.1 1, w6, .inr (.inl w7))), ((a_t_now 0), .inr (1, [.ref (a_t_now 1), .ref (a_t_now 2), .ref (a_t_now 3), .ref (a_t_now 4), .ref (a_t_now 5), .int t_now_told, .int t_now_lines, .int t_now_kinds, .int t_now_acts])), ((a_t_now 2), .inl (g.2.2.1 0, 144, .inl t_now_cells)), ((a_t_now 3), .inl (g.2.2.1 0, 31, .inl t_now_rows)), ((a_t_now 4), .inl (g.2.2.1 0, 31, .inl t_now_sizes)), ((a_t_now 5), .inl (g.2.2.1 0, 31, .inl t_now_rooms))]) (wr := [((a_t 0), .inr (6, [.ref (a_t_tape 0), .ref (a_t_reader 0), .ref (a_t_now 0), .ref (a_t 4), .ref (a_t_choices 0), .ref (a_t_ways 0), .ref (a_t_stress 0)]))]) (runVN (As := [.ref ((a_t_now 0))]) (rest := []) hG cx hl.1 (ctX0_prepare l g lim0 s.heap.size a_t_choices a_t_now b_t_choices_rows b_t_choices_seen t_choices_size t_choices_ready t_choices_pool t_choices_plies t_choices_room t_choices_rows_n t_choices_rows t_now_told t_now_lines t_now_kinds t_now_acts t_now_cells t_now_rows t_now_sizes t_now_rooms w6 w7 w8 w9 w10 w11 w12 hr5) kmX0_prepare kvX0_prepare nm_52 ⟨rfl, rfl⟩ ⟨Nat.le_of_ble_eq_true rfl, Nat.le_of_ble_eq_true rfl⟩ (rwV (q0 := 6) (ci := 0) hG (hP.sub [6, 7, 1, 2, 3, 4, 5] rfl) (hD.sub [6, 7, 1, 2, 3, 4, 5] (by decide) rfl) hAb hb0 hS hP rfl rfl) rfl rfl (Nat.le_of_ble_eq_true rfl) dX7_best_28 ⟨Nat.le_of_ble_eq_true rfl, (show (0 + lim0 : Nat) ≤ lim0 by omega)⟩) hP hD hS hA [6, 7, 1, 2, 3, 4, 5] [0] rfl rfl (by decide) (by decide) (fun _ => rfl) (fun u13 H locs hP hD hS => ?_)
        have hG := hGk hS
        refine lv_aload_n hx hb dX7_best_31 rfl (lv_at hl 0 rfl) ?_
        refine xa_get (C := RX7) (T := TX7) (N := 7) cx hG hP 0 rfl rfl uX7 4 (by decide) lf_X7_41 rfl dX7_best_32 ?_
        refine lv_aload_n hx hb dX7_best_35 rfl (lv_at hl 0 rfl) ?_
        refine xa_get (C := RX7) (T := TX7) (N := 7) cx hG hP 0 rfl rfl uX7 2 (by decide) lf_X7_30 rfl dX7_best_36 ?_
        refine lv_iload_n hx hb dX7_best_39 rfl (lv_at hl 1 rfl) ?_
        refine lv_iload_n hx hb dX7_best_40 rfl (lv_at hl 2 rfl) ?_
        obtain ⟨r14, hr15, h⟩ := bnd h
        refine ro_i (runVN (As := [.ref ((a_t_now 0)), .int v1, .int v2]) (rest := []) hG cx hl.1 (ctX0_bestIndex l g a_t_choices a_t_now (u13 0) b_t_choices_seen w8 w9 w10 w11 w12 w6 w7 t_now_told t_now_lines t_now_kinds t_now_acts t_now_cells v1 v2 r14 hr15) kmX0_bestIndex kvX0_bestIndex nm_70 ⟨rfl, rfl⟩ ⟨Nat.le_of_ble_eq_true rfl, Nat.le_of_ble_eq_true rfl⟩ (roV (q0 := 1) (ci := 0) hG (hP.sub [1, 2, 3, 4] rfl) hP rfl rfl) rfl rfl (Nat.le_of_ble_eq_true rfl) dX7_best_41 ⟨Nat.le_of_ble_eq_true rfl, (show (0 + lim0 + 0 : Nat) ≤ lim0 by omega)⟩) ?_
        refine lv_istore_n (lv' := [(3, .int r14), (0, .ref ((a_t 0))), (1, .int v1), (2, .int v2)]) hx hb dX7_best_44 rfl hl (by decide) rfl (fun ls hl => ?_)
        refine lv_iload_n hx hb dX7_best_45 rfl (lv_at hl 0 rfl) ?_
        refine lv_iconst (v := -1) hx hb dX7_best_46 (by decide) ?_
        refine lv_icmp_ne (tgt := 54) hx hb dX7_best_47 (by decide) (fun c16 => ?_) (fun c16 => ?_)
        · have h := itn c16 h
          refine lv_aload_n hx hb dX7_best_54 rfl (lv_at hl 1 rfl) ?_
          refine xa_get (C := RX7) (T := TX7) (N := 7) cx hG hP 0 rfl rfl uX7 4 (by decide) lf_X7_41 rfl dX7_best_55 ?_
          refine lv_iload_n hx hb dX7_best_58 rfl (lv_at hl 2 rfl) ?_
          refine lv_iload_n hx hb dX7_best_59 rfl (lv_at hl 0 rfl) ?_
          obtain ⟨r17, hr18, h⟩ := bnd h
          refine ro_i (runVN (As := [.int v1, .int r14]) (rest := []) hG cx hl.1 (ctX0_placeAt l g a_t_choices (u13 0) b_t_choices_seen w8 w9 w10 w11 w12 w6 w7 v1 r14 r17 hr18) kmX0_placeAt kvX0_placeAt nm_73 ⟨rfl, rfl⟩ ⟨Nat.le_of_ble_eq_true rfl, Nat.le_of_ble_eq_true rfl⟩ (roV (q0 := 1) (ci := 0) hG (hP.sub [1, 2] rfl) hP rfl rfl) rfl rfl (Nat.le_of_ble_eq_true rfl) dX7_best_60 ⟨Nat.le_of_ble_eq_true rfl, (show (0 + lim0 + 0 : Nat) ≤ lim0 by omega)⟩) ?_
          refine W.widen (k := 1) (n := lim0) (Nat.le_of_ble_eq_true rfl) (show (0 + lim0 : Nat) ≤ lim0 by omega) ?_
          exact hrt (fun _ => (u13 0)) _ _ r17 w6 w7 w8 w9 w10 w11 w12 _ _ dX7_best_63 h (hP.sub [0, 3, 4, 5, 6, 7, 1, 2] rfl) (hD.sub [0, 3, 4, 5, 6, 7, 1, 2] (by decide) rfl) hS
        · have h := itp c16 h
          refine lv_iconst (v := -1) hx hb dX7_best_50 (by decide) ?_
          refine lv_goto (tgt := 63) hx hb dX7_best_51 (by decide) ?_
          refine W.widen (k := 1) (n := lim0) (Nat.le_of_ble_eq_true rfl) (show (0 + lim0 : Nat) ≤ lim0 by omega) ?_
          exact hrt (fun _ => (u13 0)) _ _ ((-1)) w6 w7 w8 w9 w10 w11 w12 _ _ dX7_best_63 h (hP.sub [0, 3, 4, 5, 6, 7, 1, 2] rfl) (hD.sub [0, 3, 4, 5, 6, 7, 1, 2] (by decide) rfl) hS
      · have h := itn c4 h
        refine lv_bipush (v := -2) hx hb dX7_best_17 (by decide) ?_
        refine W.widen (k := 1) (n := lim0) (Nat.le_of_ble_eq_true rfl) (show (0 : Nat) ≤ lim0 by omega) ?_
        exact hrt (fun _ => b_t_choices_rows) _ _ ((-2)) t_choices_rows_n t_choices_rows t_choices_size t_choices_ready t_choices_pool t_choices_plies t_choices_room _ _ dX7_best_19 h (hP.sub [0, 1, 2, 3, 4, 5, 6, 7] rfl) (hD.sub [0, 1, 2, 3, 4, 5, 6, 7] (by decide) rfl) hS
-- X7_bestBy
theorem dX7_bestBy_0 : decode cX7_bestBy 0 = .ok (.aload_n 0, 1) := by decide +kernel
theorem dX7_bestBy_1 : decode cX7_bestBy 1 = .ok (.iload_n 1, 1) := by decide +kernel
theorem dX7_bestBy_2 : decode cX7_bestBy 2 = .ok (.invokevirtual 239, 3) := by decide +kernel
theorem dX7_bestBy_5 : decode cX7_bestBy 5 = .ok (.ifCond .eq 12, 3) := by decide +kernel
theorem dX7_bestBy_8 : decode cX7_bestBy 8 = .ok (.iload_n 2, 1) := by decide +kernel
theorem dX7_bestBy_9 : decode cX7_bestBy 9 = .ok (.ifCond .lt 8, 3) := by decide +kernel
theorem dX7_bestBy_12 : decode cX7_bestBy 12 = .ok (.iload_n 2, 1) := by decide +kernel
theorem dX7_bestBy_13 : decode cX7_bestBy 13 = .ok (.iconst 3, 1) := by decide +kernel
theorem dX7_bestBy_14 : decode cX7_bestBy 14 = .ok (.if_icmp .le 7, 3) := by decide +kernel
theorem dX7_bestBy_17 : decode cX7_bestBy 17 = .ok (.ldc2_w 162, 3) := by decide +kernel
theorem dX7_bestBy_20 : decode cX7_bestBy 20 = .ok (.lreturn, 1) := by decide +kernel
theorem dX7_bestBy_21 : decode cX7_bestBy 21 = .ok (.aload_n 0, 1) := by decide +kernel
theorem dX7_bestBy_22 : decode cX7_bestBy 22 = .ok (.getfield 41, 3) := by decide +kernel
theorem dX7_bestBy_25 : decode cX7_bestBy 25 = .ok (.aload_n 0, 1) := by decide +kernel
theorem dX7_bestBy_26 : decode cX7_bestBy 26 = .ok (.getfield 30, 3) := by decide +kernel
theorem dX7_bestBy_29 : decode cX7_bestBy 29 = .ok (.invokevirtual 242, 3) := by decide +kernel
theorem dX7_bestBy_32 : decode cX7_bestBy 32 = .ok (.aload_n 0, 1) := by decide +kernel
theorem dX7_bestBy_33 : decode cX7_bestBy 33 = .ok (.getfield 41, 3) := by decide +kernel
theorem dX7_bestBy_36 : decode cX7_bestBy 36 = .ok (.aload_n 0, 1) := by decide +kernel
theorem dX7_bestBy_37 : decode cX7_bestBy 37 = .ok (.getfield 30, 3) := by decide +kernel
theorem dX7_bestBy_40 : decode cX7_bestBy 40 = .ok (.iload_n 1, 1) := by decide +kernel
theorem dX7_bestBy_41 : decode cX7_bestBy 41 = .ok (.iload_n 2, 1) := by decide +kernel
theorem dX7_bestBy_42 : decode cX7_bestBy 42 = .ok (.invokevirtual 258, 3) := by decide +kernel
theorem dX7_bestBy_45 : decode cX7_bestBy 45 = .ok (.istore_n 3, 1) := by decide +kernel
theorem dX7_bestBy_46 : decode cX7_bestBy 46 = .ok (.iload_n 3, 1) := by decide +kernel
theorem dX7_bestBy_47 : decode cX7_bestBy 47 = .ok (.iconst (-1), 1) := by decide +kernel
theorem dX7_bestBy_48 : decode cX7_bestBy 48 = .ok (.if_icmp .ne 9, 3) := by decide +kernel
theorem dX7_bestBy_51 : decode cX7_bestBy 51 = .ok (.ldc2_w 265, 3) := by decide +kernel
theorem dX7_bestBy_54 : decode cX7_bestBy 54 = .ok (.goto 16, 3) := by decide +kernel
theorem dX7_bestBy_57 : decode cX7_bestBy 57 = .ok (.aload_n 0, 1) := by decide +kernel
theorem dX7_bestBy_58 : decode cX7_bestBy 58 = .ok (.getfield 41, 3) := by decide +kernel
theorem dX7_bestBy_61 : decode cX7_bestBy 61 = .ok (.aload_n 0, 1) := by decide +kernel
theorem dX7_bestBy_62 : decode cX7_bestBy 62 = .ok (.getfield 30, 3) := by decide +kernel
theorem dX7_bestBy_65 : decode cX7_bestBy 65 = .ok (.iload_n 3, 1) := by decide +kernel
theorem dX7_bestBy_66 : decode cX7_bestBy 66 = .ok (.iload_n 2, 1) := by decide +kernel
theorem dX7_bestBy_67 : decode cX7_bestBy 67 = .ok (.invokevirtual 267, 3) := by decide +kernel
theorem dX7_bestBy_70 : decode cX7_bestBy 70 = .ok (.lreturn, 1) := by decide +kernel
noncomputable def fX7_bestBy (lim0 : Nat)  (t_now_cells : Nat → Int32) (t_now_rows : Nat → Int32) (t_now_sizes : Nat → Int32) (t_now_rooms : Nat → Int32) (t_now_told : Int32) (t_now_acts : Int32) (t_choices_rows_n : Nat) (t_choices_rows : Nat → Int64) (t_choices_size : Int32) (t_choices_ready : Int32) (t_choices_pool : Int32) (t_choices_plies : Int32) (t_choices_room : Int32) (v1 : Int32) (v2 : Int32) : Option (Int64 × Nat × (Nat → Int64) × Int32 × Int32 × Int32 × Int32 × Int32) := (if (fX7_isMask t_now_told v1) = 0 then some ((-2), t_choices_rows_n, t_choices_rows, t_choices_size, t_choices_ready, t_choices_pool, t_choices_plies, t_choices_room) else (if v2 < 0 then some ((-2), t_choices_rows_n, t_choices_rows, t_choices_size, t_choices_ready, t_choices_pool, t_choices_plies, t_choices_room) else (if v2 ≤ 3 then ob7 (fX0_prepare lim0 t_choices_rows_n t_choices_rows t_choices_size t_choices_ready t_choices_pool t_choices_plies t_choices_room t_now_cells t_now_rows t_now_sizes t_now_rooms t_now_acts) fun w6 w7 w8 w9 w10 w11 w12 => (fX0_bestIndex w6 w7 w8 w11 t_now_cells v1 v2).bind fun r14 => (if r14 = (-1) then some ((-1), w6, w7, w8, w9, w10, w11, w12) else (fX0_merit w6 w7 w11 t_now_cells r14 v2).bind fun r17 => some (r17, w6, w7, w8, w9, w10, w11, w12)) else some ((-2), t_choices_rows_n, t_choices_rows, t_choices_size, t_choices_ready, t_choices_pool, t_choices_plies, t_choices_room))))
set_option maxHeartbeats 4000000 in
set_option maxRecDepth 100000 in
theorem ctX7_bestBy (l : Launch) (g : GT) (lim0 : Nat) (sz : Nat) (a_t : Nat → Nat) (a_t_tape : Nat → Nat) (a_t_reader : Nat → Nat) (a_t_now : Nat → Nat) (a_t_choices : Nat → Nat) (a_t_ways : Nat → Nat) (a_t_stress : Nat → Nat) (b_t_choices_rows : Nat) (b_t_choices_seen : Nat) (t_now_told : Int32) (t_now_lines : Int32) (t_now_kinds : Int32) (t_now_acts : Int32) (t_now_cells : Nat → Int32) (t_now_rows : Nat → Int32) (t_now_sizes : Nat → Int32) (t_now_rooms : Nat → Int32) (t_choices_size : Int32) (t_choices_ready : Int32) (t_choices_pool : Int32) (t_choices_plies : Int32) (t_choices_room : Int32) (t_choices_rows_n : Nat) (t_choices_rows : Nat → Int64) (v1 : Int32) (v2 : Int32) (o : Int64) (o_t_choices_rows_n : Nat) (o_t_choices_rows : Nat → Int64) (o_t_choices_size : Int32) (o_t_choices_ready : Int32) (o_t_choices_pool : Int32) (o_t_choices_plies : Int32) (o_t_choices_room : Int32) (h : fX7_bestBy lim0 t_now_cells t_now_rows t_now_sizes t_now_rooms t_now_told t_now_acts t_choices_rows_n t_choices_rows t_choices_size t_choices_ready t_choices_pool t_choices_plies t_choices_room v1 v2 = some (o, o_t_choices_rows_n, o_t_choices_rows, o_t_choices_size, o_t_choices_ready, o_t_choices_pool, o_t_choices_plies, o_t_choices_room)) : Met l yX7_bestBy (Cond.code yX7_bestBy cX7_bestBy 4 (some .long) :: Tw) ⟨16, 1, lim0, 520⟩ (va_Pc [.ref ((a_t 0)), .int v1, .int v2] (rwB g [((a_t 0), .inr (6, [.ref (a_t_tape 0), .ref (a_t_reader 0), .ref (a_t_now 0), .ref (a_t 4), .ref (a_t_choices 0), .ref (a_t_ways 0), .ref (a_t_stress 0)])), ((a_t_now 0), .inr (1, [.ref (a_t_now 1), .ref (a_t_now 2), .ref (a_t_now 3), .ref (a_t_now 4), .ref (a_t_now 5), .int t_now_told, .int t_now_lines, .int t_now_kinds, .int t_now_acts])), ((a_t_now 2), .inl (g.2.2.1 0, 144, .inl t_now_cells)), ((a_t_now 3), .inl (g.2.2.1 0, 31, .inl t_now_rows)), ((a_t_now 4), .inl (g.2.2.1 0, 31, .inl t_now_sizes)), ((a_t_now 5), .inl (g.2.2.1 0, 31, .inl t_now_rooms)), ((a_t_choices 0), .inr (0, [.ref b_t_choices_rows, .ref b_t_choices_seen, .int t_choices_size, .int t_choices_ready, .int t_choices_pool, .int t_choices_plies, .int t_choices_room])), (b_t_choices_rows, .inl (g.2.2.1 1, t_choices_rows_n, .inr (.inl t_choices_rows)))] sz)) (va_Ql (fun x (_ : Nat → Nat) => x = o) (fun u => rwE g (va_A [((a_t 0), .inr (6, [.ref (a_t_tape 0), .ref (a_t_reader 0), .ref (a_t_now 0), .ref (a_t 4), .ref (a_t_choices 0), .ref (a_t_ways 0), .ref (a_t_stress 0)])), ((a_t_now 0), .inr (1, [.ref (a_t_now 1), .ref (a_t_now 2), .ref (a_t_now 3), .ref (a_t_now 4), .ref (a_t_now 5), .int t_now_told, .int t_now_lines, .int t_now_kinds, .int t_now_acts])), ((a_t_now 2), .inl (g.2.2.1 0, 144, .inl t_now_cells)), ((a_t_now 3), .inl (g.2.2.1 0, 31, .inl t_now_rows)), ((a_t_now 4), .inl (g.2.2.1 0, 31, .inl t_now_sizes)), ((a_t_now 5), .inl (g.2.2.1 0, 31, .inl t_now_rooms)), ((a_t_choices 0), .inr (0, [.ref b_t_choices_rows, .ref b_t_choices_seen, .int t_choices_size, .int t_choices_ready, .int t_choices_pool, .int t_choices_plies, .int t_choices_room])), (b_t_choices_rows, .inl (g.2.2.1 1, t_choices_rows_n, .inr (.inl t_choices_rows)))] sz) [((a_t 0), .inr (6, [.ref (a_t_tape 0), .ref (a_t_reader 0), .ref (a_t_now 0), .ref (a_t 4), .ref (a_t_choices 0), .ref (a_t_ways 0), .ref (a_t_stress 0)])), ((a_t_now 0), .inr (1, [.ref (a_t_now 1), .ref (a_t_now 2), .ref (a_t_now 3), .ref (a_t_now 4), .ref (a_t_now 5), .int t_now_told, .int t_now_lines, .int t_now_kinds, .int t_now_acts])), ((a_t_now 2), .inl (g.2.2.1 0, 144, .inl t_now_cells)), ((a_t_now 3), .inl (g.2.2.1 0, 31, .inl t_now_rows)), ((a_t_now 4), .inl (g.2.2.1 0, 31, .inl t_now_sizes)), ((a_t_now 5), .inl (g.2.2.1 0, 31, .inl t_now_rooms)), ((a_t_choices 0), .inr (0, [.ref (u 0), .ref b_t_choices_seen, .int o_t_choices_size, .int o_t_choices_ready, .int o_t_choices_pool, .int o_t_choices_plies, .int o_t_choices_room])), ((u 0), .inl (g.2.2.1 1, o_t_choices_rows_n, .inr (.inl o_t_choices_rows)))]) (va_A [((a_t 0), .inr (6, [.ref (a_t_tape 0), .ref (a_t_reader 0), .ref (a_t_now 0), .ref (a_t 4), .ref (a_t_choices 0), .ref (a_t_ways 0), .ref (a_t_stress 0)])), ((a_t_now 0), .inr (1, [.ref (a_t_now 1), .ref (a_t_now 2), .ref (a_t_now 3), .ref (a_t_now 4), .ref (a_t_now 5), .int t_now_told, .int t_now_lines, .int t_now_kinds, .int t_now_acts])), ((a_t_now 2), .inl (g.2.2.1 0, 144, .inl t_now_cells)), ((a_t_now 3), .inl (g.2.2.1 0, 31, .inl t_now_rows)), ((a_t_now 4), .inl (g.2.2.1 0, 31, .inl t_now_sizes)), ((a_t_now 5), .inl (g.2.2.1 0, 31, .inl t_now_rooms)), ((a_t_choices 0), .inr (0, [.ref b_t_choices_rows, .ref b_t_choices_seen, .int t_choices_size, .int t_choices_ready, .int t_choices_pool, .int t_choices_plies, .int t_choices_room])), (b_t_choices_rows, .inl (g.2.2.1 1, t_choices_rows_n, .inr (.inl t_choices_rows)))] sz)) 1 lim0 (va_A [((a_t 0), .inr (6, [.ref (a_t_tape 0), .ref (a_t_reader 0), .ref (a_t_now 0), .ref (a_t 4), .ref (a_t_choices 0), .ref (a_t_ways 0), .ref (a_t_stress 0)])), ((a_t_now 0), .inr (1, [.ref (a_t_now 1), .ref (a_t_now 2), .ref (a_t_now 3), .ref (a_t_now 4), .ref (a_t_now 5), .int t_now_told, .int t_now_lines, .int t_now_kinds, .int t_now_acts])), ((a_t_now 2), .inl (g.2.2.1 0, 144, .inl t_now_cells)), ((a_t_now 3), .inl (g.2.2.1 0, 31, .inl t_now_rows)), ((a_t_now 4), .inl (g.2.2.1 0, 31, .inl t_now_sizes)), ((a_t_now 5), .inl (g.2.2.1 0, 31, .inl t_now_rooms)), ((a_t_choices 0), .inr (0, [.ref b_t_choices_rows, .ref b_t_choices_seen, .int t_choices_size, .int t_choices_ready, .int t_choices_pool, .int t_choices_plies, .int t_choices_room])), (b_t_choices_rows, .inl (g.2.2.1 1, t_choices_rows_n, .inr (.inl t_choices_rows)))] sz) := by
  refine rw_metl (by decide) (Nat.le_of_ble_eq_true rfl) (lv0 := [(0, .ref ((a_t 0))), (1, .int v1), (2, .int v2)]) rfl ?_
  intro p e s m args below meth c ls Q A cx hret hG hAb hb0 hA hP hD hl
  have hx := cx.1
  have hb := cx.2.1
  have hG0 := hG
  have hGk : ∀ {H : Heap} {locs : List Loc}, va_S A s.heap H locs → GE g s H := fun hS => hG0.keptS hAb hS
  have hSb : ∀ {H : Heap} {locs : List Loc}, va_S A s.heap H locs → va_S (fun a => g.1 ≤ a) s.heap H locs := fun hS => ⟨hS.1, fun q h1 h2 => hS.2.1 q h1 (fun z => h2 (hAb q z)), fun l hl => hAb _ (hS.2.2 l hl)⟩
  have hS : va_S A s.heap s.heap [] := va_S.rf
  have hrt : ∀ (u : Nat → Nat) (pc : Nat) (ls : Array Slot) (v : Int64) (x_t_choices_rows_n : Nat) (x_t_choices_rows : Nat → Int64) (x_t_choices_size : Int32) (x_t_choices_ready : Int32) (x_t_choices_pool : Int32) (x_t_choices_plies : Int32) (x_t_choices_room : Int32) (H : Heap) (locs : List Loc), decode cX7_bestBy pc = .ok (.lreturn, 1) → some (v, x_t_choices_rows_n, x_t_choices_rows, x_t_choices_size, x_t_choices_ready, x_t_choices_pool, x_t_choices_plies, x_t_choices_room) = some (o, o_t_choices_rows_n, o_t_choices_rows, o_t_choices_size, o_t_choices_ready, o_t_choices_pool, o_t_choices_plies, o_t_choices_room) → va_P g.2.1 vwCl [((a_t 0), .inr (6, [.ref (a_t_tape 0), .ref (a_t_reader 0), .ref (a_t_now 0), .ref (a_t 4), .ref (a_t_choices 0), .ref (a_t_ways 0), .ref (a_t_stress 0)])), ((a_t_now 0), .inr (1, [.ref (a_t_now 1), .ref (a_t_now 2), .ref (a_t_now 3), .ref (a_t_now 4), .ref (a_t_now 5), .int t_now_told, .int t_now_lines, .int t_now_kinds, .int t_now_acts])), ((a_t_now 2), .inl (g.2.2.1 0, 144, .inl t_now_cells)), ((a_t_now 3), .inl (g.2.2.1 0, 31, .inl t_now_rows)), ((a_t_now 4), .inl (g.2.2.1 0, 31, .inl t_now_sizes)), ((a_t_now 5), .inl (g.2.2.1 0, 31, .inl t_now_rooms)), ((a_t_choices 0), .inr (0, [.ref (u 0), .ref b_t_choices_seen, .int x_t_choices_size, .int x_t_choices_ready, .int x_t_choices_pool, .int x_t_choices_plies, .int x_t_choices_room])), ((u 0), .inl (g.2.2.1 1, x_t_choices_rows_n, .inr (.inl x_t_choices_rows)))] H → va_D A [((a_t 0), .inr (6, [.ref (a_t_tape 0), .ref (a_t_reader 0), .ref (a_t_now 0), .ref (a_t 4), .ref (a_t_choices 0), .ref (a_t_ways 0), .ref (a_t_stress 0)])), ((a_t_now 0), .inr (1, [.ref (a_t_now 1), .ref (a_t_now 2), .ref (a_t_now 3), .ref (a_t_now 4), .ref (a_t_now 5), .int t_now_told, .int t_now_lines, .int t_now_kinds, .int t_now_acts])), ((a_t_now 2), .inl (g.2.2.1 0, 144, .inl t_now_cells)), ((a_t_now 3), .inl (g.2.2.1 0, 31, .inl t_now_rows)), ((a_t_now 4), .inl (g.2.2.1 0, 31, .inl t_now_sizes)), ((a_t_now 5), .inl (g.2.2.1 0, 31, .inl t_now_rooms)), ((a_t_choices 0), .inr (0, [.ref (u 0), .ref b_t_choices_seen, .int x_t_choices_size, .int x_t_choices_ready, .int x_t_choices_pool, .int x_t_choices_plies, .int x_t_choices_room])), ((u 0), .inl (g.2.2.1 1, x_t_choices_rows_n, .inr (.inl x_t_choices_rows)))] → va_S A s.heap H locs → W p l e ⟨16, 1, lim0, 520⟩ s m args below meth c H locs 1 lim0 Q (F0 m pc ls [.long v]) := by
    intro u pc ls v x_t_choices_rows_n x_t_choices_rows x_t_choices_size x_t_choices_ready x_t_choices_pool x_t_choices_plies x_t_choices_room H locs hd h hP hD hS
    cases h
    exact hret u _ _ _ _ _ hd rfl hP hD hS
  unfold fX7_bestBy at h
  refine lv_aload_n hx hb dX7_bestBy_0 rfl (lv_at hl 0 rfl) ?_
  refine lv_iload_n hx hb dX7_bestBy_1 rfl (lv_at hl 1 rfl) ?_
  refine ro_z (runV (As := [.int v1]) (rest := []) cx hl.1 (ctX7_isMask l g a_t a_t_tape a_t_reader a_t_now a_t_choices a_t_ways a_t_stress t_now_told t_now_lines t_now_kinds t_now_acts v1 (fX7_isMask t_now_told v1) rfl) kmX7_isMask kvX7_isMask lm_X7_239 ⟨rfl, rfl⟩ ⟨Nat.le_of_ble_eq_true rfl, Nat.le_of_ble_eq_true rfl⟩ (roV (q0 := 0) (ci := 6) hG (hP.sub [0, 1] rfl) hP rfl rfl) rfl rfl (Nat.le_of_ble_eq_true rfl) dX7_bestBy_2 ⟨Nat.le_of_ble_eq_true rfl, (show (0 + 0 : Nat) ≤ lim0 by omega)⟩) (fun hz1 => ?_)
  refine lv_if_eq (tgt := 17) hx hb dX7_bestBy_5 (by decide) (fun c2 => ?_) (fun c2 => ?_)
  · have h := itp c2 h
    refine lv_ldc2 (own := RX7) (v := -2) hx hb cx.2.2.2.1 (cx.2.2.2.2 _ cl_X7_162) dX7_bestBy_17 ?_
    refine W.widen (k := 1) (n := lim0) (Nat.le_of_ble_eq_true rfl) (show (0 : Nat) ≤ lim0 by omega) ?_
    exact hrt (fun _ => b_t_choices_rows) _ _ ((-2)) t_choices_rows_n t_choices_rows t_choices_size t_choices_ready t_choices_pool t_choices_plies t_choices_room _ _ dX7_bestBy_20 h (hP.sub [0, 1, 2, 3, 4, 5, 6, 7] rfl) (hD.sub [0, 1, 2, 3, 4, 5, 6, 7] (by decide) rfl) hS
  · have h := itn c2 h
    refine lv_iload_n hx hb dX7_bestBy_8 rfl (lv_at hl 2 rfl) ?_
    refine lv_if_lt (tgt := 17) hx hb dX7_bestBy_9 (by decide) (fun c3 => ?_) (fun c3 => ?_)
    · have h := itp c3 h
      refine lv_ldc2 (own := RX7) (v := -2) hx hb cx.2.2.2.1 (cx.2.2.2.2 _ cl_X7_162) dX7_bestBy_17 ?_
      refine W.widen (k := 1) (n := lim0) (Nat.le_of_ble_eq_true rfl) (show (0 : Nat) ≤ lim0 by omega) ?_
      exact hrt (fun _ => b_t_choices_rows) _ _ ((-2)) t_choices_rows_n t_choices_rows t_choices_size t_choices_ready t_choices_pool t_choices_plies t_choices_room _ _ dX7_bestBy_20 h (hP.sub [0, 1, 2, 3, 4, 5, 6, 7] rfl) (hD.sub [0, 1, 2, 3, 4, 5, 6, 7] (by decide) rfl) hS
    · have h := itn c3 h
      refine lv_iload_n hx hb dX7_bestBy_12 rfl (lv_at hl 2 rfl) ?_
      refine lv_iconst (v := 3) hx hb dX7_bestBy_13 (by decide) ?_
      refine lv_icmp_le (tgt := 21) hx hb dX7_bestBy_14 (by decide) (fun c4 => ?_) (fun c4 => ?_)
      · have h := itp c4 h
        refine lv_aload_n hx hb dX7_bestBy_21 rfl (lv_at hl 0 rfl) ?_
        refine xa_get (C := RX7) (T := TX7) (N := 7) cx hG hP 0 rfl rfl uX7 4 (by decide) lf_X7_41 rfl dX7_bestBy_22 ?_
        refine lv_aload_n hx hb dX7_bestBy_25 rfl (lv_at hl 0 rfl) ?_
        refine xa_get (C := RX7) (T := TX7) (N := 7) cx hG hP 0 rfl rfl uX7 2 (by decide) lf_X7_30 rfl dX7_bestBy_26 ?_
        obtain ⟨w6, w7, w8, w9, w10, w11, w12, hr5, h⟩ := ob7_out h
        refine rw_v (WN := fun u13 => [((a_t 0), .inr (6, [.ref (a_t_tape 0), .ref (a_t_reader 0), .ref (a_t_now 0), .ref (a_t 4), .ref (a_t_choices 0), .ref (a_t_ways 0), .ref (a_t_stress 0)])), ((a_t_choices 0), .inr (0, [.ref (u13 0), .ref b_t_choices_seen, .int w8, .int w9, .int w10, .int w11, .int w12])), ((u13 0), .inl (g.2.2.1 1, w6, .inr (.inl w7))), ((a_t_now 0), .inr (1, [.ref (a_t_now 1), .ref (a_t_now 2), .ref (a_t_now 3), .ref (a_t_now 4), .ref (a_t_now 5), .int t_now_told, .int t_now_lines, .int t_now_kinds, .int t_now_acts])), ((a_t_now 2), .inl (g.2.2.1 0, 144, .inl t_now_cells)), ((a_t_now 3), .inl (g.2.2.1 0, 31, .inl t_now_rows)), ((a_t_now 4), .inl (g.2.2.1 0, 31, .inl t_now_sizes)), ((a_t_now 5), .inl (g.2.2.1 0, 31, .inl t_now_rooms))]) (wr := [((a_t 0), .inr (6, [.ref (a_t_tape 0), .ref (a_t_reader 0), .ref (a_t_now 0), .ref (a_t 4), .ref (a_t_choices 0), .ref (a_t_ways 0), .ref (a_t_stress 0)]))]) (runVN (As := [.ref ((a_t_now 0))]) (rest := []) hG cx hl.1 (ctX0_prepare l g lim0 s.heap.size a_t_choices a_t_now b_t_choices_rows b_t_choices_seen t_choices_size t_choices_ready t_choices_pool t_choices_plies t_choices_room t_choices_rows_n t_choices_rows t_now_told t_now_lines t_now_kinds t_now_acts t_now_cells t_now_rows t_now_sizes t_now_rooms w6 w7 w8 w9 w10 w11 w12 hr5) kmX0_prepare kvX0_prepare nm_52 ⟨rfl, rfl⟩ ⟨Nat.le_of_ble_eq_true rfl, Nat.le_of_ble_eq_true rfl⟩ (rwV (q0 := 6) (ci := 0) hG (hP.sub [6, 7, 1, 2, 3, 4, 5] rfl) (hD.sub [6, 7, 1, 2, 3, 4, 5] (by decide) rfl) hAb hb0 hS hP rfl rfl) rfl rfl (Nat.le_of_ble_eq_true rfl) dX7_bestBy_29 ⟨Nat.le_of_ble_eq_true rfl, (show (0 + lim0 : Nat) ≤ lim0 by omega)⟩) hP hD hS hA [6, 7, 1, 2, 3, 4, 5] [0] rfl rfl (by decide) (by decide) (fun _ => rfl) (fun u13 H locs hP hD hS => ?_)
        have hG := hGk hS
        refine lv_aload_n hx hb dX7_bestBy_32 rfl (lv_at hl 0 rfl) ?_
        refine xa_get (C := RX7) (T := TX7) (N := 7) cx hG hP 0 rfl rfl uX7 4 (by decide) lf_X7_41 rfl dX7_bestBy_33 ?_
        refine lv_aload_n hx hb dX7_bestBy_36 rfl (lv_at hl 0 rfl) ?_
        refine xa_get (C := RX7) (T := TX7) (N := 7) cx hG hP 0 rfl rfl uX7 2 (by decide) lf_X7_30 rfl dX7_bestBy_37 ?_
        refine lv_iload_n hx hb dX7_bestBy_40 rfl (lv_at hl 1 rfl) ?_
        refine lv_iload_n hx hb dX7_bestBy_41 rfl (lv_at hl 2 rfl) ?_
        obtain ⟨r14, hr15, h⟩ := bnd h
        refine ro_i (runVN (As := [.ref ((a_t_now 0)), .int v1, .int v2]) (rest := []) hG cx hl.1 (ctX0_bestIndex l g a_t_choices a_t_now (u13 0) b_t_choices_seen w8 w9 w10 w11 w12 w6 w7 t_now_told t_now_lines t_now_kinds t_now_acts t_now_cells v1 v2 r14 hr15) kmX0_bestIndex kvX0_bestIndex nm_70 ⟨rfl, rfl⟩ ⟨Nat.le_of_ble_eq_true rfl, Nat.le_of_ble_eq_true rfl⟩ (roV (q0 := 1) (ci := 0) hG (hP.sub [1, 2, 3, 4] rfl) hP rfl rfl) rfl rfl (Nat.le_of_ble_eq_true rfl) dX7_bestBy_42 ⟨Nat.le_of_ble_eq_true rfl, (show (0 + lim0 + 0 : Nat) ≤ lim0 by omega)⟩) ?_
        refine lv_istore_n (lv' := [(3, .int r14), (0, .ref ((a_t 0))), (1, .int v1), (2, .int v2)]) hx hb dX7_bestBy_45 rfl hl (by decide) rfl (fun ls hl => ?_)
        refine lv_iload_n hx hb dX7_bestBy_46 rfl (lv_at hl 0 rfl) ?_
        refine lv_iconst (v := -1) hx hb dX7_bestBy_47 (by decide) ?_
        refine lv_icmp_ne (tgt := 57) hx hb dX7_bestBy_48 (by decide) (fun c16 => ?_) (fun c16 => ?_)
        · have h := itn c16 h
          refine lv_aload_n hx hb dX7_bestBy_57 rfl (lv_at hl 1 rfl) ?_
          refine xa_get (C := RX7) (T := TX7) (N := 7) cx hG hP 0 rfl rfl uX7 4 (by decide) lf_X7_41 rfl dX7_bestBy_58 ?_
          refine lv_aload_n hx hb dX7_bestBy_61 rfl (lv_at hl 1 rfl) ?_
          refine xa_get (C := RX7) (T := TX7) (N := 7) cx hG hP 0 rfl rfl uX7 2 (by decide) lf_X7_30 rfl dX7_bestBy_62 ?_
          refine lv_iload_n hx hb dX7_bestBy_65 rfl (lv_at hl 0 rfl) ?_
          refine lv_iload_n hx hb dX7_bestBy_66 rfl (lv_at hl 3 rfl) ?_
          obtain ⟨r17, hr18, h⟩ := bnd h
          refine ro_l (runVN (As := [.ref ((a_t_now 0)), .int r14, .int v2]) (rest := []) hG cx hl.1 (ctX0_merit l g a_t_choices a_t_now (u13 0) b_t_choices_seen w8 w9 w10 w11 w12 w6 w7 t_now_told t_now_lines t_now_kinds t_now_acts t_now_cells r14 v2 r17 hr18) kmX0_merit kvX0_merit nm_74 ⟨rfl, rfl⟩ ⟨Nat.le_of_ble_eq_true rfl, Nat.le_of_ble_eq_true rfl⟩ (roV (q0 := 1) (ci := 0) hG (hP.sub [1, 2, 3, 4] rfl) hP rfl rfl) rfl rfl (Nat.le_of_ble_eq_true rfl) dX7_bestBy_67 ⟨Nat.le_of_ble_eq_true rfl, (show (0 + lim0 + 0 : Nat) ≤ lim0 by omega)⟩) ?_
          refine W.widen (k := 1) (n := lim0) (Nat.le_of_ble_eq_true rfl) (show (0 + lim0 : Nat) ≤ lim0 by omega) ?_
          exact hrt (fun _ => (u13 0)) _ _ r17 w6 w7 w8 w9 w10 w11 w12 _ _ dX7_bestBy_70 h (hP.sub [0, 3, 4, 5, 6, 7, 1, 2] rfl) (hD.sub [0, 3, 4, 5, 6, 7, 1, 2] (by decide) rfl) hS
        · have h := itp c16 h
          refine lv_ldc2 (own := RX7) (v := -1) hx hb cx.2.2.2.1 (cx.2.2.2.2 _ cl_X7_265) dX7_bestBy_51 ?_
          refine lv_goto (tgt := 70) hx hb dX7_bestBy_54 (by decide) ?_
          refine W.widen (k := 1) (n := lim0) (Nat.le_of_ble_eq_true rfl) (show (0 + lim0 : Nat) ≤ lim0 by omega) ?_
          exact hrt (fun _ => (u13 0)) _ _ ((-1)) w6 w7 w8 w9 w10 w11 w12 _ _ dX7_bestBy_70 h (hP.sub [0, 3, 4, 5, 6, 7, 1, 2] rfl) (hD.sub [0, 3, 4, 5, 6, 7, 1, 2] (by decide) rfl) hS
      · have h := itn c4 h
        refine lv_ldc2 (own := RX7) (v := -2) hx hb cx.2.2.2.1 (cx.2.2.2.2 _ cl_X7_162) dX7_bestBy_17 ?_
        refine W.widen (k := 1) (n := lim0) (Nat.le_of_ble_eq_true rfl) (show (0 : Nat) ≤ lim0 by omega) ?_
        exact hrt (fun _ => b_t_choices_rows) _ _ ((-2)) t_choices_rows_n t_choices_rows t_choices_size t_choices_ready t_choices_pool t_choices_plies t_choices_room _ _ dX7_bestBy_20 h (hP.sub [0, 1, 2, 3, 4, 5, 6, 7] rfl) (hD.sub [0, 1, 2, 3, 4, 5, 6, 7] (by decide) rfl) hS
-- X7_nearest
theorem dX7_nearest_0 : decode cX7_nearest 0 = .ok (.aload_n 0, 1) := by decide +kernel
theorem dX7_nearest_1 : decode cX7_nearest 1 = .ok (.iload_n 1, 1) := by decide +kernel
theorem dX7_nearest_2 : decode cX7_nearest 2 = .ok (.invokevirtual 239, 3) := by decide +kernel
theorem dX7_nearest_5 : decode cX7_nearest 5 = .ok (.ifCond .ne 6, 3) := by decide +kernel
theorem dX7_nearest_8 : decode cX7_nearest 8 = .ok (.bipush (-2), 2) := by decide +kernel
theorem dX7_nearest_10 : decode cX7_nearest 10 = .ok (.ireturn, 1) := by decide +kernel
theorem dX7_nearest_11 : decode cX7_nearest 11 = .ok (.aload_n 0, 1) := by decide +kernel
theorem dX7_nearest_12 : decode cX7_nearest 12 = .ok (.getfield 41, 3) := by decide +kernel
theorem dX7_nearest_15 : decode cX7_nearest 15 = .ok (.aload_n 0, 1) := by decide +kernel
theorem dX7_nearest_16 : decode cX7_nearest 16 = .ok (.getfield 30, 3) := by decide +kernel
theorem dX7_nearest_19 : decode cX7_nearest 19 = .ok (.invokevirtual 242, 3) := by decide +kernel
theorem dX7_nearest_22 : decode cX7_nearest 22 = .ok (.aload_n 0, 1) := by decide +kernel
theorem dX7_nearest_23 : decode cX7_nearest 23 = .ok (.getfield 41, 3) := by decide +kernel
theorem dX7_nearest_26 : decode cX7_nearest 26 = .ok (.iload_n 1, 1) := by decide +kernel
theorem dX7_nearest_27 : decode cX7_nearest 27 = .ok (.aload_n 0, 1) := by decide +kernel
theorem dX7_nearest_28 : decode cX7_nearest 28 = .ok (.getfield 30, 3) := by decide +kernel
theorem dX7_nearest_31 : decode cX7_nearest 31 = .ok (.invokevirtual 132, 3) := by decide +kernel
theorem dX7_nearest_34 : decode cX7_nearest 34 = .ok (.invokevirtual 271, 3) := by decide +kernel
theorem dX7_nearest_37 : decode cX7_nearest 37 = .ok (.istore_n 2, 1) := by decide +kernel
theorem dX7_nearest_38 : decode cX7_nearest 38 = .ok (.iload_n 2, 1) := by decide +kernel
theorem dX7_nearest_39 : decode cX7_nearest 39 = .ok (.iconst (-1), 1) := by decide +kernel
theorem dX7_nearest_40 : decode cX7_nearest 40 = .ok (.if_icmp .ne 7, 3) := by decide +kernel
theorem dX7_nearest_43 : decode cX7_nearest 43 = .ok (.iconst (-1), 1) := by decide +kernel
theorem dX7_nearest_44 : decode cX7_nearest 44 = .ok (.goto 28, 3) := by decide +kernel
theorem dX7_nearest_47 : decode cX7_nearest 47 = .ok (.aload_n 0, 1) := by decide +kernel
theorem dX7_nearest_48 : decode cX7_nearest 48 = .ok (.getfield 41, 3) := by decide +kernel
theorem dX7_nearest_51 : decode cX7_nearest 51 = .ok (.iload_n 2, 1) := by decide +kernel
theorem dX7_nearest_52 : decode cX7_nearest 52 = .ok (.invokevirtual 250, 3) := by decide +kernel
theorem dX7_nearest_55 : decode cX7_nearest 55 = .ok (.aload_n 0, 1) := by decide +kernel
theorem dX7_nearest_56 : decode cX7_nearest 56 = .ok (.getfield 30, 3) := by decide +kernel
theorem dX7_nearest_59 : decode cX7_nearest 59 = .ok (.invokevirtual 132, 3) := by decide +kernel
theorem dX7_nearest_62 : decode cX7_nearest 62 = .ok (.aload_n 0, 1) := by decide +kernel
theorem dX7_nearest_63 : decode cX7_nearest 63 = .ok (.getfield 30, 3) := by decide +kernel
theorem dX7_nearest_66 : decode cX7_nearest 66 = .ok (.invokevirtual 97, 3) := by decide +kernel
theorem dX7_nearest_69 : decode cX7_nearest 69 = .ok (.invokestatic 274, 3) := by decide +kernel
theorem dX7_nearest_72 : decode cX7_nearest 72 = .ok (.ireturn, 1) := by decide +kernel
noncomputable def fX7_nearest (lim0 : Nat)  (t_now_cells : Nat → Int32) (t_now_rows : Nat → Int32) (t_now_sizes : Nat → Int32) (t_now_rooms : Nat → Int32) (t_now_told : Int32) (t_now_acts : Int32) (t_choices_rows_n : Nat) (t_choices_rows : Nat → Int64) (t_choices_size : Int32) (t_choices_ready : Int32) (t_choices_pool : Int32) (t_choices_plies : Int32) (t_choices_room : Int32) (v1 : Int32) : Option (Int32 × Nat × (Nat → Int64) × Int32 × Int32 × Int32 × Int32 × Int32) := (if (fX7_isMask t_now_told v1) = 0 then some ((-2), t_choices_rows_n, t_choices_rows, t_choices_size, t_choices_ready, t_choices_pool, t_choices_plies, t_choices_room) else ob7 (fX0_prepare lim0 t_choices_rows_n t_choices_rows t_choices_size t_choices_ready t_choices_pool t_choices_plies t_choices_room t_now_cells t_now_rows t_now_sizes t_now_rooms t_now_acts) fun w4 w5 w6 w7 w8 w9 w10 => (fX1_row t_now_rows t_now_acts).bind fun r12 => (fX0_nearestIndex w4 w5 w6 w9 v1 r12).bind fun r14 => (if r14 = (-1) then some ((-1), w4, w5, w6, w7, w8, w9, w10) else (fX0_rowAt w4 w5 r14).bind fun r17 => (fX1_row t_now_rows t_now_acts).bind fun r19 => (fX1_plies t_now_sizes t_now_acts).bind fun r21 => (fX3_unlikePlaces r17 r19 r21).bind fun r23 => some (r23, w4, w5, w6, w7, w8, w9, w10)))
set_option maxHeartbeats 4000000 in
set_option maxRecDepth 100000 in
theorem ctX7_nearest (l : Launch) (g : GT) (lim0 : Nat) (sz : Nat) (a_t : Nat → Nat) (a_t_tape : Nat → Nat) (a_t_reader : Nat → Nat) (a_t_now : Nat → Nat) (a_t_choices : Nat → Nat) (a_t_ways : Nat → Nat) (a_t_stress : Nat → Nat) (b_t_choices_rows : Nat) (b_t_choices_seen : Nat) (t_now_told : Int32) (t_now_lines : Int32) (t_now_kinds : Int32) (t_now_acts : Int32) (t_now_cells : Nat → Int32) (t_now_rows : Nat → Int32) (t_now_sizes : Nat → Int32) (t_now_rooms : Nat → Int32) (t_choices_size : Int32) (t_choices_ready : Int32) (t_choices_pool : Int32) (t_choices_plies : Int32) (t_choices_room : Int32) (t_choices_rows_n : Nat) (t_choices_rows : Nat → Int64) (v1 : Int32) (o : Int32) (o_t_choices_rows_n : Nat) (o_t_choices_rows : Nat → Int64) (o_t_choices_size : Int32) (o_t_choices_ready : Int32) (o_t_choices_pool : Int32) (o_t_choices_plies : Int32) (o_t_choices_room : Int32) (h : fX7_nearest lim0 t_now_cells t_now_rows t_now_sizes t_now_rooms t_now_told t_now_acts t_choices_rows_n t_choices_rows t_choices_size t_choices_ready t_choices_pool t_choices_plies t_choices_room v1 = some (o, o_t_choices_rows_n, o_t_choices_rows, o_t_choices_size, o_t_choices_ready, o_t_choices_pool, o_t_choices_plies, o_t_choices_room)) : Met l yX7_nearest (Cond.code yX7_nearest cX7_nearest 3 (some .int) :: Tw) ⟨16, 1, lim0, 520⟩ (va_Pc [.ref ((a_t 0)), .int v1] (rwB g [((a_t 0), .inr (6, [.ref (a_t_tape 0), .ref (a_t_reader 0), .ref (a_t_now 0), .ref (a_t 4), .ref (a_t_choices 0), .ref (a_t_ways 0), .ref (a_t_stress 0)])), ((a_t_now 0), .inr (1, [.ref (a_t_now 1), .ref (a_t_now 2), .ref (a_t_now 3), .ref (a_t_now 4), .ref (a_t_now 5), .int t_now_told, .int t_now_lines, .int t_now_kinds, .int t_now_acts])), ((a_t_now 2), .inl (g.2.2.1 0, 144, .inl t_now_cells)), ((a_t_now 3), .inl (g.2.2.1 0, 31, .inl t_now_rows)), ((a_t_now 4), .inl (g.2.2.1 0, 31, .inl t_now_sizes)), ((a_t_now 5), .inl (g.2.2.1 0, 31, .inl t_now_rooms)), ((a_t_choices 0), .inr (0, [.ref b_t_choices_rows, .ref b_t_choices_seen, .int t_choices_size, .int t_choices_ready, .int t_choices_pool, .int t_choices_plies, .int t_choices_room])), (b_t_choices_rows, .inl (g.2.2.1 1, t_choices_rows_n, .inr (.inl t_choices_rows)))] sz)) (va_Qi (fun x (_ : Nat → Nat) => x = o) (fun u => rwE g (va_A [((a_t 0), .inr (6, [.ref (a_t_tape 0), .ref (a_t_reader 0), .ref (a_t_now 0), .ref (a_t 4), .ref (a_t_choices 0), .ref (a_t_ways 0), .ref (a_t_stress 0)])), ((a_t_now 0), .inr (1, [.ref (a_t_now 1), .ref (a_t_now 2), .ref (a_t_now 3), .ref (a_t_now 4), .ref (a_t_now 5), .int t_now_told, .int t_now_lines, .int t_now_kinds, .int t_now_acts])), ((a_t_now 2), .inl (g.2.2.1 0, 144, .inl t_now_cells)), ((a_t_now 3), .inl (g.2.2.1 0, 31, .inl t_now_rows)), ((a_t_now 4), .inl (g.2.2.1 0, 31, .inl t_now_sizes)), ((a_t_now 5), .inl (g.2.2.1 0, 31, .inl t_now_rooms)), ((a_t_choices 0), .inr (0, [.ref b_t_choices_rows, .ref b_t_choices_seen, .int t_choices_size, .int t_choices_ready, .int t_choices_pool, .int t_choices_plies, .int t_choices_room])), (b_t_choices_rows, .inl (g.2.2.1 1, t_choices_rows_n, .inr (.inl t_choices_rows)))] sz) [((a_t 0), .inr (6, [.ref (a_t_tape 0), .ref (a_t_reader 0), .ref (a_t_now 0), .ref (a_t 4), .ref (a_t_choices 0), .ref (a_t_ways 0), .ref (a_t_stress 0)])), ((a_t_now 0), .inr (1, [.ref (a_t_now 1), .ref (a_t_now 2), .ref (a_t_now 3), .ref (a_t_now 4), .ref (a_t_now 5), .int t_now_told, .int t_now_lines, .int t_now_kinds, .int t_now_acts])), ((a_t_now 2), .inl (g.2.2.1 0, 144, .inl t_now_cells)), ((a_t_now 3), .inl (g.2.2.1 0, 31, .inl t_now_rows)), ((a_t_now 4), .inl (g.2.2.1 0, 31, .inl t_now_sizes)), ((a_t_now 5), .inl (g.2.2.1 0, 31, .inl t_now_rooms)), ((a_t_choices 0), .inr (0, [.ref (u 0), .ref b_t_choices_seen, .int o_t_choices_size, .int o_t_choices_ready, .int o_t_choices_pool, .int o_t_choices_plies, .int o_t_choices_room])), ((u 0), .inl (g.2.2.1 1, o_t_choices_rows_n, .inr (.inl o_t_choices_rows)))]) (va_A [((a_t 0), .inr (6, [.ref (a_t_tape 0), .ref (a_t_reader 0), .ref (a_t_now 0), .ref (a_t 4), .ref (a_t_choices 0), .ref (a_t_ways 0), .ref (a_t_stress 0)])), ((a_t_now 0), .inr (1, [.ref (a_t_now 1), .ref (a_t_now 2), .ref (a_t_now 3), .ref (a_t_now 4), .ref (a_t_now 5), .int t_now_told, .int t_now_lines, .int t_now_kinds, .int t_now_acts])), ((a_t_now 2), .inl (g.2.2.1 0, 144, .inl t_now_cells)), ((a_t_now 3), .inl (g.2.2.1 0, 31, .inl t_now_rows)), ((a_t_now 4), .inl (g.2.2.1 0, 31, .inl t_now_sizes)), ((a_t_now 5), .inl (g.2.2.1 0, 31, .inl t_now_rooms)), ((a_t_choices 0), .inr (0, [.ref b_t_choices_rows, .ref b_t_choices_seen, .int t_choices_size, .int t_choices_ready, .int t_choices_pool, .int t_choices_plies, .int t_choices_room])), (b_t_choices_rows, .inl (g.2.2.1 1, t_choices_rows_n, .inr (.inl t_choices_rows)))] sz)) 1 lim0 (va_A [((a_t 0), .inr (6, [.ref (a_t_tape 0), .ref (a_t_reader 0), .ref (a_t_now 0), .ref (a_t 4), .ref (a_t_choices 0), .ref (a_t_ways 0), .ref (a_t_stress 0)])), ((a_t_now 0), .inr (1, [.ref (a_t_now 1), .ref (a_t_now 2), .ref (a_t_now 3), .ref (a_t_now 4), .ref (a_t_now 5), .int t_now_told, .int t_now_lines, .int t_now_kinds, .int t_now_acts])), ((a_t_now 2), .inl (g.2.2.1 0, 144, .inl t_now_cells)), ((a_t_now 3), .inl (g.2.2.1 0, 31, .inl t_now_rows)), ((a_t_now 4), .inl (g.2.2.1 0, 31, .inl t_now_sizes)), ((a_t_now 5), .inl (g.2.2.1 0, 31, .inl t_now_rooms)), ((a_t_choices 0), .inr (0, [.ref b_t_choices_rows, .ref b_t_choices_seen, .int t_choices_size, .int t_choices_ready, .int t_choices_pool, .int t_choices_plies, .int t_choices_room])), (b_t_choices_rows, .inl (g.2.2.1 1, t_choices_rows_n, .inr (.inl t_choices_rows)))] sz) := by
  refine rw_meti (by decide) (Nat.le_of_ble_eq_true rfl) (lv0 := [(0, .ref ((a_t 0))), (1, .int v1)]) rfl ?_
  intro p e s m args below meth c ls Q A cx hret hG hAb hb0 hA hP hD hl
  have hx := cx.1
  have hb := cx.2.1
  have hG0 := hG
  have hGk : ∀ {H : Heap} {locs : List Loc}, va_S A s.heap H locs → GE g s H := fun hS => hG0.keptS hAb hS
  have hSb : ∀ {H : Heap} {locs : List Loc}, va_S A s.heap H locs → va_S (fun a => g.1 ≤ a) s.heap H locs := fun hS => ⟨hS.1, fun q h1 h2 => hS.2.1 q h1 (fun z => h2 (hAb q z)), fun l hl => hAb _ (hS.2.2 l hl)⟩
  have hS : va_S A s.heap s.heap [] := va_S.rf
  have hrt : ∀ (u : Nat → Nat) (pc : Nat) (ls : Array Slot) (v : Int32) (x_t_choices_rows_n : Nat) (x_t_choices_rows : Nat → Int64) (x_t_choices_size : Int32) (x_t_choices_ready : Int32) (x_t_choices_pool : Int32) (x_t_choices_plies : Int32) (x_t_choices_room : Int32) (H : Heap) (locs : List Loc), decode cX7_nearest pc = .ok (.ireturn, 1) → some (v, x_t_choices_rows_n, x_t_choices_rows, x_t_choices_size, x_t_choices_ready, x_t_choices_pool, x_t_choices_plies, x_t_choices_room) = some (o, o_t_choices_rows_n, o_t_choices_rows, o_t_choices_size, o_t_choices_ready, o_t_choices_pool, o_t_choices_plies, o_t_choices_room) → va_P g.2.1 vwCl [((a_t 0), .inr (6, [.ref (a_t_tape 0), .ref (a_t_reader 0), .ref (a_t_now 0), .ref (a_t 4), .ref (a_t_choices 0), .ref (a_t_ways 0), .ref (a_t_stress 0)])), ((a_t_now 0), .inr (1, [.ref (a_t_now 1), .ref (a_t_now 2), .ref (a_t_now 3), .ref (a_t_now 4), .ref (a_t_now 5), .int t_now_told, .int t_now_lines, .int t_now_kinds, .int t_now_acts])), ((a_t_now 2), .inl (g.2.2.1 0, 144, .inl t_now_cells)), ((a_t_now 3), .inl (g.2.2.1 0, 31, .inl t_now_rows)), ((a_t_now 4), .inl (g.2.2.1 0, 31, .inl t_now_sizes)), ((a_t_now 5), .inl (g.2.2.1 0, 31, .inl t_now_rooms)), ((a_t_choices 0), .inr (0, [.ref (u 0), .ref b_t_choices_seen, .int x_t_choices_size, .int x_t_choices_ready, .int x_t_choices_pool, .int x_t_choices_plies, .int x_t_choices_room])), ((u 0), .inl (g.2.2.1 1, x_t_choices_rows_n, .inr (.inl x_t_choices_rows)))] H → va_D A [((a_t 0), .inr (6, [.ref (a_t_tape 0), .ref (a_t_reader 0), .ref (a_t_now 0), .ref (a_t 4), .ref (a_t_choices 0), .ref (a_t_ways 0), .ref (a_t_stress 0)])), ((a_t_now 0), .inr (1, [.ref (a_t_now 1), .ref (a_t_now 2), .ref (a_t_now 3), .ref (a_t_now 4), .ref (a_t_now 5), .int t_now_told, .int t_now_lines, .int t_now_kinds, .int t_now_acts])), ((a_t_now 2), .inl (g.2.2.1 0, 144, .inl t_now_cells)), ((a_t_now 3), .inl (g.2.2.1 0, 31, .inl t_now_rows)), ((a_t_now 4), .inl (g.2.2.1 0, 31, .inl t_now_sizes)), ((a_t_now 5), .inl (g.2.2.1 0, 31, .inl t_now_rooms)), ((a_t_choices 0), .inr (0, [.ref (u 0), .ref b_t_choices_seen, .int x_t_choices_size, .int x_t_choices_ready, .int x_t_choices_pool, .int x_t_choices_plies, .int x_t_choices_room])), ((u 0), .inl (g.2.2.1 1, x_t_choices_rows_n, .inr (.inl x_t_choices_rows)))] → va_S A s.heap H locs → W p l e ⟨16, 1, lim0, 520⟩ s m args below meth c H locs 1 lim0 Q (F0 m pc ls [.int v]) := by
    intro u pc ls v x_t_choices_rows_n x_t_choices_rows x_t_choices_size x_t_choices_ready x_t_choices_pool x_t_choices_plies x_t_choices_room H locs hd h hP hD hS
    cases h
    exact hret u _ _ _ _ _ hd rfl hP hD hS
  unfold fX7_nearest at h
  refine lv_aload_n hx hb dX7_nearest_0 rfl (lv_at hl 0 rfl) ?_
  refine lv_iload_n hx hb dX7_nearest_1 rfl (lv_at hl 1 rfl) ?_
  refine ro_z (runV (As := [.int v1]) (rest := []) cx hl.1 (ctX7_isMask l g a_t a_t_tape a_t_reader a_t_now a_t_choices a_t_ways a_t_stress t_now_told t_now_lines t_now_kinds t_now_acts v1 (fX7_isMask t_now_told v1) rfl) kmX7_isMask kvX7_isMask lm_X7_239 ⟨rfl, rfl⟩ ⟨Nat.le_of_ble_eq_true rfl, Nat.le_of_ble_eq_true rfl⟩ (roV (q0 := 0) (ci := 6) hG (hP.sub [0, 1] rfl) hP rfl rfl) rfl rfl (Nat.le_of_ble_eq_true rfl) dX7_nearest_2 ⟨Nat.le_of_ble_eq_true rfl, (show (0 + 0 : Nat) ≤ lim0 by omega)⟩) (fun hz1 => ?_)
  refine lv_if_ne (tgt := 11) hx hb dX7_nearest_5 (by decide) (fun c2 => ?_) (fun c2 => ?_)
  · have h := itn c2 h
    refine lv_aload_n hx hb dX7_nearest_11 rfl (lv_at hl 0 rfl) ?_
    refine xa_get (C := RX7) (T := TX7) (N := 7) cx hG hP 0 rfl rfl uX7 4 (by decide) lf_X7_41 rfl dX7_nearest_12 ?_
    refine lv_aload_n hx hb dX7_nearest_15 rfl (lv_at hl 0 rfl) ?_
    refine xa_get (C := RX7) (T := TX7) (N := 7) cx hG hP 0 rfl rfl uX7 2 (by decide) lf_X7_30 rfl dX7_nearest_16 ?_
    obtain ⟨w4, w5, w6, w7, w8, w9, w10, hr3, h⟩ := ob7_out h
    refine rw_v (WN := fun u11 => [((a_t 0), .inr (6, [.ref (a_t_tape 0), .ref (a_t_reader 0), .ref (a_t_now 0), .ref (a_t 4), .ref (a_t_choices 0), .ref (a_t_ways 0), .ref (a_t_stress 0)])), ((a_t_choices 0), .inr (0, [.ref (u11 0), .ref b_t_choices_seen, .int w6, .int w7, .int w8, .int w9, .int w10])), ((u11 0), .inl (g.2.2.1 1, w4, .inr (.inl w5))), ((a_t_now 0), .inr (1, [.ref (a_t_now 1), .ref (a_t_now 2), .ref (a_t_now 3), .ref (a_t_now 4), .ref (a_t_now 5), .int t_now_told, .int t_now_lines, .int t_now_kinds, .int t_now_acts])), ((a_t_now 2), .inl (g.2.2.1 0, 144, .inl t_now_cells)), ((a_t_now 3), .inl (g.2.2.1 0, 31, .inl t_now_rows)), ((a_t_now 4), .inl (g.2.2.1 0, 31, .inl t_now_sizes)), ((a_t_now 5), .inl (g.2.2.1 0, 31, .inl t_now_rooms))]) (wr := [((a_t 0), .inr (6, [.ref (a_t_tape 0), .ref (a_t_reader 0), .ref (a_t_now 0), .ref (a_t 4), .ref (a_t_choices 0), .ref (a_t_ways 0), .ref (a_t_stress 0)]))]) (runVN (As := [.ref ((a_t_now 0))]) (rest := []) hG cx hl.1 (ctX0_prepare l g lim0 s.heap.size a_t_choices a_t_now b_t_choices_rows b_t_choices_seen t_choices_size t_choices_ready t_choices_pool t_choices_plies t_choices_room t_choices_rows_n t_choices_rows t_now_told t_now_lines t_now_kinds t_now_acts t_now_cells t_now_rows t_now_sizes t_now_rooms w4 w5 w6 w7 w8 w9 w10 hr3) kmX0_prepare kvX0_prepare nm_52 ⟨rfl, rfl⟩ ⟨Nat.le_of_ble_eq_true rfl, Nat.le_of_ble_eq_true rfl⟩ (rwV (q0 := 6) (ci := 0) hG (hP.sub [6, 7, 1, 2, 3, 4, 5] rfl) (hD.sub [6, 7, 1, 2, 3, 4, 5] (by decide) rfl) hAb hb0 hS hP rfl rfl) rfl rfl (Nat.le_of_ble_eq_true rfl) dX7_nearest_19 ⟨Nat.le_of_ble_eq_true rfl, (show (0 + lim0 : Nat) ≤ lim0 by omega)⟩) hP hD hS hA [6, 7, 1, 2, 3, 4, 5] [0] rfl rfl (by decide) (by decide) (fun _ => rfl) (fun u11 H locs hP hD hS => ?_)
    have hG := hGk hS
    refine lv_aload_n hx hb dX7_nearest_22 rfl (lv_at hl 0 rfl) ?_
    refine xa_get (C := RX7) (T := TX7) (N := 7) cx hG hP 0 rfl rfl uX7 4 (by decide) lf_X7_41 rfl dX7_nearest_23 ?_
    refine lv_iload_n hx hb dX7_nearest_26 rfl (lv_at hl 1 rfl) ?_
    refine lv_aload_n hx hb dX7_nearest_27 rfl (lv_at hl 0 rfl) ?_
    refine xa_get (C := RX7) (T := TX7) (N := 7) cx hG hP 0 rfl rfl uX7 2 (by decide) lf_X7_30 rfl dX7_nearest_28 ?_
    obtain ⟨r12, hr13, h⟩ := bnd h
    refine ro_i (runVN (As := []) (rest := [.int v1, .ref ((a_t_choices 0))]) hG cx hl.1 (ctX1_row l g a_t_now t_now_told t_now_lines t_now_kinds t_now_acts t_now_rows r12 hr13) kmX1_row kvX1_row nm_25 ⟨rfl, rfl⟩ ⟨Nat.le_of_ble_eq_true rfl, Nat.le_of_ble_eq_true rfl⟩ (roV (q0 := 3) (ci := 1) hG (hP.sub [3, 5] rfl) hP rfl rfl) rfl rfl (Nat.le_of_ble_eq_true rfl) dX7_nearest_31 ⟨Nat.le_of_ble_eq_true rfl, (show (0 + lim0 + 0 : Nat) ≤ lim0 by omega)⟩) ?_
    obtain ⟨r14, hr15, h⟩ := bnd h
    refine ro_i (runVN (As := [.int v1, .int r12]) (rest := []) hG cx hl.1 (ctX0_nearestIndex l g a_t_choices (u11 0) b_t_choices_seen w6 w7 w8 w9 w10 w4 w5 v1 r12 r14 hr15) kmX0_nearestIndex kvX0_nearestIndex nm_75 ⟨rfl, rfl⟩ ⟨Nat.le_of_ble_eq_true rfl, Nat.le_of_ble_eq_true rfl⟩ (roV (q0 := 1) (ci := 0) hG (hP.sub [1, 2] rfl) hP rfl rfl) rfl rfl (Nat.le_of_ble_eq_true rfl) dX7_nearest_34 ⟨Nat.le_of_ble_eq_true rfl, (show (0 + lim0 + 0 : Nat) ≤ lim0 by omega)⟩) ?_
    refine lv_istore_n (lv' := [(2, .int r14), (0, .ref ((a_t 0))), (1, .int v1)]) hx hb dX7_nearest_37 rfl hl (by decide) rfl (fun ls hl => ?_)
    refine lv_iload_n hx hb dX7_nearest_38 rfl (lv_at hl 0 rfl) ?_
    refine lv_iconst (v := -1) hx hb dX7_nearest_39 (by decide) ?_
    refine lv_icmp_ne (tgt := 47) hx hb dX7_nearest_40 (by decide) (fun c16 => ?_) (fun c16 => ?_)
    · have h := itn c16 h
      refine lv_aload_n hx hb dX7_nearest_47 rfl (lv_at hl 1 rfl) ?_
      refine xa_get (C := RX7) (T := TX7) (N := 7) cx hG hP 0 rfl rfl uX7 4 (by decide) lf_X7_41 rfl dX7_nearest_48 ?_
      refine lv_iload_n hx hb dX7_nearest_51 rfl (lv_at hl 0 rfl) ?_
      obtain ⟨r17, hr18, h⟩ := bnd h
      refine ro_i (runVN (As := [.int r14]) (rest := []) hG cx hl.1 (ctX0_rowAt l g a_t_choices (u11 0) b_t_choices_seen w6 w7 w8 w9 w10 w4 w5 r14 r17 hr18) kmX0_rowAt kvX0_rowAt nm_67 ⟨rfl, rfl⟩ ⟨Nat.le_of_ble_eq_true rfl, Nat.le_of_ble_eq_true rfl⟩ (roV (q0 := 1) (ci := 0) hG (hP.sub [1, 2] rfl) hP rfl rfl) rfl rfl (Nat.le_of_ble_eq_true rfl) dX7_nearest_52 ⟨Nat.le_of_ble_eq_true rfl, (show (0 + lim0 + 0 : Nat) ≤ lim0 by omega)⟩) ?_
      refine lv_aload_n hx hb dX7_nearest_55 rfl (lv_at hl 1 rfl) ?_
      refine xa_get (C := RX7) (T := TX7) (N := 7) cx hG hP 0 rfl rfl uX7 2 (by decide) lf_X7_30 rfl dX7_nearest_56 ?_
      obtain ⟨r19, hr20, h⟩ := bnd h
      refine ro_i (runVN (As := []) (rest := [.int r17]) hG cx hl.1 (ctX1_row l g a_t_now t_now_told t_now_lines t_now_kinds t_now_acts t_now_rows r19 hr20) kmX1_row kvX1_row nm_25 ⟨rfl, rfl⟩ ⟨Nat.le_of_ble_eq_true rfl, Nat.le_of_ble_eq_true rfl⟩ (roV (q0 := 3) (ci := 1) hG (hP.sub [3, 5] rfl) hP rfl rfl) rfl rfl (Nat.le_of_ble_eq_true rfl) dX7_nearest_59 ⟨Nat.le_of_ble_eq_true rfl, (show (0 + lim0 + 0 : Nat) ≤ lim0 by omega)⟩) ?_
      refine lv_aload_n hx hb dX7_nearest_62 rfl (lv_at hl 1 rfl) ?_
      refine xa_get (C := RX7) (T := TX7) (N := 7) cx hG hP 0 rfl rfl uX7 2 (by decide) lf_X7_30 rfl dX7_nearest_63 ?_
      obtain ⟨r21, hr22, h⟩ := bnd h
      refine ro_i (runVN (As := []) (rest := [.int r19, .int r17]) hG cx hl.1 (ctX1_plies l g a_t_now t_now_told t_now_lines t_now_kinds t_now_acts t_now_sizes r21 hr22) kmX1_plies kvX1_plies nm_17 ⟨rfl, rfl⟩ ⟨Nat.le_of_ble_eq_true rfl, Nat.le_of_ble_eq_true rfl⟩ (roV (q0 := 3) (ci := 1) hG (hP.sub [3, 6] rfl) hP rfl rfl) rfl rfl (Nat.le_of_ble_eq_true rfl) dX7_nearest_66 ⟨Nat.le_of_ble_eq_true rfl, (show (0 + lim0 + 0 : Nat) ≤ lim0 by omega)⟩) ?_
      obtain ⟨r23, hr24, h⟩ := bnd h
      refine ro_i (runSN (As := [.int r17, .int r19, .int r21]) (rest := []) hG cx hl.1 (ctX3_unlikePlaces l g r17 r19 r21 r23 hr24) kmX3_unlikePlaces ksX3_unlikePlaces nm_77 ⟨rfl, rfl⟩ ⟨Nat.le_of_ble_eq_true rfl, Nat.le_of_ble_eq_true rfl⟩ (roS hG (hP.sub [] rfl)) rfl rfl (Nat.le_of_ble_eq_true rfl) dX7_nearest_69 ⟨Nat.le_of_ble_eq_true rfl, (show (0 + lim0 + 0 : Nat) ≤ lim0 by omega)⟩) ?_
      refine W.widen (k := 1) (n := lim0) (Nat.le_of_ble_eq_true rfl) (show (0 + lim0 : Nat) ≤ lim0 by omega) ?_
      exact hrt (fun _ => (u11 0)) _ _ r23 w4 w5 w6 w7 w8 w9 w10 _ _ dX7_nearest_72 h (hP.sub [0, 3, 4, 5, 6, 7, 1, 2] rfl) (hD.sub [0, 3, 4, 5, 6, 7, 1, 2] (by decide) rfl) hS
    · have h := itp c16 h
      refine lv_iconst (v := -1) hx hb dX7_nearest_43 (by decide) ?_
      refine lv_goto (tgt := 72) hx hb dX7_nearest_44 (by decide) ?_
      refine W.widen (k := 1) (n := lim0) (Nat.le_of_ble_eq_true rfl) (show (0 + lim0 : Nat) ≤ lim0 by omega) ?_
      exact hrt (fun _ => (u11 0)) _ _ ((-1)) w4 w5 w6 w7 w8 w9 w10 _ _ dX7_nearest_72 h (hP.sub [0, 3, 4, 5, 6, 7, 1, 2] rfl) (hD.sub [0, 3, 4, 5, 6, 7, 1, 2] (by decide) rfl) hS
  · have h := itp c2 h
    refine lv_bipush (v := -2) hx hb dX7_nearest_8 (by decide) ?_
    refine W.widen (k := 1) (n := lim0) (Nat.le_of_ble_eq_true rfl) (show (0 : Nat) ≤ lim0 by omega) ?_
    exact hrt (fun _ => b_t_choices_rows) _ _ ((-2)) t_choices_rows_n t_choices_rows t_choices_size t_choices_ready t_choices_pool t_choices_plies t_choices_room _ _ dX7_nearest_10 h (hP.sub [0, 1, 2, 3, 4, 5, 6, 7] rfl) (hD.sub [0, 1, 2, 3, 4, 5, 6, 7] (by decide) rfl) hS
-- X7_nearestAt
theorem dX7_nearestAt_0 : decode cX7_nearestAt 0 = .ok (.aload_n 0, 1) := by decide +kernel
theorem dX7_nearestAt_1 : decode cX7_nearestAt 1 = .ok (.iload_n 1, 1) := by decide +kernel
theorem dX7_nearestAt_2 : decode cX7_nearestAt 2 = .ok (.invokevirtual 239, 3) := by decide +kernel
theorem dX7_nearestAt_5 : decode cX7_nearestAt 5 = .ok (.ifCond .ne 6, 3) := by decide +kernel
theorem dX7_nearestAt_8 : decode cX7_nearestAt 8 = .ok (.bipush (-2), 2) := by decide +kernel
theorem dX7_nearestAt_10 : decode cX7_nearestAt 10 = .ok (.ireturn, 1) := by decide +kernel
theorem dX7_nearestAt_11 : decode cX7_nearestAt 11 = .ok (.aload_n 0, 1) := by decide +kernel
theorem dX7_nearestAt_12 : decode cX7_nearestAt 12 = .ok (.getfield 41, 3) := by decide +kernel
theorem dX7_nearestAt_15 : decode cX7_nearestAt 15 = .ok (.aload_n 0, 1) := by decide +kernel
theorem dX7_nearestAt_16 : decode cX7_nearestAt 16 = .ok (.getfield 30, 3) := by decide +kernel
theorem dX7_nearestAt_19 : decode cX7_nearestAt 19 = .ok (.invokevirtual 242, 3) := by decide +kernel
theorem dX7_nearestAt_22 : decode cX7_nearestAt 22 = .ok (.aload_n 0, 1) := by decide +kernel
theorem dX7_nearestAt_23 : decode cX7_nearestAt 23 = .ok (.getfield 41, 3) := by decide +kernel
theorem dX7_nearestAt_26 : decode cX7_nearestAt 26 = .ok (.iload_n 1, 1) := by decide +kernel
theorem dX7_nearestAt_27 : decode cX7_nearestAt 27 = .ok (.aload_n 0, 1) := by decide +kernel
theorem dX7_nearestAt_28 : decode cX7_nearestAt 28 = .ok (.getfield 30, 3) := by decide +kernel
theorem dX7_nearestAt_31 : decode cX7_nearestAt 31 = .ok (.invokevirtual 132, 3) := by decide +kernel
theorem dX7_nearestAt_34 : decode cX7_nearestAt 34 = .ok (.invokevirtual 271, 3) := by decide +kernel
theorem dX7_nearestAt_37 : decode cX7_nearestAt 37 = .ok (.istore_n 2, 1) := by decide +kernel
theorem dX7_nearestAt_38 : decode cX7_nearestAt 38 = .ok (.iload_n 2, 1) := by decide +kernel
theorem dX7_nearestAt_39 : decode cX7_nearestAt 39 = .ok (.iconst (-1), 1) := by decide +kernel
theorem dX7_nearestAt_40 : decode cX7_nearestAt 40 = .ok (.if_icmp .ne 7, 3) := by decide +kernel
theorem dX7_nearestAt_43 : decode cX7_nearestAt 43 = .ok (.iconst (-1), 1) := by decide +kernel
theorem dX7_nearestAt_44 : decode cX7_nearestAt 44 = .ok (.goto 12, 3) := by decide +kernel
theorem dX7_nearestAt_47 : decode cX7_nearestAt 47 = .ok (.aload_n 0, 1) := by decide +kernel
theorem dX7_nearestAt_48 : decode cX7_nearestAt 48 = .ok (.getfield 41, 3) := by decide +kernel
theorem dX7_nearestAt_51 : decode cX7_nearestAt 51 = .ok (.iload_n 1, 1) := by decide +kernel
theorem dX7_nearestAt_52 : decode cX7_nearestAt 52 = .ok (.iload_n 2, 1) := by decide +kernel
theorem dX7_nearestAt_53 : decode cX7_nearestAt 53 = .ok (.invokevirtual 262, 3) := by decide +kernel
theorem dX7_nearestAt_56 : decode cX7_nearestAt 56 = .ok (.ireturn, 1) := by decide +kernel
noncomputable def fX7_nearestAt (lim0 : Nat)  (t_now_cells : Nat → Int32) (t_now_rows : Nat → Int32) (t_now_sizes : Nat → Int32) (t_now_rooms : Nat → Int32) (t_now_told : Int32) (t_now_acts : Int32) (t_choices_rows_n : Nat) (t_choices_rows : Nat → Int64) (t_choices_size : Int32) (t_choices_ready : Int32) (t_choices_pool : Int32) (t_choices_plies : Int32) (t_choices_room : Int32) (v1 : Int32) : Option (Int32 × Nat × (Nat → Int64) × Int32 × Int32 × Int32 × Int32 × Int32) := (if (fX7_isMask t_now_told v1) = 0 then some ((-2), t_choices_rows_n, t_choices_rows, t_choices_size, t_choices_ready, t_choices_pool, t_choices_plies, t_choices_room) else ob7 (fX0_prepare lim0 t_choices_rows_n t_choices_rows t_choices_size t_choices_ready t_choices_pool t_choices_plies t_choices_room t_now_cells t_now_rows t_now_sizes t_now_rooms t_now_acts) fun w4 w5 w6 w7 w8 w9 w10 => (fX1_row t_now_rows t_now_acts).bind fun r12 => (fX0_nearestIndex w4 w5 w6 w9 v1 r12).bind fun r14 => (if r14 = (-1) then some ((-1), w4, w5, w6, w7, w8, w9, w10) else (fX0_placeAt w4 w5 v1 r14).bind fun r17 => some (r17, w4, w5, w6, w7, w8, w9, w10)))
set_option maxHeartbeats 4000000 in
set_option maxRecDepth 100000 in
theorem ctX7_nearestAt (l : Launch) (g : GT) (lim0 : Nat) (sz : Nat) (a_t : Nat → Nat) (a_t_tape : Nat → Nat) (a_t_reader : Nat → Nat) (a_t_now : Nat → Nat) (a_t_choices : Nat → Nat) (a_t_ways : Nat → Nat) (a_t_stress : Nat → Nat) (b_t_choices_rows : Nat) (b_t_choices_seen : Nat) (t_now_told : Int32) (t_now_lines : Int32) (t_now_kinds : Int32) (t_now_acts : Int32) (t_now_cells : Nat → Int32) (t_now_rows : Nat → Int32) (t_now_sizes : Nat → Int32) (t_now_rooms : Nat → Int32) (t_choices_size : Int32) (t_choices_ready : Int32) (t_choices_pool : Int32) (t_choices_plies : Int32) (t_choices_room : Int32) (t_choices_rows_n : Nat) (t_choices_rows : Nat → Int64) (v1 : Int32) (o : Int32) (o_t_choices_rows_n : Nat) (o_t_choices_rows : Nat → Int64) (o_t_choices_size : Int32) (o_t_choices_ready : Int32) (o_t_choices_pool : Int32) (o_t_choices_plies : Int32) (o_t_choices_room : Int32) (h : fX7_nearestAt lim0 t_now_cells t_now_rows t_now_sizes t_now_rooms t_now_told t_now_acts t_choices_rows_n t_choices_rows t_choices_size t_choices_ready t_choices_pool t_choices_plies t_choices_room v1 = some (o, o_t_choices_rows_n, o_t_choices_rows, o_t_choices_size, o_t_choices_ready, o_t_choices_pool, o_t_choices_plies, o_t_choices_room)) : Met l yX7_nearestAt (Cond.code yX7_nearestAt cX7_nearestAt 3 (some .int) :: Tw) ⟨16, 1, lim0, 520⟩ (va_Pc [.ref ((a_t 0)), .int v1] (rwB g [((a_t 0), .inr (6, [.ref (a_t_tape 0), .ref (a_t_reader 0), .ref (a_t_now 0), .ref (a_t 4), .ref (a_t_choices 0), .ref (a_t_ways 0), .ref (a_t_stress 0)])), ((a_t_now 0), .inr (1, [.ref (a_t_now 1), .ref (a_t_now 2), .ref (a_t_now 3), .ref (a_t_now 4), .ref (a_t_now 5), .int t_now_told, .int t_now_lines, .int t_now_kinds, .int t_now_acts])), ((a_t_now 2), .inl (g.2.2.1 0, 144, .inl t_now_cells)), ((a_t_now 3), .inl (g.2.2.1 0, 31, .inl t_now_rows)), ((a_t_now 4), .inl (g.2.2.1 0, 31, .inl t_now_sizes)), ((a_t_now 5), .inl (g.2.2.1 0, 31, .inl t_now_rooms)), ((a_t_choices 0), .inr (0, [.ref b_t_choices_rows, .ref b_t_choices_seen, .int t_choices_size, .int t_choices_ready, .int t_choices_pool, .int t_choices_plies, .int t_choices_room])), (b_t_choices_rows, .inl (g.2.2.1 1, t_choices_rows_n, .inr (.inl t_choices_rows)))] sz)) (va_Qi (fun x (_ : Nat → Nat) => x = o) (fun u => rwE g (va_A [((a_t 0), .inr (6, [.ref (a_t_tape 0), .ref (a_t_reader 0), .ref (a_t_now 0), .ref (a_t 4), .ref (a_t_choices 0), .ref (a_t_ways 0), .ref (a_t_stress 0)])), ((a_t_now 0), .inr (1, [.ref (a_t_now 1), .ref (a_t_now 2), .ref (a_t_now 3), .ref (a_t_now 4), .ref (a_t_now 5), .int t_now_told, .int t_now_lines, .int t_now_kinds, .int t_now_acts])), ((a_t_now 2), .inl (g.2.2.1 0, 144, .inl t_now_cells)), ((a_t_now 3), .inl (g.2.2.1 0, 31, .inl t_now_rows)), ((a_t_now 4), .inl (g.2.2.1 0, 31, .inl t_now_sizes)), ((a_t_now 5), .inl (g.2.2.1 0, 31, .inl t_now_rooms)), ((a_t_choices 0), .inr (0, [.ref b_t_choices_rows, .ref b_t_choices_seen, .int t_choices_size, .int t_choices_ready, .int t_choices_pool, .int t_choices_plies, .int t_choices_room])), (b_t_choices_rows, .inl (g.2.2.1 1, t_choices_rows_n, .inr (.inl t_choices_rows)))] sz) [((a_t 0), .inr (6, [.ref (a_t_tape 0), .ref (a_t_reader 0), .ref (a_t_now 0), .ref (a_t 4), .ref (a_t_choices 0), .ref (a_t_ways 0), .ref (a_t_stress 0)])), ((a_t_now 0), .inr (1, [.ref (a_t_now 1), .ref (a_t_now 2), .ref (a_t_now 3), .ref (a_t_now 4), .ref (a_t_now 5), .int t_now_told, .int t_now_lines, .int t_now_kinds, .int t_now_acts])), ((a_t_now 2), .inl (g.2.2.1 0, 144, .inl t_now_cells)), ((a_t_now 3), .inl (g.2.2.1 0, 31, .inl t_now_rows)), ((a_t_now 4), .inl (g.2.2.1 0, 31, .inl t_now_sizes)), ((a_t_now 5), .inl (g.2.2.1 0, 31, .inl t_now_rooms)), ((a_t_choices 0), .inr (0, [.ref (u 0), .ref b_t_choices_seen, .int o_t_choices_size, .int o_t_choices_ready, .int o_t_choices_pool, .int o_t_choices_plies, .int o_t_choices_room])), ((u 0), .inl (g.2.2.1 1, o_t_choices_rows_n, .inr (.inl o_t_choices_rows)))]) (va_A [((a_t 0), .inr (6, [.ref (a_t_tape 0), .ref (a_t_reader 0), .ref (a_t_now 0), .ref (a_t 4), .ref (a_t_choices 0), .ref (a_t_ways 0), .ref (a_t_stress 0)])), ((a_t_now 0), .inr (1, [.ref (a_t_now 1), .ref (a_t_now 2), .ref (a_t_now 3), .ref (a_t_now 4), .ref (a_t_now 5), .int t_now_told, .int t_now_lines, .int t_now_kinds, .int t_now_acts])), ((a_t_now 2), .inl (g.2.2.1 0, 144, .inl t_now_cells)), ((a_t_now 3), .inl (g.2.2.1 0, 31, .inl t_now_rows)), ((a_t_now 4), .inl (g.2.2.1 0, 31, .inl t_now_sizes)), ((a_t_now 5), .inl (g.2.2.1 0, 31, .inl t_now_rooms)), ((a_t_choices 0), .inr (0, [.ref b_t_choices_rows, .ref b_t_choices_seen, .int t_choices_size, .int t_choices_ready, .int t_choices_pool, .int t_choices_plies, .int t_choices_room])), (b_t_choices_rows, .inl (g.2.2.1 1, t_choices_rows_n, .inr (.inl t_choices_rows)))] sz)) 1 lim0 (va_A [((a_t 0), .inr (6, [.ref (a_t_tape 0), .ref (a_t_reader 0), .ref (a_t_now 0), .ref (a_t 4), .ref (a_t_choices 0), .ref (a_t_ways 0), .ref (a_t_stress 0)])), ((a_t_now 0), .inr (1, [.ref (a_t_now 1), .ref (a_t_now 2), .ref (a_t_now 3), .ref (a_t_now 4), .ref (a_t_now 5), .int t_now_told, .int t_now_lines, .int t_now_kinds, .int t_now_acts])), ((a_t_now 2), .inl (g.2.2.1 0, 144, .inl t_now_cells)), ((a_t_now 3), .inl (g.2.2.1 0, 31, .inl t_now_rows)), ((a_t_now 4), .inl (g.2.2.1 0, 31, .inl t_now_sizes)), ((a_t_now 5), .inl (g.2.2.1 0, 31, .inl t_now_rooms)), ((a_t_choices 0), .inr (0, [.ref b_t_choices_rows, .ref b_t_choices_seen, .int t_choices_size, .int t_choices_ready, .int t_choices_pool, .int t_choices_plies, .int t_choices_room])), (b_t_choices_rows, .inl (g.2.2.1 1, t_choices_rows_n, .inr (.inl t_choices_rows)))] sz) := by
  refine rw_meti (by decide) (Nat.le_of_ble_eq_true rfl) (lv0 := [(0, .ref ((a_t 0))), (1, .int v1)]) rfl ?_
  intro p e s m args below meth c ls Q A cx hret hG hAb hb0 hA hP hD hl
  have hx := cx.1
  have hb := cx.2.1
  have hG0 := hG
  have hGk : ∀ {H : Heap} {locs : List Loc}, va_S A s.heap H locs → GE g s H := fun hS => hG0.keptS hAb hS
  have hSb : ∀ {H : Heap} {locs : List Loc}, va_S A s.heap H locs → va_S (fun a => g.1 ≤ a) s.heap H locs := fun hS => ⟨hS.1, fun q h1 h2 => hS.2.1 q h1 (fun z => h2 (hAb q z)), fun l hl => hAb _ (hS.2.2 l hl)⟩
  have hS : va_S A s.heap s.heap [] := va_S.rf
  have hrt : ∀ (u : Nat → Nat) (pc : Nat) (ls : Array Slot) (v : Int32) (x_t_choices_rows_n : Nat) (x_t_choices_rows : Nat → Int64) (x_t_choices_size : Int32) (x_t_choices_ready : Int32) (x_t_choices_pool : Int32) (x_t_choices_plies : Int32) (x_t_choices_room : Int32) (H : Heap) (locs : List Loc), decode cX7_nearestAt pc = .ok (.ireturn, 1) → some (v, x_t_choices_rows_n, x_t_choices_rows, x_t_choices_size, x_t_choices_ready, x_t_choices_pool, x_t_choices_plies, x_t_choices_room) = some (o, o_t_choices_rows_n, o_t_choices_rows, o_t_choices_size, o_t_choices_ready, o_t_choices_pool, o_t_choices_plies, o_t_choices_room) → va_P g.2.1 vwCl [((a_t 0), .inr (6, [.ref (a_t_tape 0), .ref (a_t_reader 0), .ref (a_t_now 0), .ref (a_t 4), .ref (a_t_choices 0), .ref (a_t_ways 0), .ref (a_t_stress 0)])), ((a_t_now 0), .inr (1, [.ref (a_t_now 1), .ref (a_t_now 2), .ref (a_t_now 3), .ref (a_t_now 4), .ref (a_t_now 5), .int t_now_told, .int t_now_lines, .int t_now_kinds, .int t_now_acts])), ((a_t_now 2), .inl (g.2.2.1 0, 144, .inl t_now_cells)), ((a_t_now 3), .inl (g.2.2.1 0, 31, .inl t_now_rows)), ((a_t_now 4), .inl (g.2.2.1 0, 31, .inl t_now_sizes)), ((a_t_now 5), .inl (g.2.2.1 0, 31, .inl t_now_rooms)), ((a_t_choices 0), .inr (0, [.ref (u 0), .ref b_t_choices_seen, .int x_t_choices_size, .int x_t_choices_ready, .int x_t_choices_pool, .int x_t_choices_plies, .int x_t_choices_room])), ((u 0), .inl (g.2.2.1 1, x_t_choices_rows_n, .inr (.inl x_t_choices_rows)))] H → va_D A [((a_t 0), .inr (6, [.ref (a_t_tape 0), .ref (a_t_reader 0), .ref (a_t_now 0), .ref (a_t 4), .ref (a_t_choices 0), .ref (a_t_ways 0), .ref (a_t_stress 0)])), ((a_t_now 0), .inr (1, [.ref (a_t_now 1), .ref (a_t_now 2), .ref (a_t_now 3), .ref (a_t_now 4), .ref (a_t_now 5), .int t_now_told, .int t_now_lines, .int t_now_kinds, .int t_now_acts])), ((a_t_now 2), .inl (g.2.2.1 0, 144, .inl t_now_cells)), ((a_t_now 3), .inl (g.2.2.1 0, 31, .inl t_now_rows)), ((a_t_now 4), .inl (g.2.2.1 0, 31, .inl t_now_sizes)), ((a_t_now 5), .inl (g.2.2.1 0, 31, .inl t_now_rooms)), ((a_t_choices 0), .inr (0, [.ref (u 0), .ref b_t_choices_seen, .int x_t_choices_size, .int x_t_choices_ready, .int x_t_choices_pool, .int x_t_choices_plies, .int x_t_choices_room])), ((u 0), .inl (g.2.2.1 1, x_t_choices_rows_n, .inr (.inl x_t_choices_rows)))] → va_S A s.heap H locs → W p l e ⟨16, 1, lim0, 520⟩ s m args below meth c H locs 1 lim0 Q (F0 m pc ls [.int v]) := by
    intro u pc ls v x_t_choices_rows_n x_t_choices_rows x_t_choices_size x_t_choices_ready x_t_choices_pool x_t_choices_plies x_t_choices_room H locs hd h hP hD hS
    cases h
    exact hret u _ _ _ _ _ hd rfl hP hD hS
  unfold fX7_nearestAt at h
  refine lv_aload_n hx hb dX7_nearestAt_0 rfl (lv_at hl 0 rfl) ?_
  refine lv_iload_n hx hb dX7_nearestAt_1 rfl (lv_at hl 1 rfl) ?_
  refine ro_z (runV (As := [.int v1]) (rest := []) cx hl.1 (ctX7_isMask l g a_t a_t_tape a_t_reader a_t_now a_t_choices a_t_ways a_t_stress t_now_told t_now_lines t_now_kinds t_now_acts v1 (fX7_isMask t_now_told v1) rfl) kmX7_isMask kvX7_isMask lm_X7_239 ⟨rfl, rfl⟩ ⟨Nat.le_of_ble_eq_true rfl, Nat.le_of_ble_eq_true rfl⟩ (roV (q0 := 0) (ci := 6) hG (hP.sub [0, 1] rfl) hP rfl rfl) rfl rfl (Nat.le_of_ble_eq_true rfl) dX7_nearestAt_2 ⟨Nat.le_of_ble_eq_true rfl, (show (0 + 0 : Nat) ≤ lim0 by omega)⟩) (fun hz1 => ?_)
  refine lv_if_ne (tgt := 11) hx hb dX7_nearestAt_5 (by decide) (fun c2 => ?_) (fun c2 => ?_)
  · have h := itn c2 h
    refine lv_aload_n hx hb dX7_nearestAt_11 rfl (lv_at hl 0 rfl) ?_
    refine xa_get (C := RX7) (T := TX7) (N := 7) cx hG hP 0 rfl rfl uX7 4 (by decide) lf_X7_41 rfl dX7_nearestAt_12 ?_
    refine lv_aload_n hx hb dX7_nearestAt_15 rfl (lv_at hl 0 rfl) ?_
    refine xa_get (C := RX7) (T := TX7) (N := 7) cx hG hP 0 rfl rfl uX7 2 (by decide) lf_X7_30 rfl dX7_nearestAt_16 ?_
    obtain ⟨w4, w5, w6, w7, w8, w9, w10, hr3, h⟩ := ob7_out h
    refine rw_v (WN := fun u11 => [((a_t 0), .inr (6, [.ref (a_t_tape 0), .ref (a_t_reader 0), .ref (a_t_now 0), .ref (a_t 4), .ref (a_t_choices 0), .ref (a_t_ways 0), .ref (a_t_stress 0)])), ((a_t_choices 0), .inr (0, [.ref (u11 0), .ref b_t_choices_seen, .int w6, .int w7, .int w8, .int w9, .int w10])), ((u11 0), .inl (g.2.2.1 1, w4, .inr (.inl w5))), ((a_t_now 0), .inr (1, [.ref (a_t_now 1), .ref (a_t_now 2), .ref (a_t_now 3), .ref (a_t_now 4), .ref (a_t_now 5), .int t_now_told, .int t_now_lines, .int t_now_kinds, .int t_now_acts])), ((a_t_now 2), .inl (g.2.2.1 0, 144, .inl t_now_cells)), ((a_t_now 3), .inl (g.2.2.1 0, 31, .inl t_now_rows)), ((a_t_now 4), .inl (g.2.2.1 0, 31, .inl t_now_sizes)), ((a_t_now 5), .inl (g.2.2.1 0, 31, .inl t_now_rooms))]) (wr := [((a_t 0), .inr (6, [.ref (a_t_tape 0), .ref (a_t_reader 0), .ref (a_t_now 0), .ref (a_t 4), .ref (a_t_choices 0), .ref (a_t_ways 0), .ref (a_t_stress 0)]))]) (runVN (As := [.ref ((a_t_now 0))]) (rest := []) hG cx hl.1 (ctX0_prepare l g lim0 s.heap.size a_t_choices a_t_now b_t_choices_rows b_t_choices_seen t_choices_size t_choices_ready t_choices_pool t_choices_plies t_choices_room t_choices_rows_n t_choices_rows t_now_told t_now_lines t_now_kinds t_now_acts t_now_cells t_now_rows t_now_sizes t_now_rooms w4 w5 w6 w7 w8 w9 w10 hr3) kmX0_prepare kvX0_prepare nm_52 ⟨rfl, rfl⟩ ⟨Nat.le_of_ble_eq_true rfl, Nat.le_of_ble_eq_true rfl⟩ (rwV (q0 := 6) (ci := 0) hG (hP.sub [6, 7, 1, 2, 3, 4, 5] rfl) (hD.sub [6, 7, 1, 2, 3, 4, 5] (by decide) rfl) hAb hb0 hS hP rfl rfl) rfl rfl (Nat.le_of_ble_eq_true rfl) dX7_nearestAt_19 ⟨Nat.le_of_ble_eq_true rfl, (show (0 + lim0 : Nat) ≤ lim0 by omega)⟩) hP hD hS hA [6, 7, 1, 2, 3, 4, 5] [0] rfl rfl (by decide) (by decide) (fun _ => rfl) (fun u11 H locs hP hD hS => ?_)
    have hG := hGk hS
    refine lv_aload_n hx hb dX7_nearestAt_22 rfl (lv_at hl 0 rfl) ?_
    refine xa_get (C := RX7) (T := TX7) (N := 7) cx hG hP 0 rfl rfl uX7 4 (by decide) lf_X7_41 rfl dX7_nearestAt_23 ?_
    refine lv_iload_n hx hb dX7_nearestAt_26 rfl (lv_at hl 1 rfl) ?_
    refine lv_aload_n hx hb dX7_nearestAt_27 rfl (lv_at hl 0 rfl) ?_
    refine xa_get (C := RX7) (T := TX7) (N := 7) cx hG hP 0 rfl rfl uX7 2 (by decide) lf_X7_30 rfl dX7_nearestAt_28 ?_
    obtain ⟨r12, hr13, h⟩ := bnd h
    refine ro_i (runVN (As := []) (rest := [.int v1, .ref ((a_t_choices 0))]) hG cx hl.1 (ctX1_row l g a_t_now t_now_told t_now_lines t_now_kinds t_now_acts t_now_rows r12 hr13) kmX1_row kvX1_row nm_25 ⟨rfl, rfl⟩ ⟨Nat.le_of_ble_eq_true rfl, Nat.le_of_ble_eq_true rfl⟩ (roV (q0 := 3) (ci := 1) hG (hP.sub [3, 5] rfl) hP rfl rfl) rfl rfl (Nat.le_of_ble_eq_true rfl) dX7_nearestAt_31 ⟨Nat.le_of_ble_eq_true rfl, (show (0 + lim0 + 0 : Nat) ≤ lim0 by omega)⟩) ?_
    obtain ⟨r14, hr15, h⟩ := bnd h
    refine ro_i (runVN (As := [.int v1, .int r12]) (rest := []) hG cx hl.1 (ctX0_nearestIndex l g a_t_choices (u11 0) b_t_choices_seen w6 w7 w8 w9 w10 w4 w5 v1 r12 r14 hr15) kmX0_nearestIndex kvX0_nearestIndex nm_75 ⟨rfl, rfl⟩ ⟨Nat.le_of_ble_eq_true rfl, Nat.le_of_ble_eq_true rfl⟩ (roV (q0 := 1) (ci := 0) hG (hP.sub [1, 2] rfl) hP rfl rfl) rfl rfl (Nat.le_of_ble_eq_true rfl) dX7_nearestAt_34 ⟨Nat.le_of_ble_eq_true rfl, (show (0 + lim0 + 0 : Nat) ≤ lim0 by omega)⟩) ?_
    refine lv_istore_n (lv' := [(2, .int r14), (0, .ref ((a_t 0))), (1, .int v1)]) hx hb dX7_nearestAt_37 rfl hl (by decide) rfl (fun ls hl => ?_)
    refine lv_iload_n hx hb dX7_nearestAt_38 rfl (lv_at hl 0 rfl) ?_
    refine lv_iconst (v := -1) hx hb dX7_nearestAt_39 (by decide) ?_
    refine lv_icmp_ne (tgt := 47) hx hb dX7_nearestAt_40 (by decide) (fun c16 => ?_) (fun c16 => ?_)
    · have h := itn c16 h
      refine lv_aload_n hx hb dX7_nearestAt_47 rfl (lv_at hl 1 rfl) ?_
      refine xa_get (C := RX7) (T := TX7) (N := 7) cx hG hP 0 rfl rfl uX7 4 (by decide) lf_X7_41 rfl dX7_nearestAt_48 ?_
      refine lv_iload_n hx hb dX7_nearestAt_51 rfl (lv_at hl 2 rfl) ?_
      refine lv_iload_n hx hb dX7_nearestAt_52 rfl (lv_at hl 0 rfl) ?_
      obtain ⟨r17, hr18, h⟩ := bnd h
      refine ro_i (runVN (As := [.int v1, .int r14]) (rest := []) hG cx hl.1 (ctX0_placeAt l g a_t_choices (u11 0) b_t_choices_seen w6 w7 w8 w9 w10 w4 w5 v1 r14 r17 hr18) kmX0_placeAt kvX0_placeAt nm_73 ⟨rfl, rfl⟩ ⟨Nat.le_of_ble_eq_true rfl, Nat.le_of_ble_eq_true rfl⟩ (roV (q0 := 1) (ci := 0) hG (hP.sub [1, 2] rfl) hP rfl rfl) rfl rfl (Nat.le_of_ble_eq_true rfl) dX7_nearestAt_53 ⟨Nat.le_of_ble_eq_true rfl, (show (0 + lim0 + 0 : Nat) ≤ lim0 by omega)⟩) ?_
      refine W.widen (k := 1) (n := lim0) (Nat.le_of_ble_eq_true rfl) (show (0 + lim0 : Nat) ≤ lim0 by omega) ?_
      exact hrt (fun _ => (u11 0)) _ _ r17 w4 w5 w6 w7 w8 w9 w10 _ _ dX7_nearestAt_56 h (hP.sub [0, 3, 4, 5, 6, 7, 1, 2] rfl) (hD.sub [0, 3, 4, 5, 6, 7, 1, 2] (by decide) rfl) hS
    · have h := itp c16 h
      refine lv_iconst (v := -1) hx hb dX7_nearestAt_43 (by decide) ?_
      refine lv_goto (tgt := 56) hx hb dX7_nearestAt_44 (by decide) ?_
      refine W.widen (k := 1) (n := lim0) (Nat.le_of_ble_eq_true rfl) (show (0 + lim0 : Nat) ≤ lim0 by omega) ?_
      exact hrt (fun _ => (u11 0)) _ _ ((-1)) w4 w5 w6 w7 w8 w9 w10 _ _ dX7_nearestAt_56 h (hP.sub [0, 3, 4, 5, 6, 7, 1, 2] rfl) (hD.sub [0, 3, 4, 5, 6, 7, 1, 2] (by decide) rfl) hS
  · have h := itp c2 h
    refine lv_bipush (v := -2) hx hb dX7_nearestAt_8 (by decide) ?_
    refine W.widen (k := 1) (n := lim0) (Nat.le_of_ble_eq_true rfl) (show (0 : Nat) ≤ lim0 by omega) ?_
    exact hrt (fun _ => b_t_choices_rows) _ _ ((-2)) t_choices_rows_n t_choices_rows t_choices_size t_choices_ready t_choices_pool t_choices_plies t_choices_room _ _ dX7_nearestAt_10 h (hP.sub [0, 1, 2, 3, 4, 5, 6, 7] rfl) (hD.sub [0, 1, 2, 3, 4, 5, 6, 7] (by decide) rfl) hS
-- X7_unlike
theorem dX7_unlike_0 : decode cX7_unlike 0 = .ok (.aload_n 0, 1) := by decide +kernel
theorem dX7_unlike_1 : decode cX7_unlike 1 = .ok (.iload_n 1, 1) := by decide +kernel
theorem dX7_unlike_2 : decode cX7_unlike 2 = .ok (.invokevirtual 239, 3) := by decide +kernel
theorem dX7_unlike_5 : decode cX7_unlike 5 = .ok (.ifCond .ne 6, 3) := by decide +kernel
theorem dX7_unlike_8 : decode cX7_unlike 8 = .ok (.bipush (-2), 2) := by decide +kernel
theorem dX7_unlike_10 : decode cX7_unlike 10 = .ok (.ireturn, 1) := by decide +kernel
theorem dX7_unlike_11 : decode cX7_unlike 11 = .ok (.aload_n 0, 1) := by decide +kernel
theorem dX7_unlike_12 : decode cX7_unlike 12 = .ok (.getfield 41, 3) := by decide +kernel
theorem dX7_unlike_15 : decode cX7_unlike 15 = .ok (.aload_n 0, 1) := by decide +kernel
theorem dX7_unlike_16 : decode cX7_unlike 16 = .ok (.getfield 30, 3) := by decide +kernel
theorem dX7_unlike_19 : decode cX7_unlike 19 = .ok (.invokevirtual 242, 3) := by decide +kernel
theorem dX7_unlike_22 : decode cX7_unlike 22 = .ok (.aload_n 0, 1) := by decide +kernel
theorem dX7_unlike_23 : decode cX7_unlike 23 = .ok (.getfield 41, 3) := by decide +kernel
theorem dX7_unlike_26 : decode cX7_unlike 26 = .ok (.aload_n 0, 1) := by decide +kernel
theorem dX7_unlike_27 : decode cX7_unlike 27 = .ok (.getfield 30, 3) := by decide +kernel
theorem dX7_unlike_30 : decode cX7_unlike 30 = .ok (.iload_n 1, 1) := by decide +kernel
theorem dX7_unlike_31 : decode cX7_unlike 31 = .ok (.invokevirtual 277, 3) := by decide +kernel
theorem dX7_unlike_34 : decode cX7_unlike 34 = .ok (.ireturn, 1) := by decide +kernel
noncomputable def fX7_unlike (lim0 : Nat) (lim1 : Nat)  (t_now_cells : Nat → Int32) (t_now_rows : Nat → Int32) (t_now_sizes : Nat → Int32) (t_now_rooms : Nat → Int32) (t_now_told : Int32) (t_now_acts : Int32) (t_choices_rows_n : Nat) (t_choices_rows : Nat → Int64) (t_choices_seen_n : Nat) (t_choices_seen : Nat → Int64) (t_choices_size : Int32) (t_choices_ready : Int32) (t_choices_pool : Int32) (t_choices_plies : Int32) (t_choices_room : Int32) (v1 : Int32) : Option (Int32 × Nat × (Nat → Int64) × Nat × (Nat → Int64) × Int32 × Int32 × Int32 × Int32 × Int32) := (if (fX7_isMask t_now_told v1) = 0 then some ((-2), t_choices_rows_n, t_choices_rows, t_choices_seen_n, t_choices_seen, t_choices_size, t_choices_ready, t_choices_pool, t_choices_plies, t_choices_room) else ob7 (fX0_prepare lim0 t_choices_rows_n t_choices_rows t_choices_size t_choices_ready t_choices_pool t_choices_plies t_choices_room t_now_cells t_now_rows t_now_sizes t_now_rooms t_now_acts) fun w4 w5 w6 w7 w8 w9 w10 => ob3 (fX0_unlikeBends lim1 w4 w5 t_choices_seen_n t_choices_seen w6 w9 t_now_cells v1) fun r13 w14 w15 => some (r13, w4, w5, w14, w15, w6, w7, w8, w9, w10))
set_option maxHeartbeats 4000000 in
set_option maxRecDepth 100000 in
theorem ctX7_unlike (l : Launch) (g : GT) (lim0 : Nat) (lim1 : Nat) (sz : Nat) (a_t : Nat → Nat) (a_t_tape : Nat → Nat) (a_t_reader : Nat → Nat) (a_t_now : Nat → Nat) (a_t_choices : Nat → Nat) (a_t_ways : Nat → Nat) (a_t_stress : Nat → Nat) (b_t_choices_rows : Nat) (b_t_choices_seen : Nat) (t_now_told : Int32) (t_now_lines : Int32) (t_now_kinds : Int32) (t_now_acts : Int32) (t_now_cells : Nat → Int32) (t_now_rows : Nat → Int32) (t_now_sizes : Nat → Int32) (t_now_rooms : Nat → Int32) (t_choices_size : Int32) (t_choices_ready : Int32) (t_choices_pool : Int32) (t_choices_plies : Int32) (t_choices_room : Int32) (t_choices_rows_n : Nat) (t_choices_rows : Nat → Int64) (t_choices_seen_n : Nat) (t_choices_seen : Nat → Int64) (v1 : Int32) (o : Int32) (o_t_choices_rows_n : Nat) (o_t_choices_rows : Nat → Int64) (o_t_choices_seen_n : Nat) (o_t_choices_seen : Nat → Int64) (o_t_choices_size : Int32) (o_t_choices_ready : Int32) (o_t_choices_pool : Int32) (o_t_choices_plies : Int32) (o_t_choices_room : Int32) (h : fX7_unlike lim0 lim1 t_now_cells t_now_rows t_now_sizes t_now_rooms t_now_told t_now_acts t_choices_rows_n t_choices_rows t_choices_seen_n t_choices_seen t_choices_size t_choices_ready t_choices_pool t_choices_plies t_choices_room v1 = some (o, o_t_choices_rows_n, o_t_choices_rows, o_t_choices_seen_n, o_t_choices_seen, o_t_choices_size, o_t_choices_ready, o_t_choices_pool, o_t_choices_plies, o_t_choices_room)) : Met l yX7_unlike (Cond.code yX7_unlike cX7_unlike 2 (some .int) :: Tw) ⟨16, 2, lim0 + lim1, 520⟩ (va_Pc [.ref ((a_t 0)), .int v1] (rwB g [((a_t 0), .inr (6, [.ref (a_t_tape 0), .ref (a_t_reader 0), .ref (a_t_now 0), .ref (a_t 4), .ref (a_t_choices 0), .ref (a_t_ways 0), .ref (a_t_stress 0)])), ((a_t_now 0), .inr (1, [.ref (a_t_now 1), .ref (a_t_now 2), .ref (a_t_now 3), .ref (a_t_now 4), .ref (a_t_now 5), .int t_now_told, .int t_now_lines, .int t_now_kinds, .int t_now_acts])), ((a_t_now 2), .inl (g.2.2.1 0, 144, .inl t_now_cells)), ((a_t_now 3), .inl (g.2.2.1 0, 31, .inl t_now_rows)), ((a_t_now 4), .inl (g.2.2.1 0, 31, .inl t_now_sizes)), ((a_t_now 5), .inl (g.2.2.1 0, 31, .inl t_now_rooms)), ((a_t_choices 0), .inr (0, [.ref b_t_choices_rows, .ref b_t_choices_seen, .int t_choices_size, .int t_choices_ready, .int t_choices_pool, .int t_choices_plies, .int t_choices_room])), (b_t_choices_rows, .inl (g.2.2.1 1, t_choices_rows_n, .inr (.inl t_choices_rows))), (b_t_choices_seen, .inl (g.2.2.1 1, t_choices_seen_n, .inr (.inl t_choices_seen)))] sz)) (va_Qi (fun x (_ : Nat → Nat) => x = o) (fun u => rwE g (va_A [((a_t 0), .inr (6, [.ref (a_t_tape 0), .ref (a_t_reader 0), .ref (a_t_now 0), .ref (a_t 4), .ref (a_t_choices 0), .ref (a_t_ways 0), .ref (a_t_stress 0)])), ((a_t_now 0), .inr (1, [.ref (a_t_now 1), .ref (a_t_now 2), .ref (a_t_now 3), .ref (a_t_now 4), .ref (a_t_now 5), .int t_now_told, .int t_now_lines, .int t_now_kinds, .int t_now_acts])), ((a_t_now 2), .inl (g.2.2.1 0, 144, .inl t_now_cells)), ((a_t_now 3), .inl (g.2.2.1 0, 31, .inl t_now_rows)), ((a_t_now 4), .inl (g.2.2.1 0, 31, .inl t_now_sizes)), ((a_t_now 5), .inl (g.2.2.1 0, 31, .inl t_now_rooms)), ((a_t_choices 0), .inr (0, [.ref b_t_choices_rows, .ref b_t_choices_seen, .int t_choices_size, .int t_choices_ready, .int t_choices_pool, .int t_choices_plies, .int t_choices_room])), (b_t_choices_rows, .inl (g.2.2.1 1, t_choices_rows_n, .inr (.inl t_choices_rows))), (b_t_choices_seen, .inl (g.2.2.1 1, t_choices_seen_n, .inr (.inl t_choices_seen)))] sz) [((a_t 0), .inr (6, [.ref (a_t_tape 0), .ref (a_t_reader 0), .ref (a_t_now 0), .ref (a_t 4), .ref (a_t_choices 0), .ref (a_t_ways 0), .ref (a_t_stress 0)])), ((a_t_now 0), .inr (1, [.ref (a_t_now 1), .ref (a_t_now 2), .ref (a_t_now 3), .ref (a_t_now 4), .ref (a_t_now 5), .int t_now_told, .int t_now_lines, .int t_now_kinds, .int t_now_acts])), ((a_t_now 2), .inl (g.2.2.1 0, 144, .inl t_now_cells)), ((a_t_now 3), .inl (g.2.2.1 0, 31, .inl t_now_rows)), ((a_t_now 4), .inl (g.2.2.1 0, 31, .inl t_now_sizes)), ((a_t_now 5), .inl (g.2.2.1 0, 31, .inl t_now_rooms)), ((a_t_choices 0), .inr (0, [.ref (u 0), .ref (u 1), .int o_t_choices_size, .int o_t_choices_ready, .int o_t_choices_pool, .int o_t_choices_plies, .int o_t_choices_room])), ((u 0), .inl (g.2.2.1 1, o_t_choices_rows_n, .inr (.inl o_t_choices_rows))), ((u 1), .inl (g.2.2.1 1, o_t_choices_seen_n, .inr (.inl o_t_choices_seen)))]) (va_A [((a_t 0), .inr (6, [.ref (a_t_tape 0), .ref (a_t_reader 0), .ref (a_t_now 0), .ref (a_t 4), .ref (a_t_choices 0), .ref (a_t_ways 0), .ref (a_t_stress 0)])), ((a_t_now 0), .inr (1, [.ref (a_t_now 1), .ref (a_t_now 2), .ref (a_t_now 3), .ref (a_t_now 4), .ref (a_t_now 5), .int t_now_told, .int t_now_lines, .int t_now_kinds, .int t_now_acts])), ((a_t_now 2), .inl (g.2.2.1 0, 144, .inl t_now_cells)), ((a_t_now 3), .inl (g.2.2.1 0, 31, .inl t_now_rows)), ((a_t_now 4), .inl (g.2.2.1 0, 31, .inl t_now_sizes)), ((a_t_now 5), .inl (g.2.2.1 0, 31, .inl t_now_rooms)), ((a_t_choices 0), .inr (0, [.ref b_t_choices_rows, .ref b_t_choices_seen, .int t_choices_size, .int t_choices_ready, .int t_choices_pool, .int t_choices_plies, .int t_choices_room])), (b_t_choices_rows, .inl (g.2.2.1 1, t_choices_rows_n, .inr (.inl t_choices_rows))), (b_t_choices_seen, .inl (g.2.2.1 1, t_choices_seen_n, .inr (.inl t_choices_seen)))] sz)) 2 (lim0 + lim1) (va_A [((a_t 0), .inr (6, [.ref (a_t_tape 0), .ref (a_t_reader 0), .ref (a_t_now 0), .ref (a_t 4), .ref (a_t_choices 0), .ref (a_t_ways 0), .ref (a_t_stress 0)])), ((a_t_now 0), .inr (1, [.ref (a_t_now 1), .ref (a_t_now 2), .ref (a_t_now 3), .ref (a_t_now 4), .ref (a_t_now 5), .int t_now_told, .int t_now_lines, .int t_now_kinds, .int t_now_acts])), ((a_t_now 2), .inl (g.2.2.1 0, 144, .inl t_now_cells)), ((a_t_now 3), .inl (g.2.2.1 0, 31, .inl t_now_rows)), ((a_t_now 4), .inl (g.2.2.1 0, 31, .inl t_now_sizes)), ((a_t_now 5), .inl (g.2.2.1 0, 31, .inl t_now_rooms)), ((a_t_choices 0), .inr (0, [.ref b_t_choices_rows, .ref b_t_choices_seen, .int t_choices_size, .int t_choices_ready, .int t_choices_pool, .int t_choices_plies, .int t_choices_room])), (b_t_choices_rows, .inl (g.2.2.1 1, t_choices_rows_n, .inr (.inl t_choices_rows))), (b_t_choices_seen, .inl (g.2.2.1 1, t_choices_seen_n, .inr (.inl t_choices_seen)))] sz) := by
  refine rw_meti (by decide) (Nat.le_of_ble_eq_true rfl) (lv0 := [(0, .ref ((a_t 0))), (1, .int v1)]) rfl ?_
  intro p e s m args below meth c ls Q A cx hret hG hAb hb0 hA hP hD hl
  have hx := cx.1
  have hb := cx.2.1
  have hG0 := hG
  have hGk : ∀ {H : Heap} {locs : List Loc}, va_S A s.heap H locs → GE g s H := fun hS => hG0.keptS hAb hS
  have hSb : ∀ {H : Heap} {locs : List Loc}, va_S A s.heap H locs → va_S (fun a => g.1 ≤ a) s.heap H locs := fun hS => ⟨hS.1, fun q h1 h2 => hS.2.1 q h1 (fun z => h2 (hAb q z)), fun l hl => hAb _ (hS.2.2 l hl)⟩
  have hS : va_S A s.heap s.heap [] := va_S.rf
  have hrt : ∀ (u : Nat → Nat) (pc : Nat) (ls : Array Slot) (v : Int32) (x_t_choices_rows_n : Nat) (x_t_choices_rows : Nat → Int64) (x_t_choices_seen_n : Nat) (x_t_choices_seen : Nat → Int64) (x_t_choices_size : Int32) (x_t_choices_ready : Int32) (x_t_choices_pool : Int32) (x_t_choices_plies : Int32) (x_t_choices_room : Int32) (H : Heap) (locs : List Loc), decode cX7_unlike pc = .ok (.ireturn, 1) → some (v, x_t_choices_rows_n, x_t_choices_rows, x_t_choices_seen_n, x_t_choices_seen, x_t_choices_size, x_t_choices_ready, x_t_choices_pool, x_t_choices_plies, x_t_choices_room) = some (o, o_t_choices_rows_n, o_t_choices_rows, o_t_choices_seen_n, o_t_choices_seen, o_t_choices_size, o_t_choices_ready, o_t_choices_pool, o_t_choices_plies, o_t_choices_room) → va_P g.2.1 vwCl [((a_t 0), .inr (6, [.ref (a_t_tape 0), .ref (a_t_reader 0), .ref (a_t_now 0), .ref (a_t 4), .ref (a_t_choices 0), .ref (a_t_ways 0), .ref (a_t_stress 0)])), ((a_t_now 0), .inr (1, [.ref (a_t_now 1), .ref (a_t_now 2), .ref (a_t_now 3), .ref (a_t_now 4), .ref (a_t_now 5), .int t_now_told, .int t_now_lines, .int t_now_kinds, .int t_now_acts])), ((a_t_now 2), .inl (g.2.2.1 0, 144, .inl t_now_cells)), ((a_t_now 3), .inl (g.2.2.1 0, 31, .inl t_now_rows)), ((a_t_now 4), .inl (g.2.2.1 0, 31, .inl t_now_sizes)), ((a_t_now 5), .inl (g.2.2.1 0, 31, .inl t_now_rooms)), ((a_t_choices 0), .inr (0, [.ref (u 0), .ref (u 1), .int x_t_choices_size, .int x_t_choices_ready, .int x_t_choices_pool, .int x_t_choices_plies, .int x_t_choices_room])), ((u 0), .inl (g.2.2.1 1, x_t_choices_rows_n, .inr (.inl x_t_choices_rows))), ((u 1), .inl (g.2.2.1 1, x_t_choices_seen_n, .inr (.inl x_t_choices_seen)))] H → va_D A [((a_t 0), .inr (6, [.ref (a_t_tape 0), .ref (a_t_reader 0), .ref (a_t_now 0), .ref (a_t 4), .ref (a_t_choices 0), .ref (a_t_ways 0), .ref (a_t_stress 0)])), ((a_t_now 0), .inr (1, [.ref (a_t_now 1), .ref (a_t_now 2), .ref (a_t_now 3), .ref (a_t_now 4), .ref (a_t_now 5), .int t_now_told, .int t_now_lines, .int t_now_kinds, .int t_now_acts])), ((a_t_now 2), .inl (g.2.2.1 0, 144, .inl t_now_cells)), ((a_t_now 3), .inl (g.2.2.1 0, 31, .inl t_now_rows)), ((a_t_now 4), .inl (g.2.2.1 0, 31, .inl t_now_sizes)), ((a_t_now 5), .inl (g.2.2.1 0, 31, .inl t_now_rooms)), ((a_t_choices 0), .inr (0, [.ref (u 0), .ref (u 1), .int x_t_choices_size, .int x_t_choices_ready, .int x_t_choices_pool, .int x_t_choices_plies, .int x_t_choices_room])), ((u 0), .inl (g.2.2.1 1, x_t_choices_rows_n, .inr (.inl x_t_choices_rows))), ((u 1), .inl (g.2.2.1 1, x_t_choices_seen_n, .inr (.inl x_t_choices_seen)))] → va_S A s.heap H locs → W p l e ⟨16, 2, lim0 + lim1, 520⟩ s m args below meth c H locs 2 (lim0 + lim1) Q (F0 m pc ls [.int v]) := by
    intro u pc ls v x_t_choices_rows_n x_t_choices_rows x_t_choices_seen_n x_t_choices_seen x_t_choices_size x_t_choices_ready x_t_choices_pool x_t_choices_plies x_t_choices_room H locs hd h hP hD hS
    cases h
    exact hret u _ _ _ _ _ hd rfl hP hD hS
  unfold fX7_unlike at h
  refine lv_aload_n hx hb dX7_unlike_0 rfl (lv_at hl 0 rfl) ?_
  refine lv_iload_n hx hb dX7_unlike_1 rfl (lv_at hl 1 rfl) ?_
  refine ro_z (runV (As := [.int v1]) (rest := []) cx hl.1 (ctX7_isMask l g a_t a_t_tape a_t_reader a_t_now a_t_choices a_t_ways a_t_stress t_now_told t_now_lines t_now_kinds t_now_acts v1 (fX7_isMask t_now_told v1) rfl) kmX7_isMask kvX7_isMask lm_X7_239 ⟨rfl, rfl⟩ ⟨Nat.le_of_ble_eq_true rfl, Nat.le_of_ble_eq_true rfl⟩ (roV (q0 := 0) (ci := 6) hG (hP.sub [0, 1] rfl) hP rfl rfl) rfl rfl (Nat.le_of_ble_eq_true rfl) dX7_unlike_2 ⟨Nat.le_of_ble_eq_true rfl, (show (0 + 0 : Nat) ≤ lim0 + lim1 by omega)⟩) (fun hz1 => ?_)
  refine lv_if_ne (tgt := 11) hx hb dX7_unlike_5 (by decide) (fun c2 => ?_) (fun c2 => ?_)
  · have h := itn c2 h
    refine lv_aload_n hx hb dX7_unlike_11 rfl (lv_at hl 0 rfl) ?_
    refine xa_get (C := RX7) (T := TX7) (N := 7) cx hG hP 0 rfl rfl uX7 4 (by decide) lf_X7_41 rfl dX7_unlike_12 ?_
    refine lv_aload_n hx hb dX7_unlike_15 rfl (lv_at hl 0 rfl) ?_
    refine xa_get (C := RX7) (T := TX7) (N := 7) cx hG hP 0 rfl rfl uX7 2 (by decide) lf_X7_30 rfl dX7_unlike_16 ?_
    obtain ⟨w4, w5, w6, w7, w8, w9, w10, hr3, h⟩ := ob7_out h
    refine rw_v (WN := fun u11 => [((a_t 0), .inr (6, [.ref (a_t_tape 0), .ref (a_t_reader 0), .ref (a_t_now 0), .ref (a_t 4), .ref (a_t_choices 0), .ref (a_t_ways 0), .ref (a_t_stress 0)])), (b_t_choices_seen, .inl (g.2.2.1 1, t_choices_seen_n, .inr (.inl t_choices_seen))), ((a_t_choices 0), .inr (0, [.ref (u11 0), .ref b_t_choices_seen, .int w6, .int w7, .int w8, .int w9, .int w10])), ((u11 0), .inl (g.2.2.1 1, w4, .inr (.inl w5))), ((a_t_now 0), .inr (1, [.ref (a_t_now 1), .ref (a_t_now 2), .ref (a_t_now 3), .ref (a_t_now 4), .ref (a_t_now 5), .int t_now_told, .int t_now_lines, .int t_now_kinds, .int t_now_acts])), ((a_t_now 2), .inl (g.2.2.1 0, 144, .inl t_now_cells)), ((a_t_now 3), .inl (g.2.2.1 0, 31, .inl t_now_rows)), ((a_t_now 4), .inl (g.2.2.1 0, 31, .inl t_now_sizes)), ((a_t_now 5), .inl (g.2.2.1 0, 31, .inl t_now_rooms))]) (wr := [((a_t 0), .inr (6, [.ref (a_t_tape 0), .ref (a_t_reader 0), .ref (a_t_now 0), .ref (a_t 4), .ref (a_t_choices 0), .ref (a_t_ways 0), .ref (a_t_stress 0)])), (b_t_choices_seen, .inl (g.2.2.1 1, t_choices_seen_n, .inr (.inl t_choices_seen)))]) (runVN (As := [.ref ((a_t_now 0))]) (rest := []) hG cx hl.1 (ctX0_prepare l g lim0 s.heap.size a_t_choices a_t_now b_t_choices_rows b_t_choices_seen t_choices_size t_choices_ready t_choices_pool t_choices_plies t_choices_room t_choices_rows_n t_choices_rows t_now_told t_now_lines t_now_kinds t_now_acts t_now_cells t_now_rows t_now_sizes t_now_rooms w4 w5 w6 w7 w8 w9 w10 hr3) kmX0_prepare kvX0_prepare nm_52 ⟨rfl, rfl⟩ ⟨Nat.le_of_ble_eq_true rfl, Nat.le_of_ble_eq_true rfl⟩ (rwV (q0 := 6) (ci := 0) hG (hP.sub [6, 7, 1, 2, 3, 4, 5] rfl) (hD.sub [6, 7, 1, 2, 3, 4, 5] (by decide) rfl) hAb hb0 hS hP rfl rfl) rfl rfl (Nat.le_of_ble_eq_true rfl) dX7_unlike_19 ⟨Nat.le_of_ble_eq_true rfl, (show (0 + lim0 : Nat) ≤ lim0 + lim1 by omega)⟩) hP hD hS hA [6, 7, 1, 2, 3, 4, 5] [0, 8] rfl rfl (by decide) (by decide) (fun _ => rfl) (fun u11 H locs hP hD hS => ?_)
    have hG := hGk hS
    refine lv_aload_n hx hb dX7_unlike_22 rfl (lv_at hl 0 rfl) ?_
    refine xa_get (C := RX7) (T := TX7) (N := 7) cx hG hP 0 rfl rfl uX7 4 (by decide) lf_X7_41 rfl dX7_unlike_23 ?_
    refine lv_aload_n hx hb dX7_unlike_26 rfl (lv_at hl 0 rfl) ?_
    refine xa_get (C := RX7) (T := TX7) (N := 7) cx hG hP 0 rfl rfl uX7 2 (by decide) lf_X7_30 rfl dX7_unlike_27 ?_
    refine lv_iload_n hx hb dX7_unlike_30 rfl (lv_at hl 1 rfl) ?_
    obtain ⟨r13, w14, w15, hr12, h⟩ := ob3_out h
    refine rw_i (WN := fun u16 => [((a_t 0), .inr (6, [.ref (a_t_tape 0), .ref (a_t_reader 0), .ref (a_t_now 0), .ref (a_t 4), .ref (a_t_choices 0), .ref (a_t_ways 0), .ref (a_t_stress 0)])), ((a_t_now 3), .inl (g.2.2.1 0, 31, .inl t_now_rows)), ((a_t_now 4), .inl (g.2.2.1 0, 31, .inl t_now_sizes)), ((a_t_now 5), .inl (g.2.2.1 0, 31, .inl t_now_rooms)), ((a_t_choices 0), .inr (0, [.ref (u11 0), .ref (u16 0), .int w6, .int w7, .int w8, .int w9, .int w10])), ((u11 0), .inl (g.2.2.1 1, w4, .inr (.inl w5))), ((u16 0), .inl (g.2.2.1 1, w14, .inr (.inl w15))), ((a_t_now 0), .inr (1, [.ref (a_t_now 1), .ref (a_t_now 2), .ref (a_t_now 3), .ref (a_t_now 4), .ref (a_t_now 5), .int t_now_told, .int t_now_lines, .int t_now_kinds, .int t_now_acts])), ((a_t_now 2), .inl (g.2.2.1 0, 144, .inl t_now_cells))]) (wr := [((a_t 0), .inr (6, [.ref (a_t_tape 0), .ref (a_t_reader 0), .ref (a_t_now 0), .ref (a_t 4), .ref (a_t_choices 0), .ref (a_t_ways 0), .ref (a_t_stress 0)])), ((a_t_now 3), .inl (g.2.2.1 0, 31, .inl t_now_rows)), ((a_t_now 4), .inl (g.2.2.1 0, 31, .inl t_now_sizes)), ((a_t_now 5), .inl (g.2.2.1 0, 31, .inl t_now_rooms))]) (runVN (As := [.ref ((a_t_now 0)), .int v1]) (rest := []) hG cx hl.1 (ctX0_unlikeBends l g lim1 H.size a_t_choices a_t_now (u11 0) b_t_choices_seen w6 w7 w8 w9 w10 w4 w5 t_choices_seen_n t_choices_seen t_now_told t_now_lines t_now_kinds t_now_acts t_now_cells v1 r13 w14 w15 hr12) kmX0_unlikeBends kvX0_unlikeBends nm_78 ⟨rfl, rfl⟩ ⟨Nat.le_of_ble_eq_true rfl, Nat.le_of_ble_eq_true rfl⟩ (rwV (q0 := 2) (ci := 0) hG (hP.sub [2, 3, 1, 4, 5] rfl) (hD.sub [2, 3, 1, 4, 5] (by decide) rfl) hAb hb0 hS hP rfl rfl) rfl rfl (Nat.le_of_ble_eq_true rfl) dX7_unlike_31 ⟨Nat.le_of_ble_eq_true rfl, (show (0 + lim0 + lim1 : Nat) ≤ lim0 + lim1 by omega)⟩) hP hD hS hA [2, 3, 1, 4, 5] [0, 6, 7, 8] rfl rfl (by decide) (by decide) (fun _ => rfl) (fun u16 H locs hP hD hS => ?_)
    have hG := hGk hS
    refine W.widen (k := 2) (n := lim0 + lim1) (Nat.le_of_ble_eq_true rfl) (show (0 + lim0 + lim1 : Nat) ≤ lim0 + lim1 by omega) ?_
    exact hrt (uF (u11 0) (u16 0)) _ _ r13 w4 w5 w14 w15 w6 w7 w8 w9 w10 _ _ dX7_unlike_34 h (hP.sub [0, 7, 8, 1, 2, 3, 4, 5, 6] rfl) (hD.sub [0, 7, 8, 1, 2, 3, 4, 5, 6] (by decide) rfl) hS
  · have h := itp c2 h
    refine lv_bipush (v := -2) hx hb dX7_unlike_8 (by decide) ?_
    refine W.widen (k := 2) (n := lim0 + lim1) (Nat.le_of_ble_eq_true rfl) (show (0 : Nat) ≤ lim0 + lim1 by omega) ?_
    exact hrt (uF b_t_choices_rows b_t_choices_seen) _ _ ((-2)) t_choices_rows_n t_choices_rows t_choices_seen_n t_choices_seen t_choices_size t_choices_ready t_choices_pool t_choices_plies t_choices_room _ _ dX7_unlike_10 h (hP.sub [0, 1, 2, 3, 4, 5, 6, 7, 8] rfl) (hD.sub [0, 1, 2, 3, 4, 5, 6, 7, 8] (by decide) rfl) hS
-- X7_exchanges
theorem dX7_exchanges_0 : decode cX7_exchanges 0 = .ok (.aload_n 0, 1) := by decide +kernel
theorem dX7_exchanges_1 : decode cX7_exchanges 1 = .ok (.iload_n 1, 1) := by decide +kernel
theorem dX7_exchanges_2 : decode cX7_exchanges 2 = .ok (.invokevirtual 239, 3) := by decide +kernel
theorem dX7_exchanges_5 : decode cX7_exchanges 5 = .ok (.ifCond .eq 7, 3) := by decide +kernel
theorem dX7_exchanges_8 : decode cX7_exchanges 8 = .ok (.iload_n 2, 1) := by decide +kernel
theorem dX7_exchanges_9 : decode cX7_exchanges 9 = .ok (.ifCond .ge 6, 3) := by decide +kernel
theorem dX7_exchanges_12 : decode cX7_exchanges 12 = .ok (.bipush (-2), 2) := by decide +kernel
theorem dX7_exchanges_14 : decode cX7_exchanges 14 = .ok (.ireturn, 1) := by decide +kernel
theorem dX7_exchanges_15 : decode cX7_exchanges 15 = .ok (.aload_n 0, 1) := by decide +kernel
theorem dX7_exchanges_16 : decode cX7_exchanges 16 = .ok (.getfield 41, 3) := by decide +kernel
theorem dX7_exchanges_19 : decode cX7_exchanges 19 = .ok (.aload_n 0, 1) := by decide +kernel
theorem dX7_exchanges_20 : decode cX7_exchanges 20 = .ok (.getfield 30, 3) := by decide +kernel
theorem dX7_exchanges_23 : decode cX7_exchanges 23 = .ok (.invokevirtual 242, 3) := by decide +kernel
theorem dX7_exchanges_26 : decode cX7_exchanges 26 = .ok (.aload_n 0, 1) := by decide +kernel
theorem dX7_exchanges_27 : decode cX7_exchanges 27 = .ok (.getfield 41, 3) := by decide +kernel
theorem dX7_exchanges_30 : decode cX7_exchanges 30 = .ok (.iload_n 1, 1) := by decide +kernel
theorem dX7_exchanges_31 : decode cX7_exchanges 31 = .ok (.iload_n 2, 1) := by decide +kernel
theorem dX7_exchanges_32 : decode cX7_exchanges 32 = .ok (.invokevirtual 247, 3) := by decide +kernel
theorem dX7_exchanges_35 : decode cX7_exchanges 35 = .ok (.istore_n 3, 1) := by decide +kernel
theorem dX7_exchanges_36 : decode cX7_exchanges 36 = .ok (.iload_n 3, 1) := by decide +kernel
theorem dX7_exchanges_37 : decode cX7_exchanges 37 = .ok (.iconst (-1), 1) := by decide +kernel
theorem dX7_exchanges_38 : decode cX7_exchanges 38 = .ok (.if_icmp .ne 7, 3) := by decide +kernel
theorem dX7_exchanges_41 : decode cX7_exchanges 41 = .ok (.iconst (-1), 1) := by decide +kernel
theorem dX7_exchanges_42 : decode cX7_exchanges 42 = .ok (.goto 28, 3) := by decide +kernel
theorem dX7_exchanges_45 : decode cX7_exchanges 45 = .ok (.aload_n 0, 1) := by decide +kernel
theorem dX7_exchanges_46 : decode cX7_exchanges 46 = .ok (.getfield 30, 3) := by decide +kernel
theorem dX7_exchanges_49 : decode cX7_exchanges 49 = .ok (.invokevirtual 132, 3) := by decide +kernel
theorem dX7_exchanges_52 : decode cX7_exchanges 52 = .ok (.aload_n 0, 1) := by decide +kernel
theorem dX7_exchanges_53 : decode cX7_exchanges 53 = .ok (.getfield 41, 3) := by decide +kernel
theorem dX7_exchanges_56 : decode cX7_exchanges 56 = .ok (.iload_n 3, 1) := by decide +kernel
theorem dX7_exchanges_57 : decode cX7_exchanges 57 = .ok (.invokevirtual 250, 3) := by decide +kernel
theorem dX7_exchanges_60 : decode cX7_exchanges 60 = .ok (.aload_n 0, 1) := by decide +kernel
theorem dX7_exchanges_61 : decode cX7_exchanges 61 = .ok (.getfield 30, 3) := by decide +kernel
theorem dX7_exchanges_64 : decode cX7_exchanges 64 = .ok (.invokevirtual 97, 3) := by decide +kernel
theorem dX7_exchanges_67 : decode cX7_exchanges 67 = .ok (.invokestatic 280, 3) := by decide +kernel
theorem dX7_exchanges_70 : decode cX7_exchanges 70 = .ok (.ireturn, 1) := by decide +kernel
noncomputable def fX7_exchanges (lim0 : Nat)  (t_now_cells : Nat → Int32) (t_now_rows : Nat → Int32) (t_now_sizes : Nat → Int32) (t_now_rooms : Nat → Int32) (t_now_told : Int32) (t_now_acts : Int32) (t_choices_rows_n : Nat) (t_choices_rows : Nat → Int64) (t_choices_size : Int32) (t_choices_ready : Int32) (t_choices_pool : Int32) (t_choices_plies : Int32) (t_choices_room : Int32) (v1 : Int32) (v2 : Int32) : Option (Int32 × Nat × (Nat → Int64) × Int32 × Int32 × Int32 × Int32 × Int32) := (if (fX7_isMask t_now_told v1) = 0 then some ((-2), t_choices_rows_n, t_choices_rows, t_choices_size, t_choices_ready, t_choices_pool, t_choices_plies, t_choices_room) else (if 0 ≤ v2 then ob7 (fX0_prepare lim0 t_choices_rows_n t_choices_rows t_choices_size t_choices_ready t_choices_pool t_choices_plies t_choices_room t_now_cells t_now_rows t_now_sizes t_now_rooms t_now_acts) fun w5 w6 w7 w8 w9 w10 w11 => (fX0_find w5 w6 w7 v1 v2).bind fun r13 => (if r13 = (-1) then some ((-1), w5, w6, w7, w8, w9, w10, w11) else (fX1_row t_now_rows t_now_acts).bind fun r16 => (fX0_rowAt w5 w6 r13).bind fun r18 => (fX1_plies t_now_sizes t_now_acts).bind fun r20 => (fX3_neighbourExchanges r16 r18 r20).bind fun r22 => some (r22, w5, w6, w7, w8, w9, w10, w11)) else some ((-2), t_choices_rows_n, t_choices_rows, t_choices_size, t_choices_ready, t_choices_pool, t_choices_plies, t_choices_room)))
set_option maxHeartbeats 4000000 in
set_option maxRecDepth 100000 in
theorem ctX7_exchanges (l : Launch) (g : GT) (lim0 : Nat) (sz : Nat) (a_t : Nat → Nat) (a_t_tape : Nat → Nat) (a_t_reader : Nat → Nat) (a_t_now : Nat → Nat) (a_t_choices : Nat → Nat) (a_t_ways : Nat → Nat) (a_t_stress : Nat → Nat) (b_t_choices_rows : Nat) (b_t_choices_seen : Nat) (t_now_told : Int32) (t_now_lines : Int32) (t_now_kinds : Int32) (t_now_acts : Int32) (t_now_cells : Nat → Int32) (t_now_rows : Nat → Int32) (t_now_sizes : Nat → Int32) (t_now_rooms : Nat → Int32) (t_choices_size : Int32) (t_choices_ready : Int32) (t_choices_pool : Int32) (t_choices_plies : Int32) (t_choices_room : Int32) (t_choices_rows_n : Nat) (t_choices_rows : Nat → Int64) (v1 : Int32) (v2 : Int32) (o : Int32) (o_t_choices_rows_n : Nat) (o_t_choices_rows : Nat → Int64) (o_t_choices_size : Int32) (o_t_choices_ready : Int32) (o_t_choices_pool : Int32) (o_t_choices_plies : Int32) (o_t_choices_room : Int32) (h : fX7_exchanges lim0 t_now_cells t_now_rows t_now_sizes t_now_rooms t_now_told t_now_acts t_choices_rows_n t_choices_rows t_choices_size t_choices_ready t_choices_pool t_choices_plies t_choices_room v1 v2 = some (o, o_t_choices_rows_n, o_t_choices_rows, o_t_choices_size, o_t_choices_ready, o_t_choices_pool, o_t_choices_plies, o_t_choices_room)) : Met l yX7_exchanges (Cond.code yX7_exchanges cX7_exchanges 4 (some .int) :: Tw) ⟨16, 1, lim0, 520⟩ (va_Pc [.ref ((a_t 0)), .int v1, .int v2] (rwB g [((a_t 0), .inr (6, [.ref (a_t_tape 0), .ref (a_t_reader 0), .ref (a_t_now 0), .ref (a_t 4), .ref (a_t_choices 0), .ref (a_t_ways 0), .ref (a_t_stress 0)])), ((a_t_now 0), .inr (1, [.ref (a_t_now 1), .ref (a_t_now 2), .ref (a_t_now 3), .ref (a_t_now 4), .ref (a_t_now 5), .int t_now_told, .int t_now_lines, .int t_now_kinds, .int t_now_acts])), ((a_t_now 2), .inl (g.2.2.1 0, 144, .inl t_now_cells)), ((a_t_now 3), .inl (g.2.2.1 0, 31, .inl t_now_rows)), ((a_t_now 4), .inl (g.2.2.1 0, 31, .inl t_now_sizes)), ((a_t_now 5), .inl (g.2.2.1 0, 31, .inl t_now_rooms)), ((a_t_choices 0), .inr (0, [.ref b_t_choices_rows, .ref b_t_choices_seen, .int t_choices_size, .int t_choices_ready, .int t_choices_pool, .int t_choices_plies, .int t_choices_room])), (b_t_choices_rows, .inl (g.2.2.1 1, t_choices_rows_n, .inr (.inl t_choices_rows)))] sz)) (va_Qi (fun x (_ : Nat → Nat) => x = o) (fun u => rwE g (va_A [((a_t 0), .inr (6, [.ref (a_t_tape 0), .ref (a_t_reader 0), .ref (a_t_now 0), .ref (a_t 4), .ref (a_t_choices 0), .ref (a_t_ways 0), .ref (a_t_stress 0)])), ((a_t_now 0), .inr (1, [.ref (a_t_now 1), .ref (a_t_now 2), .ref (a_t_now 3), .ref (a_t_now 4), .ref (a_t_now 5), .int t_now_told, .int t_now_lines, .int t_now_kinds, .int t_now_acts])), ((a_t_now 2), .inl (g.2.2.1 0, 144, .inl t_now_cells)), ((a_t_now 3), .inl (g.2.2.1 0, 31, .inl t_now_rows)), ((a_t_now 4), .inl (g.2.2.1 0, 31, .inl t_now_sizes)), ((a_t_now 5), .inl (g.2.2.1 0, 31, .inl t_now_rooms)), ((a_t_choices 0), .inr (0, [.ref b_t_choices_rows, .ref b_t_choices_seen, .int t_choices_size, .int t_choices_ready, .int t_choices_pool, .int t_choices_plies, .int t_choices_room])), (b_t_choices_rows, .inl (g.2.2.1 1, t_choices_rows_n, .inr (.inl t_choices_rows)))] sz) [((a_t 0), .inr (6, [.ref (a_t_tape 0), .ref (a_t_reader 0), .ref (a_t_now 0), .ref (a_t 4), .ref (a_t_choices 0), .ref (a_t_ways 0), .ref (a_t_stress 0)])), ((a_t_now 0), .inr (1, [.ref (a_t_now 1), .ref (a_t_now 2), .ref (a_t_now 3), .ref (a_t_now 4), .ref (a_t_now 5), .int t_now_told, .int t_now_lines, .int t_now_kinds, .int t_now_acts])), ((a_t_now 2), .inl (g.2.2.1 0, 144, .inl t_now_cells)), ((a_t_now 3), .inl (g.2.2.1 0, 31, .inl t_now_rows)), ((a_t_now 4), .inl (g.2.2.1 0, 31, .inl t_now_sizes)), ((a_t_now 5), .inl (g.2.2.1 0, 31, .inl t_now_rooms)), ((a_t_choices 0), .inr (0, [.ref (u 0), .ref b_t_choices_seen, .int o_t_choices_size, .int o_t_choices_ready, .int o_t_choices_pool, .int o_t_choices_plies, .int o_t_choices_room])), ((u 0), .inl (g.2.2.1 1, o_t_choices_rows_n, .inr (.inl o_t_choices_rows)))]) (va_A [((a_t 0), .inr (6, [.ref (a_t_tape 0), .ref (a_t_reader 0), .ref (a_t_now 0), .ref (a_t 4), .ref (a_t_choices 0), .ref (a_t_ways 0), .ref (a_t_stress 0)])), ((a_t_now 0), .inr (1, [.ref (a_t_now 1), .ref (a_t_now 2), .ref (a_t_now 3), .ref (a_t_now 4), .ref (a_t_now 5), .int t_now_told, .int t_now_lines, .int t_now_kinds, .int t_now_acts])), ((a_t_now 2), .inl (g.2.2.1 0, 144, .inl t_now_cells)), ((a_t_now 3), .inl (g.2.2.1 0, 31, .inl t_now_rows)), ((a_t_now 4), .inl (g.2.2.1 0, 31, .inl t_now_sizes)), ((a_t_now 5), .inl (g.2.2.1 0, 31, .inl t_now_rooms)), ((a_t_choices 0), .inr (0, [.ref b_t_choices_rows, .ref b_t_choices_seen, .int t_choices_size, .int t_choices_ready, .int t_choices_pool, .int t_choices_plies, .int t_choices_room])), (b_t_choices_rows, .inl (g.2.2.1 1, t_choices_rows_n, .inr (.inl t_choices_rows)))] sz)) 1 lim0 (va_A [((a_t 0), .inr (6, [.ref (a_t_tape 0), .ref (a_t_reader 0), .ref (a_t_now 0), .ref (a_t 4), .ref (a_t_choices 0), .ref (a_t_ways 0), .ref (a_t_stress 0)])), ((a_t_now 0), .inr (1, [.ref (a_t_now 1), .ref (a_t_now 2), .ref (a_t_now 3), .ref (a_t_now 4), .ref (a_t_now 5), .int t_now_told, .int t_now_lines, .int t_now_kinds, .int t_now_acts])), ((a_t_now 2), .inl (g.2.2.1 0, 144, .inl t_now_cells)), ((a_t_now 3), .inl (g.2.2.1 0, 31, .inl t_now_rows)), ((a_t_now 4), .inl (g.2.2.1 0, 31, .inl t_now_sizes)), ((a_t_now 5), .inl (g.2.2.1 0, 31, .inl t_now_rooms)), ((a_t_choices 0), .inr (0, [.ref b_t_choices_rows, .ref b_t_choices_seen, .int t_choices_size, .int t_choices_ready, .int t_choices_pool, .int t_choices_plies, .int t_choices_room])), (b_t_choices_rows, .inl (g.2.2.1 1, t_choices_rows_n, .inr (.inl t_choices_rows)))] sz) := by
  refine rw_meti (by decide) (Nat.le_of_ble_eq_true rfl) (lv0 := [(0, .ref ((a_t 0))), (1, .int v1), (2, .int v2)]) rfl ?_
  intro p e s m args below meth c ls Q A cx hret hG hAb hb0 hA hP hD hl
  have hx := cx.1
  have hb := cx.2.1
  have hG0 := hG
  have hGk : ∀ {H : Heap} {locs : List Loc}, va_S A s.heap H locs → GE g s H := fun hS => hG0.keptS hAb hS
  have hSb : ∀ {H : Heap} {locs : List Loc}, va_S A s.heap H locs → va_S (fun a => g.1 ≤ a) s.heap H locs := fun hS => ⟨hS.1, fun q h1 h2 => hS.2.1 q h1 (fun z => h2 (hAb q z)), fun l hl => hAb _ (hS.2.2 l hl)⟩
  have hS : va_S A s.heap s.heap [] := va_S.rf
  have hrt : ∀ (u : Nat → Nat) (pc : Nat) (ls : Array Slot) (v : Int32) (x_t_choices_rows_n : Nat) (x_t_choices_rows : Nat → Int64) (x_t_choices_size : Int32) (x_t_choices_ready : Int32) (x_t_choices_pool : Int32) (x_t_choices_plies : Int32) (x_t_choices_room : Int32) (H : Heap) (locs : List Loc), decode cX7_exchanges pc = .ok (.ireturn, 1) → some (v, x_t_choices_rows_n, x_t_choices_rows, x_t_choices_size, x_t_choices_ready, x_t_choices_pool, x_t_choices_plies, x_t_choices_room) = some (o, o_t_choices_rows_n, o_t_choices_rows, o_t_choices_size, o_t_choices_ready, o_t_choices_pool, o_t_choices_plies, o_t_choices_room) → va_P g.2.1 vwCl [((a_t 0), .inr (6, [.ref (a_t_tape 0), .ref (a_t_reader 0), .ref (a_t_now 0), .ref (a_t 4), .ref (a_t_choices 0), .ref (a_t_ways 0), .ref (a_t_stress 0)])), ((a_t_now 0), .inr (1, [.ref (a_t_now 1), .ref (a_t_now 2), .ref (a_t_now 3), .ref (a_t_now 4), .ref (a_t_now 5), .int t_now_told, .int t_now_lines, .int t_now_kinds, .int t_now_acts])), ((a_t_now 2), .inl (g.2.2.1 0, 144, .inl t_now_cells)), ((a_t_now 3), .inl (g.2.2.1 0, 31, .inl t_now_rows)), ((a_t_now 4), .inl (g.2.2.1 0, 31, .inl t_now_sizes)), ((a_t_now 5), .inl (g.2.2.1 0, 31, .inl t_now_rooms)), ((a_t_choices 0), .inr (0, [.ref (u 0), .ref b_t_choices_seen, .int x_t_choices_size, .int x_t_choices_ready, .int x_t_choices_pool, .int x_t_choices_plies, .int x_t_choices_room])), ((u 0), .inl (g.2.2.1 1, x_t_choices_rows_n, .inr (.inl x_t_choices_rows)))] H → va_D A [((a_t 0), .inr (6, [.ref (a_t_tape 0), .ref (a_t_reader 0), .ref (a_t_now 0), .ref (a_t 4), .ref (a_t_choices 0), .ref (a_t_ways 0), .ref (a_t_stress 0)])), ((a_t_now 0), .inr (1, [.ref (a_t_now 1), .ref (a_t_now 2), .ref (a_t_now 3), .ref (a_t_now 4), .ref (a_t_now 5), .int t_now_told, .int t_now_lines, .int t_now_kinds, .int t_now_acts])), ((a_t_now 2), .inl (g.2.2.1 0, 144, .inl t_now_cells)), ((a_t_now 3), .inl (g.2.2.1 0, 31, .inl t_now_rows)), ((a_t_now 4), .inl (g.2.2.1 0, 31, .inl t_now_sizes)), ((a_t_now 5), .inl (g.2.2.1 0, 31, .inl t_now_rooms)), ((a_t_choices 0), .inr (0, [.ref (u 0), .ref b_t_choices_seen, .int x_t_choices_size, .int x_t_choices_ready, .int x_t_choices_pool, .int x_t_choices_plies, .int x_t_choices_room])), ((u 0), .inl (g.2.2.1 1, x_t_choices_rows_n, .inr (.inl x_t_choices_rows)))] → va_S A s.heap H locs → W p l e ⟨16, 1, lim0, 520⟩ s m args below meth c H locs 1 lim0 Q (F0 m pc ls [.int v]) := by
    intro u pc ls v x_t_choices_rows_n x_t_choices_rows x_t_choices_size x_t_choices_ready x_t_choices_pool x_t_choices_plies x_t_choices_room H locs hd h hP hD hS
    cases h
    exact hret u _ _ _ _ _ hd rfl hP hD hS
  unfold fX7_exchanges at h
  refine lv_aload_n hx hb dX7_exchanges_0 rfl (lv_at hl 0 rfl) ?_
  refine lv_iload_n hx hb dX7_exchanges_1 rfl (lv_at hl 1 rfl) ?_
  refine ro_z (runV (As := [.int v1]) (rest := []) cx hl.1 (ctX7_isMask l g a_t a_t_tape a_t_reader a_t_now a_t_choices a_t_ways a_t_stress t_now_told t_now_lines t_now_kinds t_now_acts v1 (fX7_isMask t_now_told v1) rfl) kmX7_isMask kvX7_isMask lm_X7_239 ⟨rfl, rfl⟩ ⟨Nat.le_of_ble_eq_true rfl, Nat.le_of_ble_eq_true rfl⟩ (roV (q0 := 0) (ci := 6) hG (hP.sub [0, 1] rfl) hP rfl rfl) rfl rfl (Nat.le_of_ble_eq_true rfl) dX7_exchanges_2 ⟨Nat.le_of_ble_eq_true rfl, (show (0 + 0 : Nat) ≤ lim0 by omega)⟩) (fun hz1 => ?_)
  refine lv_if_eq (tgt := 12) hx hb dX7_exchanges_5 (by decide) (fun c2 => ?_) (fun c2 => ?_)
  · have h := itp c2 h
    refine lv_bipush (v := -2) hx hb dX7_exchanges_12 (by decide) ?_
    refine W.widen (k := 1) (n := lim0) (Nat.le_of_ble_eq_true rfl) (show (0 : Nat) ≤ lim0 by omega) ?_
    exact hrt (fun _ => b_t_choices_rows) _ _ ((-2)) t_choices_rows_n t_choices_rows t_choices_size t_choices_ready t_choices_pool t_choices_plies t_choices_room _ _ dX7_exchanges_14 h (hP.sub [0, 1, 2, 3, 4, 5, 6, 7] rfl) (hD.sub [0, 1, 2, 3, 4, 5, 6, 7] (by decide) rfl) hS
  · have h := itn c2 h
    refine lv_iload_n hx hb dX7_exchanges_8 rfl (lv_at hl 2 rfl) ?_
    refine lv_if_ge (tgt := 15) hx hb dX7_exchanges_9 (by decide) (fun c3 => ?_) (fun c3 => ?_)
    · have h := itp c3 h
      refine lv_aload_n hx hb dX7_exchanges_15 rfl (lv_at hl 0 rfl) ?_
      refine xa_get (C := RX7) (T := TX7) (N := 7) cx hG hP 0 rfl rfl uX7 4 (by decide) lf_X7_41 rfl dX7_exchanges_16 ?_
      refine lv_aload_n hx hb dX7_exchanges_19 rfl (lv_at hl 0 rfl) ?_
      refine xa_get (C := RX7) (T := TX7) (N := 7) cx hG hP 0 rfl rfl uX7 2 (by decide) lf_X7_30 rfl dX7_exchanges_20 ?_
      obtain ⟨w5, w6, w7, w8, w9, w10, w11, hr4, h⟩ := ob7_out h
      refine rw_v (WN := fun u12 => [((a_t 0), .inr (6, [.ref (a_t_tape 0), .ref (a_t_reader 0), .ref (a_t_now 0), .ref (a_t 4), .ref (a_t_choices 0), .ref (a_t_ways 0), .ref (a_t_stress 0)])), ((a_t_choices 0), .inr (0, [.ref (u12 0), .ref b_t_choices_seen, .int w7, .int w8, .int w9, .int w10, .int w11])), ((u12 0), .inl (g.2.2.1 1, w5, .inr (.inl w6))), ((a_t_now 0), .inr (1, [.ref (a_t_now 1), .ref (a_t_now 2), .ref (a_t_now 3), .ref (a_t_now 4), .ref (a_t_now 5), .int t_now_told, .int t_now_lines, .int t_now_kinds, .int t_now_acts])), ((a_t_now 2), .inl (g.2.2.1 0, 144, .inl t_now_cells)), ((a_t_now 3), .inl (g.2.2.1 0, 31, .inl t_now_rows)), ((a_t_now 4), .inl (g.2.2.1 0, 31, .inl t_now_sizes)), ((a_t_now 5), .inl (g.2.2.1 0, 31, .inl t_now_rooms))]) (wr := [((a_t 0), .inr (6, [.ref (a_t_tape 0), .ref (a_t_reader 0), .ref (a_t_now 0), .ref (a_t 4), .ref (a_t_choices 0), .ref (a_t_ways 0), .ref (a_t_stress 0)]))]) (runVN (As := [.ref ((a_t_now 0))]) (rest := []) hG cx hl.1 (ctX0_prepare l g lim0 s.heap.size a_t_choices a_t_now b_t_choices_rows b_t_choices_seen t_choices_size t_choices_ready t_choices_pool t_choices_plies t_choices_room t_choices_rows_n t_choices_rows t_now_told t_now_lines t_now_kinds t_now_acts t_now_cells t_now_rows t_now_sizes t_now_rooms w5 w6 w7 w8 w9 w10 w11 hr4) kmX0_prepare kvX0_prepare nm_52 ⟨rfl, rfl⟩ ⟨Nat.le_of_ble_eq_true rfl, Nat.le_of_ble_eq_true rfl⟩ (rwV (q0 := 6) (ci := 0) hG (hP.sub [6, 7, 1, 2, 3, 4, 5] rfl) (hD.sub [6, 7, 1, 2, 3, 4, 5] (by decide) rfl) hAb hb0 hS hP rfl rfl) rfl rfl (Nat.le_of_ble_eq_true rfl) dX7_exchanges_23 ⟨Nat.le_of_ble_eq_true rfl, (show (0 + lim0 : Nat) ≤ lim0 by omega)⟩) hP hD hS hA [6, 7, 1, 2, 3, 4, 5] [0] rfl rfl (by decide) (by decide) (fun _ => rfl) (fun u12 H locs hP hD hS => ?_)
      have hG := hGk hS
      refine lv_aload_n hx hb dX7_exchanges_26 rfl (lv_at hl 0 rfl) ?_
      refine xa_get (C := RX7) (T := TX7) (N := 7) cx hG hP 0 rfl rfl uX7 4 (by decide) lf_X7_41 rfl dX7_exchanges_27 ?_
      refine lv_iload_n hx hb dX7_exchanges_30 rfl (lv_at hl 1 rfl) ?_
      refine lv_iload_n hx hb dX7_exchanges_31 rfl (lv_at hl 2 rfl) ?_
      obtain ⟨r13, hr14, h⟩ := bnd h
      refine ro_i (runVN (As := [.int v1, .int v2]) (rest := []) hG cx hl.1 (ctX0_find l g a_t_choices (u12 0) b_t_choices_seen w7 w8 w9 w10 w11 w5 w6 v1 v2 r13 hr14) kmX0_find kvX0_find nm_66 ⟨rfl, rfl⟩ ⟨Nat.le_of_ble_eq_true rfl, Nat.le_of_ble_eq_true rfl⟩ (roV (q0 := 1) (ci := 0) hG (hP.sub [1, 2] rfl) hP rfl rfl) rfl rfl (Nat.le_of_ble_eq_true rfl) dX7_exchanges_32 ⟨Nat.le_of_ble_eq_true rfl, (show (0 + lim0 + 0 : Nat) ≤ lim0 by omega)⟩) ?_
      refine lv_istore_n (lv' := [(3, .int r13), (0, .ref ((a_t 0))), (1, .int v1), (2, .int v2)]) hx hb dX7_exchanges_35 rfl hl (by decide) rfl (fun ls hl => ?_)
      refine lv_iload_n hx hb dX7_exchanges_36 rfl (lv_at hl 0 rfl) ?_
      refine lv_iconst (v := -1) hx hb dX7_exchanges_37 (by decide) ?_
      refine lv_icmp_ne (tgt := 45) hx hb dX7_exchanges_38 (by decide) (fun c15 => ?_) (fun c15 => ?_)
      · have h := itn c15 h
        refine lv_aload_n hx hb dX7_exchanges_45 rfl (lv_at hl 1 rfl) ?_
        refine xa_get (C := RX7) (T := TX7) (N := 7) cx hG hP 0 rfl rfl uX7 2 (by decide) lf_X7_30 rfl dX7_exchanges_46 ?_
        obtain ⟨r16, hr17, h⟩ := bnd h
        refine ro_i (runVN (As := []) (rest := []) hG cx hl.1 (ctX1_row l g a_t_now t_now_told t_now_lines t_now_kinds t_now_acts t_now_rows r16 hr17) kmX1_row kvX1_row nm_25 ⟨rfl, rfl⟩ ⟨Nat.le_of_ble_eq_true rfl, Nat.le_of_ble_eq_true rfl⟩ (roV (q0 := 3) (ci := 1) hG (hP.sub [3, 5] rfl) hP rfl rfl) rfl rfl (Nat.le_of_ble_eq_true rfl) dX7_exchanges_49 ⟨Nat.le_of_ble_eq_true rfl, (show (0 + lim0 + 0 : Nat) ≤ lim0 by omega)⟩) ?_
        refine lv_aload_n hx hb dX7_exchanges_52 rfl (lv_at hl 1 rfl) ?_
        refine xa_get (C := RX7) (T := TX7) (N := 7) cx hG hP 0 rfl rfl uX7 4 (by decide) lf_X7_41 rfl dX7_exchanges_53 ?_
        refine lv_iload_n hx hb dX7_exchanges_56 rfl (lv_at hl 0 rfl) ?_
        obtain ⟨r18, hr19, h⟩ := bnd h
        refine ro_i (runVN (As := [.int r13]) (rest := [.int r16]) hG cx hl.1 (ctX0_rowAt l g a_t_choices (u12 0) b_t_choices_seen w7 w8 w9 w10 w11 w5 w6 r13 r18 hr19) kmX0_rowAt kvX0_rowAt nm_67 ⟨rfl, rfl⟩ ⟨Nat.le_of_ble_eq_true rfl, Nat.le_of_ble_eq_true rfl⟩ (roV (q0 := 1) (ci := 0) hG (hP.sub [1, 2] rfl) hP rfl rfl) rfl rfl (Nat.le_of_ble_eq_true rfl) dX7_exchanges_57 ⟨Nat.le_of_ble_eq_true rfl, (show (0 + lim0 + 0 : Nat) ≤ lim0 by omega)⟩) ?_
        refine lv_aload_n hx hb dX7_exchanges_60 rfl (lv_at hl 1 rfl) ?_
        refine xa_get (C := RX7) (T := TX7) (N := 7) cx hG hP 0 rfl rfl uX7 2 (by decide) lf_X7_30 rfl dX7_exchanges_61 ?_
        obtain ⟨r20, hr21, h⟩ := bnd h
        refine ro_i (runVN (As := []) (rest := [.int r18, .int r16]) hG cx hl.1 (ctX1_plies l g a_t_now t_now_told t_now_lines t_now_kinds t_now_acts t_now_sizes r20 hr21) kmX1_plies kvX1_plies nm_17 ⟨rfl, rfl⟩ ⟨Nat.le_of_ble_eq_true rfl, Nat.le_of_ble_eq_true rfl⟩ (roV (q0 := 3) (ci := 1) hG (hP.sub [3, 6] rfl) hP rfl rfl) rfl rfl (Nat.le_of_ble_eq_true rfl) dX7_exchanges_64 ⟨Nat.le_of_ble_eq_true rfl, (show (0 + lim0 + 0 : Nat) ≤ lim0 by omega)⟩) ?_
        obtain ⟨r22, hr23, h⟩ := bnd h
        refine ro_i (runSN (As := [.int r16, .int r18, .int r20]) (rest := []) hG cx hl.1 (ctX3_neighbourExchanges l g r16 r18 r20 r22 hr23) kmX3_neighbourExchanges ksX3_neighbourExchanges nm_79 ⟨rfl, rfl⟩ ⟨Nat.le_of_ble_eq_true rfl, Nat.le_of_ble_eq_true rfl⟩ (roS hG (hP.sub [] rfl)) rfl rfl (Nat.le_of_ble_eq_true rfl) dX7_exchanges_67 ⟨Nat.le_of_ble_eq_true rfl, (show (0 + lim0 + 0 : Nat) ≤ lim0 by omega)⟩) ?_
        refine W.widen (k := 1) (n := lim0) (Nat.le_of_ble_eq_true rfl) (show (0 + lim0 : Nat) ≤ lim0 by omega) ?_
        exact hrt (fun _ => (u12 0)) _ _ r22 w5 w6 w7 w8 w9 w10 w11 _ _ dX7_exchanges_70 h (hP.sub [0, 3, 4, 5, 6, 7, 1, 2] rfl) (hD.sub [0, 3, 4, 5, 6, 7, 1, 2] (by decide) rfl) hS
      · have h := itp c15 h
        refine lv_iconst (v := -1) hx hb dX7_exchanges_41 (by decide) ?_
        refine lv_goto (tgt := 70) hx hb dX7_exchanges_42 (by decide) ?_
        refine W.widen (k := 1) (n := lim0) (Nat.le_of_ble_eq_true rfl) (show (0 + lim0 : Nat) ≤ lim0 by omega) ?_
        exact hrt (fun _ => (u12 0)) _ _ ((-1)) w5 w6 w7 w8 w9 w10 w11 _ _ dX7_exchanges_70 h (hP.sub [0, 3, 4, 5, 6, 7, 1, 2] rfl) (hD.sub [0, 3, 4, 5, 6, 7, 1, 2] (by decide) rfl) hS
    · have h := itn c3 h
      refine lv_bipush (v := -2) hx hb dX7_exchanges_12 (by decide) ?_
      refine W.widen (k := 1) (n := lim0) (Nat.le_of_ble_eq_true rfl) (show (0 : Nat) ≤ lim0 by omega) ?_
      exact hrt (fun _ => b_t_choices_rows) _ _ ((-2)) t_choices_rows_n t_choices_rows t_choices_size t_choices_ready t_choices_pool t_choices_plies t_choices_room _ _ dX7_exchanges_14 h (hP.sub [0, 1, 2, 3, 4, 5, 6, 7] rfl) (hD.sub [0, 1, 2, 3, 4, 5, 6, 7] (by decide) rfl) hS
-- X7_thinner
theorem dX7_thinner_0 : decode cX7_thinner 0 = .ok (.aload_n 0, 1) := by decide +kernel
theorem dX7_thinner_1 : decode cX7_thinner 1 = .ok (.iload_n 2, 1) := by decide +kernel
theorem dX7_thinner_2 : decode cX7_thinner 2 = .ok (.invokevirtual 239, 3) := by decide +kernel
theorem dX7_thinner_5 : decode cX7_thinner 5 = .ok (.ifCond .eq 19, 3) := by decide +kernel
theorem dX7_thinner_8 : decode cX7_thinner 8 = .ok (.iload_n 1, 1) := by decide +kernel
theorem dX7_thinner_9 : decode cX7_thinner 9 = .ok (.iconst 1, 1) := by decide +kernel
theorem dX7_thinner_10 : decode cX7_thinner 10 = .ok (.if_icmp .lt 14, 3) := by decide +kernel
theorem dX7_thinner_13 : decode cX7_thinner 13 = .ok (.iload_n 1, 1) := by decide +kernel
theorem dX7_thinner_14 : decode cX7_thinner 14 = .ok (.aload_n 0, 1) := by decide +kernel
theorem dX7_thinner_15 : decode cX7_thinner 15 = .ok (.getfield 30, 3) := by decide +kernel
theorem dX7_thinner_18 : decode cX7_thinner 18 = .ok (.invokevirtual 97, 3) := by decide +kernel
theorem dX7_thinner_21 : decode cX7_thinner 21 = .ok (.if_icmp .le 6, 3) := by decide +kernel
theorem dX7_thinner_24 : decode cX7_thinner 24 = .ok (.bipush (-2), 2) := by decide +kernel
theorem dX7_thinner_26 : decode cX7_thinner 26 = .ok (.ireturn, 1) := by decide +kernel
theorem dX7_thinner_27 : decode cX7_thinner 27 = .ok (.aload_n 0, 1) := by decide +kernel
theorem dX7_thinner_28 : decode cX7_thinner 28 = .ok (.getfield 48, 3) := by decide +kernel
theorem dX7_thinner_31 : decode cX7_thinner 31 = .ok (.aload_n 0, 1) := by decide +kernel
theorem dX7_thinner_32 : decode cX7_thinner 32 = .ok (.getfield 30, 3) := by decide +kernel
theorem dX7_thinner_35 : decode cX7_thinner 35 = .ok (.iload_n 1, 1) := by decide +kernel
theorem dX7_thinner_36 : decode cX7_thinner 36 = .ok (.iload_n 2, 1) := by decide +kernel
theorem dX7_thinner_37 : decode cX7_thinner 37 = .ok (.invokevirtual 283, 3) := by decide +kernel
theorem dX7_thinner_40 : decode cX7_thinner 40 = .ok (.ireturn, 1) := by decide +kernel
noncomputable def fX7_thinner  (t_now_cells : Nat → Int32) (t_now_rows : Nat → Int32) (t_now_sizes : Nat → Int32) (t_now_rooms : Nat → Int32) (t_now_told : Int32) (t_now_acts : Int32) (v1 : Int32) (v2 : Int32) : Option (Int32) := (if (fX7_isMask t_now_told v2) = 0 then some (-2) else (if v1 < 1 then some (-2) else (fX1_plies t_now_sizes t_now_acts).bind fun r4 => (if v1 ≤ r4 then (fX6_thinnerSets t_now_cells t_now_rows t_now_sizes t_now_rooms t_now_acts v1 v2).bind fun r7 => some r7 else some (-2))))
set_option maxHeartbeats 4000000 in
set_option maxRecDepth 100000 in
theorem ctX7_thinner (l : Launch) (g : GT) (a_t : Nat → Nat) (a_t_tape : Nat → Nat) (a_t_reader : Nat → Nat) (a_t_now : Nat → Nat) (a_t_choices : Nat → Nat) (a_t_ways : Nat → Nat) (a_t_stress : Nat → Nat) (t_now_told : Int32) (t_now_lines : Int32) (t_now_kinds : Int32) (t_now_acts : Int32) (t_now_cells : Nat → Int32) (t_now_rows : Nat → Int32) (t_now_sizes : Nat → Int32) (t_now_rooms : Nat → Int32) (t_ways_all : Int32) (t_ways_stride : Int32) (v1 : Int32) (v2 : Int32) (o : Int32) (h : fX7_thinner t_now_cells t_now_rows t_now_sizes t_now_rooms t_now_told t_now_acts v1 v2 = some o) : Met l yX7_thinner (Cond.code yX7_thinner cX7_thinner 3 (some .int) :: Tw) ⟨7, 0, 0, 170⟩ (va_Pc [.ref ((a_t 0)), .int v1, .int v2] (roB g [((a_t 0), .inr (6, [.ref (a_t_tape 0), .ref (a_t_reader 0), .ref (a_t_now 0), .ref (a_t 4), .ref (a_t_choices 0), .ref (a_t_ways 0), .ref (a_t_stress 0)])), ((a_t_now 0), .inr (1, [.ref (a_t_now 1), .ref (a_t_now 2), .ref (a_t_now 3), .ref (a_t_now 4), .ref (a_t_now 5), .int t_now_told, .int t_now_lines, .int t_now_kinds, .int t_now_acts])), ((a_t_now 2), .inl (g.2.2.1 0, 144, .inl t_now_cells)), ((a_t_now 3), .inl (g.2.2.1 0, 31, .inl t_now_rows)), ((a_t_now 4), .inl (g.2.2.1 0, 31, .inl t_now_sizes)), ((a_t_now 5), .inl (g.2.2.1 0, 31, .inl t_now_rooms)), ((a_t_ways 0), .inr (5, [.ref (a_t_ways 1), .int t_ways_all, .int t_ways_stride]))])) (vp_Si (fun x => x = o)) 0 0 (fun _ => False) := by
  refine ro_meti (by decide) (Nat.le_of_ble_eq_true rfl) (lv0 := [(0, .ref ((a_t 0))), (1, .int v1), (2, .int v2)]) rfl ?_
  intro p e s m args below meth c ls Q cx hret hG hP hl
  have hx := cx.1
  have hb := cx.2.1
  have hG0 := hG
  unfold fX7_thinner at h
  refine lv_aload_n hx hb dX7_thinner_0 rfl (lv_at hl 0 rfl) ?_
  refine lv_iload_n hx hb dX7_thinner_1 rfl (lv_at hl 2 rfl) ?_
  refine ro_z (runV (As := [.int v2]) (rest := []) cx hl.1 (ctX7_isMask l g a_t a_t_tape a_t_reader a_t_now a_t_choices a_t_ways a_t_stress t_now_told t_now_lines t_now_kinds t_now_acts v2 (fX7_isMask t_now_told v2) rfl) kmX7_isMask kvX7_isMask lm_X7_239 ⟨rfl, rfl⟩ ⟨Nat.le_of_ble_eq_true rfl, Nat.le_of_ble_eq_true rfl⟩ (roV (q0 := 0) (ci := 6) hG (hP.sub [0, 1] rfl) hP rfl rfl) rfl rfl (Nat.le_of_ble_eq_true rfl) dX7_thinner_2 ⟨Nat.le_of_ble_eq_true rfl, Nat.le_of_ble_eq_true rfl⟩) (fun hz1 => ?_)
  refine lv_if_eq (tgt := 24) hx hb dX7_thinner_5 (by decide) (fun c2 => ?_) (fun c2 => ?_)
  · have h := itp c2 h
    refine lv_bipush (v := -2) hx hb dX7_thinner_24 (by decide) ?_
    exact hret _ _ _ dX7_thinner_26 (Option.some.inj h)
  · have h := itn c2 h
    refine lv_iload_n hx hb dX7_thinner_8 rfl (lv_at hl 1 rfl) ?_
    refine lv_iconst (v := 1) hx hb dX7_thinner_9 (by decide) ?_
    refine lv_icmp_lt (tgt := 24) hx hb dX7_thinner_10 (by decide) (fun c3 => ?_) (fun c3 => ?_)
    · have h := itp c3 h
      refine lv_bipush (v := -2) hx hb dX7_thinner_24 (by decide) ?_
      exact hret _ _ _ dX7_thinner_26 (Option.some.inj h)
    · have h := itn c3 h
      refine lv_iload_n hx hb dX7_thinner_13 rfl (lv_at hl 1 rfl) ?_
      refine lv_aload_n hx hb dX7_thinner_14 rfl (lv_at hl 0 rfl) ?_
      refine xa_get (C := RX7) (T := TX7) (N := 7) cx hG hP 0 rfl rfl uX7 2 (by decide) lf_X7_30 rfl dX7_thinner_15 ?_
      obtain ⟨r4, hr5, h⟩ := bnd h
      refine ro_i (runVN (As := []) (rest := [.int v1]) hG cx hl.1 (ctX1_plies l g a_t_now t_now_told t_now_lines t_now_kinds t_now_acts t_now_sizes r4 hr5) kmX1_plies kvX1_plies nm_17 ⟨rfl, rfl⟩ ⟨Nat.le_of_ble_eq_true rfl, Nat.le_of_ble_eq_true rfl⟩ (roV (q0 := 1) (ci := 1) hG (hP.sub [1, 4] rfl) hP rfl rfl) rfl rfl (Nat.le_of_ble_eq_true rfl) dX7_thinner_18 ⟨Nat.le_of_ble_eq_true rfl, Nat.le_of_ble_eq_true rfl⟩) ?_
      refine lv_icmp_le (tgt := 27) hx hb dX7_thinner_21 (by decide) (fun c6 => ?_) (fun c6 => ?_)
      · have h := itp c6 h
        refine lv_aload_n hx hb dX7_thinner_27 rfl (lv_at hl 0 rfl) ?_
        refine xa_get (C := RX7) (T := TX7) (N := 7) cx hG hP 0 rfl rfl uX7 5 (by decide) lf_X7_48 rfl dX7_thinner_28 ?_
        refine lv_aload_n hx hb dX7_thinner_31 rfl (lv_at hl 0 rfl) ?_
        refine xa_get (C := RX7) (T := TX7) (N := 7) cx hG hP 0 rfl rfl uX7 2 (by decide) lf_X7_30 rfl dX7_thinner_32 ?_
        refine lv_iload_n hx hb dX7_thinner_35 rfl (lv_at hl 1 rfl) ?_
        refine lv_iload_n hx hb dX7_thinner_36 rfl (lv_at hl 2 rfl) ?_
        obtain ⟨r7, hr8, h⟩ := bnd h
        refine ro_i (runVN (As := [.ref ((a_t_now 0)), .int v1, .int v2]) (rest := []) hG cx hl.1 (ctX6_thinnerSets l g a_t_ways a_t_now t_now_told t_now_lines t_now_kinds t_now_acts t_now_cells t_now_rows t_now_sizes t_now_rooms v1 v2 r7 hr8) kmX6_thinnerSets kvX6_thinnerSets nm_80 ⟨rfl, rfl⟩ ⟨Nat.le_of_ble_eq_true rfl, Nat.le_of_ble_eq_true rfl⟩ (roV (q0 := 6) (ci := 5) hG (hP.sub [1, 2, 3, 4, 5] rfl) hP rfl rfl) rfl rfl (Nat.le_of_ble_eq_true rfl) dX7_thinner_37 ⟨Nat.le_of_ble_eq_true rfl, Nat.le_of_ble_eq_true rfl⟩) ?_
        exact hret _ _ _ dX7_thinner_40 (Option.some.inj h)
      · have h := itn c6 h
        refine lv_bipush (v := -2) hx hb dX7_thinner_24 (by decide) ?_
        exact hret _ _ _ dX7_thinner_26 (Option.some.inj h)
-- X7_thin
theorem dX7_thin_0 : decode cX7_thin 0 = .ok (.aload_n 0, 1) := by decide +kernel
theorem dX7_thin_1 : decode cX7_thin 1 = .ok (.iload_n 2, 1) := by decide +kernel
theorem dX7_thin_2 : decode cX7_thin 2 = .ok (.invokevirtual 239, 3) := by decide +kernel
theorem dX7_thin_5 : decode cX7_thin 5 = .ok (.ifCond .eq 23, 3) := by decide +kernel
theorem dX7_thin_8 : decode cX7_thin 8 = .ok (.iload_n 1, 1) := by decide +kernel
theorem dX7_thin_9 : decode cX7_thin 9 = .ok (.iconst 1, 1) := by decide +kernel
theorem dX7_thin_10 : decode cX7_thin 10 = .ok (.if_icmp .lt 18, 3) := by decide +kernel
theorem dX7_thin_13 : decode cX7_thin 13 = .ok (.iload_n 1, 1) := by decide +kernel
theorem dX7_thin_14 : decode cX7_thin 14 = .ok (.aload_n 0, 1) := by decide +kernel
theorem dX7_thin_15 : decode cX7_thin 15 = .ok (.getfield 30, 3) := by decide +kernel
theorem dX7_thin_18 : decode cX7_thin 18 = .ok (.invokevirtual 97, 3) := by decide +kernel
theorem dX7_thin_21 : decode cX7_thin 21 = .ok (.if_icmp .gt 7, 3) := by decide +kernel
theorem dX7_thin_24 : decode cX7_thin 24 = .ok (.iload_n 3, 1) := by decide +kernel
theorem dX7_thin_25 : decode cX7_thin 25 = .ok (.ifCond .ge 6, 3) := by decide +kernel
theorem dX7_thin_28 : decode cX7_thin 28 = .ok (.bipush (-2), 2) := by decide +kernel
theorem dX7_thin_30 : decode cX7_thin 30 = .ok (.ireturn, 1) := by decide +kernel
theorem dX7_thin_31 : decode cX7_thin 31 = .ok (.aload_n 0, 1) := by decide +kernel
theorem dX7_thin_32 : decode cX7_thin 32 = .ok (.getfield 48, 3) := by decide +kernel
theorem dX7_thin_35 : decode cX7_thin 35 = .ok (.aload_n 0, 1) := by decide +kernel
theorem dX7_thin_36 : decode cX7_thin 36 = .ok (.getfield 30, 3) := by decide +kernel
theorem dX7_thin_39 : decode cX7_thin 39 = .ok (.iload_n 1, 1) := by decide +kernel
theorem dX7_thin_40 : decode cX7_thin 40 = .ok (.iload_n 2, 1) := by decide +kernel
theorem dX7_thin_41 : decode cX7_thin 41 = .ok (.iload_n 3, 1) := by decide +kernel
theorem dX7_thin_42 : decode cX7_thin 42 = .ok (.invokevirtual 286, 3) := by decide +kernel
theorem dX7_thin_45 : decode cX7_thin 45 = .ok (.ireturn, 1) := by decide +kernel
noncomputable def fX7_thin  (t_now_cells : Nat → Int32) (t_now_rows : Nat → Int32) (t_now_sizes : Nat → Int32) (t_now_rooms : Nat → Int32) (t_now_told : Int32) (t_now_acts : Int32) (v1 : Int32) (v2 : Int32) (v3 : Int32) : Option (Int32) := (if (fX7_isMask t_now_told v2) = 0 then some (-2) else (if v1 < 1 then some (-2) else (fX1_plies t_now_sizes t_now_acts).bind fun r4 => (if r4 < v1 then some (-2) else (if 0 ≤ v3 then (fX6_thinnerSet t_now_cells t_now_rows t_now_sizes t_now_rooms t_now_acts v1 v2 v3).bind fun r8 => some r8 else some (-2)))))
set_option maxHeartbeats 4000000 in
set_option maxRecDepth 100000 in
theorem ctX7_thin (l : Launch) (g : GT) (a_t : Nat → Nat) (a_t_tape : Nat → Nat) (a_t_reader : Nat → Nat) (a_t_now : Nat → Nat) (a_t_choices : Nat → Nat) (a_t_ways : Nat → Nat) (a_t_stress : Nat → Nat) (t_now_told : Int32) (t_now_lines : Int32) (t_now_kinds : Int32) (t_now_acts : Int32) (t_now_cells : Nat → Int32) (t_now_rows : Nat → Int32) (t_now_sizes : Nat → Int32) (t_now_rooms : Nat → Int32) (t_ways_all : Int32) (t_ways_stride : Int32) (v1 : Int32) (v2 : Int32) (v3 : Int32) (o : Int32) (h : fX7_thin t_now_cells t_now_rows t_now_sizes t_now_rooms t_now_told t_now_acts v1 v2 v3 = some o) : Met l yX7_thin (Cond.code yX7_thin cX7_thin 4 (some .int) :: Tw) ⟨7, 0, 0, 171⟩ (va_Pc [.ref ((a_t 0)), .int v1, .int v2, .int v3] (roB g [((a_t 0), .inr (6, [.ref (a_t_tape 0), .ref (a_t_reader 0), .ref (a_t_now 0), .ref (a_t 4), .ref (a_t_choices 0), .ref (a_t_ways 0), .ref (a_t_stress 0)])), ((a_t_now 0), .inr (1, [.ref (a_t_now 1), .ref (a_t_now 2), .ref (a_t_now 3), .ref (a_t_now 4), .ref (a_t_now 5), .int t_now_told, .int t_now_lines, .int t_now_kinds, .int t_now_acts])), ((a_t_now 2), .inl (g.2.2.1 0, 144, .inl t_now_cells)), ((a_t_now 3), .inl (g.2.2.1 0, 31, .inl t_now_rows)), ((a_t_now 4), .inl (g.2.2.1 0, 31, .inl t_now_sizes)), ((a_t_now 5), .inl (g.2.2.1 0, 31, .inl t_now_rooms)), ((a_t_ways 0), .inr (5, [.ref (a_t_ways 1), .int t_ways_all, .int t_ways_stride]))])) (vp_Si (fun x => x = o)) 0 0 (fun _ => False) := by
  refine ro_meti (by decide) (Nat.le_of_ble_eq_true rfl) (lv0 := [(0, .ref ((a_t 0))), (1, .int v1), (2, .int v2), (3, .int v3)]) rfl ?_
  intro p e s m args below meth c ls Q cx hret hG hP hl
  have hx := cx.1
  have hb := cx.2.1
  have hG0 := hG
  unfold fX7_thin at h
  refine lv_aload_n hx hb dX7_thin_0 rfl (lv_at hl 0 rfl) ?_
  refine lv_iload_n hx hb dX7_thin_1 rfl (lv_at hl 2 rfl) ?_
  refine ro_z (runV (As := [.int v2]) (rest := []) cx hl.1 (ctX7_isMask l g a_t a_t_tape a_t_reader a_t_now a_t_choices a_t_ways a_t_stress t_now_told t_now_lines t_now_kinds t_now_acts v2 (fX7_isMask t_now_told v2) rfl) kmX7_isMask kvX7_isMask lm_X7_239 ⟨rfl, rfl⟩ ⟨Nat.le_of_ble_eq_true rfl, Nat.le_of_ble_eq_true rfl⟩ (roV (q0 := 0) (ci := 6) hG (hP.sub [0, 1] rfl) hP rfl rfl) rfl rfl (Nat.le_of_ble_eq_true rfl) dX7_thin_2 ⟨Nat.le_of_ble_eq_true rfl, Nat.le_of_ble_eq_true rfl⟩) (fun hz1 => ?_)
  refine lv_if_eq (tgt := 28) hx hb dX7_thin_5 (by decide) (fun c2 => ?_) (fun c2 => ?_)
  · have h := itp c2 h
    refine lv_bipush (v := -2) hx hb dX7_thin_28 (by decide) ?_
    exact hret _ _ _ dX7_thin_30 (Option.some.inj h)
  · have h := itn c2 h
    refine lv_iload_n hx hb dX7_thin_8 rfl (lv_at hl 1 rfl) ?_
    refine lv_iconst (v := 1) hx hb dX7_thin_9 (by decide) ?_
    refine lv_icmp_lt (tgt := 28) hx hb dX7_thin_10 (by decide) (fun c3 => ?_) (fun c3 => ?_)
    · have h := itp c3 h
      refine lv_bipush (v := -2) hx hb dX7_thin_28 (by decide) ?_
      exact hret _ _ _ dX7_thin_30 (Option.some.inj h)
    · have h := itn c3 h
      refine lv_iload_n hx hb dX7_thin_13 rfl (lv_at hl 1 rfl) ?_
      refine lv_aload_n hx hb dX7_thin_14 rfl (lv_at hl 0 rfl) ?_
      refine xa_get (C := RX7) (T := TX7) (N := 7) cx hG hP 0 rfl rfl uX7 2 (by decide) lf_X7_30 rfl dX7_thin_15 ?_
      obtain ⟨r4, hr5, h⟩ := bnd h
      refine ro_i (runVN (As := []) (rest := [.int v1]) hG cx hl.1 (ctX1_plies l g a_t_now t_now_told t_now_lines t_now_kinds t_now_acts t_now_sizes r4 hr5) kmX1_plies kvX1_plies nm_17 ⟨rfl, rfl⟩ ⟨Nat.le_of_ble_eq_true rfl, Nat.le_of_ble_eq_true rfl⟩ (roV (q0 := 1) (ci := 1) hG (hP.sub [1, 4] rfl) hP rfl rfl) rfl rfl (Nat.le_of_ble_eq_true rfl) dX7_thin_18 ⟨Nat.le_of_ble_eq_true rfl, Nat.le_of_ble_eq_true rfl⟩) ?_
      refine lv_icmp_gt (tgt := 28) hx hb dX7_thin_21 (by decide) (fun c6 => ?_) (fun c6 => ?_)
      · have h := itp c6 h
        refine lv_bipush (v := -2) hx hb dX7_thin_28 (by decide) ?_
        exact hret _ _ _ dX7_thin_30 (Option.some.inj h)
      · have h := itn c6 h
        refine lv_iload_n hx hb dX7_thin_24 rfl (lv_at hl 3 rfl) ?_
        refine lv_if_ge (tgt := 31) hx hb dX7_thin_25 (by decide) (fun c7 => ?_) (fun c7 => ?_)
        · have h := itp c7 h
          refine lv_aload_n hx hb dX7_thin_31 rfl (lv_at hl 0 rfl) ?_
          refine xa_get (C := RX7) (T := TX7) (N := 7) cx hG hP 0 rfl rfl uX7 5 (by decide) lf_X7_48 rfl dX7_thin_32 ?_
          refine lv_aload_n hx hb dX7_thin_35 rfl (lv_at hl 0 rfl) ?_
          refine xa_get (C := RX7) (T := TX7) (N := 7) cx hG hP 0 rfl rfl uX7 2 (by decide) lf_X7_30 rfl dX7_thin_36 ?_
          refine lv_iload_n hx hb dX7_thin_39 rfl (lv_at hl 1 rfl) ?_
          refine lv_iload_n hx hb dX7_thin_40 rfl (lv_at hl 2 rfl) ?_
          refine lv_iload_n hx hb dX7_thin_41 rfl (lv_at hl 3 rfl) ?_
          obtain ⟨r8, hr9, h⟩ := bnd h
          refine ro_i (runVN (As := [.ref ((a_t_now 0)), .int v1, .int v2, .int v3]) (rest := []) hG cx hl.1 (ctX6_thinnerSet l g a_t_ways a_t_now t_now_told t_now_lines t_now_kinds t_now_acts t_now_cells t_now_rows t_now_sizes t_now_rooms v1 v2 v3 r8 hr9) kmX6_thinnerSet kvX6_thinnerSet nm_87 ⟨rfl, rfl⟩ ⟨Nat.le_of_ble_eq_true rfl, Nat.le_of_ble_eq_true rfl⟩ (roV (q0 := 6) (ci := 5) hG (hP.sub [1, 2, 3, 4, 5] rfl) hP rfl rfl) rfl rfl (Nat.le_of_ble_eq_true rfl) dX7_thin_42 ⟨Nat.le_of_ble_eq_true rfl, Nat.le_of_ble_eq_true rfl⟩) ?_
          exact hret _ _ _ dX7_thin_45 (Option.some.inj h)
        · have h := itn c7 h
          refine lv_bipush (v := -2) hx hb dX7_thin_28 (by decide) ?_
          exact hret _ _ _ dX7_thin_30 (Option.some.inj h)
-- X7_isStride
theorem dX7_isStride_0 : decode cX7_isStride 0 = .ok (.iload_n 0, 1) := by decide +kernel
theorem dX7_isStride_1 : decode cX7_isStride 1 = .ok (.iconst 1, 1) := by decide +kernel
theorem dX7_isStride_2 : decode cX7_isStride 2 = .ok (.if_icmp .lt 12, 3) := by decide +kernel
theorem dX7_isStride_5 : decode cX7_isStride 5 = .ok (.iload_n 0, 1) := by decide +kernel
theorem dX7_isStride_6 : decode cX7_isStride 6 = .ok (.iconst 3, 1) := by decide +kernel
theorem dX7_isStride_7 : decode cX7_isStride 7 = .ok (.if_icmp .gt 7, 3) := by decide +kernel
theorem dX7_isStride_10 : decode cX7_isStride 10 = .ok (.iconst 1, 1) := by decide +kernel
theorem dX7_isStride_11 : decode cX7_isStride 11 = .ok (.goto 4, 3) := by decide +kernel
theorem dX7_isStride_14 : decode cX7_isStride 14 = .ok (.iconst 0, 1) := by decide +kernel
theorem dX7_isStride_15 : decode cX7_isStride 15 = .ok (.ireturn, 1) := by decide +kernel
noncomputable def fX7_isStride  (v0 : Int32) : Int32 := (if v0 < 1 then (0) else (if 3 < v0 then (0) else (1)))
set_option maxHeartbeats 4000000 in
set_option maxRecDepth 100000 in
theorem ctX7_isStride (l : Launch) (g : GT) (v0 : Int32) (o : Int32) (h : fX7_isStride v0 = o) : Met l yX7_isStride (Cond.code yX7_isStride cX7_isStride 1 (some .boolean) :: Tw) ⟨0, 0, 0, 0⟩ (va_Pc [.int v0] (roB g [])) (vp_Si (fun x => x = o ∧ (x = 0 ∨ x = 1))) 0 0 (fun _ => False) := by
  refine ro_metz (by decide) (Nat.le_of_ble_eq_true rfl) (lv0 := [(0, .int v0)]) rfl ?_
  intro p e s m args below meth c ls Q cx hret hG hP hl
  have hx := cx.1
  have hb := cx.2.1
  have hG0 := hG
  unfold fX7_isStride at h
  refine lv_iload_n hx hb dX7_isStride_0 rfl (lv_at hl 0 rfl) ?_
  refine lv_iconst (v := 1) hx hb dX7_isStride_1 (by decide) ?_
  refine lv_icmp_lt (tgt := 14) hx hb dX7_isStride_2 (by decide) (fun c1 => ?_) (fun c1 => ?_)
  · have h := itp c1 h
    refine lv_iconst (v := 0) hx hb dX7_isStride_14 (by decide) ?_
    exact hret _ _ _ dX7_isStride_15 (by decide) h
  · have h := itn c1 h
    refine lv_iload_n hx hb dX7_isStride_5 rfl (lv_at hl 0 rfl) ?_
    refine lv_iconst (v := 3) hx hb dX7_isStride_6 (by decide) ?_
    refine lv_icmp_gt (tgt := 14) hx hb dX7_isStride_7 (by decide) (fun c2 => ?_) (fun c2 => ?_)
    · have h := itp c2 h
      refine lv_iconst (v := 0) hx hb dX7_isStride_14 (by decide) ?_
      exact hret _ _ _ dX7_isStride_15 (by decide) h
    · have h := itn c2 h
      refine lv_iconst (v := 1) hx hb dX7_isStride_10 (by decide) ?_
      refine lv_goto (tgt := 15) hx hb dX7_isStride_11 (by decide) ?_
      exact hret _ _ _ dX7_isStride_15 (by decide) h
-- X7_blend
theorem dX7_blend_0 : decode cX7_blend 0 = .ok (.aload_n 0, 1) := by decide +kernel
theorem dX7_blend_1 : decode cX7_blend 1 = .ok (.iload_n 1, 1) := by decide +kernel
theorem dX7_blend_2 : decode cX7_blend 2 = .ok (.invokevirtual 239, 3) := by decide +kernel
theorem dX7_blend_5 : decode cX7_blend 5 = .ok (.ifCond .eq 10, 3) := by decide +kernel
theorem dX7_blend_8 : decode cX7_blend 8 = .ok (.iload_n 2, 1) := by decide +kernel
theorem dX7_blend_9 : decode cX7_blend 9 = .ok (.invokestatic 290, 3) := by decide +kernel
theorem dX7_blend_12 : decode cX7_blend 12 = .ok (.ifCond .ne 6, 3) := by decide +kernel
theorem dX7_blend_15 : decode cX7_blend 15 = .ok (.bipush (-2), 2) := by decide +kernel
theorem dX7_blend_17 : decode cX7_blend 17 = .ok (.ireturn, 1) := by decide +kernel
theorem dX7_blend_18 : decode cX7_blend 18 = .ok (.aload_n 0, 1) := by decide +kernel
theorem dX7_blend_19 : decode cX7_blend 19 = .ok (.getfield 48, 3) := by decide +kernel
theorem dX7_blend_22 : decode cX7_blend 22 = .ok (.aload_n 0, 1) := by decide +kernel
theorem dX7_blend_23 : decode cX7_blend 23 = .ok (.getfield 30, 3) := by decide +kernel
theorem dX7_blend_26 : decode cX7_blend 26 = .ok (.iload_n 1, 1) := by decide +kernel
theorem dX7_blend_27 : decode cX7_blend 27 = .ok (.iload_n 2, 1) := by decide +kernel
theorem dX7_blend_28 : decode cX7_blend 28 = .ok (.invokevirtual 293, 3) := by decide +kernel
theorem dX7_blend_31 : decode cX7_blend 31 = .ok (.aload_n 0, 1) := by decide +kernel
theorem dX7_blend_32 : decode cX7_blend 32 = .ok (.getfield 48, 3) := by decide +kernel
theorem dX7_blend_35 : decode cX7_blend 35 = .ok (.invokevirtual 296, 3) := by decide +kernel
theorem dX7_blend_38 : decode cX7_blend 38 = .ok (.istore_n 3, 1) := by decide +kernel
theorem dX7_blend_39 : decode cX7_blend 39 = .ok (.iload_n 3, 1) := by decide +kernel
theorem dX7_blend_40 : decode cX7_blend 40 = .ok (.iconst (-1), 1) := by decide +kernel
theorem dX7_blend_41 : decode cX7_blend 41 = .ok (.if_icmp .ne 7, 3) := by decide +kernel
theorem dX7_blend_44 : decode cX7_blend 44 = .ok (.iconst (-1), 1) := by decide +kernel
theorem dX7_blend_45 : decode cX7_blend 45 = .ok (.goto 7, 3) := by decide +kernel
theorem dX7_blend_48 : decode cX7_blend 48 = .ok (.iload_n 3, 1) := by decide +kernel
theorem dX7_blend_49 : decode cX7_blend 49 = .ok (.invokestatic 299, 3) := by decide +kernel
theorem dX7_blend_52 : decode cX7_blend 52 = .ok (.ireturn, 1) := by decide +kernel
noncomputable def fX7_blend  (t_now_cells : Nat → Int32) (t_now_rows : Nat → Int32) (t_now_sizes : Nat → Int32) (t_now_rooms : Nat → Int32) (t_now_told : Int32) (t_now_acts : Int32) (t_ways_depths : Nat → Int32) (t_ways_all : Int32) (t_ways_stride : Int32) (v1 : Int32) (v2 : Int32) : Option (Int32 × (Nat → Int32) × Int32 × Int32) := (if (fX7_isMask t_now_told v1) = 0 then some ((-2), t_ways_depths, t_ways_all, t_ways_stride) else (if (fX7_isStride v2) = 0 then some ((-2), t_ways_depths, t_ways_all, t_ways_stride) else ob3 (fX6_explore t_ways_depths t_ways_all t_ways_stride t_now_cells t_now_rows t_now_sizes t_now_rooms t_now_acts v1 v2) fun w6 w7 w8 => (fX6_goal w6 w7).bind fun r10 => (if r10 = (-1) then some ((-1), w6, w7, w8) else some ((fJ6_bitCount_0f7a4 r10), w6, w7, w8))))
set_option maxHeartbeats 4000000 in
set_option maxRecDepth 100000 in
theorem ctX7_blend (l : Launch) (g : GT) (sz : Nat) (a_t : Nat → Nat) (a_t_tape : Nat → Nat) (a_t_reader : Nat → Nat) (a_t_now : Nat → Nat) (a_t_choices : Nat → Nat) (a_t_ways : Nat → Nat) (a_t_stress : Nat → Nat) (t_now_told : Int32) (t_now_lines : Int32) (t_now_kinds : Int32) (t_now_acts : Int32) (t_now_cells : Nat → Int32) (t_now_rows : Nat → Int32) (t_now_sizes : Nat → Int32) (t_now_rooms : Nat → Int32) (t_ways_all : Int32) (t_ways_stride : Int32) (t_ways_depths : Nat → Int32) (v1 : Int32) (v2 : Int32) (o : Int32) (o_t_ways_depths : Nat → Int32) (o_t_ways_all : Int32) (o_t_ways_stride : Int32) (h : fX7_blend t_now_cells t_now_rows t_now_sizes t_now_rooms t_now_told t_now_acts t_ways_depths t_ways_all t_ways_stride v1 v2 = some (o, o_t_ways_depths, o_t_ways_all, o_t_ways_stride)) : Met l yX7_blend (Cond.code yX7_blend cX7_blend 4 (some .int) :: Tw) ⟨7, 0, 0, 170⟩ (va_Pc [.ref ((a_t 0)), .int v1, .int v2] (rwB g [((a_t 0), .inr (6, [.ref (a_t_tape 0), .ref (a_t_reader 0), .ref (a_t_now 0), .ref (a_t 4), .ref (a_t_choices 0), .ref (a_t_ways 0), .ref (a_t_stress 0)])), ((a_t_now 0), .inr (1, [.ref (a_t_now 1), .ref (a_t_now 2), .ref (a_t_now 3), .ref (a_t_now 4), .ref (a_t_now 5), .int t_now_told, .int t_now_lines, .int t_now_kinds, .int t_now_acts])), ((a_t_now 2), .inl (g.2.2.1 0, 144, .inl t_now_cells)), ((a_t_now 3), .inl (g.2.2.1 0, 31, .inl t_now_rows)), ((a_t_now 4), .inl (g.2.2.1 0, 31, .inl t_now_sizes)), ((a_t_now 5), .inl (g.2.2.1 0, 31, .inl t_now_rooms)), ((a_t_ways 0), .inr (5, [.ref (a_t_ways 1), .int t_ways_all, .int t_ways_stride])), ((a_t_ways 1), .inl (g.2.2.1 0, 256, .inl t_ways_depths))] sz)) (va_Qi (fun x (_ : Nat → Nat) => x = o) (fun u => rwE g (va_A [((a_t 0), .inr (6, [.ref (a_t_tape 0), .ref (a_t_reader 0), .ref (a_t_now 0), .ref (a_t 4), .ref (a_t_choices 0), .ref (a_t_ways 0), .ref (a_t_stress 0)])), ((a_t_now 0), .inr (1, [.ref (a_t_now 1), .ref (a_t_now 2), .ref (a_t_now 3), .ref (a_t_now 4), .ref (a_t_now 5), .int t_now_told, .int t_now_lines, .int t_now_kinds, .int t_now_acts])), ((a_t_now 2), .inl (g.2.2.1 0, 144, .inl t_now_cells)), ((a_t_now 3), .inl (g.2.2.1 0, 31, .inl t_now_rows)), ((a_t_now 4), .inl (g.2.2.1 0, 31, .inl t_now_sizes)), ((a_t_now 5), .inl (g.2.2.1 0, 31, .inl t_now_rooms)), ((a_t_ways 0), .inr (5, [.ref (a_t_ways 1), .int t_ways_all, .int t_ways_stride])), ((a_t_ways 1), .inl (g.2.2.1 0, 256, .inl t_ways_depths))] sz) [((a_t 0), .inr (6, [.ref (a_t_tape 0), .ref (a_t_reader 0), .ref (a_t_now 0), .ref (a_t 4), .ref (a_t_choices 0), .ref (a_t_ways 0), .ref (a_t_stress 0)])), ((a_t_now 0), .inr (1, [.ref (a_t_now 1), .ref (a_t_now 2), .ref (a_t_now 3), .ref (a_t_now 4), .ref (a_t_now 5), .int t_now_told, .int t_now_lines, .int t_now_kinds, .int t_now_acts])), ((a_t_now 2), .inl (g.2.2.1 0, 144, .inl t_now_cells)), ((a_t_now 3), .inl (g.2.2.1 0, 31, .inl t_now_rows)), ((a_t_now 4), .inl (g.2.2.1 0, 31, .inl t_now_sizes)), ((a_t_now 5), .inl (g.2.2.1 0, 31, .inl t_now_rooms)), ((a_t_ways 0), .inr (5, [.ref (a_t_ways 1), .int o_t_ways_all, .int o_t_ways_stride])), ((a_t_ways 1), .inl (g.2.2.1 0, 256, .inl o_t_ways_depths))]) (va_A [((a_t 0), .inr (6, [.ref (a_t_tape 0), .ref (a_t_reader 0), .ref (a_t_now 0), .ref (a_t 4), .ref (a_t_choices 0), .ref (a_t_ways 0), .ref (a_t_stress 0)])), ((a_t_now 0), .inr (1, [.ref (a_t_now 1), .ref (a_t_now 2), .ref (a_t_now 3), .ref (a_t_now 4), .ref (a_t_now 5), .int t_now_told, .int t_now_lines, .int t_now_kinds, .int t_now_acts])), ((a_t_now 2), .inl (g.2.2.1 0, 144, .inl t_now_cells)), ((a_t_now 3), .inl (g.2.2.1 0, 31, .inl t_now_rows)), ((a_t_now 4), .inl (g.2.2.1 0, 31, .inl t_now_sizes)), ((a_t_now 5), .inl (g.2.2.1 0, 31, .inl t_now_rooms)), ((a_t_ways 0), .inr (5, [.ref (a_t_ways 1), .int t_ways_all, .int t_ways_stride])), ((a_t_ways 1), .inl (g.2.2.1 0, 256, .inl t_ways_depths))] sz)) 0 0 (va_A [((a_t 0), .inr (6, [.ref (a_t_tape 0), .ref (a_t_reader 0), .ref (a_t_now 0), .ref (a_t 4), .ref (a_t_choices 0), .ref (a_t_ways 0), .ref (a_t_stress 0)])), ((a_t_now 0), .inr (1, [.ref (a_t_now 1), .ref (a_t_now 2), .ref (a_t_now 3), .ref (a_t_now 4), .ref (a_t_now 5), .int t_now_told, .int t_now_lines, .int t_now_kinds, .int t_now_acts])), ((a_t_now 2), .inl (g.2.2.1 0, 144, .inl t_now_cells)), ((a_t_now 3), .inl (g.2.2.1 0, 31, .inl t_now_rows)), ((a_t_now 4), .inl (g.2.2.1 0, 31, .inl t_now_sizes)), ((a_t_now 5), .inl (g.2.2.1 0, 31, .inl t_now_rooms)), ((a_t_ways 0), .inr (5, [.ref (a_t_ways 1), .int t_ways_all, .int t_ways_stride])), ((a_t_ways 1), .inl (g.2.2.1 0, 256, .inl t_ways_depths))] sz) := by
  refine rw_meti (by decide) (Nat.le_of_ble_eq_true rfl) (lv0 := [(0, .ref ((a_t 0))), (1, .int v1), (2, .int v2)]) rfl ?_
  intro p e s m args below meth c ls Q A cx hret hG hAb hb0 hA hP hD hl
  have hx := cx.1
  have hb := cx.2.1
  have hG0 := hG
  have hGk : ∀ {H : Heap} {locs : List Loc}, va_S A s.heap H locs → GE g s H := fun hS => hG0.keptS hAb hS
  have hSb : ∀ {H : Heap} {locs : List Loc}, va_S A s.heap H locs → va_S (fun a => g.1 ≤ a) s.heap H locs := fun hS => ⟨hS.1, fun q h1 h2 => hS.2.1 q h1 (fun z => h2 (hAb q z)), fun l hl => hAb _ (hS.2.2 l hl)⟩
  have hS : va_S A s.heap s.heap [] := va_S.rf
  have hrt : ∀ (u : Nat → Nat) (pc : Nat) (ls : Array Slot) (v : Int32) (x_t_ways_depths : Nat → Int32) (x_t_ways_all : Int32) (x_t_ways_stride : Int32) (H : Heap) (locs : List Loc), decode cX7_blend pc = .ok (.ireturn, 1) → some (v, x_t_ways_depths, x_t_ways_all, x_t_ways_stride) = some (o, o_t_ways_depths, o_t_ways_all, o_t_ways_stride) → va_P g.2.1 vwCl [((a_t 0), .inr (6, [.ref (a_t_tape 0), .ref (a_t_reader 0), .ref (a_t_now 0), .ref (a_t 4), .ref (a_t_choices 0), .ref (a_t_ways 0), .ref (a_t_stress 0)])), ((a_t_now 0), .inr (1, [.ref (a_t_now 1), .ref (a_t_now 2), .ref (a_t_now 3), .ref (a_t_now 4), .ref (a_t_now 5), .int t_now_told, .int t_now_lines, .int t_now_kinds, .int t_now_acts])), ((a_t_now 2), .inl (g.2.2.1 0, 144, .inl t_now_cells)), ((a_t_now 3), .inl (g.2.2.1 0, 31, .inl t_now_rows)), ((a_t_now 4), .inl (g.2.2.1 0, 31, .inl t_now_sizes)), ((a_t_now 5), .inl (g.2.2.1 0, 31, .inl t_now_rooms)), ((a_t_ways 0), .inr (5, [.ref (a_t_ways 1), .int x_t_ways_all, .int x_t_ways_stride])), ((a_t_ways 1), .inl (g.2.2.1 0, 256, .inl x_t_ways_depths))] H → va_D A [((a_t 0), .inr (6, [.ref (a_t_tape 0), .ref (a_t_reader 0), .ref (a_t_now 0), .ref (a_t 4), .ref (a_t_choices 0), .ref (a_t_ways 0), .ref (a_t_stress 0)])), ((a_t_now 0), .inr (1, [.ref (a_t_now 1), .ref (a_t_now 2), .ref (a_t_now 3), .ref (a_t_now 4), .ref (a_t_now 5), .int t_now_told, .int t_now_lines, .int t_now_kinds, .int t_now_acts])), ((a_t_now 2), .inl (g.2.2.1 0, 144, .inl t_now_cells)), ((a_t_now 3), .inl (g.2.2.1 0, 31, .inl t_now_rows)), ((a_t_now 4), .inl (g.2.2.1 0, 31, .inl t_now_sizes)), ((a_t_now 5), .inl (g.2.2.1 0, 31, .inl t_now_rooms)), ((a_t_ways 0), .inr (5, [.ref (a_t_ways 1), .int x_t_ways_all, .int x_t_ways_stride])), ((a_t_ways 1), .inl (g.2.2.1 0, 256, .inl x_t_ways_depths))] → va_S A s.heap H locs → W p l e ⟨7, 0, 0, 170⟩ s m args below meth c H locs 0 0 Q (F0 m pc ls [.int v]) := by
    intro u pc ls v x_t_ways_depths x_t_ways_all x_t_ways_stride H locs hd h hP hD hS
    cases h
    exact hret u _ _ _ _ _ hd rfl hP hD hS
  unfold fX7_blend at h
  refine lv_aload_n hx hb dX7_blend_0 rfl (lv_at hl 0 rfl) ?_
  refine lv_iload_n hx hb dX7_blend_1 rfl (lv_at hl 1 rfl) ?_
  refine ro_z (runV (As := [.int v1]) (rest := []) cx hl.1 (ctX7_isMask l g a_t a_t_tape a_t_reader a_t_now a_t_choices a_t_ways a_t_stress t_now_told t_now_lines t_now_kinds t_now_acts v1 (fX7_isMask t_now_told v1) rfl) kmX7_isMask kvX7_isMask lm_X7_239 ⟨rfl, rfl⟩ ⟨Nat.le_of_ble_eq_true rfl, Nat.le_of_ble_eq_true rfl⟩ (roV (q0 := 0) (ci := 6) hG (hP.sub [0, 1] rfl) hP rfl rfl) rfl rfl (Nat.le_of_ble_eq_true rfl) dX7_blend_2 ⟨Nat.le_of_ble_eq_true rfl, Nat.le_of_ble_eq_true rfl⟩) (fun hz1 => ?_)
  refine lv_if_eq (tgt := 15) hx hb dX7_blend_5 (by decide) (fun c2 => ?_) (fun c2 => ?_)
  · have h := itp c2 h
    refine lv_bipush (v := -2) hx hb dX7_blend_15 (by decide) ?_
    exact hrt (fun _ => 0) _ _ ((-2)) t_ways_depths t_ways_all t_ways_stride _ _ dX7_blend_17 h (hP.sub [0, 1, 2, 3, 4, 5, 6, 7] rfl) (hD.sub [0, 1, 2, 3, 4, 5, 6, 7] (by decide) rfl) hS
  · have h := itn c2 h
    refine lv_iload_n hx hb dX7_blend_8 rfl (lv_at hl 2 rfl) ?_
    refine ro_z (runS (As := [.int v2]) (rest := []) cx hl.1 (ctX7_isStride l g v2 (fX7_isStride v2) rfl) kmX7_isStride ksX7_isStride lm_X7_290 ⟨rfl, rfl⟩ ⟨Nat.le_of_ble_eq_true rfl, Nat.le_of_ble_eq_true rfl⟩ (roS hG (hP.sub [] rfl)) rfl rfl (Nat.le_of_ble_eq_true rfl) dX7_blend_9 ⟨Nat.le_of_ble_eq_true rfl, Nat.le_of_ble_eq_true rfl⟩) (fun hz3 => ?_)
    refine lv_if_ne (tgt := 18) hx hb dX7_blend_12 (by decide) (fun c4 => ?_) (fun c4 => ?_)
    · have h := itn c4 h
      refine lv_aload_n hx hb dX7_blend_18 rfl (lv_at hl 0 rfl) ?_
      refine xa_get (C := RX7) (T := TX7) (N := 7) cx hG hP 0 rfl rfl uX7 5 (by decide) lf_X7_48 rfl dX7_blend_19 ?_
      refine lv_aload_n hx hb dX7_blend_22 rfl (lv_at hl 0 rfl) ?_
      refine xa_get (C := RX7) (T := TX7) (N := 7) cx hG hP 0 rfl rfl uX7 2 (by decide) lf_X7_30 rfl dX7_blend_23 ?_
      refine lv_iload_n hx hb dX7_blend_26 rfl (lv_at hl 1 rfl) ?_
      refine lv_iload_n hx hb dX7_blend_27 rfl (lv_at hl 2 rfl) ?_
      obtain ⟨w6, w7, w8, hr5, h⟩ := ob3_out h
      refine rw_v (WN := fun u9 => [((a_t 0), .inr (6, [.ref (a_t_tape 0), .ref (a_t_reader 0), .ref (a_t_now 0), .ref (a_t 4), .ref (a_t_choices 0), .ref (a_t_ways 0), .ref (a_t_stress 0)])), ((a_t_ways 0), .inr (5, [.ref (a_t_ways 1), .int w7, .int w8])), ((a_t_ways 1), .inl (g.2.2.1 0, 256, .inl w6)), ((a_t_now 0), .inr (1, [.ref (a_t_now 1), .ref (a_t_now 2), .ref (a_t_now 3), .ref (a_t_now 4), .ref (a_t_now 5), .int t_now_told, .int t_now_lines, .int t_now_kinds, .int t_now_acts])), ((a_t_now 2), .inl (g.2.2.1 0, 144, .inl t_now_cells)), ((a_t_now 3), .inl (g.2.2.1 0, 31, .inl t_now_rows)), ((a_t_now 4), .inl (g.2.2.1 0, 31, .inl t_now_sizes)), ((a_t_now 5), .inl (g.2.2.1 0, 31, .inl t_now_rooms))]) (wr := [((a_t 0), .inr (6, [.ref (a_t_tape 0), .ref (a_t_reader 0), .ref (a_t_now 0), .ref (a_t 4), .ref (a_t_choices 0), .ref (a_t_ways 0), .ref (a_t_stress 0)]))]) (runVN (As := [.ref ((a_t_now 0)), .int v1, .int v2]) (rest := []) hG cx hl.1 (ctX6_explore l g s.heap.size a_t_ways a_t_now t_ways_all t_ways_stride t_ways_depths t_now_told t_now_lines t_now_kinds t_now_acts t_now_cells t_now_rows t_now_sizes t_now_rooms v1 v2 w6 w7 w8 hr5) kmX6_explore kvX6_explore nm_88 ⟨rfl, rfl⟩ ⟨Nat.le_of_ble_eq_true rfl, Nat.le_of_ble_eq_true rfl⟩ (rwV (q0 := 6) (ci := 5) hG (hP.sub [6, 7, 1, 2, 3, 4, 5] rfl) (hD.sub [6, 7, 1, 2, 3, 4, 5] (by decide) rfl) hAb hb0 hS hP rfl rfl) rfl rfl (Nat.le_of_ble_eq_true rfl) dX7_blend_28 ⟨Nat.le_of_ble_eq_true rfl, Nat.le_of_ble_eq_true rfl⟩) hP hD hS hA [6, 7, 1, 2, 3, 4, 5] [0] rfl rfl (by decide) (by decide) (fun _ => rfl) (fun u9 H locs hP hD hS => ?_)
      have hG := hGk hS
      refine lv_aload_n hx hb dX7_blend_31 rfl (lv_at hl 0 rfl) ?_
      refine xa_get (C := RX7) (T := TX7) (N := 7) cx hG hP 0 rfl rfl uX7 5 (by decide) lf_X7_48 rfl dX7_blend_32 ?_
      obtain ⟨r10, hr11, h⟩ := bnd h
      refine ro_i (runVN (As := []) (rest := []) hG cx hl.1 (ctX6_goal l g a_t_ways w7 w8 w6 r10 hr11) kmX6_goal kvX6_goal nm_89 ⟨rfl, rfl⟩ ⟨Nat.le_of_ble_eq_true rfl, Nat.le_of_ble_eq_true rfl⟩ (roV (q0 := 1) (ci := 5) hG (hP.sub [1, 2] rfl) hP rfl rfl) rfl rfl (Nat.le_of_ble_eq_true rfl) dX7_blend_35 ⟨Nat.le_of_ble_eq_true rfl, Nat.le_of_ble_eq_true rfl⟩) ?_
      refine lv_istore_n (lv' := [(3, .int r10), (0, .ref ((a_t 0))), (1, .int v1), (2, .int v2)]) hx hb dX7_blend_38 rfl hl (by decide) rfl (fun ls hl => ?_)
      refine lv_iload_n hx hb dX7_blend_39 rfl (lv_at hl 0 rfl) ?_
      refine lv_iconst (v := -1) hx hb dX7_blend_40 (by decide) ?_
      refine lv_icmp_ne (tgt := 48) hx hb dX7_blend_41 (by decide) (fun c12 => ?_) (fun c12 => ?_)
      · have h := itn c12 h
        refine lv_iload_n hx hb dX7_blend_48 rfl (lv_at hl 0 rfl) ?_
        refine ro_i (runS (As := [.int r10]) (rest := []) cx hl.1 (ctJ6_bitCount_0f7a4 l g r10 (fJ6_bitCount_0f7a4 r10) rfl) kmJ6_bitCount_0f7a4 ksJ6_bitCount_0f7a4 lm_X7_299 ⟨rfl, rfl⟩ ⟨Nat.le_of_ble_eq_true rfl, Nat.le_of_ble_eq_true rfl⟩ (roS hG (hP.sub [] rfl)) rfl rfl (Nat.le_of_ble_eq_true rfl) dX7_blend_49 ⟨Nat.le_of_ble_eq_true rfl, Nat.le_of_ble_eq_true rfl⟩) ?_
        exact hrt (fun _ => 0) _ _ ((fJ6_bitCount_0f7a4 r10)) w6 w7 w8 _ _ dX7_blend_52 h (hP.sub [0, 3, 4, 5, 6, 7, 1, 2] rfl) (hD.sub [0, 3, 4, 5, 6, 7, 1, 2] (by decide) rfl) hS
      · have h := itp c12 h
        refine lv_iconst (v := -1) hx hb dX7_blend_44 (by decide) ?_
        refine lv_goto (tgt := 52) hx hb dX7_blend_45 (by decide) ?_
        exact hrt (fun _ => 0) _ _ ((-1)) w6 w7 w8 _ _ dX7_blend_52 h (hP.sub [0, 3, 4, 5, 6, 7, 1, 2] rfl) (hD.sub [0, 3, 4, 5, 6, 7, 1, 2] (by decide) rfl) hS
    · have h := itp c4 h
      refine lv_bipush (v := -2) hx hb dX7_blend_15 (by decide) ?_
      exact hrt (fun _ => 0) _ _ ((-2)) t_ways_depths t_ways_all t_ways_stride _ _ dX7_blend_17 h (hP.sub [0, 1, 2, 3, 4, 5, 6, 7] rfl) (hD.sub [0, 1, 2, 3, 4, 5, 6, 7] (by decide) rfl) hS
-- X7_blends
theorem dX7_blends_0 : decode cX7_blends 0 = .ok (.aload_n 0, 1) := by decide +kernel
theorem dX7_blends_1 : decode cX7_blends 1 = .ok (.iload_n 1, 1) := by decide +kernel
theorem dX7_blends_2 : decode cX7_blends 2 = .ok (.invokevirtual 239, 3) := by decide +kernel
theorem dX7_blends_5 : decode cX7_blends 5 = .ok (.ifCond .eq 10, 3) := by decide +kernel
theorem dX7_blends_8 : decode cX7_blends 8 = .ok (.iload_n 2, 1) := by decide +kernel
theorem dX7_blends_9 : decode cX7_blends 9 = .ok (.invokestatic 290, 3) := by decide +kernel
theorem dX7_blends_12 : decode cX7_blends 12 = .ok (.ifCond .ne 6, 3) := by decide +kernel
theorem dX7_blends_15 : decode cX7_blends 15 = .ok (.bipush (-2), 2) := by decide +kernel
theorem dX7_blends_17 : decode cX7_blends 17 = .ok (.ireturn, 1) := by decide +kernel
theorem dX7_blends_18 : decode cX7_blends 18 = .ok (.aload_n 0, 1) := by decide +kernel
theorem dX7_blends_19 : decode cX7_blends 19 = .ok (.getfield 48, 3) := by decide +kernel
theorem dX7_blends_22 : decode cX7_blends 22 = .ok (.aload_n 0, 1) := by decide +kernel
theorem dX7_blends_23 : decode cX7_blends 23 = .ok (.getfield 30, 3) := by decide +kernel
theorem dX7_blends_26 : decode cX7_blends 26 = .ok (.iload_n 1, 1) := by decide +kernel
theorem dX7_blends_27 : decode cX7_blends 27 = .ok (.iload_n 2, 1) := by decide +kernel
theorem dX7_blends_28 : decode cX7_blends 28 = .ok (.invokevirtual 293, 3) := by decide +kernel
theorem dX7_blends_31 : decode cX7_blends 31 = .ok (.aload_n 0, 1) := by decide +kernel
theorem dX7_blends_32 : decode cX7_blends 32 = .ok (.getfield 48, 3) := by decide +kernel
theorem dX7_blends_35 : decode cX7_blends 35 = .ok (.invokevirtual 296, 3) := by decide +kernel
theorem dX7_blends_38 : decode cX7_blends 38 = .ok (.istore_n 3, 1) := by decide +kernel
theorem dX7_blends_39 : decode cX7_blends 39 = .ok (.iload_n 3, 1) := by decide +kernel
theorem dX7_blends_40 : decode cX7_blends 40 = .ok (.iconst (-1), 1) := by decide +kernel
theorem dX7_blends_41 : decode cX7_blends 41 = .ok (.if_icmp .ne 7, 3) := by decide +kernel
theorem dX7_blends_44 : decode cX7_blends 44 = .ok (.iconst (-1), 1) := by decide +kernel
theorem dX7_blends_45 : decode cX7_blends 45 = .ok (.goto 13, 3) := by decide +kernel
theorem dX7_blends_48 : decode cX7_blends 48 = .ok (.aload_n 0, 1) := by decide +kernel
theorem dX7_blends_49 : decode cX7_blends 49 = .ok (.getfield 48, 3) := by decide +kernel
theorem dX7_blends_52 : decode cX7_blends 52 = .ok (.iload_n 3, 1) := by decide +kernel
theorem dX7_blends_53 : decode cX7_blends 53 = .ok (.invokevirtual 304, 3) := by decide +kernel
theorem dX7_blends_56 : decode cX7_blends 56 = .ok (.iconst 1, 1) := by decide +kernel
theorem dX7_blends_57 : decode cX7_blends 57 = .ok (.iadd, 1) := by decide +kernel
theorem dX7_blends_58 : decode cX7_blends 58 = .ok (.ireturn, 1) := by decide +kernel
noncomputable def fX7_blends  (t_now_cells : Nat → Int32) (t_now_rows : Nat → Int32) (t_now_sizes : Nat → Int32) (t_now_rooms : Nat → Int32) (t_now_told : Int32) (t_now_acts : Int32) (t_ways_depths : Nat → Int32) (t_ways_all : Int32) (t_ways_stride : Int32) (v1 : Int32) (v2 : Int32) : Option (Int32 × (Nat → Int32) × Int32 × Int32) := (if (fX7_isMask t_now_told v1) = 0 then some ((-2), t_ways_depths, t_ways_all, t_ways_stride) else (if (fX7_isStride v2) = 0 then some ((-2), t_ways_depths, t_ways_all, t_ways_stride) else ob3 (fX6_explore t_ways_depths t_ways_all t_ways_stride t_now_cells t_now_rows t_now_sizes t_now_rooms t_now_acts v1 v2) fun w6 w7 w8 => (fX6_goal w6 w7).bind fun r10 => (if r10 = (-1) then some ((-1), w6, w7, w8) else (fX6_steps w6 r10).bind fun r13 => some ((r13 + 1), w6, w7, w8))))
set_option maxHeartbeats 4000000 in
set_option maxRecDepth 100000 in
theorem ctX7_blends (l : Launch) (g : GT) (sz : Nat) (a_t : Nat → Nat) (a_t_tape : Nat → Nat) (a_t_reader : Nat → Nat) (a_t_now : Nat → Nat) (a_t_choices : Nat → Nat) (a_t_ways : Nat → Nat) (a_t_stress : Nat → Nat) (t_now_told : Int32) (t_now_lines : Int32) (t_now_kinds : Int32) (t_now_acts : Int32) (t_now_cells : Nat → Int32) (t_now_rows : Nat → Int32) (t_now_sizes : Nat → Int32) (t_now_rooms : Nat → Int32) (t_ways_all : Int32) (t_ways_stride : Int32) (t_ways_depths : Nat → Int32) (v1 : Int32) (v2 : Int32) (o : Int32) (o_t_ways_depths : Nat → Int32) (o_t_ways_all : Int32) (o_t_ways_stride : Int32) (h : fX7_blends t_now_cells t_now_rows t_now_sizes t_now_rooms t_now_told t_now_acts t_ways_depths t_ways_all t_ways_stride v1 v2 = some (o, o_t_ways_depths, o_t_ways_all, o_t_ways_stride)) : Met l yX7_blends (Cond.code yX7_blends cX7_blends 4 (some .int) :: Tw) ⟨7, 0, 0, 170⟩ (va_Pc [.ref ((a_t 0)), .int v1, .int v2] (rwB g [((a_t 0), .inr (6, [.ref (a_t_tape 0), .ref (a_t_reader 0), .ref (a_t_now 0), .ref (a_t 4), .ref (a_t_choices 0), .ref (a_t_ways 0), .ref (a_t_stress 0)])), ((a_t_now 0), .inr (1, [.ref (a_t_now 1), .ref (a_t_now 2), .ref (a_t_now 3), .ref (a_t_now 4), .ref (a_t_now 5), .int t_now_told, .int t_now_lines, .int t_now_kinds, .int t_now_acts])), ((a_t_now 2), .inl (g.2.2.1 0, 144, .inl t_now_cells)), ((a_t_now 3), .inl (g.2.2.1 0, 31, .inl t_now_rows)), ((a_t_now 4), .inl (g.2.2.1 0, 31, .inl t_now_sizes)), ((a_t_now 5), .inl (g.2.2.1 0, 31, .inl t_now_rooms)), ((a_t_ways 0), .inr (5, [.ref (a_t_ways 1), .int t_ways_all, .int t_ways_stride])), ((a_t_ways 1), .inl (g.2.2.1 0, 256, .inl t_ways_depths))] sz)) (va_Qi (fun x (_ : Nat → Nat) => x = o) (fun u => rwE g (va_A [((a_t 0), .inr (6, [.ref (a_t_tape 0), .ref (a_t_reader 0), .ref (a_t_now 0), .ref (a_t 4), .ref (a_t_choices 0), .ref (a_t_ways 0), .ref (a_t_stress 0)])), ((a_t_now 0), .inr (1, [.ref (a_t_now 1), .ref (a_t_now 2), .ref (a_t_now 3), .ref (a_t_now 4), .ref (a_t_now 5), .int t_now_told, .int t_now_lines, .int t_now_kinds, .int t_now_acts])), ((a_t_now 2), .inl (g.2.2.1 0, 144, .inl t_now_cells)), ((a_t_now 3), .inl (g.2.2.1 0, 31, .inl t_now_rows)), ((a_t_now 4), .inl (g.2.2.1 0, 31, .inl t_now_sizes)), ((a_t_now 5), .inl (g.2.2.1 0, 31, .inl t_now_rooms)), ((a_t_ways 0), .inr (5, [.ref (a_t_ways 1), .int t_ways_all, .int t_ways_stride])), ((a_t_ways 1), .inl (g.2.2.1 0, 256, .inl t_ways_depths))] sz) [((a_t 0), .inr (6, [.ref (a_t_tape 0), .ref (a_t_reader 0), .ref (a_t_now 0), .ref (a_t 4), .ref (a_t_choices 0), .ref (a_t_ways 0), .ref (a_t_stress 0)])), ((a_t_now 0), .inr (1, [.ref (a_t_now 1), .ref (a_t_now 2), .ref (a_t_now 3), .ref (a_t_now 4), .ref (a_t_now 5), .int t_now_told, .int t_now_lines, .int t_now_kinds, .int t_now_acts])), ((a_t_now 2), .inl (g.2.2.1 0, 144, .inl t_now_cells)), ((a_t_now 3), .inl (g.2.2.1 0, 31, .inl t_now_rows)), ((a_t_now 4), .inl (g.2.2.1 0, 31, .inl t_now_sizes)), ((a_t_now 5), .inl (g.2.2.1 0, 31, .inl t_now_rooms)), ((a_t_ways 0), .inr (5, [.ref (a_t_ways 1), .int o_t_ways_all, .int o_t_ways_stride])), ((a_t_ways 1), .inl (g.2.2.1 0, 256, .inl o_t_ways_depths))]) (va_A [((a_t 0), .inr (6, [.ref (a_t_tape 0), .ref (a_t_reader 0), .ref (a_t_now 0), .ref (a_t 4), .ref (a_t_choices 0), .ref (a_t_ways 0), .ref (a_t_stress 0)])), ((a_t_now 0), .inr (1, [.ref (a_t_now 1), .ref (a_t_now 2), .ref (a_t_now 3), .ref (a_t_now 4), .ref (a_t_now 5), .int t_now_told, .int t_now_lines, .int t_now_kinds, .int t_now_acts])), ((a_t_now 2), .inl (g.2.2.1 0, 144, .inl t_now_cells)), ((a_t_now 3), .inl (g.2.2.1 0, 31, .inl t_now_rows)), ((a_t_now 4), .inl (g.2.2.1 0, 31, .inl t_now_sizes)), ((a_t_now 5), .inl (g.2.2.1 0, 31, .inl t_now_rooms)), ((a_t_ways 0), .inr (5, [.ref (a_t_ways 1), .int t_ways_all, .int t_ways_stride])), ((a_t_ways 1), .inl (g.2.2.1 0, 256, .inl t_ways_depths))] sz)) 0 0 (va_A [((a_t 0), .inr (6, [.ref (a_t_tape 0), .ref (a_t_reader 0), .ref (a_t_now 0), .ref (a_t 4), .ref (a_t_choices 0), .ref (a_t_ways 0), .ref (a_t_stress 0)])), ((a_t_now 0), .inr (1, [.ref (a_t_now 1), .ref (a_t_now 2), .ref (a_t_now 3), .ref (a_t_now 4), .ref (a_t_now 5), .int t_now_told, .int t_now_lines, .int t_now_kinds, .int t_now_acts])), ((a_t_now 2), .inl (g.2.2.1 0, 144, .inl t_now_cells)), ((a_t_now 3), .inl (g.2.2.1 0, 31, .inl t_now_rows)), ((a_t_now 4), .inl (g.2.2.1 0, 31, .inl t_now_sizes)), ((a_t_now 5), .inl (g.2.2.1 0, 31, .inl t_now_rooms)), ((a_t_ways 0), .inr (5, [.ref (a_t_ways 1), .int t_ways_all, .int t_ways_stride])), ((a_t_ways 1), .inl (g.2.2.1 0, 256, .inl t_ways_depths))] sz) := by
  refine rw_meti (by decide) (Nat.le_of_ble_eq_true rfl) (lv0 := [(0, .ref ((a_t 0))), (1, .int v1), (2, .int v2)]) rfl ?_
  intro p e s m args below meth c ls Q A cx hret hG hAb hb0 hA hP hD hl
  have hx := cx.1
  have hb := cx.2.1
  have hG0 := hG
  have hGk : ∀ {H : Heap} {locs : List Loc}, va_S A s.heap H locs → GE g s H := fun hS => hG0.keptS hAb hS
  have hSb : ∀ {H : Heap} {locs : List Loc}, va_S A s.heap H locs → va_S (fun a => g.1 ≤ a) s.heap H locs := fun hS => ⟨hS.1, fun q h1 h2 => hS.2.1 q h1 (fun z => h2 (hAb q z)), fun l hl => hAb _ (hS.2.2 l hl)⟩
  have hS : va_S A s.heap s.heap [] := va_S.rf
  have hrt : ∀ (u : Nat → Nat) (pc : Nat) (ls : Array Slot) (v : Int32) (x_t_ways_depths : Nat → Int32) (x_t_ways_all : Int32) (x_t_ways_stride : Int32) (H : Heap) (locs : List Loc), decode cX7_blends pc = .ok (.ireturn, 1) → some (v, x_t_ways_depths, x_t_ways_all, x_t_ways_stride) = some (o, o_t_ways_depths, o_t_ways_all, o_t_ways_stride) → va_P g.2.1 vwCl [((a_t 0), .inr (6, [.ref (a_t_tape 0), .ref (a_t_reader 0), .ref (a_t_now 0), .ref (a_t 4), .ref (a_t_choices 0), .ref (a_t_ways 0), .ref (a_t_stress 0)])), ((a_t_now 0), .inr (1, [.ref (a_t_now 1), .ref (a_t_now 2), .ref (a_t_now 3), .ref (a_t_now 4), .ref (a_t_now 5), .int t_now_told, .int t_now_lines, .int t_now_kinds, .int t_now_acts])), ((a_t_now 2), .inl (g.2.2.1 0, 144, .inl t_now_cells)), ((a_t_now 3), .inl (g.2.2.1 0, 31, .inl t_now_rows)), ((a_t_now 4), .inl (g.2.2.1 0, 31, .inl t_now_sizes)), ((a_t_now 5), .inl (g.2.2.1 0, 31, .inl t_now_rooms)), ((a_t_ways 0), .inr (5, [.ref (a_t_ways 1), .int x_t_ways_all, .int x_t_ways_stride])), ((a_t_ways 1), .inl (g.2.2.1 0, 256, .inl x_t_ways_depths))] H → va_D A [((a_t 0), .inr (6, [.ref (a_t_tape 0), .ref (a_t_reader 0), .ref (a_t_now 0), .ref (a_t 4), .ref (a_t_choices 0), .ref (a_t_ways 0), .ref (a_t_stress 0)])), ((a_t_now 0), .inr (1, [.ref (a_t_now 1), .ref (a_t_now 2), .ref (a_t_now 3), .ref (a_t_now 4), .ref (a_t_now 5), .int t_now_told, .int t_now_lines, .int t_now_kinds, .int t_now_acts])), ((a_t_now 2), .inl (g.2.2.1 0, 144, .inl t_now_cells)), ((a_t_now 3), .inl (g.2.2.1 0, 31, .inl t_now_rows)), ((a_t_now 4), .inl (g.2.2.1 0, 31, .inl t_now_sizes)), ((a_t_now 5), .inl (g.2.2.1 0, 31, .inl t_now_rooms)), ((a_t_ways 0), .inr (5, [.ref (a_t_ways 1), .int x_t_ways_all, .int x_t_ways_stride])), ((a_t_ways 1), .inl (g.2.2.1 0, 256, .inl x_t_ways_depths))] → va_S A s.heap H locs → W p l e ⟨7, 0, 0, 170⟩ s m args below meth c H locs 0 0 Q (F0 m pc ls [.int v]) := by
    intro u pc ls v x_t_ways_depths x_t_ways_all x_t_ways_stride H locs hd h hP hD hS
    cases h
    exact hret u _ _ _ _ _ hd rfl hP hD hS
  unfold fX7_blends at h
  refine lv_aload_n hx hb dX7_blends_0 rfl (lv_at hl 0 rfl) ?_
  refine lv_iload_n hx hb dX7_blends_1 rfl (lv_at hl 1 rfl) ?_
  refine ro_z (runV (As := [.int v1]) (rest := []) cx hl.1 (ctX7_isMask l g a_t a_t_tape a_t_reader a_t_now a_t_choices a_t_ways a_t_stress t_now_told t_now_lines t_now_kinds t_now_acts v1 (fX7_isMask t_now_told v1) rfl) kmX7_isMask kvX7_isMask lm_X7_239 ⟨rfl, rfl⟩ ⟨Nat.le_of_ble_eq_true rfl, Nat.le_of_ble_eq_true rfl⟩ (roV (q0 := 0) (ci := 6) hG (hP.sub [0, 1] rfl) hP rfl rfl) rfl rfl (Nat.le_of_ble_eq_true rfl) dX7_blends_2 ⟨Nat.le_of_ble_eq_true rfl, Nat.le_of_ble_eq_true rfl⟩) (fun hz1 => ?_)
  refine lv_if_eq (tgt := 15) hx hb dX7_blends_5 (by decide) (fun c2 => ?_) (fun c2 => ?_)
  · have h := itp c2 h
    refine lv_bipush (v := -2) hx hb dX7_blends_15 (by decide) ?_
    exact hrt (fun _ => 0) _ _ ((-2)) t_ways_depths t_ways_all t_ways_stride _ _ dX7_blends_17 h (hP.sub [0, 1, 2, 3, 4, 5, 6, 7] rfl) (hD.sub [0, 1, 2, 3, 4, 5, 6, 7] (by decide) rfl) hS
  · have h := itn c2 h
    refine lv_iload_n hx hb dX7_blends_8 rfl (lv_at hl 2 rfl) ?_
    refine ro_z (runS (As := [.int v2]) (rest := []) cx hl.1 (ctX7_isStride l g v2 (fX7_isStride v2) rfl) kmX7_isStride ksX7_isStride lm_X7_290 ⟨rfl, rfl⟩ ⟨Nat.le_of_ble_eq_true rfl, Nat.le_of_ble_eq_true rfl⟩ (roS hG (hP.sub [] rfl)) rfl rfl (Nat.le_of_ble_eq_true rfl) dX7_blends_9 ⟨Nat.le_of_ble_eq_true rfl, Nat.le_of_ble_eq_true rfl⟩) (fun hz3 => ?_)
    refine lv_if_ne (tgt := 18) hx hb dX7_blends_12 (by decide) (fun c4 => ?_) (fun c4 => ?_)
    · have h := itn c4 h
      refine lv_aload_n hx hb dX7_blends_18 rfl (lv_at hl 0 rfl) ?_
      refine xa_get (C := RX7) (T := TX7) (N := 7) cx hG hP 0 rfl rfl uX7 5 (by decide) lf_X7_48 rfl dX7_blends_19 ?_
      refine lv_aload_n hx hb dX7_blends_22 rfl (lv_at hl 0 rfl) ?_
      refine xa_get (C := RX7) (T := TX7) (N := 7) cx hG hP 0 rfl rfl uX7 2 (by decide) lf_X7_30 rfl dX7_blends_23 ?_
      refine lv_iload_n hx hb dX7_blends_26 rfl (lv_at hl 1 rfl) ?_
      refine lv_iload_n hx hb dX7_blends_27 rfl (lv_at hl 2 rfl) ?_
      obtain ⟨w6, w7, w8, hr5, h⟩ := ob3_out h
      refine rw_v (WN := fun u9 => [((a_t 0), .inr (6, [.ref (a_t_tape 0), .ref (a_t_reader 0), .ref (a_t_now 0), .ref (a_t 4), .ref (a_t_choices 0), .ref (a_t_ways 0), .ref (a_t_stress 0)])), ((a_t_ways 0), .inr (5, [.ref (a_t_ways 1), .int w7, .int w8])), ((a_t_ways 1), .inl (g.2.2.1 0, 256, .inl w6)), ((a_t_now 0), .inr (1, [.ref (a_t_now 1), .ref (a_t_now 2), .ref (a_t_now 3), .ref (a_t_now 4), .ref (a_t_now 5), .int t_now_told, .int t_now_lines, .int t_now_kinds, .int t_now_acts])), ((a_t_now 2), .inl (g.2.2.1 0, 144, .inl t_now_cells)), ((a_t_now 3), .inl (g.2.2.1 0, 31, .inl t_now_rows)), ((a_t_now 4), .inl (g.2.2.1 0, 31, .inl t_now_sizes)), ((a_t_now 5), .inl (g.2.2.1 0, 31, .inl t_now_rooms))]) (wr := [((a_t 0), .inr (6, [.ref (a_t_tape 0), .ref (a_t_reader 0), .ref (a_t_now 0), .ref (a_t 4), .ref (a_t_choices 0), .ref (a_t_ways 0), .ref (a_t_stress 0)]))]) (runVN (As := [.ref ((a_t_now 0)), .int v1, .int v2]) (rest := []) hG cx hl.1 (ctX6_explore l g s.heap.size a_t_ways a_t_now t_ways_all t_ways_stride t_ways_depths t_now_told t_now_lines t_now_kinds t_now_acts t_now_cells t_now_rows t_now_sizes t_now_rooms v1 v2 w6 w7 w8 hr5) kmX6_explore kvX6_explore nm_88 ⟨rfl, rfl⟩ ⟨Nat.le_of_ble_eq_true rfl, Nat.le_of_ble_eq_true rfl⟩ (rwV (q0 := 6) (ci := 5) hG (hP.sub [6, 7, 1, 2, 3, 4, 5] rfl) (hD.sub [6, 7, 1, 2, 3, 4, 5] (by decide) rfl) hAb hb0 hS hP rfl rfl) rfl rfl (Nat.le_of_ble_eq_true rfl) dX7_blends_28 ⟨Nat.le_of_ble_eq_true rfl, Nat.le_of_ble_eq_true rfl⟩) hP hD hS hA [6, 7, 1, 2, 3, 4, 5] [0] rfl rfl (by decide) (by decide) (fun _ => rfl) (fun u9 H locs hP hD hS => ?_)
      have hG := hGk hS
      refine lv_aload_n hx hb dX7_blends_31 rfl (lv_at hl 0 rfl) ?_
      refine xa_get (C := RX7) (T := TX7) (N := 7) cx hG hP 0 rfl rfl uX7 5 (by decide) lf_X7_48 rfl dX7_blends_32 ?_
      obtain ⟨r10, hr11, h⟩ := bnd h
      refine ro_i (runVN (As := []) (rest := []) hG cx hl.1 (ctX6_goal l g a_t_ways w7 w8 w6 r10 hr11) kmX6_goal kvX6_goal nm_89 ⟨rfl, rfl⟩ ⟨Nat.le_of_ble_eq_true rfl, Nat.le_of_ble_eq_true rfl⟩ (roV (q0 := 1) (ci := 5) hG (hP.sub [1, 2] rfl) hP rfl rfl) rfl rfl (Nat.le_of_ble_eq_true rfl) dX7_blends_35 ⟨Nat.le_of_ble_eq_true rfl, Nat.le_of_ble_eq_true rfl⟩) ?_
      refine lv_istore_n (lv' := [(3, .int r10), (0, .ref ((a_t 0))), (1, .int v1), (2, .int v2)]) hx hb dX7_blends_38 rfl hl (by decide) rfl (fun ls hl => ?_)
      refine lv_iload_n hx hb dX7_blends_39 rfl (lv_at hl 0 rfl) ?_
      refine lv_iconst (v := -1) hx hb dX7_blends_40 (by decide) ?_
      refine lv_icmp_ne (tgt := 48) hx hb dX7_blends_41 (by decide) (fun c12 => ?_) (fun c12 => ?_)
      · have h := itn c12 h
        refine lv_aload_n hx hb dX7_blends_48 rfl (lv_at hl 1 rfl) ?_
        refine xa_get (C := RX7) (T := TX7) (N := 7) cx hG hP 0 rfl rfl uX7 5 (by decide) lf_X7_48 rfl dX7_blends_49 ?_
        refine lv_iload_n hx hb dX7_blends_52 rfl (lv_at hl 0 rfl) ?_
        obtain ⟨r13, hr14, h⟩ := bnd h
        refine ro_i (runVN (As := [.int r10]) (rest := []) hG cx hl.1 (ctX6_steps l g a_t_ways w7 w8 w6 r10 r13 hr14) kmX6_steps kvX6_steps nm_90 ⟨rfl, rfl⟩ ⟨Nat.le_of_ble_eq_true rfl, Nat.le_of_ble_eq_true rfl⟩ (roV (q0 := 1) (ci := 5) hG (hP.sub [1, 2] rfl) hP rfl rfl) rfl rfl (Nat.le_of_ble_eq_true rfl) dX7_blends_53 ⟨Nat.le_of_ble_eq_true rfl, Nat.le_of_ble_eq_true rfl⟩) ?_
        refine lv_iconst (v := 1) hx hb dX7_blends_56 (by decide) ?_
        refine lv_iadd hx hb dX7_blends_57 ?_
        exact hrt (fun _ => 0) _ _ ((r13 + 1)) w6 w7 w8 _ _ dX7_blends_58 h (hP.sub [0, 3, 4, 5, 6, 7, 1, 2] rfl) (hD.sub [0, 3, 4, 5, 6, 7, 1, 2] (by decide) rfl) hS
      · have h := itp c12 h
        refine lv_iconst (v := -1) hx hb dX7_blends_44 (by decide) ?_
        refine lv_goto (tgt := 58) hx hb dX7_blends_45 (by decide) ?_
        exact hrt (fun _ => 0) _ _ ((-1)) w6 w7 w8 _ _ dX7_blends_58 h (hP.sub [0, 3, 4, 5, 6, 7, 1, 2] rfl) (hD.sub [0, 3, 4, 5, 6, 7, 1, 2] (by decide) rfl) hS
    · have h := itp c4 h
      refine lv_bipush (v := -2) hx hb dX7_blends_15 (by decide) ?_
      exact hrt (fun _ => 0) _ _ ((-2)) t_ways_depths t_ways_all t_ways_stride _ _ dX7_blends_17 h (hP.sub [0, 1, 2, 3, 4, 5, 6, 7] rfl) (hD.sub [0, 1, 2, 3, 4, 5, 6, 7] (by decide) rfl) hS
-- X7_isSet
theorem dX7_isSet_0 : decode cX7_isSet 0 = .ok (.aload_n 0, 1) := by decide +kernel
theorem dX7_isSet_1 : decode cX7_isSet 1 = .ok (.getfield 30, 3) := by decide +kernel
theorem dX7_isSet_4 : decode cX7_isSet 4 = .ok (.getfield 139, 3) := by decide +kernel
theorem dX7_isSet_7 : decode cX7_isSet 7 = .ok (.ifCond .eq 23, 3) := by decide +kernel
theorem dX7_isSet_10 : decode cX7_isSet 10 = .ok (.iload_n 1, 1) := by decide +kernel
theorem dX7_isSet_11 : decode cX7_isSet 11 = .ok (.iconst 1, 1) := by decide +kernel
theorem dX7_isSet_12 : decode cX7_isSet 12 = .ok (.if_icmp .lt 18, 3) := by decide +kernel
theorem dX7_isSet_15 : decode cX7_isSet 15 = .ok (.iload_n 1, 1) := by decide +kernel
theorem dX7_isSet_16 : decode cX7_isSet 16 = .ok (.aload_n 0, 1) := by decide +kernel
theorem dX7_isSet_17 : decode cX7_isSet 17 = .ok (.getfield 30, 3) := by decide +kernel
theorem dX7_isSet_20 : decode cX7_isSet 20 = .ok (.invokevirtual 339, 3) := by decide +kernel
theorem dX7_isSet_23 : decode cX7_isSet 23 = .ok (.if_icmp .gt 7, 3) := by decide +kernel
theorem dX7_isSet_26 : decode cX7_isSet 26 = .ok (.iconst 1, 1) := by decide +kernel
theorem dX7_isSet_27 : decode cX7_isSet 27 = .ok (.goto 4, 3) := by decide +kernel
theorem dX7_isSet_30 : decode cX7_isSet 30 = .ok (.iconst 0, 1) := by decide +kernel
theorem dX7_isSet_31 : decode cX7_isSet 31 = .ok (.ireturn, 1) := by decide +kernel
noncomputable def fX7_isSet  (t_now_sizes : Nat → Int32) (t_now_told : Int32) (t_now_acts : Int32) (v1 : Int32) : Option (Int32) := (if t_now_told = 0 then some (0) else (if v1 < 1 then some (0) else (fX1_allPlies t_now_sizes t_now_acts).bind fun r3 => (if r3 < v1 then some (0) else some (1))))
set_option maxHeartbeats 4000000 in
set_option maxRecDepth 100000 in
theorem ctX7_isSet (l : Launch) (g : GT) (a_t : Nat → Nat) (a_t_tape : Nat → Nat) (a_t_reader : Nat → Nat) (a_t_now : Nat → Nat) (a_t_choices : Nat → Nat) (a_t_ways : Nat → Nat) (a_t_stress : Nat → Nat) (t_now_told : Int32) (t_now_lines : Int32) (t_now_kinds : Int32) (t_now_acts : Int32) (t_now_sizes : Nat → Int32) (v1 : Int32) (o : Int32) (h : fX7_isSet t_now_sizes t_now_told t_now_acts v1 = some o) : Met l yX7_isSet (Cond.code yX7_isSet cX7_isSet 2 (some .boolean) :: Tw) ⟨2, 0, 0, 40⟩ (va_Pc [.ref ((a_t 0)), .int v1] (roB g [((a_t 0), .inr (6, [.ref (a_t_tape 0), .ref (a_t_reader 0), .ref (a_t_now 0), .ref (a_t 4), .ref (a_t_choices 0), .ref (a_t_ways 0), .ref (a_t_stress 0)])), ((a_t_now 0), .inr (1, [.ref (a_t_now 1), .ref (a_t_now 2), .ref (a_t_now 3), .ref (a_t_now 4), .ref (a_t_now 5), .int t_now_told, .int t_now_lines, .int t_now_kinds, .int t_now_acts])), ((a_t_now 4), .inl (g.2.2.1 0, 31, .inl t_now_sizes))])) (vp_Si (fun x => x = o ∧ (x = 0 ∨ x = 1))) 0 0 (fun _ => False) := by
  refine ro_metz (by decide) (Nat.le_of_ble_eq_true rfl) (lv0 := [(0, .ref ((a_t 0))), (1, .int v1)]) rfl ?_
  intro p e s m args below meth c ls Q cx hret hG hP hl
  have hx := cx.1
  have hb := cx.2.1
  have hG0 := hG
  unfold fX7_isSet at h
  refine lv_aload_n hx hb dX7_isSet_0 rfl (lv_at hl 0 rfl) ?_
  refine xa_get (C := RX7) (T := TX7) (N := 7) cx hG hP 0 rfl rfl uX7 2 (by decide) lf_X7_30 rfl dX7_isSet_1 ?_
  refine xa_getN (C := RX1) (T := TX1) (N := 9) cx hG hP 1 rfl rfl uX1 5 (by decide) nf_5 rfl dX7_isSet_4 ?_
  refine lv_if_eq (tgt := 30) hx hb dX7_isSet_7 (by decide) (fun c1 => ?_) (fun c1 => ?_)
  · have h := itp c1 h
    refine lv_iconst (v := 0) hx hb dX7_isSet_30 (by decide) ?_
    exact hret _ _ _ dX7_isSet_31 (by decide) (Option.some.inj h)
  · have h := itn c1 h
    refine lv_iload_n hx hb dX7_isSet_10 rfl (lv_at hl 1 rfl) ?_
    refine lv_iconst (v := 1) hx hb dX7_isSet_11 (by decide) ?_
    refine lv_icmp_lt (tgt := 30) hx hb dX7_isSet_12 (by decide) (fun c2 => ?_) (fun c2 => ?_)
    · have h := itp c2 h
      refine lv_iconst (v := 0) hx hb dX7_isSet_30 (by decide) ?_
      exact hret _ _ _ dX7_isSet_31 (by decide) (Option.some.inj h)
    · have h := itn c2 h
      refine lv_iload_n hx hb dX7_isSet_15 rfl (lv_at hl 1 rfl) ?_
      refine lv_aload_n hx hb dX7_isSet_16 rfl (lv_at hl 0 rfl) ?_
      refine xa_get (C := RX7) (T := TX7) (N := 7) cx hG hP 0 rfl rfl uX7 2 (by decide) lf_X7_30 rfl dX7_isSet_17 ?_
      obtain ⟨r3, hr4, h⟩ := bnd h
      refine ro_i (runVN (As := []) (rest := [.int v1]) hG cx hl.1 (ctX1_allPlies l g a_t_now t_now_told t_now_lines t_now_kinds t_now_acts t_now_sizes r3 hr4) kmX1_allPlies kvX1_allPlies nm_91 ⟨rfl, rfl⟩ ⟨Nat.le_of_ble_eq_true rfl, Nat.le_of_ble_eq_true rfl⟩ (roV (q0 := 1) (ci := 1) hG (hP.sub [1, 2] rfl) hP rfl rfl) rfl rfl (Nat.le_of_ble_eq_true rfl) dX7_isSet_20 ⟨Nat.le_of_ble_eq_true rfl, Nat.le_of_ble_eq_true rfl⟩) ?_
      refine lv_icmp_gt (tgt := 30) hx hb dX7_isSet_23 (by decide) (fun c5 => ?_) (fun c5 => ?_)
      · have h := itp c5 h
        refine lv_iconst (v := 0) hx hb dX7_isSet_30 (by decide) ?_
        exact hret _ _ _ dX7_isSet_31 (by decide) (Option.some.inj h)
      · have h := itn c5 h
        refine lv_iconst (v := 1) hx hb dX7_isSet_26 (by decide) ?_
        refine lv_goto (tgt := 31) hx hb dX7_isSet_27 (by decide) ?_
        exact hret _ _ _ dX7_isSet_31 (by decide) (Option.some.inj h)
-- X7_comes
theorem dX7_comes_0 : decode cX7_comes 0 = .ok (.aload_n 0, 1) := by decide +kernel
theorem dX7_comes_1 : decode cX7_comes 1 = .ok (.iload_n 1, 1) := by decide +kernel
theorem dX7_comes_2 : decode cX7_comes 2 = .ok (.invokevirtual 239, 3) := by decide +kernel
theorem dX7_comes_5 : decode cX7_comes 5 = .ok (.ifCond .eq 18, 3) := by decide +kernel
theorem dX7_comes_8 : decode cX7_comes 8 = .ok (.iload_n 2, 1) := by decide +kernel
theorem dX7_comes_9 : decode cX7_comes 9 = .ok (.invokestatic 290, 3) := by decide +kernel
theorem dX7_comes_12 : decode cX7_comes 12 = .ok (.ifCond .eq 11, 3) := by decide +kernel
theorem dX7_comes_15 : decode cX7_comes 15 = .ok (.aload_n 0, 1) := by decide +kernel
theorem dX7_comes_16 : decode cX7_comes 16 = .ok (.iload_n 3, 1) := by decide +kernel
theorem dX7_comes_17 : decode cX7_comes 17 = .ok (.invokevirtual 307, 3) := by decide +kernel
theorem dX7_comes_20 : decode cX7_comes 20 = .ok (.ifCond .ne 6, 3) := by decide +kernel
theorem dX7_comes_23 : decode cX7_comes 23 = .ok (.bipush (-2), 2) := by decide +kernel
theorem dX7_comes_25 : decode cX7_comes 25 = .ok (.ireturn, 1) := by decide +kernel
theorem dX7_comes_26 : decode cX7_comes 26 = .ok (.aload_n 0, 1) := by decide +kernel
theorem dX7_comes_27 : decode cX7_comes 27 = .ok (.getfield 48, 3) := by decide +kernel
theorem dX7_comes_30 : decode cX7_comes 30 = .ok (.aload_n 0, 1) := by decide +kernel
theorem dX7_comes_31 : decode cX7_comes 31 = .ok (.getfield 30, 3) := by decide +kernel
theorem dX7_comes_34 : decode cX7_comes 34 = .ok (.iload_n 1, 1) := by decide +kernel
theorem dX7_comes_35 : decode cX7_comes 35 = .ok (.iload_n 2, 1) := by decide +kernel
theorem dX7_comes_36 : decode cX7_comes 36 = .ok (.invokevirtual 293, 3) := by decide +kernel
theorem dX7_comes_39 : decode cX7_comes 39 = .ok (.aload_n 0, 1) := by decide +kernel
theorem dX7_comes_40 : decode cX7_comes 40 = .ok (.getfield 48, 3) := by decide +kernel
theorem dX7_comes_43 : decode cX7_comes 43 = .ok (.iload_n 3, 1) := by decide +kernel
theorem dX7_comes_44 : decode cX7_comes 44 = .ok (.invokevirtual 304, 3) := by decide +kernel
theorem dX7_comes_47 : decode cX7_comes 47 = .ok (.iconst (-1), 1) := by decide +kernel
theorem dX7_comes_48 : decode cX7_comes 48 = .ok (.if_icmp .ne 7, 3) := by decide +kernel
theorem dX7_comes_51 : decode cX7_comes 51 = .ok (.iconst 0, 1) := by decide +kernel
theorem dX7_comes_52 : decode cX7_comes 52 = .ok (.goto 4, 3) := by decide +kernel
theorem dX7_comes_55 : decode cX7_comes 55 = .ok (.iconst 1, 1) := by decide +kernel
theorem dX7_comes_56 : decode cX7_comes 56 = .ok (.ireturn, 1) := by decide +kernel
noncomputable def fX7_comes  (t_now_cells : Nat → Int32) (t_now_rows : Nat → Int32) (t_now_sizes : Nat → Int32) (t_now_rooms : Nat → Int32) (t_now_told : Int32) (t_now_acts : Int32) (t_ways_depths : Nat → Int32) (t_ways_all : Int32) (t_ways_stride : Int32) (v1 : Int32) (v2 : Int32) (v3 : Int32) : Option (Int32 × (Nat → Int32) × Int32 × Int32) := (if (fX7_isMask t_now_told v1) = 0 then some ((-2), t_ways_depths, t_ways_all, t_ways_stride) else (if (fX7_isStride v2) = 0 then some ((-2), t_ways_depths, t_ways_all, t_ways_stride) else (fX7_isSet t_now_sizes t_now_told t_now_acts v3).bind fun r5 => (if r5 = 0 then some ((-2), t_ways_depths, t_ways_all, t_ways_stride) else ob3 (fX6_explore t_ways_depths t_ways_all t_ways_stride t_now_cells t_now_rows t_now_sizes t_now_rooms t_now_acts v1 v2) fun w10 w11 w12 => (fX6_steps w10 v3).bind fun r14 => (if r14 = (-1) then some ((0), w10, w11, w12) else some ((1), w10, w11, w12)))))
set_option maxHeartbeats 4000000 in
set_option maxRecDepth 100000 in
theorem ctX7_comes (l : Launch) (g : GT) (sz : Nat) (a_t : Nat → Nat) (a_t_tape : Nat → Nat) (a_t_reader : Nat → Nat) (a_t_now : Nat → Nat) (a_t_choices : Nat → Nat) (a_t_ways : Nat → Nat) (a_t_stress : Nat → Nat) (t_now_told : Int32) (t_now_lines : Int32) (t_now_kinds : Int32) (t_now_acts : Int32) (t_now_cells : Nat → Int32) (t_now_rows : Nat → Int32) (t_now_sizes : Nat → Int32) (t_now_rooms : Nat → Int32) (t_ways_all : Int32) (t_ways_stride : Int32) (t_ways_depths : Nat → Int32) (v1 : Int32) (v2 : Int32) (v3 : Int32) (o : Int32) (o_t_ways_depths : Nat → Int32) (o_t_ways_all : Int32) (o_t_ways_stride : Int32) (h : fX7_comes t_now_cells t_now_rows t_now_sizes t_now_rooms t_now_told t_now_acts t_ways_depths t_ways_all t_ways_stride v1 v2 v3 = some (o, o_t_ways_depths, o_t_ways_all, o_t_ways_stride)) : Met l yX7_comes (Cond.code yX7_comes cX7_comes 4 (some .int) :: Tw) ⟨7, 0, 0, 170⟩ (va_Pc [.ref ((a_t 0)), .int v1, .int v2, .int v3] (rwB g [((a_t 0), .inr (6, [.ref (a_t_tape 0), .ref (a_t_reader 0), .ref (a_t_now 0), .ref (a_t 4), .ref (a_t_choices 0), .ref (a_t_ways 0), .ref (a_t_stress 0)])), ((a_t_now 0), .inr (1, [.ref (a_t_now 1), .ref (a_t_now 2), .ref (a_t_now 3), .ref (a_t_now 4), .ref (a_t_now 5), .int t_now_told, .int t_now_lines, .int t_now_kinds, .int t_now_acts])), ((a_t_now 2), .inl (g.2.2.1 0, 144, .inl t_now_cells)), ((a_t_now 3), .inl (g.2.2.1 0, 31, .inl t_now_rows)), ((a_t_now 4), .inl (g.2.2.1 0, 31, .inl t_now_sizes)), ((a_t_now 5), .inl (g.2.2.1 0, 31, .inl t_now_rooms)), ((a_t_ways 0), .inr (5, [.ref (a_t_ways 1), .int t_ways_all, .int t_ways_stride])), ((a_t_ways 1), .inl (g.2.2.1 0, 256, .inl t_ways_depths))] sz)) (va_Qi (fun x (_ : Nat → Nat) => x = o) (fun u => rwE g (va_A [((a_t 0), .inr (6, [.ref (a_t_tape 0), .ref (a_t_reader 0), .ref (a_t_now 0), .ref (a_t 4), .ref (a_t_choices 0), .ref (a_t_ways 0), .ref (a_t_stress 0)])), ((a_t_now 0), .inr (1, [.ref (a_t_now 1), .ref (a_t_now 2), .ref (a_t_now 3), .ref (a_t_now 4), .ref (a_t_now 5), .int t_now_told, .int t_now_lines, .int t_now_kinds, .int t_now_acts])), ((a_t_now 2), .inl (g.2.2.1 0, 144, .inl t_now_cells)), ((a_t_now 3), .inl (g.2.2.1 0, 31, .inl t_now_rows)), ((a_t_now 4), .inl (g.2.2.1 0, 31, .inl t_now_sizes)), ((a_t_now 5), .inl (g.2.2.1 0, 31, .inl t_now_rooms)), ((a_t_ways 0), .inr (5, [.ref (a_t_ways 1), .int t_ways_all, .int t_ways_stride])), ((a_t_ways 1), .inl (g.2.2.1 0, 256, .inl t_ways_depths))] sz) [((a_t 0), .inr (6, [.ref (a_t_tape 0), .ref (a_t_reader 0), .ref (a_t_now 0), .ref (a_t 4), .ref (a_t_choices 0), .ref (a_t_ways 0), .ref (a_t_stress 0)])), ((a_t_now 0), .inr (1, [.ref (a_t_now 1), .ref (a_t_now 2), .ref (a_t_now 3), .ref (a_t_now 4), .ref (a_t_now 5), .int t_now_told, .int t_now_lines, .int t_now_kinds, .int t_now_acts])), ((a_t_now 2), .inl (g.2.2.1 0, 144, .inl t_now_cells)), ((a_t_now 3), .inl (g.2.2.1 0, 31, .inl t_now_rows)), ((a_t_now 4), .inl (g.2.2.1 0, 31, .inl t_now_sizes)), ((a_t_now 5), .inl (g.2.2.1 0, 31, .inl t_now_rooms)), ((a_t_ways 0), .inr (5, [.ref (a_t_ways 1), .int o_t_ways_all, .int o_t_ways_stride])), ((a_t_ways 1), .inl (g.2.2.1 0, 256, .inl o_t_ways_depths))]) (va_A [((a_t 0), .inr (6, [.ref (a_t_tape 0), .ref (a_t_reader 0), .ref (a_t_now 0), .ref (a_t 4), .ref (a_t_choices 0), .ref (a_t_ways 0), .ref (a_t_stress 0)])), ((a_t_now 0), .inr (1, [.ref (a_t_now 1), .ref (a_t_now 2), .ref (a_t_now 3), .ref (a_t_now 4), .ref (a_t_now 5), .int t_now_told, .int t_now_lines, .int t_now_kinds, .int t_now_acts])), ((a_t_now 2), .inl (g.2.2.1 0, 144, .inl t_now_cells)), ((a_t_now 3), .inl (g.2.2.1 0, 31, .inl t_now_rows)), ((a_t_now 4), .inl (g.2.2.1 0, 31, .inl t_now_sizes)), ((a_t_now 5), .inl (g.2.2.1 0, 31, .inl t_now_rooms)), ((a_t_ways 0), .inr (5, [.ref (a_t_ways 1), .int t_ways_all, .int t_ways_stride])), ((a_t_ways 1), .inl (g.2.2.1 0, 256, .inl t_ways_depths))] sz)) 0 0 (va_A [((a_t 0), .inr (6, [.ref (a_t_tape 0), .ref (a_t_reader 0), .ref (a_t_now 0), .ref (a_t 4), .ref (a_t_choices 0), .ref (a_t_ways 0), .ref (a_t_stress 0)])), ((a_t_now 0), .inr (1, [.ref (a_t_now 1), .ref (a_t_now 2), .ref (a_t_now 3), .ref (a_t_now 4), .ref (a_t_now 5), .int t_now_told, .int t_now_lines, .int t_now_kinds, .int t_now_acts])), ((a_t_now 2), .inl (g.2.2.1 0, 144, .inl t_now_cells)), ((a_t_now 3), .inl (g.2.2.1 0, 31, .inl t_now_rows)), ((a_t_now 4), .inl (g.2.2.1 0, 31, .inl t_now_sizes)), ((a_t_now 5), .inl (g.2.2.1 0, 31, .inl t_now_rooms)), ((a_t_ways 0), .inr (5, [.ref (a_t_ways 1), .int t_ways_all, .int t_ways_stride])), ((a_t_ways 1), .inl (g.2.2.1 0, 256, .inl t_ways_depths))] sz) := by
  refine rw_meti (by decide) (Nat.le_of_ble_eq_true rfl) (lv0 := [(0, .ref ((a_t 0))), (1, .int v1), (2, .int v2), (3, .int v3)]) rfl ?_
  intro p e s m args below meth c ls Q A cx hret hG hAb hb0 hA hP hD hl
  have hx := cx.1
  have hb := cx.2.1
  have hG0 := hG
  have hGk : ∀ {H : Heap} {locs : List Loc}, va_S A s.heap H locs → GE g s H := fun hS => hG0.keptS hAb hS
  have hSb : ∀ {H : Heap} {locs : List Loc}, va_S A s.heap H locs → va_S (fun a => g.1 ≤ a) s.heap H locs := fun hS => ⟨hS.1, fun q h1 h2 => hS.2.1 q h1 (fun z => h2 (hAb q z)), fun l hl => hAb _ (hS.2.2 l hl)⟩
  have hS : va_S A s.heap s.heap [] := va_S.rf
  have hrt : ∀ (u : Nat → Nat) (pc : Nat) (ls : Array Slot) (v : Int32) (x_t_ways_depths : Nat → Int32) (x_t_ways_all : Int32) (x_t_ways_stride : Int32) (H : Heap) (locs : List Loc), decode cX7_comes pc = .ok (.ireturn, 1) → some (v, x_t_ways_depths, x_t_ways_all, x_t_ways_stride) = some (o, o_t_ways_depths, o_t_ways_all, o_t_ways_stride) → va_P g.2.1 vwCl [((a_t 0), .inr (6, [.ref (a_t_tape 0), .ref (a_t_reader 0), .ref (a_t_now 0), .ref (a_t 4), .ref (a_t_choices 0), .ref (a_t_ways 0), .ref (a_t_stress 0)])), ((a_t_now 0), .inr (1, [.ref (a_t_now 1), .ref (a_t_now 2), .ref (a_t_now 3), .ref (a_t_now 4), .ref (a_t_now 5), .int t_now_told, .int t_now_lines, .int t_now_kinds, .int t_now_acts])), ((a_t_now 2), .inl (g.2.2.1 0, 144, .inl t_now_cells)), ((a_t_now 3), .inl (g.2.2.1 0, 31, .inl t_now_rows)), ((a_t_now 4), .inl (g.2.2.1 0, 31, .inl t_now_sizes)), ((a_t_now 5), .inl (g.2.2.1 0, 31, .inl t_now_rooms)), ((a_t_ways 0), .inr (5, [.ref (a_t_ways 1), .int x_t_ways_all, .int x_t_ways_stride])), ((a_t_ways 1), .inl (g.2.2.1 0, 256, .inl x_t_ways_depths))] H → va_D A [((a_t 0), .inr (6, [.ref (a_t_tape 0), .ref (a_t_reader 0), .ref (a_t_now 0), .ref (a_t 4), .ref (a_t_choices 0), .ref (a_t_ways 0), .ref (a_t_stress 0)])), ((a_t_now 0), .inr (1, [.ref (a_t_now 1), .ref (a_t_now 2), .ref (a_t_now 3), .ref (a_t_now 4), .ref (a_t_now 5), .int t_now_told, .int t_now_lines, .int t_now_kinds, .int t_now_acts])), ((a_t_now 2), .inl (g.2.2.1 0, 144, .inl t_now_cells)), ((a_t_now 3), .inl (g.2.2.1 0, 31, .inl t_now_rows)), ((a_t_now 4), .inl (g.2.2.1 0, 31, .inl t_now_sizes)), ((a_t_now 5), .inl (g.2.2.1 0, 31, .inl t_now_rooms)), ((a_t_ways 0), .inr (5, [.ref (a_t_ways 1), .int x_t_ways_all, .int x_t_ways_stride])), ((a_t_ways 1), .inl (g.2.2.1 0, 256, .inl x_t_ways_depths))] → va_S A s.heap H locs → W p l e ⟨7, 0, 0, 170⟩ s m args below meth c H locs 0 0 Q (F0 m pc ls [.int v]) := by
    intro u pc ls v x_t_ways_depths x_t_ways_all x_t_ways_stride H locs hd h hP hD hS
    cases h
    exact hret u _ _ _ _ _ hd rfl hP hD hS
  unfold fX7_comes at h
  refine lv_aload_n hx hb dX7_comes_0 rfl (lv_at hl 0 rfl) ?_
  refine lv_iload_n hx hb dX7_comes_1 rfl (lv_at hl 1 rfl) ?_
  refine ro_z (runV (As := [.int v1]) (rest := []) cx hl.1 (ctX7_isMask l g a_t a_t_tape a_t_reader a_t_now a_t_choices a_t_ways a_t_stress t_now_told t_now_lines t_now_kinds t_now_acts v1 (fX7_isMask t_now_told v1) rfl) kmX7_isMask kvX7_isMask lm_X7_239 ⟨rfl, rfl⟩ ⟨Nat.le_of_ble_eq_true rfl, Nat.le_of_ble_eq_true rfl⟩ (roV (q0 := 0) (ci := 6) hG (hP.sub [0, 1] rfl) hP rfl rfl) rfl rfl (Nat.le_of_ble_eq_true rfl) dX7_comes_2 ⟨Nat.le_of_ble_eq_true rfl, Nat.le_of_ble_eq_true rfl⟩) (fun hz1 => ?_)
  refine lv_if_eq (tgt := 23) hx hb dX7_comes_5 (by decide) (fun c2 => ?_) (fun c2 => ?_)
  · have h := itp c2 h
    refine lv_bipush (v := -2) hx hb dX7_comes_23 (by decide) ?_
    exact hrt (fun _ => 0) _ _ ((-2)) t_ways_depths t_ways_all t_ways_stride _ _ dX7_comes_25 h (hP.sub [0, 1, 2, 3, 4, 5, 6, 7] rfl) (hD.sub [0, 1, 2, 3, 4, 5, 6, 7] (by decide) rfl) hS
  · have h := itn c2 h
    refine lv_iload_n hx hb dX7_comes_8 rfl (lv_at hl 2 rfl) ?_
    refine ro_z (runS (As := [.int v2]) (rest := []) cx hl.1 (ctX7_isStride l g v2 (fX7_isStride v2) rfl) kmX7_isStride ksX7_isStride lm_X7_290 ⟨rfl, rfl⟩ ⟨Nat.le_of_ble_eq_true rfl, Nat.le_of_ble_eq_true rfl⟩ (roS hG (hP.sub [] rfl)) rfl rfl (Nat.le_of_ble_eq_true rfl) dX7_comes_9 ⟨Nat.le_of_ble_eq_true rfl, Nat.le_of_ble_eq_true rfl⟩) (fun hz3 => ?_)
    refine lv_if_eq (tgt := 23) hx hb dX7_comes_12 (by decide) (fun c4 => ?_) (fun c4 => ?_)
    · have h := itp c4 h
      refine lv_bipush (v := -2) hx hb dX7_comes_23 (by decide) ?_
      exact hrt (fun _ => 0) _ _ ((-2)) t_ways_depths t_ways_all t_ways_stride _ _ dX7_comes_25 h (hP.sub [0, 1, 2, 3, 4, 5, 6, 7] rfl) (hD.sub [0, 1, 2, 3, 4, 5, 6, 7] (by decide) rfl) hS
    · have h := itn c4 h
      refine lv_aload_n hx hb dX7_comes_15 rfl (lv_at hl 0 rfl) ?_
      refine lv_iload_n hx hb dX7_comes_16 rfl (lv_at hl 3 rfl) ?_
      obtain ⟨r5, hr6, h⟩ := bnd h
      refine ro_z (runV (As := [.int v3]) (rest := []) cx hl.1 (ctX7_isSet l g a_t a_t_tape a_t_reader a_t_now a_t_choices a_t_ways a_t_stress t_now_told t_now_lines t_now_kinds t_now_acts t_now_sizes v3 r5 hr6) kmX7_isSet kvX7_isSet lm_X7_307 ⟨rfl, rfl⟩ ⟨Nat.le_of_ble_eq_true rfl, Nat.le_of_ble_eq_true rfl⟩ (roV (q0 := 0) (ci := 6) hG (hP.sub [0, 1, 4] rfl) hP rfl rfl) rfl rfl (Nat.le_of_ble_eq_true rfl) dX7_comes_17 ⟨Nat.le_of_ble_eq_true rfl, Nat.le_of_ble_eq_true rfl⟩) (fun hz7 => ?_)
      refine lv_if_ne (tgt := 26) hx hb dX7_comes_20 (by decide) (fun c8 => ?_) (fun c8 => ?_)
      · have h := itn c8 h
        refine lv_aload_n hx hb dX7_comes_26 rfl (lv_at hl 0 rfl) ?_
        refine xa_get (C := RX7) (T := TX7) (N := 7) cx hG hP 0 rfl rfl uX7 5 (by decide) lf_X7_48 rfl dX7_comes_27 ?_
        refine lv_aload_n hx hb dX7_comes_30 rfl (lv_at hl 0 rfl) ?_
        refine xa_get (C := RX7) (T := TX7) (N := 7) cx hG hP 0 rfl rfl uX7 2 (by decide) lf_X7_30 rfl dX7_comes_31 ?_
        refine lv_iload_n hx hb dX7_comes_34 rfl (lv_at hl 1 rfl) ?_
        refine lv_iload_n hx hb dX7_comes_35 rfl (lv_at hl 2 rfl) ?_
        obtain ⟨w10, w11, w12, hr9, h⟩ := ob3_out h
        refine rw_v (WN := fun u13 => [((a_t 0), .inr (6, [.ref (a_t_tape 0), .ref (a_t_reader 0), .ref (a_t_now 0), .ref (a_t 4), .ref (a_t_choices 0), .ref (a_t_ways 0), .ref (a_t_stress 0)])), ((a_t_ways 0), .inr (5, [.ref (a_t_ways 1), .int w11, .int w12])), ((a_t_ways 1), .inl (g.2.2.1 0, 256, .inl w10)), ((a_t_now 0), .inr (1, [.ref (a_t_now 1), .ref (a_t_now 2), .ref (a_t_now 3), .ref (a_t_now 4), .ref (a_t_now 5), .int t_now_told, .int t_now_lines, .int t_now_kinds, .int t_now_acts])), ((a_t_now 2), .inl (g.2.2.1 0, 144, .inl t_now_cells)), ((a_t_now 3), .inl (g.2.2.1 0, 31, .inl t_now_rows)), ((a_t_now 4), .inl (g.2.2.1 0, 31, .inl t_now_sizes)), ((a_t_now 5), .inl (g.2.2.1 0, 31, .inl t_now_rooms))]) (wr := [((a_t 0), .inr (6, [.ref (a_t_tape 0), .ref (a_t_reader 0), .ref (a_t_now 0), .ref (a_t 4), .ref (a_t_choices 0), .ref (a_t_ways 0), .ref (a_t_stress 0)]))]) (runVN (As := [.ref ((a_t_now 0)), .int v1, .int v2]) (rest := []) hG cx hl.1 (ctX6_explore l g s.heap.size a_t_ways a_t_now t_ways_all t_ways_stride t_ways_depths t_now_told t_now_lines t_now_kinds t_now_acts t_now_cells t_now_rows t_now_sizes t_now_rooms v1 v2 w10 w11 w12 hr9) kmX6_explore kvX6_explore nm_88 ⟨rfl, rfl⟩ ⟨Nat.le_of_ble_eq_true rfl, Nat.le_of_ble_eq_true rfl⟩ (rwV (q0 := 6) (ci := 5) hG (hP.sub [6, 7, 1, 2, 3, 4, 5] rfl) (hD.sub [6, 7, 1, 2, 3, 4, 5] (by decide) rfl) hAb hb0 hS hP rfl rfl) rfl rfl (Nat.le_of_ble_eq_true rfl) dX7_comes_36 ⟨Nat.le_of_ble_eq_true rfl, Nat.le_of_ble_eq_true rfl⟩) hP hD hS hA [6, 7, 1, 2, 3, 4, 5] [0] rfl rfl (by decide) (by decide) (fun _ => rfl) (fun u13 H locs hP hD hS => ?_)
        have hG := hGk hS
        refine lv_aload_n hx hb dX7_comes_39 rfl (lv_at hl 0 rfl) ?_
        refine xa_get (C := RX7) (T := TX7) (N := 7) cx hG hP 0 rfl rfl uX7 5 (by decide) lf_X7_48 rfl dX7_comes_40 ?_
        refine lv_iload_n hx hb dX7_comes_43 rfl (lv_at hl 3 rfl) ?_
        obtain ⟨r14, hr15, h⟩ := bnd h
        refine ro_i (runVN (As := [.int v3]) (rest := []) hG cx hl.1 (ctX6_steps l g a_t_ways w11 w12 w10 v3 r14 hr15) kmX6_steps kvX6_steps nm_90 ⟨rfl, rfl⟩ ⟨Nat.le_of_ble_eq_true rfl, Nat.le_of_ble_eq_true rfl⟩ (roV (q0 := 1) (ci := 5) hG (hP.sub [1, 2] rfl) hP rfl rfl) rfl rfl (Nat.le_of_ble_eq_true rfl) dX7_comes_44 ⟨Nat.le_of_ble_eq_true rfl, Nat.le_of_ble_eq_true rfl⟩) ?_
        refine lv_iconst (v := -1) hx hb dX7_comes_47 (by decide) ?_
        refine lv_icmp_ne (tgt := 55) hx hb dX7_comes_48 (by decide) (fun c16 => ?_) (fun c16 => ?_)
        · have h := itn c16 h
          refine lv_iconst (v := 1) hx hb dX7_comes_55 (by decide) ?_
          exact hrt (fun _ => 0) _ _ ((1)) w10 w11 w12 _ _ dX7_comes_56 h (hP.sub [0, 3, 4, 5, 6, 7, 1, 2] rfl) (hD.sub [0, 3, 4, 5, 6, 7, 1, 2] (by decide) rfl) hS
        · have h := itp c16 h
          refine lv_iconst (v := 0) hx hb dX7_comes_51 (by decide) ?_
          refine lv_goto (tgt := 56) hx hb dX7_comes_52 (by decide) ?_
          exact hrt (fun _ => 0) _ _ ((0)) w10 w11 w12 _ _ dX7_comes_56 h (hP.sub [0, 3, 4, 5, 6, 7, 1, 2] rfl) (hD.sub [0, 3, 4, 5, 6, 7, 1, 2] (by decide) rfl) hS
      · have h := itp c8 h
        refine lv_bipush (v := -2) hx hb dX7_comes_23 (by decide) ?_
        exact hrt (fun _ => 0) _ _ ((-2)) t_ways_depths t_ways_all t_ways_stride _ _ dX7_comes_25 h (hP.sub [0, 1, 2, 3, 4, 5, 6, 7] rfl) (hD.sub [0, 1, 2, 3, 4, 5, 6, 7] (by decide) rfl) hS
-- X7_step
theorem dX7_step_0 : decode cX7_step 0 = .ok (.aload_n 0, 1) := by decide +kernel
theorem dX7_step_1 : decode cX7_step 1 = .ok (.iload_n 1, 1) := by decide +kernel
theorem dX7_step_2 : decode cX7_step 2 = .ok (.invokevirtual 239, 3) := by decide +kernel
theorem dX7_step_5 : decode cX7_step 5 = .ok (.ifCond .eq 14, 3) := by decide +kernel
theorem dX7_step_8 : decode cX7_step 8 = .ok (.iload_n 2, 1) := by decide +kernel
theorem dX7_step_9 : decode cX7_step 9 = .ok (.invokestatic 290, 3) := by decide +kernel
theorem dX7_step_12 : decode cX7_step 12 = .ok (.ifCond .eq 7, 3) := by decide +kernel
theorem dX7_step_15 : decode cX7_step 15 = .ok (.iload_n 3, 1) := by decide +kernel
theorem dX7_step_16 : decode cX7_step 16 = .ok (.ifCond .ge 6, 3) := by decide +kernel
theorem dX7_step_19 : decode cX7_step 19 = .ok (.bipush (-2), 2) := by decide +kernel
theorem dX7_step_21 : decode cX7_step 21 = .ok (.ireturn, 1) := by decide +kernel
theorem dX7_step_22 : decode cX7_step 22 = .ok (.aload_n 0, 1) := by decide +kernel
theorem dX7_step_23 : decode cX7_step 23 = .ok (.getfield 48, 3) := by decide +kernel
theorem dX7_step_26 : decode cX7_step 26 = .ok (.aload_n 0, 1) := by decide +kernel
theorem dX7_step_27 : decode cX7_step 27 = .ok (.getfield 30, 3) := by decide +kernel
theorem dX7_step_30 : decode cX7_step 30 = .ok (.iload_n 1, 1) := by decide +kernel
theorem dX7_step_31 : decode cX7_step 31 = .ok (.iload_n 2, 1) := by decide +kernel
theorem dX7_step_32 : decode cX7_step 32 = .ok (.invokevirtual 293, 3) := by decide +kernel
theorem dX7_step_35 : decode cX7_step 35 = .ok (.aload_n 0, 1) := by decide +kernel
theorem dX7_step_36 : decode cX7_step 36 = .ok (.getfield 48, 3) := by decide +kernel
theorem dX7_step_39 : decode cX7_step 39 = .ok (.iload_n 3, 1) := by decide +kernel
theorem dX7_step_40 : decode cX7_step 40 = .ok (.invokevirtual 310, 3) := by decide +kernel
theorem dX7_step_43 : decode cX7_step 43 = .ok (.ireturn, 1) := by decide +kernel
noncomputable def fX7_step  (t_now_cells : Nat → Int32) (t_now_rows : Nat → Int32) (t_now_sizes : Nat → Int32) (t_now_rooms : Nat → Int32) (t_now_told : Int32) (t_now_acts : Int32) (t_ways_depths : Nat → Int32) (t_ways_all : Int32) (t_ways_stride : Int32) (v1 : Int32) (v2 : Int32) (v3 : Int32) : Option (Int32 × (Nat → Int32) × Int32 × Int32) := (if (fX7_isMask t_now_told v1) = 0 then some ((-2), t_ways_depths, t_ways_all, t_ways_stride) else (if (fX7_isStride v2) = 0 then some ((-2), t_ways_depths, t_ways_all, t_ways_stride) else (if 0 ≤ v3 then ob3 (fX6_explore t_ways_depths t_ways_all t_ways_stride t_now_cells t_now_rows t_now_sizes t_now_rooms t_now_acts v1 v2) fun w7 w8 w9 => (fX6_onTheWay w7 w8 w9 v3).bind fun r11 => some (r11, w7, w8, w9) else some ((-2), t_ways_depths, t_ways_all, t_ways_stride))))
set_option maxHeartbeats 4000000 in
set_option maxRecDepth 100000 in
theorem ctX7_step (l : Launch) (g : GT) (sz : Nat) (a_t : Nat → Nat) (a_t_tape : Nat → Nat) (a_t_reader : Nat → Nat) (a_t_now : Nat → Nat) (a_t_choices : Nat → Nat) (a_t_ways : Nat → Nat) (a_t_stress : Nat → Nat) (t_now_told : Int32) (t_now_lines : Int32) (t_now_kinds : Int32) (t_now_acts : Int32) (t_now_cells : Nat → Int32) (t_now_rows : Nat → Int32) (t_now_sizes : Nat → Int32) (t_now_rooms : Nat → Int32) (t_ways_all : Int32) (t_ways_stride : Int32) (t_ways_depths : Nat → Int32) (v1 : Int32) (v2 : Int32) (v3 : Int32) (o : Int32) (o_t_ways_depths : Nat → Int32) (o_t_ways_all : Int32) (o_t_ways_stride : Int32) (h : fX7_step t_now_cells t_now_rows t_now_sizes t_now_rooms t_now_told t_now_acts t_ways_depths t_ways_all t_ways_stride v1 v2 v3 = some (o, o_t_ways_depths, o_t_ways_all, o_t_ways_stride)) : Met l yX7_step (Cond.code yX7_step cX7_step 4 (some .int) :: Tw) ⟨7, 0, 0, 170⟩ (va_Pc [.ref ((a_t 0)), .int v1, .int v2, .int v3] (rwB g [((a_t 0), .inr (6, [.ref (a_t_tape 0), .ref (a_t_reader 0), .ref (a_t_now 0), .ref (a_t 4), .ref (a_t_choices 0), .ref (a_t_ways 0), .ref (a_t_stress 0)])), ((a_t_now 0), .inr (1, [.ref (a_t_now 1), .ref (a_t_now 2), .ref (a_t_now 3), .ref (a_t_now 4), .ref (a_t_now 5), .int t_now_told, .int t_now_lines, .int t_now_kinds, .int t_now_acts])), ((a_t_now 2), .inl (g.2.2.1 0, 144, .inl t_now_cells)), ((a_t_now 3), .inl (g.2.2.1 0, 31, .inl t_now_rows)), ((a_t_now 4), .inl (g.2.2.1 0, 31, .inl t_now_sizes)), ((a_t_now 5), .inl (g.2.2.1 0, 31, .inl t_now_rooms)), ((a_t_ways 0), .inr (5, [.ref (a_t_ways 1), .int t_ways_all, .int t_ways_stride])), ((a_t_ways 1), .inl (g.2.2.1 0, 256, .inl t_ways_depths))] sz)) (va_Qi (fun x (_ : Nat → Nat) => x = o) (fun u => rwE g (va_A [((a_t 0), .inr (6, [.ref (a_t_tape 0), .ref (a_t_reader 0), .ref (a_t_now 0), .ref (a_t 4), .ref (a_t_choices 0), .ref (a_t_ways 0), .ref (a_t_stress 0)])), ((a_t_now 0), .inr (1, [.ref (a_t_now 1), .ref (a_t_now 2), .ref (a_t_now 3), .ref (a_t_now 4), .ref (a_t_now 5), .int t_now_told, .int t_now_lines, .int t_now_kinds, .int t_now_acts])), ((a_t_now 2), .inl (g.2.2.1 0, 144, .inl t_now_cells)), ((a_t_now 3), .inl (g.2.2.1 0, 31, .inl t_now_rows)), ((a_t_now 4), .inl (g.2.2.1 0, 31, .inl t_now_sizes)), ((a_t_now 5), .inl (g.2.2.1 0, 31, .inl t_now_rooms)), ((a_t_ways 0), .inr (5, [.ref (a_t_ways 1), .int t_ways_all, .int t_ways_stride])), ((a_t_ways 1), .inl (g.2.2.1 0, 256, .inl t_ways_depths))] sz) [((a_t 0), .inr (6, [.ref (a_t_tape 0), .ref (a_t_reader 0), .ref (a_t_now 0), .ref (a_t 4), .ref (a_t_choices 0), .ref (a_t_ways 0), .ref (a_t_stress 0)])), ((a_t_now 0), .inr (1, [.ref (a_t_now 1), .ref (a_t_now 2), .ref (a_t_now 3), .ref (a_t_now 4), .ref (a_t_now 5), .int t_now_told, .int t_now_lines, .int t_now_kinds, .int t_now_acts])), ((a_t_now 2), .inl (g.2.2.1 0, 144, .inl t_now_cells)), ((a_t_now 3), .inl (g.2.2.1 0, 31, .inl t_now_rows)), ((a_t_now 4), .inl (g.2.2.1 0, 31, .inl t_now_sizes)), ((a_t_now 5), .inl (g.2.2.1 0, 31, .inl t_now_rooms)), ((a_t_ways 0), .inr (5, [.ref (a_t_ways 1), .int o_t_ways_all, .int o_t_ways_stride])), ((a_t_ways 1), .inl (g.2.2.1 0, 256, .inl o_t_ways_depths))]) (va_A [((a_t 0), .inr (6, [.ref (a_t_tape 0), .ref (a_t_reader 0), .ref (a_t_now 0), .ref (a_t 4), .ref (a_t_choices 0), .ref (a_t_ways 0), .ref (a_t_stress 0)])), ((a_t_now 0), .inr (1, [.ref (a_t_now 1), .ref (a_t_now 2), .ref (a_t_now 3), .ref (a_t_now 4), .ref (a_t_now 5), .int t_now_told, .int t_now_lines, .int t_now_kinds, .int t_now_acts])), ((a_t_now 2), .inl (g.2.2.1 0, 144, .inl t_now_cells)), ((a_t_now 3), .inl (g.2.2.1 0, 31, .inl t_now_rows)), ((a_t_now 4), .inl (g.2.2.1 0, 31, .inl t_now_sizes)), ((a_t_now 5), .inl (g.2.2.1 0, 31, .inl t_now_rooms)), ((a_t_ways 0), .inr (5, [.ref (a_t_ways 1), .int t_ways_all, .int t_ways_stride])), ((a_t_ways 1), .inl (g.2.2.1 0, 256, .inl t_ways_depths))] sz)) 0 0 (va_A [((a_t 0), .inr (6, [.ref (a_t_tape 0), .ref (a_t_reader 0), .ref (a_t_now 0), .ref (a_t 4), .ref (a_t_choices 0), .ref (a_t_ways 0), .ref (a_t_stress 0)])), ((a_t_now 0), .inr (1, [.ref (a_t_now 1), .ref (a_t_now 2), .ref (a_t_now 3), .ref (a_t_now 4), .ref (a_t_now 5), .int t_now_told, .int t_now_lines, .int t_now_kinds, .int t_now_acts])), ((a_t_now 2), .inl (g.2.2.1 0, 144, .inl t_now_cells)), ((a_t_now 3), .inl (g.2.2.1 0, 31, .inl t_now_rows)), ((a_t_now 4), .inl (g.2.2.1 0, 31, .inl t_now_sizes)), ((a_t_now 5), .inl (g.2.2.1 0, 31, .inl t_now_rooms)), ((a_t_ways 0), .inr (5, [.ref (a_t_ways 1), .int t_ways_all, .int t_ways_stride])), ((a_t_ways 1), .inl (g.2.2.1 0, 256, .inl t_ways_depths))] sz) := by
  refine rw_meti (by decide) (Nat.le_of_ble_eq_true rfl) (lv0 := [(0, .ref ((a_t 0))), (1, .int v1), (2, .int v2), (3, .int v3)]) rfl ?_
  intro p e s m args below meth c ls Q A cx hret hG hAb hb0 hA hP hD hl
  have hx := cx.1
  have hb := cx.2.1
  have hG0 := hG
  have hGk : ∀ {H : Heap} {locs : List Loc}, va_S A s.heap H locs → GE g s H := fun hS => hG0.keptS hAb hS
  have hSb : ∀ {H : Heap} {locs : List Loc}, va_S A s.heap H locs → va_S (fun a => g.1 ≤ a) s.heap H locs := fun hS => ⟨hS.1, fun q h1 h2 => hS.2.1 q h1 (fun z => h2 (hAb q z)), fun l hl => hAb _ (hS.2.2 l hl)⟩
  have hS : va_S A s.heap s.heap [] := va_S.rf
  have hrt : ∀ (u : Nat → Nat) (pc : Nat) (ls : Array Slot) (v : Int32) (x_t_ways_depths : Nat → Int32) (x_t_ways_all : Int32) (x_t_ways_stride : Int32) (H : Heap) (locs : List Loc), decode cX7_step pc = .ok (.ireturn, 1) → some (v, x_t_ways_depths, x_t_ways_all, x_t_ways_stride) = some (o, o_t_ways_depths, o_t_ways_all, o_t_ways_stride) → va_P g.2.1 vwCl [((a_t 0), .inr (6, [.ref (a_t_tape 0), .ref (a_t_reader 0), .ref (a_t_now 0), .ref (a_t 4), .ref (a_t_choices 0), .ref (a_t_ways 0), .ref (a_t_stress 0)])), ((a_t_now 0), .inr (1, [.ref (a_t_now 1), .ref (a_t_now 2), .ref (a_t_now 3), .ref (a_t_now 4), .ref (a_t_now 5), .int t_now_told, .int t_now_lines, .int t_now_kinds, .int t_now_acts])), ((a_t_now 2), .inl (g.2.2.1 0, 144, .inl t_now_cells)), ((a_t_now 3), .inl (g.2.2.1 0, 31, .inl t_now_rows)), ((a_t_now 4), .inl (g.2.2.1 0, 31, .inl t_now_sizes)), ((a_t_now 5), .inl (g.2.2.1 0, 31, .inl t_now_rooms)), ((a_t_ways 0), .inr (5, [.ref (a_t_ways 1), .int x_t_ways_all, .int x_t_ways_stride])), ((a_t_ways 1), .inl (g.2.2.1 0, 256, .inl x_t_ways_depths))] H → va_D A [((a_t 0), .inr (6, [.ref (a_t_tape 0), .ref (a_t_reader 0), .ref (a_t_now 0), .ref (a_t 4), .ref (a_t_choices 0), .ref (a_t_ways 0), .ref (a_t_stress 0)])), ((a_t_now 0), .inr (1, [.ref (a_t_now 1), .ref (a_t_now 2), .ref (a_t_now 3), .ref (a_t_now 4), .ref (a_t_now 5), .int t_now_told, .int t_now_lines, .int t_now_kinds, .int t_now_acts])), ((a_t_now 2), .inl (g.2.2.1 0, 144, .inl t_now_cells)), ((a_t_now 3), .inl (g.2.2.1 0, 31, .inl t_now_rows)), ((a_t_now 4), .inl (g.2.2.1 0, 31, .inl t_now_sizes)), ((a_t_now 5), .inl (g.2.2.1 0, 31, .inl t_now_rooms)), ((a_t_ways 0), .inr (5, [.ref (a_t_ways 1), .int x_t_ways_all, .int x_t_ways_stride])), ((a_t_ways 1), .inl (g.2.2.1 0, 256, .inl x_t_ways_depths))] → va_S A s.heap H locs → W p l e ⟨7, 0, 0, 170⟩ s m args below meth c H locs 0 0 Q (F0 m pc ls [.int v]) := by
    intro u pc ls v x_t_ways_depths x_t_ways_all x_t_ways_stride H locs hd h hP hD hS
    cases h
    exact hret u _ _ _ _ _ hd rfl hP hD hS
  unfold fX7_step at h
  refine lv_aload_n hx hb dX7_step_0 rfl (lv_at hl 0 rfl) ?_
  refine lv_iload_n hx hb dX7_step_1 rfl (lv_at hl 1 rfl) ?_
  refine ro_z (runV (As := [.int v1]) (rest := []) cx hl.1 (ctX7_isMask l g a_t a_t_tape a_t_reader a_t_now a_t_choices a_t_ways a_t_stress t_now_told t_now_lines t_now_kinds t_now_acts v1 (fX7_isMask t_now_told v1) rfl) kmX7_isMask kvX7_isMask lm_X7_239 ⟨rfl, rfl⟩ ⟨Nat.le_of_ble_eq_true rfl, Nat.le_of_ble_eq_true rfl⟩ (roV (q0 := 0) (ci := 6) hG (hP.sub [0, 1] rfl) hP rfl rfl) rfl rfl (Nat.le_of_ble_eq_true rfl) dX7_step_2 ⟨Nat.le_of_ble_eq_true rfl, Nat.le_of_ble_eq_true rfl⟩) (fun hz1 => ?_)
  refine lv_if_eq (tgt := 19) hx hb dX7_step_5 (by decide) (fun c2 => ?_) (fun c2 => ?_)
  · have h := itp c2 h
    refine lv_bipush (v := -2) hx hb dX7_step_19 (by decide) ?_
    exact hrt (fun _ => 0) _ _ ((-2)) t_ways_depths t_ways_all t_ways_stride _ _ dX7_step_21 h (hP.sub [0, 1, 2, 3, 4, 5, 6, 7] rfl) (hD.sub [0, 1, 2, 3, 4, 5, 6, 7] (by decide) rfl) hS
  · have h := itn c2 h
    refine lv_iload_n hx hb dX7_step_8 rfl (lv_at hl 2 rfl) ?_
    refine ro_z (runS (As := [.int v2]) (rest := []) cx hl.1 (ctX7_isStride l g v2 (fX7_isStride v2) rfl) kmX7_isStride ksX7_isStride lm_X7_290 ⟨rfl, rfl⟩ ⟨Nat.le_of_ble_eq_true rfl, Nat.le_of_ble_eq_true rfl⟩ (roS hG (hP.sub [] rfl)) rfl rfl (Nat.le_of_ble_eq_true rfl) dX7_step_9 ⟨Nat.le_of_ble_eq_true rfl, Nat.le_of_ble_eq_true rfl⟩) (fun hz3 => ?_)
    refine lv_if_eq (tgt := 19) hx hb dX7_step_12 (by decide) (fun c4 => ?_) (fun c4 => ?_)
    · have h := itp c4 h
      refine lv_bipush (v := -2) hx hb dX7_step_19 (by decide) ?_
      exact hrt (fun _ => 0) _ _ ((-2)) t_ways_depths t_ways_all t_ways_stride _ _ dX7_step_21 h (hP.sub [0, 1, 2, 3, 4, 5, 6, 7] rfl) (hD.sub [0, 1, 2, 3, 4, 5, 6, 7] (by decide) rfl) hS
    · have h := itn c4 h
      refine lv_iload_n hx hb dX7_step_15 rfl (lv_at hl 3 rfl) ?_
      refine lv_if_ge (tgt := 22) hx hb dX7_step_16 (by decide) (fun c5 => ?_) (fun c5 => ?_)
      · have h := itp c5 h
        refine lv_aload_n hx hb dX7_step_22 rfl (lv_at hl 0 rfl) ?_
        refine xa_get (C := RX7) (T := TX7) (N := 7) cx hG hP 0 rfl rfl uX7 5 (by decide) lf_X7_48 rfl dX7_step_23 ?_
        refine lv_aload_n hx hb dX7_step_26 rfl (lv_at hl 0 rfl) ?_
        refine xa_get (C := RX7) (T := TX7) (N := 7) cx hG hP 0 rfl rfl uX7 2 (by decide) lf_X7_30 rfl dX7_step_27 ?_
        refine lv_iload_n hx hb dX7_step_30 rfl (lv_at hl 1 rfl) ?_
        refine lv_iload_n hx hb dX7_step_31 rfl (lv_at hl 2 rfl) ?_
        obtain ⟨w7, w8, w9, hr6, h⟩ := ob3_out h
        refine rw_v (WN := fun u10 => [((a_t 0), .inr (6, [.ref (a_t_tape 0), .ref (a_t_reader 0), .ref (a_t_now 0), .ref (a_t 4), .ref (a_t_choices 0), .ref (a_t_ways 0), .ref (a_t_stress 0)])), ((a_t_ways 0), .inr (5, [.ref (a_t_ways 1), .int w8, .int w9])), ((a_t_ways 1), .inl (g.2.2.1 0, 256, .inl w7)), ((a_t_now 0), .inr (1, [.ref (a_t_now 1), .ref (a_t_now 2), .ref (a_t_now 3), .ref (a_t_now 4), .ref (a_t_now 5), .int t_now_told, .int t_now_lines, .int t_now_kinds, .int t_now_acts])), ((a_t_now 2), .inl (g.2.2.1 0, 144, .inl t_now_cells)), ((a_t_now 3), .inl (g.2.2.1 0, 31, .inl t_now_rows)), ((a_t_now 4), .inl (g.2.2.1 0, 31, .inl t_now_sizes)), ((a_t_now 5), .inl (g.2.2.1 0, 31, .inl t_now_rooms))]) (wr := [((a_t 0), .inr (6, [.ref (a_t_tape 0), .ref (a_t_reader 0), .ref (a_t_now 0), .ref (a_t 4), .ref (a_t_choices 0), .ref (a_t_ways 0), .ref (a_t_stress 0)]))]) (runVN (As := [.ref ((a_t_now 0)), .int v1, .int v2]) (rest := []) hG cx hl.1 (ctX6_explore l g s.heap.size a_t_ways a_t_now t_ways_all t_ways_stride t_ways_depths t_now_told t_now_lines t_now_kinds t_now_acts t_now_cells t_now_rows t_now_sizes t_now_rooms v1 v2 w7 w8 w9 hr6) kmX6_explore kvX6_explore nm_88 ⟨rfl, rfl⟩ ⟨Nat.le_of_ble_eq_true rfl, Nat.le_of_ble_eq_true rfl⟩ (rwV (q0 := 6) (ci := 5) hG (hP.sub [6, 7, 1, 2, 3, 4, 5] rfl) (hD.sub [6, 7, 1, 2, 3, 4, 5] (by decide) rfl) hAb hb0 hS hP rfl rfl) rfl rfl (Nat.le_of_ble_eq_true rfl) dX7_step_32 ⟨Nat.le_of_ble_eq_true rfl, Nat.le_of_ble_eq_true rfl⟩) hP hD hS hA [6, 7, 1, 2, 3, 4, 5] [0] rfl rfl (by decide) (by decide) (fun _ => rfl) (fun u10 H locs hP hD hS => ?_)
        have hG := hGk hS
        refine lv_aload_n hx hb dX7_step_35 rfl (lv_at hl 0 rfl) ?_
        refine xa_get (C := RX7) (T := TX7) (N := 7) cx hG hP 0 rfl rfl uX7 5 (by decide) lf_X7_48 rfl dX7_step_36 ?_
        refine lv_iload_n hx hb dX7_step_39 rfl (lv_at hl 3 rfl) ?_
        obtain ⟨r11, hr12, h⟩ := bnd h
        refine ro_i (runVN (As := [.int v3]) (rest := []) hG cx hl.1 (ctX6_onTheWay l g a_t_ways w8 w9 w7 v3 r11 hr12) kmX6_onTheWay kvX6_onTheWay nm_92 ⟨rfl, rfl⟩ ⟨Nat.le_of_ble_eq_true rfl, Nat.le_of_ble_eq_true rfl⟩ (roV (q0 := 1) (ci := 5) hG (hP.sub [1, 2] rfl) hP rfl rfl) rfl rfl (Nat.le_of_ble_eq_true rfl) dX7_step_40 ⟨Nat.le_of_ble_eq_true rfl, Nat.le_of_ble_eq_true rfl⟩) ?_
        exact hrt (fun _ => 0) _ _ r11 w7 w8 w9 _ _ dX7_step_43 h (hP.sub [0, 3, 4, 5, 6, 7, 1, 2] rfl) (hD.sub [0, 3, 4, 5, 6, 7, 1, 2] (by decide) rfl) hS
      · have h := itn c5 h
        refine lv_bipush (v := -2) hx hb dX7_step_19 (by decide) ?_
        exact hrt (fun _ => 0) _ _ ((-2)) t_ways_depths t_ways_all t_ways_stride _ _ dX7_step_21 h (hP.sub [0, 1, 2, 3, 4, 5, 6, 7] rfl) (hD.sub [0, 1, 2, 3, 4, 5, 6, 7] (by decide) rfl) hS
-- X7_frailSet
theorem dX7_frailSet_0 : decode cX7_frailSet 0 = .ok (.aload_n 0, 1) := by decide +kernel
theorem dX7_frailSet_1 : decode cX7_frailSet 1 = .ok (.iload_n 1, 1) := by decide +kernel
theorem dX7_frailSet_2 : decode cX7_frailSet 2 = .ok (.iload_n 2, 1) := by decide +kernel
theorem dX7_frailSet_3 : decode cX7_frailSet 3 = .ok (.iload_n 3, 1) := by decide +kernel
theorem dX7_frailSet_4 : decode cX7_frailSet 4 = .ok (.invokevirtual 177, 3) := by decide +kernel
theorem dX7_frailSet_7 : decode cX7_frailSet 7 = .ok (.ifCond .eq 20, 3) := by decide +kernel
theorem dX7_frailSet_10 : decode cX7_frailSet 10 = .ok (.aload_n 0, 1) := by decide +kernel
theorem dX7_frailSet_11 : decode cX7_frailSet 11 = .ok (.getfield 55, 3) := by decide +kernel
theorem dX7_frailSet_14 : decode cX7_frailSet 14 = .ok (.aload_n 0, 1) := by decide +kernel
theorem dX7_frailSet_15 : decode cX7_frailSet 15 = .ok (.getfield 30, 3) := by decide +kernel
theorem dX7_frailSet_18 : decode cX7_frailSet 18 = .ok (.iload_n 1, 1) := by decide +kernel
theorem dX7_frailSet_19 : decode cX7_frailSet 19 = .ok (.iload_n 2, 1) := by decide +kernel
theorem dX7_frailSet_20 : decode cX7_frailSet 20 = .ok (.iload_n 3, 1) := by decide +kernel
theorem dX7_frailSet_21 : decode cX7_frailSet 21 = .ok (.invokevirtual 316, 3) := by decide +kernel
theorem dX7_frailSet_24 : decode cX7_frailSet 24 = .ok (.goto 5, 3) := by decide +kernel
theorem dX7_frailSet_27 : decode cX7_frailSet 27 = .ok (.bipush (-2), 2) := by decide +kernel
theorem dX7_frailSet_29 : decode cX7_frailSet 29 = .ok (.ireturn, 1) := by decide +kernel
noncomputable def fX7_frailSet  (t_now_numbers : Nat → Int32) (t_now_cells : Nat → Int32) (t_now_rows : Nat → Int32) (t_now_sizes : Nat → Int32) (t_now_told : Int32) (t_now_acts : Int32) (t_stress_cells : Nat → Int64) (t_stress_parts : Nat → Int64) (t_stress_det : Int64) (v1 : Int32) (v2 : Int32) (v3 : Int32) : Option (Int32 × (Nat → Int64) × (Nat → Int64) × Int64) := (if (fX7_areLoads t_now_told v1 v2 v3) = 0 then some ((-2), t_stress_cells, t_stress_parts, t_stress_det) else ob4 (fX4_fewestLost t_stress_cells t_stress_parts t_stress_det t_now_numbers t_now_cells t_now_rows t_now_sizes t_now_acts v1 v2 v3) fun r4 w5 w6 w7 => some (r4, w5, w6, w7))
set_option maxHeartbeats 4000000 in
set_option maxRecDepth 100000 in
theorem ctX7_frailSet (l : Launch) (g : GT) (sz : Nat) (a_t : Nat → Nat) (a_t_tape : Nat → Nat) (a_t_reader : Nat → Nat) (a_t_now : Nat → Nat) (a_t_choices : Nat → Nat) (a_t_ways : Nat → Nat) (a_t_stress : Nat → Nat) (t_now_told : Int32) (t_now_lines : Int32) (t_now_kinds : Int32) (t_now_acts : Int32) (t_now_numbers : Nat → Int32) (t_now_cells : Nat → Int32) (t_now_rows : Nat → Int32) (t_now_sizes : Nat → Int32) (t_stress_det : Int64) (t_stress_cells : Nat → Int64) (t_stress_parts : Nat → Int64) (v1 : Int32) (v2 : Int32) (v3 : Int32) (o : Int32) (o_t_stress_cells : Nat → Int64) (o_t_stress_parts : Nat → Int64) (o_t_stress_det : Int64) (h : fX7_frailSet t_now_numbers t_now_cells t_now_rows t_now_sizes t_now_told t_now_acts t_stress_cells t_stress_parts t_stress_det v1 v2 v3 = some (o, o_t_stress_cells, o_t_stress_parts, o_t_stress_det)) : Met l yX7_frailSet (Cond.code yX7_frailSet cX7_frailSet 4 (some .int) :: Tw) ⟨6, 0, 0, 149⟩ (va_Pc [.ref ((a_t 0)), .int v1, .int v2, .int v3] (rwB g [((a_t 0), .inr (6, [.ref (a_t_tape 0), .ref (a_t_reader 0), .ref (a_t_now 0), .ref (a_t 4), .ref (a_t_choices 0), .ref (a_t_ways 0), .ref (a_t_stress 0)])), ((a_t_now 0), .inr (1, [.ref (a_t_now 1), .ref (a_t_now 2), .ref (a_t_now 3), .ref (a_t_now 4), .ref (a_t_now 5), .int t_now_told, .int t_now_lines, .int t_now_kinds, .int t_now_acts])), ((a_t_now 1), .inl (g.2.2.1 0, 15, .inl t_now_numbers)), ((a_t_now 2), .inl (g.2.2.1 0, 144, .inl t_now_cells)), ((a_t_now 3), .inl (g.2.2.1 0, 31, .inl t_now_rows)), ((a_t_now 4), .inl (g.2.2.1 0, 31, .inl t_now_sizes)), ((a_t_stress 0), .inr (3, [.ref (a_t_stress 1), .ref (a_t_stress 2), .long t_stress_det])), ((a_t_stress 1), .inl (g.2.2.1 1, 9, .inr (.inl t_stress_cells))), ((a_t_stress 2), .inl (g.2.2.1 1, 3, .inr (.inl t_stress_parts)))] sz)) (va_Qi (fun x (_ : Nat → Nat) => x = o) (fun u => rwE g (va_A [((a_t 0), .inr (6, [.ref (a_t_tape 0), .ref (a_t_reader 0), .ref (a_t_now 0), .ref (a_t 4), .ref (a_t_choices 0), .ref (a_t_ways 0), .ref (a_t_stress 0)])), ((a_t_now 0), .inr (1, [.ref (a_t_now 1), .ref (a_t_now 2), .ref (a_t_now 3), .ref (a_t_now 4), .ref (a_t_now 5), .int t_now_told, .int t_now_lines, .int t_now_kinds, .int t_now_acts])), ((a_t_now 1), .inl (g.2.2.1 0, 15, .inl t_now_numbers)), ((a_t_now 2), .inl (g.2.2.1 0, 144, .inl t_now_cells)), ((a_t_now 3), .inl (g.2.2.1 0, 31, .inl t_now_rows)), ((a_t_now 4), .inl (g.2.2.1 0, 31, .inl t_now_sizes)), ((a_t_stress 0), .inr (3, [.ref (a_t_stress 1), .ref (a_t_stress 2), .long t_stress_det])), ((a_t_stress 1), .inl (g.2.2.1 1, 9, .inr (.inl t_stress_cells))), ((a_t_stress 2), .inl (g.2.2.1 1, 3, .inr (.inl t_stress_parts)))] sz) [((a_t 0), .inr (6, [.ref (a_t_tape 0), .ref (a_t_reader 0), .ref (a_t_now 0), .ref (a_t 4), .ref (a_t_choices 0), .ref (a_t_ways 0), .ref (a_t_stress 0)])), ((a_t_now 0), .inr (1, [.ref (a_t_now 1), .ref (a_t_now 2), .ref (a_t_now 3), .ref (a_t_now 4), .ref (a_t_now 5), .int t_now_told, .int t_now_lines, .int t_now_kinds, .int t_now_acts])), ((a_t_now 1), .inl (g.2.2.1 0, 15, .inl t_now_numbers)), ((a_t_now 2), .inl (g.2.2.1 0, 144, .inl t_now_cells)), ((a_t_now 3), .inl (g.2.2.1 0, 31, .inl t_now_rows)), ((a_t_now 4), .inl (g.2.2.1 0, 31, .inl t_now_sizes)), ((a_t_stress 0), .inr (3, [.ref (a_t_stress 1), .ref (a_t_stress 2), .long o_t_stress_det])), ((a_t_stress 1), .inl (g.2.2.1 1, 9, .inr (.inl o_t_stress_cells))), ((a_t_stress 2), .inl (g.2.2.1 1, 3, .inr (.inl o_t_stress_parts)))]) (va_A [((a_t 0), .inr (6, [.ref (a_t_tape 0), .ref (a_t_reader 0), .ref (a_t_now 0), .ref (a_t 4), .ref (a_t_choices 0), .ref (a_t_ways 0), .ref (a_t_stress 0)])), ((a_t_now 0), .inr (1, [.ref (a_t_now 1), .ref (a_t_now 2), .ref (a_t_now 3), .ref (a_t_now 4), .ref (a_t_now 5), .int t_now_told, .int t_now_lines, .int t_now_kinds, .int t_now_acts])), ((a_t_now 1), .inl (g.2.2.1 0, 15, .inl t_now_numbers)), ((a_t_now 2), .inl (g.2.2.1 0, 144, .inl t_now_cells)), ((a_t_now 3), .inl (g.2.2.1 0, 31, .inl t_now_rows)), ((a_t_now 4), .inl (g.2.2.1 0, 31, .inl t_now_sizes)), ((a_t_stress 0), .inr (3, [.ref (a_t_stress 1), .ref (a_t_stress 2), .long t_stress_det])), ((a_t_stress 1), .inl (g.2.2.1 1, 9, .inr (.inl t_stress_cells))), ((a_t_stress 2), .inl (g.2.2.1 1, 3, .inr (.inl t_stress_parts)))] sz)) 0 0 (va_A [((a_t 0), .inr (6, [.ref (a_t_tape 0), .ref (a_t_reader 0), .ref (a_t_now 0), .ref (a_t 4), .ref (a_t_choices 0), .ref (a_t_ways 0), .ref (a_t_stress 0)])), ((a_t_now 0), .inr (1, [.ref (a_t_now 1), .ref (a_t_now 2), .ref (a_t_now 3), .ref (a_t_now 4), .ref (a_t_now 5), .int t_now_told, .int t_now_lines, .int t_now_kinds, .int t_now_acts])), ((a_t_now 1), .inl (g.2.2.1 0, 15, .inl t_now_numbers)), ((a_t_now 2), .inl (g.2.2.1 0, 144, .inl t_now_cells)), ((a_t_now 3), .inl (g.2.2.1 0, 31, .inl t_now_rows)), ((a_t_now 4), .inl (g.2.2.1 0, 31, .inl t_now_sizes)), ((a_t_stress 0), .inr (3, [.ref (a_t_stress 1), .ref (a_t_stress 2), .long t_stress_det])), ((a_t_stress 1), .inl (g.2.2.1 1, 9, .inr (.inl t_stress_cells))), ((a_t_stress 2), .inl (g.2.2.1 1, 3, .inr (.inl t_stress_parts)))] sz) := by
  refine rw_meti (by decide) (Nat.le_of_ble_eq_true rfl) (lv0 := [(0, .ref ((a_t 0))), (1, .int v1), (2, .int v2), (3, .int v3)]) rfl ?_
  intro p e s m args below meth c ls Q A cx hret hG hAb hb0 hA hP hD hl
  have hx := cx.1
  have hb := cx.2.1
  have hG0 := hG
  have hGk : ∀ {H : Heap} {locs : List Loc}, va_S A s.heap H locs → GE g s H := fun hS => hG0.keptS hAb hS
  have hSb : ∀ {H : Heap} {locs : List Loc}, va_S A s.heap H locs → va_S (fun a => g.1 ≤ a) s.heap H locs := fun hS => ⟨hS.1, fun q h1 h2 => hS.2.1 q h1 (fun z => h2 (hAb q z)), fun l hl => hAb _ (hS.2.2 l hl)⟩
  have hS : va_S A s.heap s.heap [] := va_S.rf
  have hrt : ∀ (u : Nat → Nat) (pc : Nat) (ls : Array Slot) (v : Int32) (x_t_stress_cells : Nat → Int64) (x_t_stress_parts : Nat → Int64) (x_t_stress_det : Int64) (H : Heap) (locs : List Loc), decode cX7_frailSet pc = .ok (.ireturn, 1) → some (v, x_t_stress_cells, x_t_stress_parts, x_t_stress_det) = some (o, o_t_stress_cells, o_t_stress_parts, o_t_stress_det) → va_P g.2.1 vwCl [((a_t 0), .inr (6, [.ref (a_t_tape 0), .ref (a_t_reader 0), .ref (a_t_now 0), .ref (a_t 4), .ref (a_t_choices 0), .ref (a_t_ways 0), .ref (a_t_stress 0)])), ((a_t_now 0), .inr (1, [.ref (a_t_now 1), .ref (a_t_now 2), .ref (a_t_now 3), .ref (a_t_now 4), .ref (a_t_now 5), .int t_now_told, .int t_now_lines, .int t_now_kinds, .int t_now_acts])), ((a_t_now 1), .inl (g.2.2.1 0, 15, .inl t_now_numbers)), ((a_t_now 2), .inl (g.2.2.1 0, 144, .inl t_now_cells)), ((a_t_now 3), .inl (g.2.2.1 0, 31, .inl t_now_rows)), ((a_t_now 4), .inl (g.2.2.1 0, 31, .inl t_now_sizes)), ((a_t_stress 0), .inr (3, [.ref (a_t_stress 1), .ref (a_t_stress 2), .long x_t_stress_det])), ((a_t_stress 1), .inl (g.2.2.1 1, 9, .inr (.inl x_t_stress_cells))), ((a_t_stress 2), .inl (g.2.2.1 1, 3, .inr (.inl x_t_stress_parts)))] H → va_D A [((a_t 0), .inr (6, [.ref (a_t_tape 0), .ref (a_t_reader 0), .ref (a_t_now 0), .ref (a_t 4), .ref (a_t_choices 0), .ref (a_t_ways 0), .ref (a_t_stress 0)])), ((a_t_now 0), .inr (1, [.ref (a_t_now 1), .ref (a_t_now 2), .ref (a_t_now 3), .ref (a_t_now 4), .ref (a_t_now 5), .int t_now_told, .int t_now_lines, .int t_now_kinds, .int t_now_acts])), ((a_t_now 1), .inl (g.2.2.1 0, 15, .inl t_now_numbers)), ((a_t_now 2), .inl (g.2.2.1 0, 144, .inl t_now_cells)), ((a_t_now 3), .inl (g.2.2.1 0, 31, .inl t_now_rows)), ((a_t_now 4), .inl (g.2.2.1 0, 31, .inl t_now_sizes)), ((a_t_stress 0), .inr (3, [.ref (a_t_stress 1), .ref (a_t_stress 2), .long x_t_stress_det])), ((a_t_stress 1), .inl (g.2.2.1 1, 9, .inr (.inl x_t_stress_cells))), ((a_t_stress 2), .inl (g.2.2.1 1, 3, .inr (.inl x_t_stress_parts)))] → va_S A s.heap H locs → W p l e ⟨6, 0, 0, 149⟩ s m args below meth c H locs 0 0 Q (F0 m pc ls [.int v]) := by
    intro u pc ls v x_t_stress_cells x_t_stress_parts x_t_stress_det H locs hd h hP hD hS
    cases h
    exact hret u _ _ _ _ _ hd rfl hP hD hS
  unfold fX7_frailSet at h
  refine lv_aload_n hx hb dX7_frailSet_0 rfl (lv_at hl 0 rfl) ?_
  refine lv_iload_n hx hb dX7_frailSet_1 rfl (lv_at hl 1 rfl) ?_
  refine lv_iload_n hx hb dX7_frailSet_2 rfl (lv_at hl 2 rfl) ?_
  refine lv_iload_n hx hb dX7_frailSet_3 rfl (lv_at hl 3 rfl) ?_
  refine ro_z (runV (As := [.int v1, .int v2, .int v3]) (rest := []) cx hl.1 (ctX7_areLoads l g a_t a_t_tape a_t_reader a_t_now a_t_choices a_t_ways a_t_stress t_now_told t_now_lines t_now_kinds t_now_acts v1 v2 v3 (fX7_areLoads t_now_told v1 v2 v3) rfl) kmX7_areLoads kvX7_areLoads lm_X7_177 ⟨rfl, rfl⟩ ⟨Nat.le_of_ble_eq_true rfl, Nat.le_of_ble_eq_true rfl⟩ (roV (q0 := 0) (ci := 6) hG (hP.sub [0, 1] rfl) hP rfl rfl) rfl rfl (Nat.le_of_ble_eq_true rfl) dX7_frailSet_4 ⟨Nat.le_of_ble_eq_true rfl, Nat.le_of_ble_eq_true rfl⟩) (fun hz1 => ?_)
  refine lv_if_eq (tgt := 27) hx hb dX7_frailSet_7 (by decide) (fun c2 => ?_) (fun c2 => ?_)
  · have h := itp c2 h
    refine lv_bipush (v := -2) hx hb dX7_frailSet_27 (by decide) ?_
    exact hrt (fun _ => 0) _ _ ((-2)) t_stress_cells t_stress_parts t_stress_det _ _ dX7_frailSet_29 h (hP.sub [0, 1, 2, 3, 4, 5, 6, 7, 8] rfl) (hD.sub [0, 1, 2, 3, 4, 5, 6, 7, 8] (by decide) rfl) hS
  · have h := itn c2 h
    refine lv_aload_n hx hb dX7_frailSet_10 rfl (lv_at hl 0 rfl) ?_
    refine xa_get (C := RX7) (T := TX7) (N := 7) cx hG hP 0 rfl rfl uX7 6 (by decide) lf_X7_55 rfl dX7_frailSet_11 ?_
    refine lv_aload_n hx hb dX7_frailSet_14 rfl (lv_at hl 0 rfl) ?_
    refine xa_get (C := RX7) (T := TX7) (N := 7) cx hG hP 0 rfl rfl uX7 2 (by decide) lf_X7_30 rfl dX7_frailSet_15 ?_
    refine lv_iload_n hx hb dX7_frailSet_18 rfl (lv_at hl 1 rfl) ?_
    refine lv_iload_n hx hb dX7_frailSet_19 rfl (lv_at hl 2 rfl) ?_
    refine lv_iload_n hx hb dX7_frailSet_20 rfl (lv_at hl 3 rfl) ?_
    obtain ⟨r4, w5, w6, w7, hr3, h⟩ := ob4_out h
    refine rw_i (WN := fun u8 => [((a_t 0), .inr (6, [.ref (a_t_tape 0), .ref (a_t_reader 0), .ref (a_t_now 0), .ref (a_t 4), .ref (a_t_choices 0), .ref (a_t_ways 0), .ref (a_t_stress 0)])), ((a_t_stress 0), .inr (3, [.ref (a_t_stress 1), .ref (a_t_stress 2), .long w7])), ((a_t_stress 1), .inl (g.2.2.1 1, 9, .inr (.inl w5))), ((a_t_stress 2), .inl (g.2.2.1 1, 3, .inr (.inl w6))), ((a_t_now 0), .inr (1, [.ref (a_t_now 1), .ref (a_t_now 2), .ref (a_t_now 3), .ref (a_t_now 4), .ref (a_t_now 5), .int t_now_told, .int t_now_lines, .int t_now_kinds, .int t_now_acts])), ((a_t_now 1), .inl (g.2.2.1 0, 15, .inl t_now_numbers)), ((a_t_now 2), .inl (g.2.2.1 0, 144, .inl t_now_cells)), ((a_t_now 3), .inl (g.2.2.1 0, 31, .inl t_now_rows)), ((a_t_now 4), .inl (g.2.2.1 0, 31, .inl t_now_sizes))]) (wr := [((a_t 0), .inr (6, [.ref (a_t_tape 0), .ref (a_t_reader 0), .ref (a_t_now 0), .ref (a_t 4), .ref (a_t_choices 0), .ref (a_t_ways 0), .ref (a_t_stress 0)]))]) (runVN (As := [.ref ((a_t_now 0)), .int v1, .int v2, .int v3]) (rest := []) hG cx hl.1 (ctX4_fewestLost l g s.heap.size a_t_stress a_t_now t_stress_det t_stress_cells t_stress_parts t_now_told t_now_lines t_now_kinds t_now_acts t_now_numbers t_now_cells t_now_rows t_now_sizes v1 v2 v3 r4 w5 w6 w7 hr3) kmX4_fewestLost kvX4_fewestLost nm_93 ⟨rfl, rfl⟩ ⟨Nat.le_of_ble_eq_true rfl, Nat.le_of_ble_eq_true rfl⟩ (rwV (q0 := 6) (ci := 3) hG (hP.sub [6, 7, 8, 1, 2, 3, 4, 5] rfl) (hD.sub [6, 7, 8, 1, 2, 3, 4, 5] (by decide) rfl) hAb hb0 hS hP rfl rfl) rfl rfl (Nat.le_of_ble_eq_true rfl) dX7_frailSet_21 ⟨Nat.le_of_ble_eq_true rfl, Nat.le_of_ble_eq_true rfl⟩) hP hD hS hA [6, 7, 8, 1, 2, 3, 4, 5] [0] rfl rfl (by decide) (by decide) (fun _ => rfl) (fun u8 H locs hP hD hS => ?_)
    have hG := hGk hS
    refine lv_goto (tgt := 29) hx hb dX7_frailSet_24 (by decide) ?_
    exact hrt (fun _ => 0) _ _ r4 w5 w6 w7 _ _ dX7_frailSet_29 h (hP.sub [0, 4, 5, 6, 7, 8, 1, 2, 3] rfl) (hD.sub [0, 4, 5, 6, 7, 8, 1, 2, 3] (by decide) rfl) hS
-- X7_frail
theorem dX7_frail_0 : decode cX7_frail 0 = .ok (.aload_n 0, 1) := by decide +kernel
theorem dX7_frail_1 : decode cX7_frail 1 = .ok (.iload_n 1, 1) := by decide +kernel
theorem dX7_frail_2 : decode cX7_frail 2 = .ok (.iload_n 2, 1) := by decide +kernel
theorem dX7_frail_3 : decode cX7_frail 3 = .ok (.iload_n 3, 1) := by decide +kernel
theorem dX7_frail_4 : decode cX7_frail 4 = .ok (.invokevirtual 313, 3) := by decide +kernel
theorem dX7_frail_7 : decode cX7_frail 7 = .ok (.istore 4, 2) := by decide +kernel
theorem dX7_frail_9 : decode cX7_frail 9 = .ok (.iload 4, 2) := by decide +kernel
theorem dX7_frail_11 : decode cX7_frail 11 = .ok (.ifCond .ge 8, 3) := by decide +kernel
theorem dX7_frail_14 : decode cX7_frail 14 = .ok (.iload 4, 2) := by decide +kernel
theorem dX7_frail_16 : decode cX7_frail 16 = .ok (.goto 8, 3) := by decide +kernel
theorem dX7_frail_19 : decode cX7_frail 19 = .ok (.iload 4, 2) := by decide +kernel
theorem dX7_frail_21 : decode cX7_frail 21 = .ok (.invokestatic 299, 3) := by decide +kernel
theorem dX7_frail_24 : decode cX7_frail 24 = .ok (.ireturn, 1) := by decide +kernel
noncomputable def fX7_frail  (t_now_numbers : Nat → Int32) (t_now_cells : Nat → Int32) (t_now_rows : Nat → Int32) (t_now_sizes : Nat → Int32) (t_now_told : Int32) (t_now_acts : Int32) (t_stress_cells : Nat → Int64) (t_stress_parts : Nat → Int64) (t_stress_det : Int64) (v1 : Int32) (v2 : Int32) (v3 : Int32) : Option (Int32 × (Nat → Int64) × (Nat → Int64) × Int64) := ob4 (fX7_frailSet t_now_numbers t_now_cells t_now_rows t_now_sizes t_now_told t_now_acts t_stress_cells t_stress_parts t_stress_det v1 v2 v3) fun r2 w3 w4 w5 => (if 0 ≤ r2 then some ((fJ6_bitCount_0f7a4 r2), w3, w4, w5) else some (r2, w3, w4, w5))
set_option maxHeartbeats 4000000 in
set_option maxRecDepth 100000 in
theorem ctX7_frail (l : Launch) (g : GT) (sz : Nat) (a_t : Nat → Nat) (a_t_tape : Nat → Nat) (a_t_reader : Nat → Nat) (a_t_now : Nat → Nat) (a_t_choices : Nat → Nat) (a_t_ways : Nat → Nat) (a_t_stress : Nat → Nat) (t_now_told : Int32) (t_now_lines : Int32) (t_now_kinds : Int32) (t_now_acts : Int32) (t_now_numbers : Nat → Int32) (t_now_cells : Nat → Int32) (t_now_rows : Nat → Int32) (t_now_sizes : Nat → Int32) (t_stress_det : Int64) (t_stress_cells : Nat → Int64) (t_stress_parts : Nat → Int64) (v1 : Int32) (v2 : Int32) (v3 : Int32) (o : Int32) (o_t_stress_cells : Nat → Int64) (o_t_stress_parts : Nat → Int64) (o_t_stress_det : Int64) (h : fX7_frail t_now_numbers t_now_cells t_now_rows t_now_sizes t_now_told t_now_acts t_stress_cells t_stress_parts t_stress_det v1 v2 v3 = some (o, o_t_stress_cells, o_t_stress_parts, o_t_stress_det)) : Met l yX7_frail (Cond.code yX7_frail cX7_frail 5 (some .int) :: Tw) ⟨7, 0, 0, 172⟩ (va_Pc [.ref ((a_t 0)), .int v1, .int v2, .int v3] (rwB g [((a_t 0), .inr (6, [.ref (a_t_tape 0), .ref (a_t_reader 0), .ref (a_t_now 0), .ref (a_t 4), .ref (a_t_choices 0), .ref (a_t_ways 0), .ref (a_t_stress 0)])), ((a_t_now 0), .inr (1, [.ref (a_t_now 1), .ref (a_t_now 2), .ref (a_t_now 3), .ref (a_t_now 4), .ref (a_t_now 5), .int t_now_told, .int t_now_lines, .int t_now_kinds, .int t_now_acts])), ((a_t_now 1), .inl (g.2.2.1 0, 15, .inl t_now_numbers)), ((a_t_now 2), .inl (g.2.2.1 0, 144, .inl t_now_cells)), ((a_t_now 3), .inl (g.2.2.1 0, 31, .inl t_now_rows)), ((a_t_now 4), .inl (g.2.2.1 0, 31, .inl t_now_sizes)), ((a_t_stress 0), .inr (3, [.ref (a_t_stress 1), .ref (a_t_stress 2), .long t_stress_det])), ((a_t_stress 1), .inl (g.2.2.1 1, 9, .inr (.inl t_stress_cells))), ((a_t_stress 2), .inl (g.2.2.1 1, 3, .inr (.inl t_stress_parts)))] sz)) (va_Qi (fun x (_ : Nat → Nat) => x = o) (fun u => rwE g (va_A [((a_t 0), .inr (6, [.ref (a_t_tape 0), .ref (a_t_reader 0), .ref (a_t_now 0), .ref (a_t 4), .ref (a_t_choices 0), .ref (a_t_ways 0), .ref (a_t_stress 0)])), ((a_t_now 0), .inr (1, [.ref (a_t_now 1), .ref (a_t_now 2), .ref (a_t_now 3), .ref (a_t_now 4), .ref (a_t_now 5), .int t_now_told, .int t_now_lines, .int t_now_kinds, .int t_now_acts])), ((a_t_now 1), .inl (g.2.2.1 0, 15, .inl t_now_numbers)), ((a_t_now 2), .inl (g.2.2.1 0, 144, .inl t_now_cells)), ((a_t_now 3), .inl (g.2.2.1 0, 31, .inl t_now_rows)), ((a_t_now 4), .inl (g.2.2.1 0, 31, .inl t_now_sizes)), ((a_t_stress 0), .inr (3, [.ref (a_t_stress 1), .ref (a_t_stress 2), .long t_stress_det])), ((a_t_stress 1), .inl (g.2.2.1 1, 9, .inr (.inl t_stress_cells))), ((a_t_stress 2), .inl (g.2.2.1 1, 3, .inr (.inl t_stress_parts)))] sz) [((a_t 0), .inr (6, [.ref (a_t_tape 0), .ref (a_t_reader 0), .ref (a_t_now 0), .ref (a_t 4), .ref (a_t_choices 0), .ref (a_t_ways 0), .ref (a_t_stress 0)])), ((a_t_now 0), .inr (1, [.ref (a_t_now 1), .ref (a_t_now 2), .ref (a_t_now 3), .ref (a_t_now 4), .ref (a_t_now 5), .int t_now_told, .int t_now_lines, .int t_now_kinds, .int t_now_acts])), ((a_t_now 1), .inl (g.2.2.1 0, 15, .inl t_now_numbers)), ((a_t_now 2), .inl (g.2.2.1 0, 144, .inl t_now_cells)), ((a_t_now 3), .inl (g.2.2.1 0, 31, .inl t_now_rows)), ((a_t_now 4), .inl (g.2.2.1 0, 31, .inl t_now_sizes)), ((a_t_stress 0), .inr (3, [.ref (a_t_stress 1), .ref (a_t_stress 2), .long o_t_stress_det])), ((a_t_stress 1), .inl (g.2.2.1 1, 9, .inr (.inl o_t_stress_cells))), ((a_t_stress 2), .inl (g.2.2.1 1, 3, .inr (.inl o_t_stress_parts)))]) (va_A [((a_t 0), .inr (6, [.ref (a_t_tape 0), .ref (a_t_reader 0), .ref (a_t_now 0), .ref (a_t 4), .ref (a_t_choices 0), .ref (a_t_ways 0), .ref (a_t_stress 0)])), ((a_t_now 0), .inr (1, [.ref (a_t_now 1), .ref (a_t_now 2), .ref (a_t_now 3), .ref (a_t_now 4), .ref (a_t_now 5), .int t_now_told, .int t_now_lines, .int t_now_kinds, .int t_now_acts])), ((a_t_now 1), .inl (g.2.2.1 0, 15, .inl t_now_numbers)), ((a_t_now 2), .inl (g.2.2.1 0, 144, .inl t_now_cells)), ((a_t_now 3), .inl (g.2.2.1 0, 31, .inl t_now_rows)), ((a_t_now 4), .inl (g.2.2.1 0, 31, .inl t_now_sizes)), ((a_t_stress 0), .inr (3, [.ref (a_t_stress 1), .ref (a_t_stress 2), .long t_stress_det])), ((a_t_stress 1), .inl (g.2.2.1 1, 9, .inr (.inl t_stress_cells))), ((a_t_stress 2), .inl (g.2.2.1 1, 3, .inr (.inl t_stress_parts)))] sz)) 0 0 (va_A [((a_t 0), .inr (6, [.ref (a_t_tape 0), .ref (a_t_reader 0), .ref (a_t_now 0), .ref (a_t 4), .ref (a_t_choices 0), .ref (a_t_ways 0), .ref (a_t_stress 0)])), ((a_t_now 0), .inr (1, [.ref (a_t_now 1), .ref (a_t_now 2), .ref (a_t_now 3), .ref (a_t_now 4), .ref (a_t_now 5), .int t_now_told, .int t_now_lines, .int t_now_kinds, .int t_now_acts])), ((a_t_now 1), .inl (g.2.2.1 0, 15, .inl t_now_numbers)), ((a_t_now 2), .inl (g.2.2.1 0, 144, .inl t_now_cells)), ((a_t_now 3), .inl (g.2.2.1 0, 31, .inl t_now_rows)), ((a_t_now 4), .inl (g.2.2.1 0, 31, .inl t_now_sizes)), ((a_t_stress 0), .inr (3, [.ref (a_t_stress 1), .ref (a_t_stress 2), .long t_stress_det])), ((a_t_stress 1), .inl (g.2.2.1 1, 9, .inr (.inl t_stress_cells))), ((a_t_stress 2), .inl (g.2.2.1 1, 3, .inr (.inl t_stress_parts)))] sz) := by
  refine rw_meti (by decide) (Nat.le_of_ble_eq_true rfl) (lv0 := [(0, .ref ((a_t 0))), (1, .int v1), (2, .int v2), (3, .int v3)]) rfl ?_
  intro p e s m args below meth c ls Q A cx hret hG hAb hb0 hA hP hD hl
  have hx := cx.1
  have hb := cx.2.1
  have hG0 := hG
  have hGk : ∀ {H : Heap} {locs : List Loc}, va_S A s.heap H locs → GE g s H := fun hS => hG0.keptS hAb hS
  have hSb : ∀ {H : Heap} {locs : List Loc}, va_S A s.heap H locs → va_S (fun a => g.1 ≤ a) s.heap H locs := fun hS => ⟨hS.1, fun q h1 h2 => hS.2.1 q h1 (fun z => h2 (hAb q z)), fun l hl => hAb _ (hS.2.2 l hl)⟩
  have hS : va_S A s.heap s.heap [] := va_S.rf
  have hrt : ∀ (u : Nat → Nat) (pc : Nat) (ls : Array Slot) (v : Int32) (x_t_stress_cells : Nat → Int64) (x_t_stress_parts : Nat → Int64) (x_t_stress_det : Int64) (H : Heap) (locs : List Loc), decode cX7_frail pc = .ok (.ireturn, 1) → some (v, x_t_stress_cells, x_t_stress_parts, x_t_stress_det) = some (o, o_t_stress_cells, o_t_stress_parts, o_t_stress_det) → va_P g.2.1 vwCl [((a_t 0), .inr (6, [.ref (a_t_tape 0), .ref (a_t_reader 0), .ref (a_t_now 0), .ref (a_t 4), .ref (a_t_choices 0), .ref (a_t_ways 0), .ref (a_t_stress 0)])), ((a_t_now 0), .inr (1, [.ref (a_t_now 1), .ref (a_t_now 2), .ref (a_t_now 3), .ref (a_t_now 4), .ref (a_t_now 5), .int t_now_told, .int t_now_lines, .int t_now_kinds, .int t_now_acts])), ((a_t_now 1), .inl (g.2.2.1 0, 15, .inl t_now_numbers)), ((a_t_now 2), .inl (g.2.2.1 0, 144, .inl t_now_cells)), ((a_t_now 3), .inl (g.2.2.1 0, 31, .inl t_now_rows)), ((a_t_now 4), .inl (g.2.2.1 0, 31, .inl t_now_sizes)), ((a_t_stress 0), .inr (3, [.ref (a_t_stress 1), .ref (a_t_stress 2), .long x_t_stress_det])), ((a_t_stress 1), .inl (g.2.2.1 1, 9, .inr (.inl x_t_stress_cells))), ((a_t_stress 2), .inl (g.2.2.1 1, 3, .inr (.inl x_t_stress_parts)))] H → va_D A [((a_t 0), .inr (6, [.ref (a_t_tape 0), .ref (a_t_reader 0), .ref (a_t_now 0), .ref (a_t 4), .ref (a_t_choices 0), .ref (a_t_ways 0), .ref (a_t_stress 0)])), ((a_t_now 0), .inr (1, [.ref (a_t_now 1), .ref (a_t_now 2), .ref (a_t_now 3), .ref (a_t_now 4), .ref (a_t_now 5), .int t_now_told, .int t_now_lines, .int t_now_kinds, .int t_now_acts])), ((a_t_now 1), .inl (g.2.2.1 0, 15, .inl t_now_numbers)), ((a_t_now 2), .inl (g.2.2.1 0, 144, .inl t_now_cells)), ((a_t_now 3), .inl (g.2.2.1 0, 31, .inl t_now_rows)), ((a_t_now 4), .inl (g.2.2.1 0, 31, .inl t_now_sizes)), ((a_t_stress 0), .inr (3, [.ref (a_t_stress 1), .ref (a_t_stress 2), .long x_t_stress_det])), ((a_t_stress 1), .inl (g.2.2.1 1, 9, .inr (.inl x_t_stress_cells))), ((a_t_stress 2), .inl (g.2.2.1 1, 3, .inr (.inl x_t_stress_parts)))] → va_S A s.heap H locs → W p l e ⟨7, 0, 0, 172⟩ s m args below meth c H locs 0 0 Q (F0 m pc ls [.int v]) := by
    intro u pc ls v x_t_stress_cells x_t_stress_parts x_t_stress_det H locs hd h hP hD hS
    cases h
    exact hret u _ _ _ _ _ hd rfl hP hD hS
  unfold fX7_frail at h
  refine lv_aload_n hx hb dX7_frail_0 rfl (lv_at hl 0 rfl) ?_
  refine lv_iload_n hx hb dX7_frail_1 rfl (lv_at hl 1 rfl) ?_
  refine lv_iload_n hx hb dX7_frail_2 rfl (lv_at hl 2 rfl) ?_
  refine lv_iload_n hx hb dX7_frail_3 rfl (lv_at hl 3 rfl) ?_
  obtain ⟨r2, w3, w4, w5, hr1, h⟩ := ob4_out h
  refine rw_i (WN := fun u6 => [((a_t 0), .inr (6, [.ref (a_t_tape 0), .ref (a_t_reader 0), .ref (a_t_now 0), .ref (a_t 4), .ref (a_t_choices 0), .ref (a_t_ways 0), .ref (a_t_stress 0)])), ((a_t_now 0), .inr (1, [.ref (a_t_now 1), .ref (a_t_now 2), .ref (a_t_now 3), .ref (a_t_now 4), .ref (a_t_now 5), .int t_now_told, .int t_now_lines, .int t_now_kinds, .int t_now_acts])), ((a_t_now 1), .inl (g.2.2.1 0, 15, .inl t_now_numbers)), ((a_t_now 2), .inl (g.2.2.1 0, 144, .inl t_now_cells)), ((a_t_now 3), .inl (g.2.2.1 0, 31, .inl t_now_rows)), ((a_t_now 4), .inl (g.2.2.1 0, 31, .inl t_now_sizes)), ((a_t_stress 0), .inr (3, [.ref (a_t_stress 1), .ref (a_t_stress 2), .long w5])), ((a_t_stress 1), .inl (g.2.2.1 1, 9, .inr (.inl w3))), ((a_t_stress 2), .inl (g.2.2.1 1, 3, .inr (.inl w4)))]) (wr := []) (runV (As := [.int v1, .int v2, .int v3]) (rest := []) cx hl.1 (ctX7_frailSet l g s.heap.size a_t a_t_tape a_t_reader a_t_now a_t_choices a_t_ways a_t_stress t_now_told t_now_lines t_now_kinds t_now_acts t_now_numbers t_now_cells t_now_rows t_now_sizes t_stress_det t_stress_cells t_stress_parts v1 v2 v3 r2 w3 w4 w5 hr1) kmX7_frailSet kvX7_frailSet lm_X7_313 ⟨rfl, rfl⟩ ⟨Nat.le_of_ble_eq_true rfl, Nat.le_of_ble_eq_true rfl⟩ (rwV (q0 := 0) (ci := 6) hG (hP.sub [0, 1, 2, 3, 4, 5, 6, 7, 8] rfl) (hD.sub [0, 1, 2, 3, 4, 5, 6, 7, 8] (by decide) rfl) hAb hb0 hS hP rfl rfl) rfl rfl (Nat.le_of_ble_eq_true rfl) dX7_frail_4 ⟨Nat.le_of_ble_eq_true rfl, Nat.le_of_ble_eq_true rfl⟩) hP hD hS hA [0, 1, 2, 3, 4, 5, 6, 7, 8] [] rfl rfl (by decide) (by decide) (fun _ => rfl) (fun u6 H locs hP hD hS => ?_)
  have hG := hGk hS
  refine lv_istore (lv' := [(4, .int r2), (0, .ref ((a_t 0))), (1, .int v1), (2, .int v2), (3, .int v3)]) hx hb dX7_frail_7 hl (by decide) rfl (fun ls hl => ?_)
  refine lv_iload hx hb dX7_frail_9 (lv_at hl 0 rfl) ?_
  refine lv_if_ge (tgt := 19) hx hb dX7_frail_11 (by decide) (fun c7 => ?_) (fun c7 => ?_)
  · have h := itp c7 h
    refine lv_iload hx hb dX7_frail_19 (lv_at hl 0 rfl) ?_
    refine ro_i (runS (As := [.int r2]) (rest := []) cx hl.1 (ctJ6_bitCount_0f7a4 l g r2 (fJ6_bitCount_0f7a4 r2) rfl) kmJ6_bitCount_0f7a4 ksJ6_bitCount_0f7a4 lm_X7_299 ⟨rfl, rfl⟩ ⟨Nat.le_of_ble_eq_true rfl, Nat.le_of_ble_eq_true rfl⟩ (roS hG (hP.sub [] rfl)) rfl rfl (Nat.le_of_ble_eq_true rfl) dX7_frail_21 ⟨Nat.le_of_ble_eq_true rfl, Nat.le_of_ble_eq_true rfl⟩) ?_
    exact hrt (fun _ => 0) _ _ ((fJ6_bitCount_0f7a4 r2)) w3 w4 w5 _ _ dX7_frail_24 h (hP.sub [0, 1, 2, 3, 4, 5, 6, 7, 8] rfl) (hD.sub [0, 1, 2, 3, 4, 5, 6, 7, 8] (by decide) rfl) hS
  · have h := itn c7 h
    refine lv_iload hx hb dX7_frail_14 (lv_at hl 0 rfl) ?_
    refine lv_goto (tgt := 24) hx hb dX7_frail_16 (by decide) ?_
    exact hrt (fun _ => 0) _ _ r2 w3 w4 w5 _ _ dX7_frail_24 h (hP.sub [0, 1, 2, 3, 4, 5, 6, 7, 8] rfl) (hD.sub [0, 1, 2, 3, 4, 5, 6, 7, 8] (by decide) rfl) hS
-- X7_leftWithout
theorem dX7_leftWithout_0 : decode cX7_leftWithout 0 = .ok (.iconst 1, 1) := by decide +kernel
theorem dX7_leftWithout_1 : decode cX7_leftWithout 1 = .ok (.iload_n 1, 1) := by decide +kernel
theorem dX7_leftWithout_2 : decode cX7_leftWithout 2 = .ok (.ishl, 1) := by decide +kernel
theorem dX7_leftWithout_3 : decode cX7_leftWithout 3 = .ok (.istore_n 3, 1) := by decide +kernel
theorem dX7_leftWithout_4 : decode cX7_leftWithout 4 = .ok (.iload_n 2, 1) := by decide +kernel
theorem dX7_leftWithout_5 : decode cX7_leftWithout 5 = .ok (.iconst 2, 1) := by decide +kernel
theorem dX7_leftWithout_6 : decode cX7_leftWithout 6 = .ok (.if_icmp .ne 12, 3) := by decide +kernel
theorem dX7_leftWithout_9 : decode cX7_leftWithout 9 = .ok (.aload_n 0, 1) := by decide +kernel
theorem dX7_leftWithout_10 : decode cX7_leftWithout 10 = .ok (.getfield 30, 3) := by decide +kernel
theorem dX7_leftWithout_13 : decode cX7_leftWithout 13 = .ok (.iload_n 3, 1) := by decide +kernel
theorem dX7_leftWithout_14 : decode cX7_leftWithout 14 = .ok (.invokevirtual 158, 3) := by decide +kernel
theorem dX7_leftWithout_17 : decode cX7_leftWithout 17 = .ok (.lreturn, 1) := by decide +kernel
theorem dX7_leftWithout_18 : decode cX7_leftWithout 18 = .ok (.aload_n 0, 1) := by decide +kernel
theorem dX7_leftWithout_19 : decode cX7_leftWithout 19 = .ok (.getfield 30, 3) := by decide +kernel
theorem dX7_leftWithout_22 : decode cX7_leftWithout 22 = .ok (.iload_n 3, 1) := by decide +kernel
theorem dX7_leftWithout_23 : decode cX7_leftWithout 23 = .ok (.iload_n 2, 1) := by decide +kernel
theorem dX7_leftWithout_24 : decode cX7_leftWithout 24 = .ok (.ifCond .ne 7, 3) := by decide +kernel
theorem dX7_leftWithout_27 : decode cX7_leftWithout 27 = .ok (.iconst 2, 1) := by decide +kernel
theorem dX7_leftWithout_28 : decode cX7_leftWithout 28 = .ok (.goto 4, 3) := by decide +kernel
theorem dX7_leftWithout_31 : decode cX7_leftWithout 31 = .ok (.iconst 0, 1) := by decide +kernel
theorem dX7_leftWithout_32 : decode cX7_leftWithout 32 = .ok (.iconst 0, 1) := by decide +kernel
theorem dX7_leftWithout_33 : decode cX7_leftWithout 33 = .ok (.invokevirtual 148, 3) := by decide +kernel
theorem dX7_leftWithout_36 : decode cX7_leftWithout 36 = .ok (.lreturn, 1) := by decide +kernel
noncomputable def fX7_leftWithout_32  (t_now_cells : Nat → Int32) (t_now_rows : Nat → Int32) (t_now_sizes : Nat → Int32) (t_now_acts : Int32) (z1 : Int32) (z2 : Int32) : Option (Int64) := (fX1_total t_now_cells t_now_rows t_now_sizes t_now_acts z1 z2 0).bind fun r5 => some r5
noncomputable def fX7_leftWithout  (t_now_cells : Nat → Int32) (t_now_rows : Nat → Int32) (t_now_sizes : Nat → Int32) (t_now_acts : Int32) (v1 : Int32) (v2 : Int32) : Option (Int64) := (if v2 = 2 then (fX1_warpWithout t_now_cells t_now_rows t_now_sizes t_now_acts (1 <<< (v1 &&& 31))).bind fun r3 => some r3 else (if v2 = 0 then fX7_leftWithout_32 t_now_cells t_now_rows t_now_sizes t_now_acts (1 <<< (v1 &&& 31)) 2 else fX7_leftWithout_32 t_now_cells t_now_rows t_now_sizes t_now_acts (1 <<< (v1 &&& 31)) 0))
set_option maxHeartbeats 4000000 in
set_option maxRecDepth 100000 in
theorem ctX7_leftWithout (l : Launch) (g : GT) (a_t : Nat → Nat) (a_t_tape : Nat → Nat) (a_t_reader : Nat → Nat) (a_t_now : Nat → Nat) (a_t_choices : Nat → Nat) (a_t_ways : Nat → Nat) (a_t_stress : Nat → Nat) (t_now_told : Int32) (t_now_lines : Int32) (t_now_kinds : Int32) (t_now_acts : Int32) (t_now_cells : Nat → Int32) (t_now_rows : Nat → Int32) (t_now_sizes : Nat → Int32) (v1 : Int32) (v2 : Int32) (o : Int64) (h : fX7_leftWithout t_now_cells t_now_rows t_now_sizes t_now_acts v1 v2 = some o) : Met l yX7_leftWithout (Cond.code yX7_leftWithout cX7_leftWithout 4 (some .long) :: Tw) ⟨4, 0, 0, 97⟩ (va_Pc [.ref ((a_t 0)), .int v1, .int v2] (roB g [((a_t 0), .inr (6, [.ref (a_t_tape 0), .ref (a_t_reader 0), .ref (a_t_now 0), .ref (a_t 4), .ref (a_t_choices 0), .ref (a_t_ways 0), .ref (a_t_stress 0)])), ((a_t_now 0), .inr (1, [.ref (a_t_now 1), .ref (a_t_now 2), .ref (a_t_now 3), .ref (a_t_now 4), .ref (a_t_now 5), .int t_now_told, .int t_now_lines, .int t_now_kinds, .int t_now_acts])), ((a_t_now 2), .inl (g.2.2.1 0, 144, .inl t_now_cells)), ((a_t_now 3), .inl (g.2.2.1 0, 31, .inl t_now_rows)), ((a_t_now 4), .inl (g.2.2.1 0, 31, .inl t_now_sizes))])) (vp_Sl (fun x => x = o)) 0 0 (fun _ => False) := by
  refine ro_metl (by decide) (Nat.le_of_ble_eq_true rfl) (lv0 := [(0, .ref ((a_t 0))), (1, .int v1), (2, .int v2)]) rfl ?_
  intro p e s m args below meth c ls Q cx hret hG hP hl
  have hx := cx.1
  have hb := cx.2.1
  have hG0 := hG
  have w32 : ∀ (z1 : Int32) (z2 : Int32) (ls : Array Slot), lv_has ls 4 [] → fX7_leftWithout_32  t_now_cells t_now_rows t_now_sizes t_now_acts z1 z2 = some o → W p l e ⟨4, 0, 0, 97⟩ s m args below meth c s.heap [] 0 0 Q (F0 m 32 ls [.int z2, .int z1, .ref ((a_t_now 0))]) := by
    intro z1 z2 ls hl h
    unfold fX7_leftWithout_32 at h
    refine lv_iconst (v := 0) hx hb dX7_leftWithout_32 (by decide) ?_
    obtain ⟨r5, hr6, h⟩ := bnd h
    refine ro_l (runVN (As := [.int z1, .int z2, .int (0)]) (rest := []) hG cx hl.1 (ctX1_total l g a_t_now t_now_told t_now_lines t_now_kinds t_now_acts t_now_cells t_now_rows t_now_sizes z1 z2 (0) r5 hr6) kmX1_total kvX1_total nm_27 ⟨rfl, rfl⟩ ⟨Nat.le_of_ble_eq_true rfl, Nat.le_of_ble_eq_true rfl⟩ (roV (q0 := 1) (ci := 1) hG (hP.sub [1, 2, 3, 4] rfl) hP rfl rfl) rfl rfl (Nat.le_of_ble_eq_true rfl) dX7_leftWithout_33 ⟨Nat.le_of_ble_eq_true rfl, Nat.le_of_ble_eq_true rfl⟩) ?_
    exact hret _ _ _ dX7_leftWithout_36 (Option.some.inj h)
  unfold fX7_leftWithout at h
  refine lv_iconst (v := 1) hx hb dX7_leftWithout_0 (by decide) ?_
  refine lv_iload_n hx hb dX7_leftWithout_1 rfl (lv_at hl 1 rfl) ?_
  refine lv_ishl hx hb dX7_leftWithout_2 ?_
  refine lv_istore_n (lv' := [(3, .int (1 <<< (v1 &&& 31))), (0, .ref ((a_t 0))), (1, .int v1), (2, .int v2)]) hx hb dX7_leftWithout_3 rfl hl (by decide) rfl (fun ls hl => ?_)
  refine lv_iload_n hx hb dX7_leftWithout_4 rfl (lv_at hl 3 rfl) ?_
  refine lv_iconst (v := 2) hx hb dX7_leftWithout_5 (by decide) ?_
  refine lv_icmp_ne (tgt := 18) hx hb dX7_leftWithout_6 (by decide) (fun c1 => ?_) (fun c1 => ?_)
  · have h := itn c1 h
    refine lv_aload_n hx hb dX7_leftWithout_18 rfl (lv_at hl 1 rfl) ?_
    refine xa_get (C := RX7) (T := TX7) (N := 7) cx hG hP 0 rfl rfl uX7 2 (by decide) lf_X7_30 rfl dX7_leftWithout_19 ?_
    refine lv_iload_n hx hb dX7_leftWithout_22 rfl (lv_at hl 0 rfl) ?_
    refine lv_iload_n hx hb dX7_leftWithout_23 rfl (lv_at hl 3 rfl) ?_
    refine lv_if_ne (tgt := 31) hx hb dX7_leftWithout_24 (by decide) (fun c2 => ?_) (fun c2 => ?_)
    · have h := itn c2 h
      refine lv_iconst (v := 0) hx hb dX7_leftWithout_31 (by decide) ?_
      exact w32 (1 <<< (v1 &&& 31)) 0 _ (lv_sub hl [] rfl) h
    · have h := itp c2 h
      refine lv_iconst (v := 2) hx hb dX7_leftWithout_27 (by decide) ?_
      refine lv_goto (tgt := 32) hx hb dX7_leftWithout_28 (by decide) ?_
      exact w32 (1 <<< (v1 &&& 31)) 2 _ (lv_sub hl [] rfl) h
  · have h := itp c1 h
    refine lv_aload_n hx hb dX7_leftWithout_9 rfl (lv_at hl 1 rfl) ?_
    refine xa_get (C := RX7) (T := TX7) (N := 7) cx hG hP 0 rfl rfl uX7 2 (by decide) lf_X7_30 rfl dX7_leftWithout_10 ?_
    refine lv_iload_n hx hb dX7_leftWithout_13 rfl (lv_at hl 0 rfl) ?_
    obtain ⟨r3, hr4, h⟩ := bnd h
    refine ro_l (runVN (As := [.int (1 <<< (v1 &&& 31))]) (rest := []) hG cx hl.1 (ctX1_warpWithout l g a_t_now t_now_told t_now_lines t_now_kinds t_now_acts t_now_cells t_now_rows t_now_sizes (1 <<< (v1 &&& 31)) r3 hr4) kmX1_warpWithout kvX1_warpWithout nm_32 ⟨rfl, rfl⟩ ⟨Nat.le_of_ble_eq_true rfl, Nat.le_of_ble_eq_true rfl⟩ (roV (q0 := 1) (ci := 1) hG (hP.sub [1, 2, 3, 4] rfl) hP rfl rfl) rfl rfl (Nat.le_of_ble_eq_true rfl) dX7_leftWithout_14 ⟨Nat.le_of_ble_eq_true rfl, Nat.le_of_ble_eq_true rfl⟩) ?_
    exact hret _ _ _ dX7_leftWithout_17 (Option.some.inj h)
-- X7_lost
theorem dX7_lost_0 : decode cX7_lost 0 = .ok (.aload_n 0, 1) := by decide +kernel
theorem dX7_lost_1 : decode cX7_lost 1 = .ok (.iload_n 1, 1) := by decide +kernel
theorem dX7_lost_2 : decode cX7_lost 2 = .ok (.invokevirtual 115, 3) := by decide +kernel
theorem dX7_lost_5 : decode cX7_lost 5 = .ok (.ifCond .eq 12, 3) := by decide +kernel
theorem dX7_lost_8 : decode cX7_lost 8 = .ok (.iload_n 2, 1) := by decide +kernel
theorem dX7_lost_9 : decode cX7_lost 9 = .ok (.ifCond .lt 8, 3) := by decide +kernel
theorem dX7_lost_12 : decode cX7_lost 12 = .ok (.iload_n 2, 1) := by decide +kernel
theorem dX7_lost_13 : decode cX7_lost 13 = .ok (.iconst 2, 1) := by decide +kernel
theorem dX7_lost_14 : decode cX7_lost 14 = .ok (.if_icmp .le 7, 3) := by decide +kernel
theorem dX7_lost_17 : decode cX7_lost 17 = .ok (.ldc2_w 146, 3) := by decide +kernel
theorem dX7_lost_20 : decode cX7_lost 20 = .ok (.lreturn, 1) := by decide +kernel
theorem dX7_lost_21 : decode cX7_lost 21 = .ok (.aload_n 0, 1) := by decide +kernel
theorem dX7_lost_22 : decode cX7_lost 22 = .ok (.iload_n 1, 1) := by decide +kernel
theorem dX7_lost_23 : decode cX7_lost 23 = .ok (.iload_n 2, 1) := by decide +kernel
theorem dX7_lost_24 : decode cX7_lost 24 = .ok (.invokevirtual 319, 3) := by decide +kernel
theorem dX7_lost_27 : decode cX7_lost 27 = .ok (.lreturn, 1) := by decide +kernel
noncomputable def fX7_lost  (t_now_cells : Nat → Int32) (t_now_rows : Nat → Int32) (t_now_sizes : Nat → Int32) (t_now_told : Int32) (t_now_acts : Int32) (v1 : Int32) (v2 : Int32) : Option (Int64) := (fX7_isPly t_now_sizes t_now_told t_now_acts v1).bind fun r1 => (if r1 = 0 then some (-9223372036854775808) else (if v2 < 0 then some (-9223372036854775808) else (if v2 ≤ 2 then (fX7_leftWithout t_now_cells t_now_rows t_now_sizes t_now_acts v1 v2).bind fun r7 => some r7 else some (-9223372036854775808))))
set_option maxHeartbeats 4000000 in
set_option maxRecDepth 100000 in
theorem ctX7_lost (l : Launch) (g : GT) (a_t : Nat → Nat) (a_t_tape : Nat → Nat) (a_t_reader : Nat → Nat) (a_t_now : Nat → Nat) (a_t_choices : Nat → Nat) (a_t_ways : Nat → Nat) (a_t_stress : Nat → Nat) (t_now_told : Int32) (t_now_lines : Int32) (t_now_kinds : Int32) (t_now_acts : Int32) (t_now_cells : Nat → Int32) (t_now_rows : Nat → Int32) (t_now_sizes : Nat → Int32) (v1 : Int32) (v2 : Int32) (o : Int64) (h : fX7_lost t_now_cells t_now_rows t_now_sizes t_now_told t_now_acts v1 v2 = some o) : Met l yX7_lost (Cond.code yX7_lost cX7_lost 3 (some .long) :: Tw) ⟨5, 0, 0, 120⟩ (va_Pc [.ref ((a_t 0)), .int v1, .int v2] (roB g [((a_t 0), .inr (6, [.ref (a_t_tape 0), .ref (a_t_reader 0), .ref (a_t_now 0), .ref (a_t 4), .ref (a_t_choices 0), .ref (a_t_ways 0), .ref (a_t_stress 0)])), ((a_t_now 0), .inr (1, [.ref (a_t_now 1), .ref (a_t_now 2), .ref (a_t_now 3), .ref (a_t_now 4), .ref (a_t_now 5), .int t_now_told, .int t_now_lines, .int t_now_kinds, .int t_now_acts])), ((a_t_now 2), .inl (g.2.2.1 0, 144, .inl t_now_cells)), ((a_t_now 3), .inl (g.2.2.1 0, 31, .inl t_now_rows)), ((a_t_now 4), .inl (g.2.2.1 0, 31, .inl t_now_sizes))])) (vp_Sl (fun x => x = o)) 0 0 (fun _ => False) := by
  refine ro_metl (by decide) (Nat.le_of_ble_eq_true rfl) (lv0 := [(0, .ref ((a_t 0))), (1, .int v1), (2, .int v2)]) rfl ?_
  intro p e s m args below meth c ls Q cx hret hG hP hl
  have hx := cx.1
  have hb := cx.2.1
  have hG0 := hG
  unfold fX7_lost at h
  refine lv_aload_n hx hb dX7_lost_0 rfl (lv_at hl 0 rfl) ?_
  refine lv_iload_n hx hb dX7_lost_1 rfl (lv_at hl 1 rfl) ?_
  obtain ⟨r1, hr2, h⟩ := bnd h
  refine ro_z (runV (As := [.int v1]) (rest := []) cx hl.1 (ctX7_isPly l g a_t a_t_tape a_t_reader a_t_now a_t_choices a_t_ways a_t_stress t_now_told t_now_lines t_now_kinds t_now_acts t_now_sizes v1 r1 hr2) kmX7_isPly kvX7_isPly lm_X7_115 ⟨rfl, rfl⟩ ⟨Nat.le_of_ble_eq_true rfl, Nat.le_of_ble_eq_true rfl⟩ (roV (q0 := 0) (ci := 6) hG (hP.sub [0, 1, 4] rfl) hP rfl rfl) rfl rfl (Nat.le_of_ble_eq_true rfl) dX7_lost_2 ⟨Nat.le_of_ble_eq_true rfl, Nat.le_of_ble_eq_true rfl⟩) (fun hz3 => ?_)
  refine lv_if_eq (tgt := 17) hx hb dX7_lost_5 (by decide) (fun c4 => ?_) (fun c4 => ?_)
  · have h := itp c4 h
    refine lv_ldc2 (own := RX7) (v := -9223372036854775808) hx hb cx.2.2.2.1 (cx.2.2.2.2 _ cl_X7_146) dX7_lost_17 ?_
    exact hret _ _ _ dX7_lost_20 (Option.some.inj h)
  · have h := itn c4 h
    refine lv_iload_n hx hb dX7_lost_8 rfl (lv_at hl 2 rfl) ?_
    refine lv_if_lt (tgt := 17) hx hb dX7_lost_9 (by decide) (fun c5 => ?_) (fun c5 => ?_)
    · have h := itp c5 h
      refine lv_ldc2 (own := RX7) (v := -9223372036854775808) hx hb cx.2.2.2.1 (cx.2.2.2.2 _ cl_X7_146) dX7_lost_17 ?_
      exact hret _ _ _ dX7_lost_20 (Option.some.inj h)
    · have h := itn c5 h
      refine lv_iload_n hx hb dX7_lost_12 rfl (lv_at hl 2 rfl) ?_
      refine lv_iconst (v := 2) hx hb dX7_lost_13 (by decide) ?_
      refine lv_icmp_le (tgt := 21) hx hb dX7_lost_14 (by decide) (fun c6 => ?_) (fun c6 => ?_)
      · have h := itp c6 h
        refine lv_aload_n hx hb dX7_lost_21 rfl (lv_at hl 0 rfl) ?_
        refine lv_iload_n hx hb dX7_lost_22 rfl (lv_at hl 1 rfl) ?_
        refine lv_iload_n hx hb dX7_lost_23 rfl (lv_at hl 2 rfl) ?_
        obtain ⟨r7, hr8, h⟩ := bnd h
        refine ro_l (runV (As := [.int v1, .int v2]) (rest := []) cx hl.1 (ctX7_leftWithout l g a_t a_t_tape a_t_reader a_t_now a_t_choices a_t_ways a_t_stress t_now_told t_now_lines t_now_kinds t_now_acts t_now_cells t_now_rows t_now_sizes v1 v2 r7 hr8) kmX7_leftWithout kvX7_leftWithout lm_X7_319 ⟨rfl, rfl⟩ ⟨Nat.le_of_ble_eq_true rfl, Nat.le_of_ble_eq_true rfl⟩ (roV (q0 := 0) (ci := 6) hG (hP.sub [0, 1, 2, 3, 4] rfl) hP rfl rfl) rfl rfl (Nat.le_of_ble_eq_true rfl) dX7_lost_24 ⟨Nat.le_of_ble_eq_true rfl, Nat.le_of_ble_eq_true rfl⟩) ?_
        exact hret _ _ _ dX7_lost_27 (Option.some.inj h)
      · have h := itn c6 h
        refine lv_ldc2 (own := RX7) (v := -9223372036854775808) hx hb cx.2.2.2.1 (cx.2.2.2.2 _ cl_X7_146) dX7_lost_17 ?_
        exact hret _ _ _ dX7_lost_20 (Option.some.inj h)
-- X7_worst
theorem dX7_worst_0 : decode cX7_worst 0 = .ok (.aload_n 0, 1) := by decide +kernel
theorem dX7_worst_1 : decode cX7_worst 1 = .ok (.getfield 30, 3) := by decide +kernel
theorem dX7_worst_4 : decode cX7_worst 4 = .ok (.getfield 139, 3) := by decide +kernel
theorem dX7_worst_7 : decode cX7_worst 7 = .ok (.ifCond .eq 12, 3) := by decide +kernel
theorem dX7_worst_10 : decode cX7_worst 10 = .ok (.iload_n 1, 1) := by decide +kernel
theorem dX7_worst_11 : decode cX7_worst 11 = .ok (.ifCond .lt 8, 3) := by decide +kernel
theorem dX7_worst_14 : decode cX7_worst 14 = .ok (.iload_n 1, 1) := by decide +kernel
theorem dX7_worst_15 : decode cX7_worst 15 = .ok (.iconst 2, 1) := by decide +kernel
theorem dX7_worst_16 : decode cX7_worst 16 = .ok (.if_icmp .le 6, 3) := by decide +kernel
theorem dX7_worst_19 : decode cX7_worst 19 = .ok (.bipush (-2), 2) := by decide +kernel
theorem dX7_worst_21 : decode cX7_worst 21 = .ok (.ireturn, 1) := by decide +kernel
theorem dX7_worst_22 : decode cX7_worst 22 = .ok (.iconst (-1), 1) := by decide +kernel
theorem dX7_worst_23 : decode cX7_worst 23 = .ok (.istore_n 2, 1) := by decide +kernel
theorem dX7_worst_24 : decode cX7_worst 24 = .ok (.lconst 0, 1) := by decide +kernel
theorem dX7_worst_25 : decode cX7_worst 25 = .ok (.lstore_n 3, 1) := by decide +kernel
theorem dX7_worst_26 : decode cX7_worst 26 = .ok (.iconst 0, 1) := by decide +kernel
theorem dX7_worst_27 : decode cX7_worst 27 = .ok (.istore 5, 2) := by decide +kernel
theorem dX7_worst_29 : decode cX7_worst 29 = .ok (.iload 5, 2) := by decide +kernel
theorem dX7_worst_31 : decode cX7_worst 31 = .ok (.aload_n 0, 1) := by decide +kernel
theorem dX7_worst_32 : decode cX7_worst 32 = .ok (.getfield 30, 3) := by decide +kernel
theorem dX7_worst_35 : decode cX7_worst 35 = .ok (.invokevirtual 97, 3) := by decide +kernel
theorem dX7_worst_38 : decode cX7_worst 38 = .ok (.if_icmp .ge 51, 3) := by decide +kernel
theorem dX7_worst_41 : decode cX7_worst 41 = .ok (.aload_n 0, 1) := by decide +kernel
theorem dX7_worst_42 : decode cX7_worst 42 = .ok (.iload 5, 2) := by decide +kernel
theorem dX7_worst_44 : decode cX7_worst 44 = .ok (.iload_n 1, 1) := by decide +kernel
theorem dX7_worst_45 : decode cX7_worst 45 = .ok (.invokevirtual 319, 3) := by decide +kernel
theorem dX7_worst_48 : decode cX7_worst 48 = .ok (.lstore 6, 2) := by decide +kernel
theorem dX7_worst_50 : decode cX7_worst 50 = .ok (.iload_n 1, 1) := by decide +kernel
theorem dX7_worst_51 : decode cX7_worst 51 = .ok (.iconst 2, 1) := by decide +kernel
theorem dX7_worst_52 : decode cX7_worst 52 = .ok (.if_icmp .ne 8, 3) := by decide +kernel
theorem dX7_worst_55 : decode cX7_worst 55 = .ok (.lload 6, 2) := by decide +kernel
theorem dX7_worst_57 : decode cX7_worst 57 = .ok (.goto 6, 3) := by decide +kernel
theorem dX7_worst_60 : decode cX7_worst 60 = .ok (.lload 6, 2) := by decide +kernel
theorem dX7_worst_62 : decode cX7_worst 62 = .ok (.lneg, 1) := by decide +kernel
theorem dX7_worst_63 : decode cX7_worst 63 = .ok (.lstore 8, 2) := by decide +kernel
theorem dX7_worst_65 : decode cX7_worst 65 = .ok (.iload_n 2, 1) := by decide +kernel
theorem dX7_worst_66 : decode cX7_worst 66 = .ok (.iconst (-1), 1) := by decide +kernel
theorem dX7_worst_67 : decode cX7_worst 67 = .ok (.if_icmp .eq 10, 3) := by decide +kernel
theorem dX7_worst_70 : decode cX7_worst 70 = .ok (.lload 8, 2) := by decide +kernel
theorem dX7_worst_72 : decode cX7_worst 72 = .ok (.lload_n 3, 1) := by decide +kernel
theorem dX7_worst_73 : decode cX7_worst 73 = .ok (.lcmp, 1) := by decide +kernel
theorem dX7_worst_74 : decode cX7_worst 74 = .ok (.ifCond .le 9, 3) := by decide +kernel
theorem dX7_worst_77 : decode cX7_worst 77 = .ok (.iload 5, 2) := by decide +kernel
theorem dX7_worst_79 : decode cX7_worst 79 = .ok (.istore_n 2, 1) := by decide +kernel
theorem dX7_worst_80 : decode cX7_worst 80 = .ok (.lload 8, 2) := by decide +kernel
theorem dX7_worst_82 : decode cX7_worst 82 = .ok (.lstore_n 3, 1) := by decide +kernel
theorem dX7_worst_83 : decode cX7_worst 83 = .ok (.iinc 5 1, 3) := by decide +kernel
theorem dX7_worst_86 : decode cX7_worst 86 = .ok (.goto (-57), 3) := by decide +kernel
theorem dX7_worst_89 : decode cX7_worst 89 = .ok (.iload_n 2, 1) := by decide +kernel
theorem dX7_worst_90 : decode cX7_worst 90 = .ok (.ireturn, 1) := by decide +kernel
noncomputable def fX7_worst_83 (k29 : (Nat → Int32) → (Nat → Int32) → (Nat → Int32) → Int32 → Int32 → Int32 → Int64 → Int32 → Option (Int32)) (t_now_cells : Nat → Int32) (t_now_rows : Nat → Int32) (t_now_sizes : Nat → Int32) (t_now_acts : Int32) (v1 : Int32) (v2 : Int32) (v3 : Int64) (v5 : Int32) : Option (Int32) := k29 t_now_cells t_now_rows t_now_sizes t_now_acts v1 v2 v3 (v5 + 1)
noncomputable def fX7_worst_77 (k29 : (Nat → Int32) → (Nat → Int32) → (Nat → Int32) → Int32 → Int32 → Int32 → Int64 → Int32 → Option (Int32)) (t_now_cells : Nat → Int32) (t_now_rows : Nat → Int32) (t_now_sizes : Nat → Int32) (t_now_acts : Int32) (v1 : Int32) (v5 : Int32) (v8 : Int64) : Option (Int32) := fX7_worst_83 k29 t_now_cells t_now_rows t_now_sizes t_now_acts v1 v5 v8 v5
noncomputable def fX7_worst_63 (k29 : (Nat → Int32) → (Nat → Int32) → (Nat → Int32) → Int32 → Int32 → Int32 → Int64 → Int32 → Option (Int32)) (t_now_cells : Nat → Int32) (t_now_rows : Nat → Int32) (t_now_sizes : Nat → Int32) (t_now_acts : Int32) (v1 : Int32) (v2 : Int32) (v3 : Int64) (v5 : Int32) (z0 : Int64) : Option (Int32) := (if v2 = (-1) then fX7_worst_77 k29 t_now_cells t_now_rows t_now_sizes t_now_acts v1 v5 z0 else (if (lg_cmp z0 v3) ≤ 0 then fX7_worst_83 k29 t_now_cells t_now_rows t_now_sizes t_now_acts v1 v2 v3 v5 else fX7_worst_77 k29 t_now_cells t_now_rows t_now_sizes t_now_acts v1 v5 z0))
noncomputable def fX7_worst_29  : Nat → (Nat → Int32) → (Nat → Int32) → (Nat → Int32) → Int32 → Int32 → Int32 → Int64 → Int32 → Option (Int32)
  | 0, _, _, _, _, _, _, _, _ => none
  | n + 1, t_now_cells, t_now_rows, t_now_sizes, t_now_acts, v1, v2, v3, v5 => (fX1_plies t_now_sizes t_now_acts).bind fun r4 => (if r4 ≤ v5 then some v2 else (fX7_leftWithout t_now_cells t_now_rows t_now_sizes t_now_acts v5 v1).bind fun r7 => (if v1 = 2 then fX7_worst_63 (fX7_worst_29 n) t_now_cells t_now_rows t_now_sizes t_now_acts v1 v2 v3 v5 r7 else fX7_worst_63 (fX7_worst_29 n) t_now_cells t_now_rows t_now_sizes t_now_acts v1 v2 v3 v5 (-r7)))
theorem fX7_worst_29_z  (t_now_cells : Nat → Int32) (t_now_rows : Nat → Int32) (t_now_sizes : Nat → Int32) (t_now_acts : Int32) (v1 : Int32) (v2 : Int32) (v3 : Int64) (v5 : Int32) : fX7_worst_29  0 t_now_cells t_now_rows t_now_sizes t_now_acts v1 v2 v3 v5 = none := rfl
theorem fX7_worst_29_s  (n : Nat) (t_now_cells : Nat → Int32) (t_now_rows : Nat → Int32) (t_now_sizes : Nat → Int32) (t_now_acts : Int32) (v1 : Int32) (v2 : Int32) (v3 : Int64) (v5 : Int32) : fX7_worst_29  (n + 1) t_now_cells t_now_rows t_now_sizes t_now_acts v1 v2 v3 v5 = (fX1_plies t_now_sizes t_now_acts).bind fun r4 => (if r4 ≤ v5 then some v2 else (fX7_leftWithout t_now_cells t_now_rows t_now_sizes t_now_acts v5 v1).bind fun r7 => (if v1 = 2 then fX7_worst_63 (fX7_worst_29 n) t_now_cells t_now_rows t_now_sizes t_now_acts v1 v2 v3 v5 r7 else fX7_worst_63 (fX7_worst_29 n) t_now_cells t_now_rows t_now_sizes t_now_acts v1 v2 v3 v5 (-r7))) := rfl
noncomputable def fX7_worst  (t_now_cells : Nat → Int32) (t_now_rows : Nat → Int32) (t_now_sizes : Nat → Int32) (t_now_told : Int32) (t_now_acts : Int32) (v1 : Int32) : Option (Int32) := (if t_now_told = 0 then some (-2) else (if v1 < 0 then some (-2) else (if v1 ≤ 2 then fX7_worst_29 FU t_now_cells t_now_rows t_now_sizes t_now_acts v1 (-1) 0 0 else some (-2))))
set_option maxHeartbeats 4000000 in
set_option maxRecDepth 100000 in
theorem ctX7_worst (l : Launch) (g : GT) (a_t : Nat → Nat) (a_t_tape : Nat → Nat) (a_t_reader : Nat → Nat) (a_t_now : Nat → Nat) (a_t_choices : Nat → Nat) (a_t_ways : Nat → Nat) (a_t_stress : Nat → Nat) (t_now_told : Int32) (t_now_lines : Int32) (t_now_kinds : Int32) (t_now_acts : Int32) (t_now_cells : Nat → Int32) (t_now_rows : Nat → Int32) (t_now_sizes : Nat → Int32) (v1 : Int32) (o : Int32) (h : fX7_worst t_now_cells t_now_rows t_now_sizes t_now_told t_now_acts v1 = some o) : Met l yX7_worst (Cond.code yX7_worst cX7_worst 10 (some .int) :: Tw) ⟨5, 0, 0, 120⟩ (va_Pc [.ref ((a_t 0)), .int v1] (roB g [((a_t 0), .inr (6, [.ref (a_t_tape 0), .ref (a_t_reader 0), .ref (a_t_now 0), .ref (a_t 4), .ref (a_t_choices 0), .ref (a_t_ways 0), .ref (a_t_stress 0)])), ((a_t_now 0), .inr (1, [.ref (a_t_now 1), .ref (a_t_now 2), .ref (a_t_now 3), .ref (a_t_now 4), .ref (a_t_now 5), .int t_now_told, .int t_now_lines, .int t_now_kinds, .int t_now_acts])), ((a_t_now 2), .inl (g.2.2.1 0, 144, .inl t_now_cells)), ((a_t_now 3), .inl (g.2.2.1 0, 31, .inl t_now_rows)), ((a_t_now 4), .inl (g.2.2.1 0, 31, .inl t_now_sizes))])) (vp_Si (fun x => x = o)) 0 0 (fun _ => False) := by
  refine ro_meti (by decide) (Nat.le_of_ble_eq_true rfl) (lv0 := [(0, .ref ((a_t 0))), (1, .int v1)]) rfl ?_
  intro p e s m args below meth c ls Q cx hret hG hP hl
  have hx := cx.1
  have hb := cx.2.1
  have hG0 := hG
  have w83 : ∀ (k29 : (Nat → Int32) → (Nat → Int32) → (Nat → Int32) → Int32 → Int32 → Int32 → Int64 → Int32 → Option (Int32)) (hk29 : ∀ (v1 : Int32) (v2 : Int32) (v3 : Int64) (v5 : Int32) (ls : Array Slot), lv_has ls 10 [(0, .ref ((a_t 0))), (1, .int v1), (2, .int v2), (3, .long v3), (5, .int v5)] → k29 t_now_cells t_now_rows t_now_sizes t_now_acts v1 v2 v3 v5 = some o → W p l e ⟨5, 0, 0, 120⟩ s m args below meth c s.heap [] 0 0 Q (F0 m 29 ls [])) (v1 : Int32) (v2 : Int32) (v3 : Int64) (v5 : Int32) (ls : Array Slot), lv_has ls 10 [(0, .ref ((a_t 0))), (1, .int v1), (2, .int v2), (3, .long v3), (5, .int v5)] → fX7_worst_83 k29 t_now_cells t_now_rows t_now_sizes t_now_acts v1 v2 v3 v5 = some o → W p l e ⟨5, 0, 0, 120⟩ s m args below meth c s.heap [] 0 0 Q (F0 m 83 ls []) := by
    intro k29 hk29 v1 v2 v3 v5 ls hl h
    unfold fX7_worst_83 at h
    refine lv_iinc (v := v5 + 1) (lv' := [(5, .int (v5 + 1)), (0, .ref ((a_t 0))), (1, .int v1), (2, .int v2), (3, .long v3)]) hx hb dX7_worst_83 hl (k := 4) rfl rfl (by decide) rfl (fun ls hl => ?_)
    refine lv_goto (tgt := 29) hx hb dX7_worst_86 (by decide) ?_
    exact hk29 v1 v2 v3 (v5 + 1) _ (lv_sub hl [1, 2, 3, 4, 0] rfl) h
  have w77 : ∀ (k29 : (Nat → Int32) → (Nat → Int32) → (Nat → Int32) → Int32 → Int32 → Int32 → Int64 → Int32 → Option (Int32)) (hk29 : ∀ (v1 : Int32) (v2 : Int32) (v3 : Int64) (v5 : Int32) (ls : Array Slot), lv_has ls 10 [(0, .ref ((a_t 0))), (1, .int v1), (2, .int v2), (3, .long v3), (5, .int v5)] → k29 t_now_cells t_now_rows t_now_sizes t_now_acts v1 v2 v3 v5 = some o → W p l e ⟨5, 0, 0, 120⟩ s m args below meth c s.heap [] 0 0 Q (F0 m 29 ls [])) (v1 : Int32) (v5 : Int32) (v8 : Int64) (ls : Array Slot), lv_has ls 10 [(0, .ref ((a_t 0))), (1, .int v1), (5, .int v5), (8, .long v8)] → fX7_worst_77 k29 t_now_cells t_now_rows t_now_sizes t_now_acts v1 v5 v8 = some o → W p l e ⟨5, 0, 0, 120⟩ s m args below meth c s.heap [] 0 0 Q (F0 m 77 ls []) := by
    intro k29 hk29 v1 v5 v8 ls hl h
    unfold fX7_worst_77 at h
    refine lv_iload hx hb dX7_worst_77 (lv_at hl 2 rfl) ?_
    refine lv_istore_n (lv' := [(2, .int v5), (0, .ref ((a_t 0))), (1, .int v1), (5, .int v5), (8, .long v8)]) hx hb dX7_worst_79 rfl hl (by decide) rfl (fun ls hl => ?_)
    refine lv_lload hx hb dX7_worst_80 (lv_at hl 4 rfl) ?_
    refine lv_lstore_n (lv' := [(3, .long v8), (2, .int v5), (0, .ref ((a_t 0))), (1, .int v1), (5, .int v5), (8, .long v8)]) hx hb dX7_worst_82 rfl hl (by decide) rfl (fun ls hl => ?_)
    exact w83 _ hk29 v1 v5 v8 v5 _ (lv_sub hl [2, 3, 1, 0, 4] rfl) h
  have w63 : ∀ (k29 : (Nat → Int32) → (Nat → Int32) → (Nat → Int32) → Int32 → Int32 → Int32 → Int64 → Int32 → Option (Int32)) (hk29 : ∀ (v1 : Int32) (v2 : Int32) (v3 : Int64) (v5 : Int32) (ls : Array Slot), lv_has ls 10 [(0, .ref ((a_t 0))), (1, .int v1), (2, .int v2), (3, .long v3), (5, .int v5)] → k29 t_now_cells t_now_rows t_now_sizes t_now_acts v1 v2 v3 v5 = some o → W p l e ⟨5, 0, 0, 120⟩ s m args below meth c s.heap [] 0 0 Q (F0 m 29 ls [])) (v1 : Int32) (v2 : Int32) (v3 : Int64) (v5 : Int32) (z0 : Int64) (ls : Array Slot), lv_has ls 10 [(0, .ref ((a_t 0))), (1, .int v1), (2, .int v2), (3, .long v3), (5, .int v5)] → fX7_worst_63 k29 t_now_cells t_now_rows t_now_sizes t_now_acts v1 v2 v3 v5 z0 = some o → W p l e ⟨5, 0, 0, 120⟩ s m args below meth c s.heap [] 0 0 Q (F0 m 63 ls [.long z0]) := by
    intro k29 hk29 v1 v2 v3 v5 z0 ls hl h
    unfold fX7_worst_63 at h
    refine lv_lstore (lv' := [(8, .long z0), (0, .ref ((a_t 0))), (1, .int v1), (2, .int v2), (3, .long v3), (5, .int v5)]) hx hb dX7_worst_63 hl (by decide) rfl (fun ls hl => ?_)
    refine lv_iload_n hx hb dX7_worst_65 rfl (lv_at hl 3 rfl) ?_
    refine lv_iconst (v := -1) hx hb dX7_worst_66 (by decide) ?_
    refine lv_icmp_eq (tgt := 77) hx hb dX7_worst_67 (by decide) (fun c10 => ?_) (fun c10 => ?_)
    · have h := itp c10 h
      exact w77 _ hk29 v1 v5 z0 _ (lv_sub hl [1, 2, 5, 0] rfl) h
    · have h := itn c10 h
      refine lv_lload hx hb dX7_worst_70 (lv_at hl 0 rfl) ?_
      refine lv_lload_n hx hb dX7_worst_72 rfl (lv_at hl 4 rfl) ?_
      refine W.lcmp hx hb dX7_worst_73 ?_
      refine lv_if_le (tgt := 83) hx hb dX7_worst_74 (by decide) (fun c11 => ?_) (fun c11 => ?_)
      · have h := itp c11 h
        exact w83 _ hk29 v1 v2 v3 v5 _ (lv_sub hl [1, 2, 3, 4, 5] rfl) h
      · have h := itn c11 h
        exact w77 _ hk29 v1 v5 z0 _ (lv_sub hl [1, 2, 5, 0] rfl) h
  have w29 : ∀ (n : Nat) (v1 : Int32) (v2 : Int32) (v3 : Int64) (v5 : Int32) (ls : Array Slot), lv_has ls 10 [(0, .ref ((a_t 0))), (1, .int v1), (2, .int v2), (3, .long v3), (5, .int v5)] → fX7_worst_29  n t_now_cells t_now_rows t_now_sizes t_now_acts v1 v2 v3 v5 = some o → W p l e ⟨5, 0, 0, 120⟩ s m args below meth c s.heap [] 0 0 Q (F0 m 29 ls []) := by
    intro n
    induction n with
    | zero => intro v1 v2 v3 v5 ls hl h; cases (fX7_worst_29_z  t_now_cells t_now_rows t_now_sizes t_now_acts v1 v2 v3 v5).symm.trans h
    | succ n ih =>
    intro v1 v2 v3 v5 ls hl h
    have h := (fX7_worst_29_s  n t_now_cells t_now_rows t_now_sizes t_now_acts v1 v2 v3 v5).symm.trans h
    refine lv_iload hx hb dX7_worst_29 (lv_at hl 4 rfl) ?_
    refine lv_aload_n hx hb dX7_worst_31 rfl (lv_at hl 0 rfl) ?_
    refine xa_get (C := RX7) (T := TX7) (N := 7) cx hG hP 0 rfl rfl uX7 2 (by decide) lf_X7_30 rfl dX7_worst_32 ?_
    obtain ⟨r4, hr5, h⟩ := bnd h
    refine ro_i (runVN (As := []) (rest := [.int v5]) hG cx hl.1 (ctX1_plies l g a_t_now t_now_told t_now_lines t_now_kinds t_now_acts t_now_sizes r4 hr5) kmX1_plies kvX1_plies nm_17 ⟨rfl, rfl⟩ ⟨Nat.le_of_ble_eq_true rfl, Nat.le_of_ble_eq_true rfl⟩ (roV (q0 := 1) (ci := 1) hG (hP.sub [1, 4] rfl) hP rfl rfl) rfl rfl (Nat.le_of_ble_eq_true rfl) dX7_worst_35 ⟨Nat.le_of_ble_eq_true rfl, Nat.le_of_ble_eq_true rfl⟩) ?_
    refine lv_icmp_ge (tgt := 89) hx hb dX7_worst_38 (by decide) (fun c6 => ?_) (fun c6 => ?_)
    · have h := itp c6 h
      refine lv_iload_n hx hb dX7_worst_89 rfl (lv_at hl 2 rfl) ?_
      exact hret _ _ _ dX7_worst_90 (Option.some.inj h)
    · have h := itn c6 h
      refine lv_aload_n hx hb dX7_worst_41 rfl (lv_at hl 0 rfl) ?_
      refine lv_iload hx hb dX7_worst_42 (lv_at hl 4 rfl) ?_
      refine lv_iload_n hx hb dX7_worst_44 rfl (lv_at hl 1 rfl) ?_
      obtain ⟨r7, hr8, h⟩ := bnd h
      refine ro_l (runV (As := [.int v5, .int v1]) (rest := []) cx hl.1 (ctX7_leftWithout l g a_t a_t_tape a_t_reader a_t_now a_t_choices a_t_ways a_t_stress t_now_told t_now_lines t_now_kinds t_now_acts t_now_cells t_now_rows t_now_sizes v5 v1 r7 hr8) kmX7_leftWithout kvX7_leftWithout lm_X7_319 ⟨rfl, rfl⟩ ⟨Nat.le_of_ble_eq_true rfl, Nat.le_of_ble_eq_true rfl⟩ (roV (q0 := 0) (ci := 6) hG (hP.sub [0, 1, 2, 3, 4] rfl) hP rfl rfl) rfl rfl (Nat.le_of_ble_eq_true rfl) dX7_worst_45 ⟨Nat.le_of_ble_eq_true rfl, Nat.le_of_ble_eq_true rfl⟩) ?_
      refine lv_lstore (lv' := [(6, .long r7), (0, .ref ((a_t 0))), (1, .int v1), (2, .int v2), (3, .long v3), (5, .int v5)]) hx hb dX7_worst_48 hl (by decide) rfl (fun ls hl => ?_)
      refine lv_iload_n hx hb dX7_worst_50 rfl (lv_at hl 2 rfl) ?_
      refine lv_iconst (v := 2) hx hb dX7_worst_51 (by decide) ?_
      refine lv_icmp_ne (tgt := 60) hx hb dX7_worst_52 (by decide) (fun c9 => ?_) (fun c9 => ?_)
      · have h := itn c9 h
        refine lv_lload hx hb dX7_worst_60 (lv_at hl 0 rfl) ?_
        refine lv_lneg hx hb dX7_worst_62 ?_
        exact w63 _ ih v1 v2 v3 v5 (-r7) _ (lv_sub hl [1, 2, 3, 4, 5] rfl) h
      · have h := itp c9 h
        refine lv_lload hx hb dX7_worst_55 (lv_at hl 0 rfl) ?_
        refine lv_goto (tgt := 63) hx hb dX7_worst_57 (by decide) ?_
        exact w63 _ ih v1 v2 v3 v5 r7 _ (lv_sub hl [1, 2, 3, 4, 5] rfl) h
  unfold fX7_worst at h
  refine lv_aload_n hx hb dX7_worst_0 rfl (lv_at hl 0 rfl) ?_
  refine xa_get (C := RX7) (T := TX7) (N := 7) cx hG hP 0 rfl rfl uX7 2 (by decide) lf_X7_30 rfl dX7_worst_1 ?_
  refine xa_getN (C := RX1) (T := TX1) (N := 9) cx hG hP 1 rfl rfl uX1 5 (by decide) nf_5 rfl dX7_worst_4 ?_
  refine lv_if_eq (tgt := 19) hx hb dX7_worst_7 (by decide) (fun c1 => ?_) (fun c1 => ?_)
  · have h := itp c1 h
    refine lv_bipush (v := -2) hx hb dX7_worst_19 (by decide) ?_
    exact hret _ _ _ dX7_worst_21 (Option.some.inj h)
  · have h := itn c1 h
    refine lv_iload_n hx hb dX7_worst_10 rfl (lv_at hl 1 rfl) ?_
    refine lv_if_lt (tgt := 19) hx hb dX7_worst_11 (by decide) (fun c2 => ?_) (fun c2 => ?_)
    · have h := itp c2 h
      refine lv_bipush (v := -2) hx hb dX7_worst_19 (by decide) ?_
      exact hret _ _ _ dX7_worst_21 (Option.some.inj h)
    · have h := itn c2 h
      refine lv_iload_n hx hb dX7_worst_14 rfl (lv_at hl 1 rfl) ?_
      refine lv_iconst (v := 2) hx hb dX7_worst_15 (by decide) ?_
      refine lv_icmp_le (tgt := 22) hx hb dX7_worst_16 (by decide) (fun c3 => ?_) (fun c3 => ?_)
      · have h := itp c3 h
        refine lv_iconst (v := -1) hx hb dX7_worst_22 (by decide) ?_
        refine lv_istore_n (lv' := [(2, .int (-1)), (0, .ref ((a_t 0))), (1, .int v1)]) hx hb dX7_worst_23 rfl hl (by decide) rfl (fun ls hl => ?_)
        refine lv_lconst (v := 0) hx hb dX7_worst_24 (by decide) ?_
        refine lv_lstore_n (lv' := [(3, .long (0)), (2, .int (-1)), (0, .ref ((a_t 0))), (1, .int v1)]) hx hb dX7_worst_25 rfl hl (by decide) rfl (fun ls hl => ?_)
        refine lv_iconst (v := 0) hx hb dX7_worst_26 (by decide) ?_
        refine lv_istore (lv' := [(5, .int (0)), (3, .long (0)), (2, .int (-1)), (0, .ref ((a_t 0))), (1, .int v1)]) hx hb dX7_worst_27 hl (by decide) rfl (fun ls hl => ?_)
        exact w29 FU v1 (-1) 0 0 _ (lv_sub hl [3, 4, 2, 1, 0] rfl) h
      · have h := itn c3 h
        refine lv_bipush (v := -2) hx hb dX7_worst_19 (by decide) ?_
        exact hret _ _ _ dX7_worst_21 (Option.some.inj h)
-- X7_spared
theorem dX7_spared_0 : decode cX7_spared 0 = .ok (.aload_n 0, 1) := by decide +kernel
theorem dX7_spared_1 : decode cX7_spared 1 = .ok (.iload_n 1, 1) := by decide +kernel
theorem dX7_spared_2 : decode cX7_spared 2 = .ok (.iload_n 2, 1) := by decide +kernel
theorem dX7_spared_3 : decode cX7_spared 3 = .ok (.iload_n 3, 1) := by decide +kernel
theorem dX7_spared_4 : decode cX7_spared 4 = .ok (.invokevirtual 177, 3) := by decide +kernel
theorem dX7_spared_7 : decode cX7_spared 7 = .ok (.ifCond .ne 6, 3) := by decide +kernel
theorem dX7_spared_10 : decode cX7_spared 10 = .ok (.bipush (-2), 2) := by decide +kernel
theorem dX7_spared_12 : decode cX7_spared 12 = .ok (.ireturn, 1) := by decide +kernel
theorem dX7_spared_13 : decode cX7_spared 13 = .ok (.iconst 0, 1) := by decide +kernel
theorem dX7_spared_14 : decode cX7_spared 14 = .ok (.istore 4, 2) := by decide +kernel
theorem dX7_spared_16 : decode cX7_spared 16 = .ok (.iconst 0, 1) := by decide +kernel
theorem dX7_spared_17 : decode cX7_spared 17 = .ok (.istore 5, 2) := by decide +kernel
theorem dX7_spared_19 : decode cX7_spared 19 = .ok (.iload 5, 2) := by decide +kernel
theorem dX7_spared_21 : decode cX7_spared 21 = .ok (.aload_n 0, 1) := by decide +kernel
theorem dX7_spared_22 : decode cX7_spared 22 = .ok (.getfield 30, 3) := by decide +kernel
theorem dX7_spared_25 : decode cX7_spared 25 = .ok (.invokevirtual 97, 3) := by decide +kernel
theorem dX7_spared_28 : decode cX7_spared 28 = .ok (.if_icmp .ge 39, 3) := by decide +kernel
theorem dX7_spared_31 : decode cX7_spared 31 = .ok (.aload_n 0, 1) := by decide +kernel
theorem dX7_spared_32 : decode cX7_spared 32 = .ok (.getfield 55, 3) := by decide +kernel
theorem dX7_spared_35 : decode cX7_spared 35 = .ok (.aload_n 0, 1) := by decide +kernel
theorem dX7_spared_36 : decode cX7_spared 36 = .ok (.getfield 30, 3) := by decide +kernel
theorem dX7_spared_39 : decode cX7_spared 39 = .ok (.iconst 1, 1) := by decide +kernel
theorem dX7_spared_40 : decode cX7_spared 40 = .ok (.iload 5, 2) := by decide +kernel
theorem dX7_spared_42 : decode cX7_spared 42 = .ok (.ishl, 1) := by decide +kernel
theorem dX7_spared_43 : decode cX7_spared 43 = .ok (.iload_n 1, 1) := by decide +kernel
theorem dX7_spared_44 : decode cX7_spared 44 = .ok (.iload_n 2, 1) := by decide +kernel
theorem dX7_spared_45 : decode cX7_spared 45 = .ok (.iload_n 3, 1) := by decide +kernel
theorem dX7_spared_46 : decode cX7_spared 46 = .ok (.invokevirtual 322, 3) := by decide +kernel
theorem dX7_spared_49 : decode cX7_spared 49 = .ok (.ifCond .eq 12, 3) := by decide +kernel
theorem dX7_spared_52 : decode cX7_spared 52 = .ok (.iload 4, 2) := by decide +kernel
theorem dX7_spared_54 : decode cX7_spared 54 = .ok (.iconst 1, 1) := by decide +kernel
theorem dX7_spared_55 : decode cX7_spared 55 = .ok (.iload 5, 2) := by decide +kernel
theorem dX7_spared_57 : decode cX7_spared 57 = .ok (.ishl, 1) := by decide +kernel
theorem dX7_spared_58 : decode cX7_spared 58 = .ok (.ior, 1) := by decide +kernel
theorem dX7_spared_59 : decode cX7_spared 59 = .ok (.istore 4, 2) := by decide +kernel
theorem dX7_spared_61 : decode cX7_spared 61 = .ok (.iinc 5 1, 3) := by decide +kernel
theorem dX7_spared_64 : decode cX7_spared 64 = .ok (.goto (-45), 3) := by decide +kernel
theorem dX7_spared_67 : decode cX7_spared 67 = .ok (.iload 4, 2) := by decide +kernel
theorem dX7_spared_69 : decode cX7_spared 69 = .ok (.ireturn, 1) := by decide +kernel
noncomputable def fX7_spared_61 (k19 : (Nat → Int32) → (Nat → Int32) → (Nat → Int32) → (Nat → Int32) → Int32 → (Nat → Int64) → (Nat → Int64) → Int64 → Int32 → Int32 → Int32 → Int32 → Int32 → Option (Int32 × (Nat → Int64) × (Nat → Int64) × Int64)) (t_now_numbers : Nat → Int32) (t_now_cells : Nat → Int32) (t_now_rows : Nat → Int32) (t_now_sizes : Nat → Int32) (t_now_acts : Int32) (t_stress_cells : Nat → Int64) (t_stress_parts : Nat → Int64) (t_stress_det : Int64) (v1 : Int32) (v2 : Int32) (v3 : Int32) (v4 : Int32) (v5 : Int32) : Option (Int32 × (Nat → Int64) × (Nat → Int64) × Int64) := k19 t_now_numbers t_now_cells t_now_rows t_now_sizes t_now_acts t_stress_cells t_stress_parts t_stress_det v1 v2 v3 v4 (v5 + 1)
noncomputable def fX7_spared_19  : Nat → (Nat → Int32) → (Nat → Int32) → (Nat → Int32) → (Nat → Int32) → Int32 → (Nat → Int64) → (Nat → Int64) → Int64 → Int32 → Int32 → Int32 → Int32 → Int32 → Option (Int32 × (Nat → Int64) × (Nat → Int64) × Int64)
  | 0, _, _, _, _, _, _, _, _, _, _, _, _, _ => none
  | n + 1, t_now_numbers, t_now_cells, t_now_rows, t_now_sizes, t_now_acts, t_stress_cells, t_stress_parts, t_stress_det, v1, v2, v3, v4, v5 => (fX1_plies t_now_sizes t_now_acts).bind fun r3 => (if r3 ≤ v5 then some (v4, t_stress_cells, t_stress_parts, t_stress_det) else ob4 (fX4_withinLimits t_stress_cells t_stress_parts t_stress_det t_now_numbers t_now_cells t_now_rows t_now_sizes t_now_acts (1 <<< (v5 &&& 31)) v1 v2 v3) fun r7 w8 w9 w10 => (if r7 = 0 then fX7_spared_61 (fX7_spared_19 n) t_now_numbers t_now_cells t_now_rows t_now_sizes t_now_acts w8 w9 w10 v1 v2 v3 v4 v5 else fX7_spared_61 (fX7_spared_19 n) t_now_numbers t_now_cells t_now_rows t_now_sizes t_now_acts w8 w9 w10 v1 v2 v3 (v4 ||| (1 <<< (v5 &&& 31))) v5))
theorem fX7_spared_19_z  (t_now_numbers : Nat → Int32) (t_now_cells : Nat → Int32) (t_now_rows : Nat → Int32) (t_now_sizes : Nat → Int32) (t_now_acts : Int32) (t_stress_cells : Nat → Int64) (t_stress_parts : Nat → Int64) (t_stress_det : Int64) (v1 : Int32) (v2 : Int32) (v3 : Int32) (v4 : Int32) (v5 : Int32) : fX7_spared_19  0 t_now_numbers t_now_cells t_now_rows t_now_sizes t_now_acts t_stress_cells t_stress_parts t_stress_det v1 v2 v3 v4 v5 = none := rfl
theorem fX7_spared_19_s  (n : Nat) (t_now_numbers : Nat → Int32) (t_now_cells : Nat → Int32) (t_now_rows : Nat → Int32) (t_now_sizes : Nat → Int32) (t_now_acts : Int32) (t_stress_cells : Nat → Int64) (t_stress_parts : Nat → Int64) (t_stress_det : Int64) (v1 : Int32) (v2 : Int32) (v3 : Int32) (v4 : Int32) (v5 : Int32) : fX7_spared_19  (n + 1) t_now_numbers t_now_cells t_now_rows t_now_sizes t_now_acts t_stress_cells t_stress_parts t_stress_det v1 v2 v3 v4 v5 = (fX1_plies t_now_sizes t_now_acts).bind fun r3 => (if r3 ≤ v5 then some (v4, t_stress_cells, t_stress_parts, t_stress_det) else ob4 (fX4_withinLimits t_stress_cells t_stress_parts t_stress_det t_now_numbers t_now_cells t_now_rows t_now_sizes t_now_acts (1 <<< (v5 &&& 31)) v1 v2 v3) fun r7 w8 w9 w10 => (if r7 = 0 then fX7_spared_61 (fX7_spared_19 n) t_now_numbers t_now_cells t_now_rows t_now_sizes t_now_acts w8 w9 w10 v1 v2 v3 v4 v5 else fX7_spared_61 (fX7_spared_19 n) t_now_numbers t_now_cells t_now_rows t_now_sizes t_now_acts w8 w9 w10 v1 v2 v3 (v4 ||| (1 <<< (v5 &&& 31))) v5)) := rfl
noncomputable def fX7_spared  (t_now_numbers : Nat → Int32) (t_now_cells : Nat → Int32) (t_now_rows : Nat → Int32) (t_now_sizes : Nat → Int32) (t_now_told : Int32) (t_now_acts : Int32) (t_stress_cells : Nat → Int64) (t_stress_parts : Nat → Int64) (t_stress_det : Int64) (v1 : Int32) (v2 : Int32) (v3 : Int32) : Option (Int32 × (Nat → Int64) × (Nat → Int64) × Int64) := (if (fX7_areLoads t_now_told v1 v2 v3) = 0 then some ((-2), t_stress_cells, t_stress_parts, t_stress_det) else fX7_spared_19 FU t_now_numbers t_now_cells t_now_rows t_now_sizes t_now_acts t_stress_cells t_stress_parts t_stress_det v1 v2 v3 0 0)
set_option maxHeartbeats 4000000 in
set_option maxRecDepth 100000 in
theorem ctX7_spared (l : Launch) (g : GT) (sz : Nat) (a_t : Nat → Nat) (a_t_tape : Nat → Nat) (a_t_reader : Nat → Nat) (a_t_now : Nat → Nat) (a_t_choices : Nat → Nat) (a_t_ways : Nat → Nat) (a_t_stress : Nat → Nat) (t_now_told : Int32) (t_now_lines : Int32) (t_now_kinds : Int32) (t_now_acts : Int32) (t_now_numbers : Nat → Int32) (t_now_cells : Nat → Int32) (t_now_rows : Nat → Int32) (t_now_sizes : Nat → Int32) (t_stress_det : Int64) (t_stress_cells : Nat → Int64) (t_stress_parts : Nat → Int64) (v1 : Int32) (v2 : Int32) (v3 : Int32) (o : Int32) (o_t_stress_cells : Nat → Int64) (o_t_stress_parts : Nat → Int64) (o_t_stress_det : Int64) (h : fX7_spared t_now_numbers t_now_cells t_now_rows t_now_sizes t_now_told t_now_acts t_stress_cells t_stress_parts t_stress_det v1 v2 v3 = some (o, o_t_stress_cells, o_t_stress_parts, o_t_stress_det)) : Met l yX7_spared (Cond.code yX7_spared cX7_spared 6 (some .int) :: Tw) ⟨5, 0, 0, 123⟩ (va_Pc [.ref ((a_t 0)), .int v1, .int v2, .int v3] (rwB g [((a_t 0), .inr (6, [.ref (a_t_tape 0), .ref (a_t_reader 0), .ref (a_t_now 0), .ref (a_t 4), .ref (a_t_choices 0), .ref (a_t_ways 0), .ref (a_t_stress 0)])), ((a_t_now 0), .inr (1, [.ref (a_t_now 1), .ref (a_t_now 2), .ref (a_t_now 3), .ref (a_t_now 4), .ref (a_t_now 5), .int t_now_told, .int t_now_lines, .int t_now_kinds, .int t_now_acts])), ((a_t_now 1), .inl (g.2.2.1 0, 15, .inl t_now_numbers)), ((a_t_now 2), .inl (g.2.2.1 0, 144, .inl t_now_cells)), ((a_t_now 3), .inl (g.2.2.1 0, 31, .inl t_now_rows)), ((a_t_now 4), .inl (g.2.2.1 0, 31, .inl t_now_sizes)), ((a_t_stress 0), .inr (3, [.ref (a_t_stress 1), .ref (a_t_stress 2), .long t_stress_det])), ((a_t_stress 1), .inl (g.2.2.1 1, 9, .inr (.inl t_stress_cells))), ((a_t_stress 2), .inl (g.2.2.1 1, 3, .inr (.inl t_stress_parts)))] sz)) (va_Qi (fun x (_ : Nat → Nat) => x = o) (fun u => rwE g (va_A [((a_t 0), .inr (6, [.ref (a_t_tape 0), .ref (a_t_reader 0), .ref (a_t_now 0), .ref (a_t 4), .ref (a_t_choices 0), .ref (a_t_ways 0), .ref (a_t_stress 0)])), ((a_t_now 0), .inr (1, [.ref (a_t_now 1), .ref (a_t_now 2), .ref (a_t_now 3), .ref (a_t_now 4), .ref (a_t_now 5), .int t_now_told, .int t_now_lines, .int t_now_kinds, .int t_now_acts])), ((a_t_now 1), .inl (g.2.2.1 0, 15, .inl t_now_numbers)), ((a_t_now 2), .inl (g.2.2.1 0, 144, .inl t_now_cells)), ((a_t_now 3), .inl (g.2.2.1 0, 31, .inl t_now_rows)), ((a_t_now 4), .inl (g.2.2.1 0, 31, .inl t_now_sizes)), ((a_t_stress 0), .inr (3, [.ref (a_t_stress 1), .ref (a_t_stress 2), .long t_stress_det])), ((a_t_stress 1), .inl (g.2.2.1 1, 9, .inr (.inl t_stress_cells))), ((a_t_stress 2), .inl (g.2.2.1 1, 3, .inr (.inl t_stress_parts)))] sz) [((a_t 0), .inr (6, [.ref (a_t_tape 0), .ref (a_t_reader 0), .ref (a_t_now 0), .ref (a_t 4), .ref (a_t_choices 0), .ref (a_t_ways 0), .ref (a_t_stress 0)])), ((a_t_now 0), .inr (1, [.ref (a_t_now 1), .ref (a_t_now 2), .ref (a_t_now 3), .ref (a_t_now 4), .ref (a_t_now 5), .int t_now_told, .int t_now_lines, .int t_now_kinds, .int t_now_acts])), ((a_t_now 1), .inl (g.2.2.1 0, 15, .inl t_now_numbers)), ((a_t_now 2), .inl (g.2.2.1 0, 144, .inl t_now_cells)), ((a_t_now 3), .inl (g.2.2.1 0, 31, .inl t_now_rows)), ((a_t_now 4), .inl (g.2.2.1 0, 31, .inl t_now_sizes)), ((a_t_stress 0), .inr (3, [.ref (a_t_stress 1), .ref (a_t_stress 2), .long o_t_stress_det])), ((a_t_stress 1), .inl (g.2.2.1 1, 9, .inr (.inl o_t_stress_cells))), ((a_t_stress 2), .inl (g.2.2.1 1, 3, .inr (.inl o_t_stress_parts)))]) (va_A [((a_t 0), .inr (6, [.ref (a_t_tape 0), .ref (a_t_reader 0), .ref (a_t_now 0), .ref (a_t 4), .ref (a_t_choices 0), .ref (a_t_ways 0), .ref (a_t_stress 0)])), ((a_t_now 0), .inr (1, [.ref (a_t_now 1), .ref (a_t_now 2), .ref (a_t_now 3), .ref (a_t_now 4), .ref (a_t_now 5), .int t_now_told, .int t_now_lines, .int t_now_kinds, .int t_now_acts])), ((a_t_now 1), .inl (g.2.2.1 0, 15, .inl t_now_numbers)), ((a_t_now 2), .inl (g.2.2.1 0, 144, .inl t_now_cells)), ((a_t_now 3), .inl (g.2.2.1 0, 31, .inl t_now_rows)), ((a_t_now 4), .inl (g.2.2.1 0, 31, .inl t_now_sizes)), ((a_t_stress 0), .inr (3, [.ref (a_t_stress 1), .ref (a_t_stress 2), .long t_stress_det])), ((a_t_stress 1), .inl (g.2.2.1 1, 9, .inr (.inl t_stress_cells))), ((a_t_stress 2), .inl (g.2.2.1 1, 3, .inr (.inl t_stress_parts)))] sz)) 0 0 (va_A [((a_t 0), .inr (6, [.ref (a_t_tape 0), .ref (a_t_reader 0), .ref (a_t_now 0), .ref (a_t 4), .ref (a_t_choices 0), .ref (a_t_ways 0), .ref (a_t_stress 0)])), ((a_t_now 0), .inr (1, [.ref (a_t_now 1), .ref (a_t_now 2), .ref (a_t_now 3), .ref (a_t_now 4), .ref (a_t_now 5), .int t_now_told, .int t_now_lines, .int t_now_kinds, .int t_now_acts])), ((a_t_now 1), .inl (g.2.2.1 0, 15, .inl t_now_numbers)), ((a_t_now 2), .inl (g.2.2.1 0, 144, .inl t_now_cells)), ((a_t_now 3), .inl (g.2.2.1 0, 31, .inl t_now_rows)), ((a_t_now 4), .inl (g.2.2.1 0, 31, .inl t_now_sizes)), ((a_t_stress 0), .inr (3, [.ref (a_t_stress 1), .ref (a_t_stress 2), .long t_stress_det])), ((a_t_stress 1), .inl (g.2.2.1 1, 9, .inr (.inl t_stress_cells))), ((a_t_stress 2), .inl (g.2.2.1 1, 3, .inr (.inl t_stress_parts)))] sz) := by
  refine rw_meti (by decide) (Nat.le_of_ble_eq_true rfl) (lv0 := [(0, .ref ((a_t 0))), (1, .int v1), (2, .int v2), (3, .int v3)]) rfl ?_
  intro p e s m args below meth c ls Q A cx hret hG hAb hb0 hA hP hD hl
  have hx := cx.1
  have hb := cx.2.1
  have hG0 := hG
  have hGk : ∀ {H : Heap} {locs : List Loc}, va_S A s.heap H locs → GE g s H := fun hS => hG0.keptS hAb hS
  have hSb : ∀ {H : Heap} {locs : List Loc}, va_S A s.heap H locs → va_S (fun a => g.1 ≤ a) s.heap H locs := fun hS => ⟨hS.1, fun q h1 h2 => hS.2.1 q h1 (fun z => h2 (hAb q z)), fun l hl => hAb _ (hS.2.2 l hl)⟩
  have hS : va_S A s.heap s.heap [] := va_S.rf
  have hrt : ∀ (u : Nat → Nat) (pc : Nat) (ls : Array Slot) (v : Int32) (x_t_stress_cells : Nat → Int64) (x_t_stress_parts : Nat → Int64) (x_t_stress_det : Int64) (H : Heap) (locs : List Loc), decode cX7_spared pc = .ok (.ireturn, 1) → some (v, x_t_stress_cells, x_t_stress_parts, x_t_stress_det) = some (o, o_t_stress_cells, o_t_stress_parts, o_t_stress_det) → va_P g.2.1 vwCl [((a_t 0), .inr (6, [.ref (a_t_tape 0), .ref (a_t_reader 0), .ref (a_t_now 0), .ref (a_t 4), .ref (a_t_choices 0), .ref (a_t_ways 0), .ref (a_t_stress 0)])), ((a_t_now 0), .inr (1, [.ref (a_t_now 1), .ref (a_t_now 2), .ref (a_t_now 3), .ref (a_t_now 4), .ref (a_t_now 5), .int t_now_told, .int t_now_lines, .int t_now_kinds, .int t_now_acts])), ((a_t_now 1), .inl (g.2.2.1 0, 15, .inl t_now_numbers)), ((a_t_now 2), .inl (g.2.2.1 0, 144, .inl t_now_cells)), ((a_t_now 3), .inl (g.2.2.1 0, 31, .inl t_now_rows)), ((a_t_now 4), .inl (g.2.2.1 0, 31, .inl t_now_sizes)), ((a_t_stress 0), .inr (3, [.ref (a_t_stress 1), .ref (a_t_stress 2), .long x_t_stress_det])), ((a_t_stress 1), .inl (g.2.2.1 1, 9, .inr (.inl x_t_stress_cells))), ((a_t_stress 2), .inl (g.2.2.1 1, 3, .inr (.inl x_t_stress_parts)))] H → va_D A [((a_t 0), .inr (6, [.ref (a_t_tape 0), .ref (a_t_reader 0), .ref (a_t_now 0), .ref (a_t 4), .ref (a_t_choices 0), .ref (a_t_ways 0), .ref (a_t_stress 0)])), ((a_t_now 0), .inr (1, [.ref (a_t_now 1), .ref (a_t_now 2), .ref (a_t_now 3), .ref (a_t_now 4), .ref (a_t_now 5), .int t_now_told, .int t_now_lines, .int t_now_kinds, .int t_now_acts])), ((a_t_now 1), .inl (g.2.2.1 0, 15, .inl t_now_numbers)), ((a_t_now 2), .inl (g.2.2.1 0, 144, .inl t_now_cells)), ((a_t_now 3), .inl (g.2.2.1 0, 31, .inl t_now_rows)), ((a_t_now 4), .inl (g.2.2.1 0, 31, .inl t_now_sizes)), ((a_t_stress 0), .inr (3, [.ref (a_t_stress 1), .ref (a_t_stress 2), .long x_t_stress_det])), ((a_t_stress 1), .inl (g.2.2.1 1, 9, .inr (.inl x_t_stress_cells))), ((a_t_stress 2), .inl (g.2.2.1 1, 3, .inr (.inl x_t_stress_parts)))] → va_S A s.heap H locs → W p l e ⟨5, 0, 0, 123⟩ s m args below meth c H locs 0 0 Q (F0 m pc ls [.int v]) := by
    intro u pc ls v x_t_stress_cells x_t_stress_parts x_t_stress_det H locs hd h hP hD hS
    cases h
    exact hret u _ _ _ _ _ hd rfl hP hD hS
  have w61 : ∀ (k19 : (Nat → Int32) → (Nat → Int32) → (Nat → Int32) → (Nat → Int32) → Int32 → (Nat → Int64) → (Nat → Int64) → Int64 → Int32 → Int32 → Int32 → Int32 → Int32 → Option (Int32 × (Nat → Int64) × (Nat → Int64) × Int64)) (hk19 : ∀ (t_stress_cells : Nat → Int64) (t_stress_parts : Nat → Int64) (t_stress_det : Int64) (v1 : Int32) (v2 : Int32) (v3 : Int32) (v4 : Int32) (v5 : Int32) (H : Heap) (locs : List Loc), va_P g.2.1 vwCl [((a_t 0), .inr (6, [.ref (a_t_tape 0), .ref (a_t_reader 0), .ref (a_t_now 0), .ref (a_t 4), .ref (a_t_choices 0), .ref (a_t_ways 0), .ref (a_t_stress 0)])), ((a_t_now 0), .inr (1, [.ref (a_t_now 1), .ref (a_t_now 2), .ref (a_t_now 3), .ref (a_t_now 4), .ref (a_t_now 5), .int t_now_told, .int t_now_lines, .int t_now_kinds, .int t_now_acts])), ((a_t_now 1), .inl (g.2.2.1 0, 15, .inl t_now_numbers)), ((a_t_now 2), .inl (g.2.2.1 0, 144, .inl t_now_cells)), ((a_t_now 3), .inl (g.2.2.1 0, 31, .inl t_now_rows)), ((a_t_now 4), .inl (g.2.2.1 0, 31, .inl t_now_sizes)), ((a_t_stress 0), .inr (3, [.ref (a_t_stress 1), .ref (a_t_stress 2), .long t_stress_det])), ((a_t_stress 1), .inl (g.2.2.1 1, 9, .inr (.inl t_stress_cells))), ((a_t_stress 2), .inl (g.2.2.1 1, 3, .inr (.inl t_stress_parts)))] H → va_D A [((a_t 0), .inr (6, [.ref (a_t_tape 0), .ref (a_t_reader 0), .ref (a_t_now 0), .ref (a_t 4), .ref (a_t_choices 0), .ref (a_t_ways 0), .ref (a_t_stress 0)])), ((a_t_now 0), .inr (1, [.ref (a_t_now 1), .ref (a_t_now 2), .ref (a_t_now 3), .ref (a_t_now 4), .ref (a_t_now 5), .int t_now_told, .int t_now_lines, .int t_now_kinds, .int t_now_acts])), ((a_t_now 1), .inl (g.2.2.1 0, 15, .inl t_now_numbers)), ((a_t_now 2), .inl (g.2.2.1 0, 144, .inl t_now_cells)), ((a_t_now 3), .inl (g.2.2.1 0, 31, .inl t_now_rows)), ((a_t_now 4), .inl (g.2.2.1 0, 31, .inl t_now_sizes)), ((a_t_stress 0), .inr (3, [.ref (a_t_stress 1), .ref (a_t_stress 2), .long t_stress_det])), ((a_t_stress 1), .inl (g.2.2.1 1, 9, .inr (.inl t_stress_cells))), ((a_t_stress 2), .inl (g.2.2.1 1, 3, .inr (.inl t_stress_parts)))] → va_S A s.heap H locs → ∀ (ls : Array Slot), lv_has ls 6 [(0, .ref ((a_t 0))), (1, .int v1), (2, .int v2), (3, .int v3), (4, .int v4), (5, .int v5)] → k19 t_now_numbers t_now_cells t_now_rows t_now_sizes t_now_acts t_stress_cells t_stress_parts t_stress_det v1 v2 v3 v4 v5 = some (o, o_t_stress_cells, o_t_stress_parts, o_t_stress_det) → W p l e ⟨5, 0, 0, 123⟩ s m args below meth c H locs 0 0 Q (F0 m 19 ls [])) (t_stress_cells : Nat → Int64) (t_stress_parts : Nat → Int64) (t_stress_det : Int64) (v1 : Int32) (v2 : Int32) (v3 : Int32) (v4 : Int32) (v5 : Int32) (H : Heap) (locs : List Loc), va_P g.2.1 vwCl [((a_t 0), .inr (6, [.ref (a_t_tape 0), .ref (a_t_reader 0), .ref (a_t_now 0), .ref (a_t 4), .ref (a_t_choices 0), .ref (a_t_ways 0), .ref (a_t_stress 0)])), ((a_t_now 0), .inr (1, [.ref (a_t_now 1), .ref (a_t_now 2), .ref (a_t_now 3), .ref (a_t_now 4), .ref (a_t_now 5), .int t_now_told, .int t_now_lines, .int t_now_kinds, .int t_now_acts])), ((a_t_now 1), .inl (g.2.2.1 0, 15, .inl t_now_numbers)), ((a_t_now 2), .inl (g.2.2.1 0, 144, .inl t_now_cells)), ((a_t_now 3), .inl (g.2.2.1 0, 31, .inl t_now_rows)), ((a_t_now 4), .inl (g.2.2.1 0, 31, .inl t_now_sizes)), ((a_t_stress 0), .inr (3, [.ref (a_t_stress 1), .ref (a_t_stress 2), .long t_stress_det])), ((a_t_stress 1), .inl (g.2.2.1 1, 9, .inr (.inl t_stress_cells))), ((a_t_stress 2), .inl (g.2.2.1 1, 3, .inr (.inl t_stress_parts)))] H → va_D A [((a_t 0), .inr (6, [.ref (a_t_tape 0), .ref (a_t_reader 0), .ref (a_t_now 0), .ref (a_t 4), .ref (a_t_choices 0), .ref (a_t_ways 0), .ref (a_t_stress 0)])), ((a_t_now 0), .inr (1, [.ref (a_t_now 1), .ref (a_t_now 2), .ref (a_t_now 3), .ref (a_t_now 4), .ref (a_t_now 5), .int t_now_told, .int t_now_lines, .int t_now_kinds, .int t_now_acts])), ((a_t_now 1), .inl (g.2.2.1 0, 15, .inl t_now_numbers)), ((a_t_now 2), .inl (g.2.2.1 0, 144, .inl t_now_cells)), ((a_t_now 3), .inl (g.2.2.1 0, 31, .inl t_now_rows)), ((a_t_now 4), .inl (g.2.2.1 0, 31, .inl t_now_sizes)), ((a_t_stress 0), .inr (3, [.ref (a_t_stress 1), .ref (a_t_stress 2), .long t_stress_det])), ((a_t_stress 1), .inl (g.2.2.1 1, 9, .inr (.inl t_stress_cells))), ((a_t_stress 2), .inl (g.2.2.1 1, 3, .inr (.inl t_stress_parts)))] → va_S A s.heap H locs → ∀ (ls : Array Slot), lv_has ls 6 [(0, .ref ((a_t 0))), (1, .int v1), (2, .int v2), (3, .int v3), (4, .int v4), (5, .int v5)] → fX7_spared_61 k19 t_now_numbers t_now_cells t_now_rows t_now_sizes t_now_acts t_stress_cells t_stress_parts t_stress_det v1 v2 v3 v4 v5 = some (o, o_t_stress_cells, o_t_stress_parts, o_t_stress_det) → W p l e ⟨5, 0, 0, 123⟩ s m args below meth c H locs 0 0 Q (F0 m 61 ls []) := by
    intro k19 hk19 t_stress_cells t_stress_parts t_stress_det v1 v2 v3 v4 v5 H locs hP hD hS ls hl h
    unfold fX7_spared_61 at h
    have hG := hGk hS
    refine lv_iinc (v := v5 + 1) (lv' := [(5, .int (v5 + 1)), (0, .ref ((a_t 0))), (1, .int v1), (2, .int v2), (3, .int v3), (4, .int v4)]) hx hb dX7_spared_61 hl (k := 5) rfl rfl (by decide) rfl (fun ls hl => ?_)
    refine lv_goto (tgt := 19) hx hb dX7_spared_64 (by decide) ?_
    exact hk19 t_stress_cells t_stress_parts t_stress_det v1 v2 v3 v4 (v5 + 1) _ _ hP hD hS _ (lv_sub hl [1, 2, 3, 4, 5, 0] rfl) h
  have w19 : ∀ (n : Nat) (t_stress_cells : Nat → Int64) (t_stress_parts : Nat → Int64) (t_stress_det : Int64) (v1 : Int32) (v2 : Int32) (v3 : Int32) (v4 : Int32) (v5 : Int32) (H : Heap) (locs : List Loc), va_P g.2.1 vwCl [((a_t 0), .inr (6, [.ref (a_t_tape 0), .ref (a_t_reader 0), .ref (a_t_now 0), .ref (a_t 4), .ref (a_t_choices 0), .ref (a_t_ways 0), .ref (a_t_stress 0)])), ((a_t_now 0), .inr (1, [.ref (a_t_now 1), .ref (a_t_now 2), .ref (a_t_now 3), .ref (a_t_now 4), .ref (a_t_now 5), .int t_now_told, .int t_now_lines, .int t_now_kinds, .int t_now_acts])), ((a_t_now 1), .inl (g.2.2.1 0, 15, .inl t_now_numbers)), ((a_t_now 2), .inl (g.2.2.1 0, 144, .inl t_now_cells)), ((a_t_now 3), .inl (g.2.2.1 0, 31, .inl t_now_rows)), ((a_t_now 4), .inl (g.2.2.1 0, 31, .inl t_now_sizes)), ((a_t_stress 0), .inr (3, [.ref (a_t_stress 1), .ref (a_t_stress 2), .long t_stress_det])), ((a_t_stress 1), .inl (g.2.2.1 1, 9, .inr (.inl t_stress_cells))), ((a_t_stress 2), .inl (g.2.2.1 1, 3, .inr (.inl t_stress_parts)))] H → va_D A [((a_t 0), .inr (6, [.ref (a_t_tape 0), .ref (a_t_reader 0), .ref (a_t_now 0), .ref (a_t 4), .ref (a_t_choices 0), .ref (a_t_ways 0), .ref (a_t_stress 0)])), ((a_t_now 0), .inr (1, [.ref (a_t_now 1), .ref (a_t_now 2), .ref (a_t_now 3), .ref (a_t_now 4), .ref (a_t_now 5), .int t_now_told, .int t_now_lines, .int t_now_kinds, .int t_now_acts])), ((a_t_now 1), .inl (g.2.2.1 0, 15, .inl t_now_numbers)), ((a_t_now 2), .inl (g.2.2.1 0, 144, .inl t_now_cells)), ((a_t_now 3), .inl (g.2.2.1 0, 31, .inl t_now_rows)), ((a_t_now 4), .inl (g.2.2.1 0, 31, .inl t_now_sizes)), ((a_t_stress 0), .inr (3, [.ref (a_t_stress 1), .ref (a_t_stress 2), .long t_stress_det])), ((a_t_stress 1), .inl (g.2.2.1 1, 9, .inr (.inl t_stress_cells))), ((a_t_stress 2), .inl (g.2.2.1 1, 3, .inr (.inl t_stress_parts)))] → va_S A s.heap H locs → ∀ (ls : Array Slot), lv_has ls 6 [(0, .ref ((a_t 0))), (1, .int v1), (2, .int v2), (3, .int v3), (4, .int v4), (5, .int v5)] → fX7_spared_19  n t_now_numbers t_now_cells t_now_rows t_now_sizes t_now_acts t_stress_cells t_stress_parts t_stress_det v1 v2 v3 v4 v5 = some (o, o_t_stress_cells, o_t_stress_parts, o_t_stress_det) → W p l e ⟨5, 0, 0, 123⟩ s m args below meth c H locs 0 0 Q (F0 m 19 ls []) := by
    intro n
    induction n with
    | zero => intro t_stress_cells t_stress_parts t_stress_det v1 v2 v3 v4 v5 H locs hP hD hS ls hl h; cases (fX7_spared_19_z  t_now_numbers t_now_cells t_now_rows t_now_sizes t_now_acts t_stress_cells t_stress_parts t_stress_det v1 v2 v3 v4 v5).symm.trans h
    | succ n ih =>
    intro t_stress_cells t_stress_parts t_stress_det v1 v2 v3 v4 v5 H locs hP hD hS ls hl h
    have h := (fX7_spared_19_s  n t_now_numbers t_now_cells t_now_rows t_now_sizes t_now_acts t_stress_cells t_stress_parts t_stress_det v1 v2 v3 v4 v5).symm.trans h
    have hG := hGk hS
    refine lv_iload hx hb dX7_spared_19 (lv_at hl 5 rfl) ?_
    refine lv_aload_n hx hb dX7_spared_21 rfl (lv_at hl 0 rfl) ?_
    refine xa_get (C := RX7) (T := TX7) (N := 7) cx hG hP 0 rfl rfl uX7 2 (by decide) lf_X7_30 rfl dX7_spared_22 ?_
    obtain ⟨r3, hr4, h⟩ := bnd h
    refine ro_i (runVN (As := []) (rest := [.int v5]) hG cx hl.1 (ctX1_plies l g a_t_now t_now_told t_now_lines t_now_kinds t_now_acts t_now_sizes r3 hr4) kmX1_plies kvX1_plies nm_17 ⟨rfl, rfl⟩ ⟨Nat.le_of_ble_eq_true rfl, Nat.le_of_ble_eq_true rfl⟩ (roV (q0 := 1) (ci := 1) hG (hP.sub [1, 5] rfl) hP rfl rfl) rfl rfl (Nat.le_of_ble_eq_true rfl) dX7_spared_25 ⟨Nat.le_of_ble_eq_true rfl, Nat.le_of_ble_eq_true rfl⟩) ?_
    refine lv_icmp_ge (tgt := 67) hx hb dX7_spared_28 (by decide) (fun c5 => ?_) (fun c5 => ?_)
    · have h := itp c5 h
      refine lv_iload hx hb dX7_spared_67 (lv_at hl 4 rfl) ?_
      exact hrt (fun _ => 0) _ _ v4 t_stress_cells t_stress_parts t_stress_det _ _ dX7_spared_69 h (hP.sub [0, 1, 2, 3, 4, 5, 6, 7, 8] rfl) (hD.sub [0, 1, 2, 3, 4, 5, 6, 7, 8] (by decide) rfl) hS
    · have h := itn c5 h
      refine lv_aload_n hx hb dX7_spared_31 rfl (lv_at hl 0 rfl) ?_
      refine xa_get (C := RX7) (T := TX7) (N := 7) cx hG hP 0 rfl rfl uX7 6 (by decide) lf_X7_55 rfl dX7_spared_32 ?_
      refine lv_aload_n hx hb dX7_spared_35 rfl (lv_at hl 0 rfl) ?_
      refine xa_get (C := RX7) (T := TX7) (N := 7) cx hG hP 0 rfl rfl uX7 2 (by decide) lf_X7_30 rfl dX7_spared_36 ?_
      refine lv_iconst (v := 1) hx hb dX7_spared_39 (by decide) ?_
      refine lv_iload hx hb dX7_spared_40 (lv_at hl 5 rfl) ?_
      refine lv_ishl hx hb dX7_spared_42 ?_
      refine lv_iload_n hx hb dX7_spared_43 rfl (lv_at hl 1 rfl) ?_
      refine lv_iload_n hx hb dX7_spared_44 rfl (lv_at hl 2 rfl) ?_
      refine lv_iload_n hx hb dX7_spared_45 rfl (lv_at hl 3 rfl) ?_
      obtain ⟨r7, w8, w9, w10, hr6, h⟩ := ob4_out h
      refine rw_z (WN := fun u11 => [((a_t 0), .inr (6, [.ref (a_t_tape 0), .ref (a_t_reader 0), .ref (a_t_now 0), .ref (a_t 4), .ref (a_t_choices 0), .ref (a_t_ways 0), .ref (a_t_stress 0)])), ((a_t_stress 0), .inr (3, [.ref (a_t_stress 1), .ref (a_t_stress 2), .long w10])), ((a_t_stress 1), .inl (g.2.2.1 1, 9, .inr (.inl w8))), ((a_t_stress 2), .inl (g.2.2.1 1, 3, .inr (.inl w9))), ((a_t_now 0), .inr (1, [.ref (a_t_now 1), .ref (a_t_now 2), .ref (a_t_now 3), .ref (a_t_now 4), .ref (a_t_now 5), .int t_now_told, .int t_now_lines, .int t_now_kinds, .int t_now_acts])), ((a_t_now 1), .inl (g.2.2.1 0, 15, .inl t_now_numbers)), ((a_t_now 2), .inl (g.2.2.1 0, 144, .inl t_now_cells)), ((a_t_now 3), .inl (g.2.2.1 0, 31, .inl t_now_rows)), ((a_t_now 4), .inl (g.2.2.1 0, 31, .inl t_now_sizes))]) (wr := [((a_t 0), .inr (6, [.ref (a_t_tape 0), .ref (a_t_reader 0), .ref (a_t_now 0), .ref (a_t 4), .ref (a_t_choices 0), .ref (a_t_ways 0), .ref (a_t_stress 0)]))]) (runVN (As := [.ref ((a_t_now 0)), .int (1 <<< (v5 &&& 31)), .int v1, .int v2, .int v3]) (rest := []) hG cx hl.1 (ctX4_withinLimits l g H.size a_t_stress a_t_now t_stress_det t_stress_cells t_stress_parts t_now_told t_now_lines t_now_kinds t_now_acts t_now_numbers t_now_cells t_now_rows t_now_sizes (1 <<< (v5 &&& 31)) v1 v2 v3 r7 w8 w9 w10 hr6) kmX4_withinLimits kvX4_withinLimits nm_95 ⟨rfl, rfl⟩ ⟨Nat.le_of_ble_eq_true rfl, Nat.le_of_ble_eq_true rfl⟩ (rwV (q0 := 6) (ci := 3) hG (hP.sub [6, 7, 8, 1, 2, 3, 4, 5] rfl) (hD.sub [6, 7, 8, 1, 2, 3, 4, 5] (by decide) rfl) hAb hb0 hS hP rfl rfl) rfl rfl (Nat.le_of_ble_eq_true rfl) dX7_spared_46 ⟨Nat.le_of_ble_eq_true rfl, Nat.le_of_ble_eq_true rfl⟩) hP hD hS hA [6, 7, 8, 1, 2, 3, 4, 5] [0] rfl rfl (by decide) (by decide) (fun _ => rfl) (fun hz12 u11 H locs hP hD hS => ?_)
      have hG := hGk hS
      refine lv_if_eq (tgt := 61) hx hb dX7_spared_49 (by decide) (fun c13 => ?_) (fun c13 => ?_)
      · have h := itp c13 h
        exact w61 _ ih w8 w9 w10 v1 v2 v3 v4 v5 _ _ (hP.sub [0, 4, 5, 6, 7, 8, 1, 2, 3] rfl) (hD.sub [0, 4, 5, 6, 7, 8, 1, 2, 3] (by decide) rfl) hS _ (lv_sub hl [0, 1, 2, 3, 4, 5] rfl) h
      · have h := itn c13 h
        refine lv_iload hx hb dX7_spared_52 (lv_at hl 4 rfl) ?_
        refine lv_iconst (v := 1) hx hb dX7_spared_54 (by decide) ?_
        refine lv_iload hx hb dX7_spared_55 (lv_at hl 5 rfl) ?_
        refine lv_ishl hx hb dX7_spared_57 ?_
        refine lv_ior hx hb dX7_spared_58 ?_
        refine lv_istore (lv' := [(4, .int (v4 ||| (1 <<< (v5 &&& 31)))), (0, .ref ((a_t 0))), (1, .int v1), (2, .int v2), (3, .int v3), (5, .int v5)]) hx hb dX7_spared_59 hl (by decide) rfl (fun ls hl => ?_)
        exact w61 _ ih w8 w9 w10 v1 v2 v3 (v4 ||| (1 <<< (v5 &&& 31))) v5 _ _ (hP.sub [0, 4, 5, 6, 7, 8, 1, 2, 3] rfl) (hD.sub [0, 4, 5, 6, 7, 8, 1, 2, 3] (by decide) rfl) hS _ (lv_sub hl [1, 2, 3, 4, 0, 5] rfl) h
  unfold fX7_spared at h
  refine lv_aload_n hx hb dX7_spared_0 rfl (lv_at hl 0 rfl) ?_
  refine lv_iload_n hx hb dX7_spared_1 rfl (lv_at hl 1 rfl) ?_
  refine lv_iload_n hx hb dX7_spared_2 rfl (lv_at hl 2 rfl) ?_
  refine lv_iload_n hx hb dX7_spared_3 rfl (lv_at hl 3 rfl) ?_
  refine ro_z (runV (As := [.int v1, .int v2, .int v3]) (rest := []) cx hl.1 (ctX7_areLoads l g a_t a_t_tape a_t_reader a_t_now a_t_choices a_t_ways a_t_stress t_now_told t_now_lines t_now_kinds t_now_acts v1 v2 v3 (fX7_areLoads t_now_told v1 v2 v3) rfl) kmX7_areLoads kvX7_areLoads lm_X7_177 ⟨rfl, rfl⟩ ⟨Nat.le_of_ble_eq_true rfl, Nat.le_of_ble_eq_true rfl⟩ (roV (q0 := 0) (ci := 6) hG (hP.sub [0, 1] rfl) hP rfl rfl) rfl rfl (Nat.le_of_ble_eq_true rfl) dX7_spared_4 ⟨Nat.le_of_ble_eq_true rfl, Nat.le_of_ble_eq_true rfl⟩) (fun hz1 => ?_)
  refine lv_if_ne (tgt := 13) hx hb dX7_spared_7 (by decide) (fun c2 => ?_) (fun c2 => ?_)
  · have h := itn c2 h
    refine lv_iconst (v := 0) hx hb dX7_spared_13 (by decide) ?_
    refine lv_istore (lv' := [(4, .int (0)), (0, .ref ((a_t 0))), (1, .int v1), (2, .int v2), (3, .int v3)]) hx hb dX7_spared_14 hl (by decide) rfl (fun ls hl => ?_)
    refine lv_iconst (v := 0) hx hb dX7_spared_16 (by decide) ?_
    refine lv_istore (lv' := [(5, .int (0)), (4, .int (0)), (0, .ref ((a_t 0))), (1, .int v1), (2, .int v2), (3, .int v3)]) hx hb dX7_spared_17 hl (by decide) rfl (fun ls hl => ?_)
    exact w19 FU t_stress_cells t_stress_parts t_stress_det v1 v2 v3 0 0 _ _ hP hD hS _ (lv_sub hl [2, 3, 4, 5, 1, 0] rfl) h
  · have h := itp c2 h
    refine lv_bipush (v := -2) hx hb dX7_spared_10 (by decide) ?_
    exact hrt (fun _ => 0) _ _ ((-2)) t_stress_cells t_stress_parts t_stress_det _ _ dX7_spared_12 h (hP.sub [0, 1, 2, 3, 4, 5, 6, 7, 8] rfl) (hD.sub [0, 1, 2, 3, 4, 5, 6, 7, 8] (by decide) rfl) hS
-- X7_swap
theorem dX7_swap_0 : decode cX7_swap 0 = .ok (.aload_n 0, 1) := by decide +kernel
theorem dX7_swap_1 : decode cX7_swap 1 = .ok (.iload_n 1, 1) := by decide +kernel
theorem dX7_swap_2 : decode cX7_swap 2 = .ok (.invokevirtual 115, 3) := by decide +kernel
theorem dX7_swap_5 : decode cX7_swap 5 = .ok (.ifCond .eq 11, 3) := by decide +kernel
theorem dX7_swap_8 : decode cX7_swap 8 = .ok (.aload_n 0, 1) := by decide +kernel
theorem dX7_swap_9 : decode cX7_swap 9 = .ok (.iload_n 2, 1) := by decide +kernel
theorem dX7_swap_10 : decode cX7_swap 10 = .ok (.invokevirtual 115, 3) := by decide +kernel
theorem dX7_swap_13 : decode cX7_swap 13 = .ok (.ifCond .ne 6, 3) := by decide +kernel
theorem dX7_swap_16 : decode cX7_swap 16 = .ok (.bipush (-2), 2) := by decide +kernel
theorem dX7_swap_18 : decode cX7_swap 18 = .ok (.ireturn, 1) := by decide +kernel
theorem dX7_swap_19 : decode cX7_swap 19 = .ok (.aload_n 0, 1) := by decide +kernel
theorem dX7_swap_20 : decode cX7_swap 20 = .ok (.getfield 30, 3) := by decide +kernel
theorem dX7_swap_23 : decode cX7_swap 23 = .ok (.iload_n 1, 1) := by decide +kernel
theorem dX7_swap_24 : decode cX7_swap 24 = .ok (.invokevirtual 118, 3) := by decide +kernel
theorem dX7_swap_27 : decode cX7_swap 27 = .ok (.istore_n 3, 1) := by decide +kernel
theorem dX7_swap_28 : decode cX7_swap 28 = .ok (.aload_n 0, 1) := by decide +kernel
theorem dX7_swap_29 : decode cX7_swap 29 = .ok (.getfield 30, 3) := by decide +kernel
theorem dX7_swap_32 : decode cX7_swap 32 = .ok (.iload_n 2, 1) := by decide +kernel
theorem dX7_swap_33 : decode cX7_swap 33 = .ok (.invokevirtual 118, 3) := by decide +kernel
theorem dX7_swap_36 : decode cX7_swap 36 = .ok (.istore 4, 2) := by decide +kernel
theorem dX7_swap_38 : decode cX7_swap 38 = .ok (.iload_n 3, 1) := by decide +kernel
theorem dX7_swap_39 : decode cX7_swap 39 = .ok (.iload 4, 2) := by decide +kernel
theorem dX7_swap_41 : decode cX7_swap 41 = .ok (.if_icmp .eq 13, 3) := by decide +kernel
theorem dX7_swap_44 : decode cX7_swap 44 = .ok (.aload_n 0, 1) := by decide +kernel
theorem dX7_swap_45 : decode cX7_swap 45 = .ok (.getfield 30, 3) := by decide +kernel
theorem dX7_swap_48 : decode cX7_swap 48 = .ok (.invokevirtual 326, 3) := by decide +kernel
theorem dX7_swap_51 : decode cX7_swap 51 = .ok (.ifCond .eq 6, 3) := by decide +kernel
theorem dX7_swap_54 : decode cX7_swap 54 = .ok (.bipush (-5), 2) := by decide +kernel
theorem dX7_swap_56 : decode cX7_swap 56 = .ok (.ireturn, 1) := by decide +kernel
theorem dX7_swap_57 : decode cX7_swap 57 = .ok (.aload_n 0, 1) := by decide +kernel
theorem dX7_swap_58 : decode cX7_swap 58 = .ok (.getfield 30, 3) := by decide +kernel
theorem dX7_swap_61 : decode cX7_swap 61 = .ok (.invokevirtual 132, 3) := by decide +kernel
theorem dX7_swap_64 : decode cX7_swap 64 = .ok (.iload_n 1, 1) := by decide +kernel
theorem dX7_swap_65 : decode cX7_swap 65 = .ok (.iload 4, 2) := by decide +kernel
theorem dX7_swap_67 : decode cX7_swap 67 = .ok (.invokestatic 329, 3) := by decide +kernel
theorem dX7_swap_70 : decode cX7_swap 70 = .ok (.iload_n 2, 1) := by decide +kernel
theorem dX7_swap_71 : decode cX7_swap 71 = .ok (.iload_n 3, 1) := by decide +kernel
theorem dX7_swap_72 : decode cX7_swap 72 = .ok (.invokestatic 329, 3) := by decide +kernel
theorem dX7_swap_75 : decode cX7_swap 75 = .ok (.istore 5, 2) := by decide +kernel
theorem dX7_swap_77 : decode cX7_swap 77 = .ok (.aload_n 0, 1) := by decide +kernel
theorem dX7_swap_78 : decode cX7_swap 78 = .ok (.getfield 30, 3) := by decide +kernel
theorem dX7_swap_81 : decode cX7_swap 81 = .ok (.iload 5, 2) := by decide +kernel
theorem dX7_swap_83 : decode cX7_swap 83 = .ok (.aload_n 0, 1) := by decide +kernel
theorem dX7_swap_84 : decode cX7_swap 84 = .ok (.getfield 30, 3) := by decide +kernel
theorem dX7_swap_87 : decode cX7_swap 87 = .ok (.invokevirtual 97, 3) := by decide +kernel
theorem dX7_swap_90 : decode cX7_swap 90 = .ok (.aload_n 0, 1) := by decide +kernel
theorem dX7_swap_91 : decode cX7_swap 91 = .ok (.getfield 30, 3) := by decide +kernel
theorem dX7_swap_94 : decode cX7_swap 94 = .ok (.invokevirtual 90, 3) := by decide +kernel
theorem dX7_swap_97 : decode cX7_swap 97 = .ok (.invokevirtual 332, 3) := by decide +kernel
theorem dX7_swap_100 : decode cX7_swap 100 = .ok (.iconst 0, 1) := by decide +kernel
theorem dX7_swap_101 : decode cX7_swap 101 = .ok (.ireturn, 1) := by decide +kernel
noncomputable def fX7_swap  (t_now_rows : Nat → Int32) (t_now_sizes : Nat → Int32) (t_now_rooms : Nat → Int32) (t_now_told : Int32) (t_now_acts : Int32) (v1 : Int32) (v2 : Int32) : Option (Int32 × (Nat → Int32) × (Nat → Int32) × (Nat → Int32) × Int32) := (fX7_isPly t_now_sizes t_now_told t_now_acts v1).bind fun r1 => (if r1 = 0 then some ((-2), t_now_rows, t_now_sizes, t_now_rooms, t_now_acts) else (fX7_isPly t_now_sizes t_now_told t_now_acts v2).bind fun r5 => (if r5 = 0 then some ((-2), t_now_rows, t_now_sizes, t_now_rooms, t_now_acts) else (fX1_typeAt t_now_rows t_now_acts v1).bind fun r9 => (fX1_typeAt t_now_rows t_now_acts v2).bind fun r11 => (if r9 = r11 then some ((-5), t_now_rows, t_now_sizes, t_now_rooms, t_now_acts) else (if (fX1_isFull t_now_acts) = 0 then (fX1_row t_now_rows t_now_acts).bind fun r16 => (fX1_plies t_now_sizes t_now_acts).bind fun r18 => (fX1_roomNow t_now_rooms t_now_acts).bind fun r20 => ob4 (fX1_act t_now_rows t_now_sizes t_now_rooms t_now_acts (fX3_with (fX3_with r16 v1 r11) v2 r9) r18 r20) fun w23 w24 w25 w26 => some ((0), w23, w24, w25, w26) else some ((-5), t_now_rows, t_now_sizes, t_now_rooms, t_now_acts)))))
set_option maxHeartbeats 4000000 in
set_option maxRecDepth 100000 in
theorem ctX7_swap (l : Launch) (g : GT) (sz : Nat) (a_t : Nat → Nat) (a_t_tape : Nat → Nat) (a_t_reader : Nat → Nat) (a_t_now : Nat → Nat) (a_t_choices : Nat → Nat) (a_t_ways : Nat → Nat) (a_t_stress : Nat → Nat) (t_now_told : Int32) (t_now_lines : Int32) (t_now_kinds : Int32) (t_now_acts : Int32) (t_now_rows : Nat → Int32) (t_now_sizes : Nat → Int32) (t_now_rooms : Nat → Int32) (v1 : Int32) (v2 : Int32) (o : Int32) (o_t_now_rows : Nat → Int32) (o_t_now_sizes : Nat → Int32) (o_t_now_rooms : Nat → Int32) (o_t_now_acts : Int32) (h : fX7_swap t_now_rows t_now_sizes t_now_rooms t_now_told t_now_acts v1 v2 = some (o, o_t_now_rows, o_t_now_sizes, o_t_now_rooms, o_t_now_acts)) : Met l yX7_swap (Cond.code yX7_swap cX7_swap 6 (some .int) :: Tw) ⟨2, 0, 0, 43⟩ (va_Pc [.ref ((a_t 0)), .int v1, .int v2] (rwB g [((a_t 0), .inr (6, [.ref (a_t_tape 0), .ref (a_t_reader 0), .ref (a_t_now 0), .ref (a_t 4), .ref (a_t_choices 0), .ref (a_t_ways 0), .ref (a_t_stress 0)])), ((a_t_now 0), .inr (1, [.ref (a_t_now 1), .ref (a_t_now 2), .ref (a_t_now 3), .ref (a_t_now 4), .ref (a_t_now 5), .int t_now_told, .int t_now_lines, .int t_now_kinds, .int t_now_acts])), ((a_t_now 3), .inl (g.2.2.1 0, 31, .inl t_now_rows)), ((a_t_now 4), .inl (g.2.2.1 0, 31, .inl t_now_sizes)), ((a_t_now 5), .inl (g.2.2.1 0, 31, .inl t_now_rooms))] sz)) (va_Qi (fun x (_ : Nat → Nat) => x = o) (fun u => rwE g (va_A [((a_t 0), .inr (6, [.ref (a_t_tape 0), .ref (a_t_reader 0), .ref (a_t_now 0), .ref (a_t 4), .ref (a_t_choices 0), .ref (a_t_ways 0), .ref (a_t_stress 0)])), ((a_t_now 0), .inr (1, [.ref (a_t_now 1), .ref (a_t_now 2), .ref (a_t_now 3), .ref (a_t_now 4), .ref (a_t_now 5), .int t_now_told, .int t_now_lines, .int t_now_kinds, .int t_now_acts])), ((a_t_now 3), .inl (g.2.2.1 0, 31, .inl t_now_rows)), ((a_t_now 4), .inl (g.2.2.1 0, 31, .inl t_now_sizes)), ((a_t_now 5), .inl (g.2.2.1 0, 31, .inl t_now_rooms))] sz) [((a_t 0), .inr (6, [.ref (a_t_tape 0), .ref (a_t_reader 0), .ref (a_t_now 0), .ref (a_t 4), .ref (a_t_choices 0), .ref (a_t_ways 0), .ref (a_t_stress 0)])), ((a_t_now 0), .inr (1, [.ref (a_t_now 1), .ref (a_t_now 2), .ref (a_t_now 3), .ref (a_t_now 4), .ref (a_t_now 5), .int t_now_told, .int t_now_lines, .int t_now_kinds, .int o_t_now_acts])), ((a_t_now 3), .inl (g.2.2.1 0, 31, .inl o_t_now_rows)), ((a_t_now 4), .inl (g.2.2.1 0, 31, .inl o_t_now_sizes)), ((a_t_now 5), .inl (g.2.2.1 0, 31, .inl o_t_now_rooms))]) (va_A [((a_t 0), .inr (6, [.ref (a_t_tape 0), .ref (a_t_reader 0), .ref (a_t_now 0), .ref (a_t 4), .ref (a_t_choices 0), .ref (a_t_ways 0), .ref (a_t_stress 0)])), ((a_t_now 0), .inr (1, [.ref (a_t_now 1), .ref (a_t_now 2), .ref (a_t_now 3), .ref (a_t_now 4), .ref (a_t_now 5), .int t_now_told, .int t_now_lines, .int t_now_kinds, .int t_now_acts])), ((a_t_now 3), .inl (g.2.2.1 0, 31, .inl t_now_rows)), ((a_t_now 4), .inl (g.2.2.1 0, 31, .inl t_now_sizes)), ((a_t_now 5), .inl (g.2.2.1 0, 31, .inl t_now_rooms))] sz)) 0 0 (va_A [((a_t 0), .inr (6, [.ref (a_t_tape 0), .ref (a_t_reader 0), .ref (a_t_now 0), .ref (a_t 4), .ref (a_t_choices 0), .ref (a_t_ways 0), .ref (a_t_stress 0)])), ((a_t_now 0), .inr (1, [.ref (a_t_now 1), .ref (a_t_now 2), .ref (a_t_now 3), .ref (a_t_now 4), .ref (a_t_now 5), .int t_now_told, .int t_now_lines, .int t_now_kinds, .int t_now_acts])), ((a_t_now 3), .inl (g.2.2.1 0, 31, .inl t_now_rows)), ((a_t_now 4), .inl (g.2.2.1 0, 31, .inl t_now_sizes)), ((a_t_now 5), .inl (g.2.2.1 0, 31, .inl t_now_rooms))] sz) := by
  refine rw_meti (by decide) (Nat.le_of_ble_eq_true rfl) (lv0 := [(0, .ref ((a_t 0))), (1, .int v1), (2, .int v2)]) rfl ?_
  intro p e s m args below meth c ls Q A cx hret hG hAb hb0 hA hP hD hl
  have hx := cx.1
  have hb := cx.2.1
  have hG0 := hG
  have hGk : ∀ {H : Heap} {locs : List Loc}, va_S A s.heap H locs → GE g s H := fun hS => hG0.keptS hAb hS
  have hSb : ∀ {H : Heap} {locs : List Loc}, va_S A s.heap H locs → va_S (fun a => g.1 ≤ a) s.heap H locs := fun hS => ⟨hS.1, fun q h1 h2 => hS.2.1 q h1 (fun z => h2 (hAb q z)), fun l hl => hAb _ (hS.2.2 l hl)⟩
  have hS : va_S A s.heap s.heap [] := va_S.rf
  have hrt : ∀ (u : Nat → Nat) (pc : Nat) (ls : Array Slot) (v : Int32) (x_t_now_rows : Nat → Int32) (x_t_now_sizes : Nat → Int32) (x_t_now_rooms : Nat → Int32) (x_t_now_acts : Int32) (H : Heap) (locs : List Loc), decode cX7_swap pc = .ok (.ireturn, 1) → some (v, x_t_now_rows, x_t_now_sizes, x_t_now_rooms, x_t_now_acts) = some (o, o_t_now_rows, o_t_now_sizes, o_t_now_rooms, o_t_now_acts) → va_P g.2.1 vwCl [((a_t 0), .inr (6, [.ref (a_t_tape 0), .ref (a_t_reader 0), .ref (a_t_now 0), .ref (a_t 4), .ref (a_t_choices 0), .ref (a_t_ways 0), .ref (a_t_stress 0)])), ((a_t_now 0), .inr (1, [.ref (a_t_now 1), .ref (a_t_now 2), .ref (a_t_now 3), .ref (a_t_now 4), .ref (a_t_now 5), .int t_now_told, .int t_now_lines, .int t_now_kinds, .int x_t_now_acts])), ((a_t_now 3), .inl (g.2.2.1 0, 31, .inl x_t_now_rows)), ((a_t_now 4), .inl (g.2.2.1 0, 31, .inl x_t_now_sizes)), ((a_t_now 5), .inl (g.2.2.1 0, 31, .inl x_t_now_rooms))] H → va_D A [((a_t 0), .inr (6, [.ref (a_t_tape 0), .ref (a_t_reader 0), .ref (a_t_now 0), .ref (a_t 4), .ref (a_t_choices 0), .ref (a_t_ways 0), .ref (a_t_stress 0)])), ((a_t_now 0), .inr (1, [.ref (a_t_now 1), .ref (a_t_now 2), .ref (a_t_now 3), .ref (a_t_now 4), .ref (a_t_now 5), .int t_now_told, .int t_now_lines, .int t_now_kinds, .int x_t_now_acts])), ((a_t_now 3), .inl (g.2.2.1 0, 31, .inl x_t_now_rows)), ((a_t_now 4), .inl (g.2.2.1 0, 31, .inl x_t_now_sizes)), ((a_t_now 5), .inl (g.2.2.1 0, 31, .inl x_t_now_rooms))] → va_S A s.heap H locs → W p l e ⟨2, 0, 0, 43⟩ s m args below meth c H locs 0 0 Q (F0 m pc ls [.int v]) := by
    intro u pc ls v x_t_now_rows x_t_now_sizes x_t_now_rooms x_t_now_acts H locs hd h hP hD hS
    cases h
    exact hret u _ _ _ _ _ hd rfl hP hD hS
  unfold fX7_swap at h
  refine lv_aload_n hx hb dX7_swap_0 rfl (lv_at hl 0 rfl) ?_
  refine lv_iload_n hx hb dX7_swap_1 rfl (lv_at hl 1 rfl) ?_
  obtain ⟨r1, hr2, h⟩ := bnd h
  refine ro_z (runV (As := [.int v1]) (rest := []) cx hl.1 (ctX7_isPly l g a_t a_t_tape a_t_reader a_t_now a_t_choices a_t_ways a_t_stress t_now_told t_now_lines t_now_kinds t_now_acts t_now_sizes v1 r1 hr2) kmX7_isPly kvX7_isPly lm_X7_115 ⟨rfl, rfl⟩ ⟨Nat.le_of_ble_eq_true rfl, Nat.le_of_ble_eq_true rfl⟩ (roV (q0 := 0) (ci := 6) hG (hP.sub [0, 1, 3] rfl) hP rfl rfl) rfl rfl (Nat.le_of_ble_eq_true rfl) dX7_swap_2 ⟨Nat.le_of_ble_eq_true rfl, Nat.le_of_ble_eq_true rfl⟩) (fun hz3 => ?_)
  refine lv_if_eq (tgt := 16) hx hb dX7_swap_5 (by decide) (fun c4 => ?_) (fun c4 => ?_)
  · have h := itp c4 h
    refine lv_bipush (v := -2) hx hb dX7_swap_16 (by decide) ?_
    exact hrt (fun _ => 0) _ _ ((-2)) t_now_rows t_now_sizes t_now_rooms t_now_acts _ _ dX7_swap_18 h (hP.sub [0, 1, 2, 3, 4] rfl) (hD.sub [0, 1, 2, 3, 4] (by decide) rfl) hS
  · have h := itn c4 h
    refine lv_aload_n hx hb dX7_swap_8 rfl (lv_at hl 0 rfl) ?_
    refine lv_iload_n hx hb dX7_swap_9 rfl (lv_at hl 2 rfl) ?_
    obtain ⟨r5, hr6, h⟩ := bnd h
    refine ro_z (runV (As := [.int v2]) (rest := []) cx hl.1 (ctX7_isPly l g a_t a_t_tape a_t_reader a_t_now a_t_choices a_t_ways a_t_stress t_now_told t_now_lines t_now_kinds t_now_acts t_now_sizes v2 r5 hr6) kmX7_isPly kvX7_isPly lm_X7_115 ⟨rfl, rfl⟩ ⟨Nat.le_of_ble_eq_true rfl, Nat.le_of_ble_eq_true rfl⟩ (roV (q0 := 0) (ci := 6) hG (hP.sub [0, 1, 3] rfl) hP rfl rfl) rfl rfl (Nat.le_of_ble_eq_true rfl) dX7_swap_10 ⟨Nat.le_of_ble_eq_true rfl, Nat.le_of_ble_eq_true rfl⟩) (fun hz7 => ?_)
    refine lv_if_ne (tgt := 19) hx hb dX7_swap_13 (by decide) (fun c8 => ?_) (fun c8 => ?_)
    · have h := itn c8 h
      refine lv_aload_n hx hb dX7_swap_19 rfl (lv_at hl 0 rfl) ?_
      refine xa_get (C := RX7) (T := TX7) (N := 7) cx hG hP 0 rfl rfl uX7 2 (by decide) lf_X7_30 rfl dX7_swap_20 ?_
      refine lv_iload_n hx hb dX7_swap_23 rfl (lv_at hl 1 rfl) ?_
      obtain ⟨r9, hr10, h⟩ := bnd h
      refine ro_i (runVN (As := [.int v1]) (rest := []) hG cx hl.1 (ctX1_typeAt l g a_t_now t_now_told t_now_lines t_now_kinds t_now_acts t_now_rows v1 r9 hr10) kmX1_typeAt kvX1_typeAt nm_21 ⟨rfl, rfl⟩ ⟨Nat.le_of_ble_eq_true rfl, Nat.le_of_ble_eq_true rfl⟩ (roV (q0 := 1) (ci := 1) hG (hP.sub [1, 2] rfl) hP rfl rfl) rfl rfl (Nat.le_of_ble_eq_true rfl) dX7_swap_24 ⟨Nat.le_of_ble_eq_true rfl, Nat.le_of_ble_eq_true rfl⟩) ?_
      refine lv_istore_n (lv' := [(3, .int r9), (0, .ref ((a_t 0))), (1, .int v1), (2, .int v2)]) hx hb dX7_swap_27 rfl hl (by decide) rfl (fun ls hl => ?_)
      refine lv_aload_n hx hb dX7_swap_28 rfl (lv_at hl 1 rfl) ?_
      refine xa_get (C := RX7) (T := TX7) (N := 7) cx hG hP 0 rfl rfl uX7 2 (by decide) lf_X7_30 rfl dX7_swap_29 ?_
      refine lv_iload_n hx hb dX7_swap_32 rfl (lv_at hl 3 rfl) ?_
      obtain ⟨r11, hr12, h⟩ := bnd h
      refine ro_i (runVN (As := [.int v2]) (rest := []) hG cx hl.1 (ctX1_typeAt l g a_t_now t_now_told t_now_lines t_now_kinds t_now_acts t_now_rows v2 r11 hr12) kmX1_typeAt kvX1_typeAt nm_21 ⟨rfl, rfl⟩ ⟨Nat.le_of_ble_eq_true rfl, Nat.le_of_ble_eq_true rfl⟩ (roV (q0 := 1) (ci := 1) hG (hP.sub [1, 2] rfl) hP rfl rfl) rfl rfl (Nat.le_of_ble_eq_true rfl) dX7_swap_33 ⟨Nat.le_of_ble_eq_true rfl, Nat.le_of_ble_eq_true rfl⟩) ?_
      refine lv_istore (lv' := [(4, .int r11), (3, .int r9), (0, .ref ((a_t 0))), (1, .int v1), (2, .int v2)]) hx hb dX7_swap_36 hl (by decide) rfl (fun ls hl => ?_)
      refine lv_iload_n hx hb dX7_swap_38 rfl (lv_at hl 1 rfl) ?_
      refine lv_iload hx hb dX7_swap_39 (lv_at hl 0 rfl) ?_
      refine lv_icmp_eq (tgt := 54) hx hb dX7_swap_41 (by decide) (fun c13 => ?_) (fun c13 => ?_)
      · have h := itp c13 h
        refine lv_bipush (v := -5) hx hb dX7_swap_54 (by decide) ?_
        exact hrt (fun _ => 0) _ _ ((-5)) t_now_rows t_now_sizes t_now_rooms t_now_acts _ _ dX7_swap_56 h (hP.sub [0, 1, 2, 3, 4] rfl) (hD.sub [0, 1, 2, 3, 4] (by decide) rfl) hS
      · have h := itn c13 h
        refine lv_aload_n hx hb dX7_swap_44 rfl (lv_at hl 2 rfl) ?_
        refine xa_get (C := RX7) (T := TX7) (N := 7) cx hG hP 0 rfl rfl uX7 2 (by decide) lf_X7_30 rfl dX7_swap_45 ?_
        refine ro_z (runVN (As := []) (rest := []) hG cx hl.1 (ctX1_isFull l g a_t_now t_now_told t_now_lines t_now_kinds t_now_acts (fX1_isFull t_now_acts) rfl) kmX1_isFull kvX1_isFull nm_96 ⟨rfl, rfl⟩ ⟨Nat.le_of_ble_eq_true rfl, Nat.le_of_ble_eq_true rfl⟩ (roV (q0 := 1) (ci := 1) hG (hP.sub [1] rfl) hP rfl rfl) rfl rfl (Nat.le_of_ble_eq_true rfl) dX7_swap_48 ⟨Nat.le_of_ble_eq_true rfl, Nat.le_of_ble_eq_true rfl⟩) (fun hz14 => ?_)
        refine lv_if_eq (tgt := 57) hx hb dX7_swap_51 (by decide) (fun c15 => ?_) (fun c15 => ?_)
        · have h := itp c15 h
          refine lv_aload_n hx hb dX7_swap_57 rfl (lv_at hl 2 rfl) ?_
          refine xa_get (C := RX7) (T := TX7) (N := 7) cx hG hP 0 rfl rfl uX7 2 (by decide) lf_X7_30 rfl dX7_swap_58 ?_
          obtain ⟨r16, hr17, h⟩ := bnd h
          refine ro_i (runVN (As := []) (rest := []) hG cx hl.1 (ctX1_row l g a_t_now t_now_told t_now_lines t_now_kinds t_now_acts t_now_rows r16 hr17) kmX1_row kvX1_row nm_25 ⟨rfl, rfl⟩ ⟨Nat.le_of_ble_eq_true rfl, Nat.le_of_ble_eq_true rfl⟩ (roV (q0 := 1) (ci := 1) hG (hP.sub [1, 2] rfl) hP rfl rfl) rfl rfl (Nat.le_of_ble_eq_true rfl) dX7_swap_61 ⟨Nat.le_of_ble_eq_true rfl, Nat.le_of_ble_eq_true rfl⟩) ?_
          refine lv_iload_n hx hb dX7_swap_64 rfl (lv_at hl 3 rfl) ?_
          refine lv_iload hx hb dX7_swap_65 (lv_at hl 0 rfl) ?_
          refine ro_i (runSN (As := [.int r16, .int v1, .int r11]) (rest := []) hG cx hl.1 (ctX3_with l g r16 v1 r11 (fX3_with r16 v1 r11) rfl) kmX3_with ksX3_with nm_97 ⟨rfl, rfl⟩ ⟨Nat.le_of_ble_eq_true rfl, Nat.le_of_ble_eq_true rfl⟩ (roS hG (hP.sub [] rfl)) rfl rfl (Nat.le_of_ble_eq_true rfl) dX7_swap_67 ⟨Nat.le_of_ble_eq_true rfl, Nat.le_of_ble_eq_true rfl⟩) ?_
          refine lv_iload_n hx hb dX7_swap_70 rfl (lv_at hl 4 rfl) ?_
          refine lv_iload_n hx hb dX7_swap_71 rfl (lv_at hl 1 rfl) ?_
          refine ro_i (runSN (As := [.int (fX3_with r16 v1 r11), .int v2, .int r9]) (rest := []) hG cx hl.1 (ctX3_with l g (fX3_with r16 v1 r11) v2 r9 (fX3_with (fX3_with r16 v1 r11) v2 r9) rfl) kmX3_with ksX3_with nm_97 ⟨rfl, rfl⟩ ⟨Nat.le_of_ble_eq_true rfl, Nat.le_of_ble_eq_true rfl⟩ (roS hG (hP.sub [] rfl)) rfl rfl (Nat.le_of_ble_eq_true rfl) dX7_swap_72 ⟨Nat.le_of_ble_eq_true rfl, Nat.le_of_ble_eq_true rfl⟩) ?_
          refine lv_istore (lv' := [(5, .int (fX3_with (fX3_with r16 v1 r11) v2 r9)), (4, .int r11), (3, .int r9), (0, .ref ((a_t 0))), (1, .int v1), (2, .int v2)]) hx hb dX7_swap_75 hl (by decide) rfl (fun ls hl => ?_)
          refine lv_aload_n hx hb dX7_swap_77 rfl (lv_at hl 3 rfl) ?_
          refine xa_get (C := RX7) (T := TX7) (N := 7) cx hG hP 0 rfl rfl uX7 2 (by decide) lf_X7_30 rfl dX7_swap_78 ?_
          refine lv_iload hx hb dX7_swap_81 (lv_at hl 0 rfl) ?_
          refine lv_aload_n hx hb dX7_swap_83 rfl (lv_at hl 3 rfl) ?_
          refine xa_get (C := RX7) (T := TX7) (N := 7) cx hG hP 0 rfl rfl uX7 2 (by decide) lf_X7_30 rfl dX7_swap_84 ?_
          obtain ⟨r18, hr19, h⟩ := bnd h
          refine ro_i (runVN (As := []) (rest := [.int (fX3_with (fX3_with r16 v1 r11) v2 r9), .ref ((a_t_now 0))]) hG cx hl.1 (ctX1_plies l g a_t_now t_now_told t_now_lines t_now_kinds t_now_acts t_now_sizes r18 hr19) kmX1_plies kvX1_plies nm_17 ⟨rfl, rfl⟩ ⟨Nat.le_of_ble_eq_true rfl, Nat.le_of_ble_eq_true rfl⟩ (roV (q0 := 1) (ci := 1) hG (hP.sub [1, 3] rfl) hP rfl rfl) rfl rfl (Nat.le_of_ble_eq_true rfl) dX7_swap_87 ⟨Nat.le_of_ble_eq_true rfl, Nat.le_of_ble_eq_true rfl⟩) ?_
          refine lv_aload_n hx hb dX7_swap_90 rfl (lv_at hl 3 rfl) ?_
          refine xa_get (C := RX7) (T := TX7) (N := 7) cx hG hP 0 rfl rfl uX7 2 (by decide) lf_X7_30 rfl dX7_swap_91 ?_
          obtain ⟨r20, hr21, h⟩ := bnd h
          refine ro_i (runVN (As := []) (rest := [.int r18, .int (fX3_with (fX3_with r16 v1 r11) v2 r9), .ref ((a_t_now 0))]) hG cx hl.1 (ctX1_roomNow l g a_t_now t_now_told t_now_lines t_now_kinds t_now_acts t_now_rooms r20 hr21) kmX1_roomNow kvX1_roomNow nm_16 ⟨rfl, rfl⟩ ⟨Nat.le_of_ble_eq_true rfl, Nat.le_of_ble_eq_true rfl⟩ (roV (q0 := 1) (ci := 1) hG (hP.sub [1, 4] rfl) hP rfl rfl) rfl rfl (Nat.le_of_ble_eq_true rfl) dX7_swap_94 ⟨Nat.le_of_ble_eq_true rfl, Nat.le_of_ble_eq_true rfl⟩) ?_
          obtain ⟨w23, w24, w25, w26, hr22, h⟩ := ob4_out h
          refine rw_v (WN := fun u27 => [((a_t 0), .inr (6, [.ref (a_t_tape 0), .ref (a_t_reader 0), .ref (a_t_now 0), .ref (a_t 4), .ref (a_t_choices 0), .ref (a_t_ways 0), .ref (a_t_stress 0)])), ((a_t_now 0), .inr (1, [.ref (a_t_now 1), .ref (a_t_now 2), .ref (a_t_now 3), .ref (a_t_now 4), .ref (a_t_now 5), .int t_now_told, .int t_now_lines, .int t_now_kinds, .int w26])), ((a_t_now 3), .inl (g.2.2.1 0, 31, .inl w23)), ((a_t_now 4), .inl (g.2.2.1 0, 31, .inl w24)), ((a_t_now 5), .inl (g.2.2.1 0, 31, .inl w25))]) (wr := [((a_t 0), .inr (6, [.ref (a_t_tape 0), .ref (a_t_reader 0), .ref (a_t_now 0), .ref (a_t 4), .ref (a_t_choices 0), .ref (a_t_ways 0), .ref (a_t_stress 0)]))]) (runVN (As := [.int (fX3_with (fX3_with r16 v1 r11) v2 r9), .int r18, .int r20]) (rest := []) hG cx hl.1 (ctX1_act l g s.heap.size a_t_now t_now_told t_now_lines t_now_kinds t_now_acts t_now_rows t_now_sizes t_now_rooms (fX3_with (fX3_with r16 v1 r11) v2 r9) r18 r20 w23 w24 w25 w26 hr22) kmX1_act kvX1_act nm_98 ⟨rfl, rfl⟩ ⟨Nat.le_of_ble_eq_true rfl, Nat.le_of_ble_eq_true rfl⟩ (rwV (q0 := 1) (ci := 1) hG (hP.sub [1, 2, 3, 4] rfl) (hD.sub [1, 2, 3, 4] (by decide) rfl) hAb hb0 hS hP rfl rfl) rfl rfl (Nat.le_of_ble_eq_true rfl) dX7_swap_97 ⟨Nat.le_of_ble_eq_true rfl, Nat.le_of_ble_eq_true rfl⟩) hP hD hS hA [1, 2, 3, 4] [0] rfl rfl (by decide) (by decide) (fun _ => rfl) (fun u27 H locs hP hD hS => ?_)
          have hG := hGk hS
          refine lv_iconst (v := 0) hx hb dX7_swap_100 (by decide) ?_
          exact hrt (fun _ => 0) _ _ ((0)) w23 w24 w25 w26 _ _ dX7_swap_101 h (hP.sub [0, 1, 2, 3, 4] rfl) (hD.sub [0, 1, 2, 3, 4] (by decide) rfl) hS
        · have h := itn c15 h
          refine lv_bipush (v := -5) hx hb dX7_swap_54 (by decide) ?_
          exact hrt (fun _ => 0) _ _ ((-5)) t_now_rows t_now_sizes t_now_rooms t_now_acts _ _ dX7_swap_56 h (hP.sub [0, 1, 2, 3, 4] rfl) (hD.sub [0, 1, 2, 3, 4] (by decide) rfl) hS
    · have h := itp c8 h
      refine lv_bipush (v := -2) hx hb dX7_swap_16 (by decide) ?_
      exact hrt (fun _ => 0) _ _ ((-2)) t_now_rows t_now_sizes t_now_rooms t_now_acts _ _ dX7_swap_18 h (hP.sub [0, 1, 2, 3, 4] rfl) (hD.sub [0, 1, 2, 3, 4] (by decide) rfl) hS
-- X7_turn
theorem dX7_turn_0 : decode cX7_turn 0 = .ok (.aload_n 0, 1) := by decide +kernel
theorem dX7_turn_1 : decode cX7_turn 1 = .ok (.iload_n 1, 1) := by decide +kernel
theorem dX7_turn_2 : decode cX7_turn 2 = .ok (.invokevirtual 115, 3) := by decide +kernel
theorem dX7_turn_5 : decode cX7_turn 5 = .ok (.ifCond .eq 10, 3) := by decide +kernel
theorem dX7_turn_8 : decode cX7_turn 8 = .ok (.iload_n 2, 1) := by decide +kernel
theorem dX7_turn_9 : decode cX7_turn 9 = .ok (.invokestatic 129, 3) := by decide +kernel
theorem dX7_turn_12 : decode cX7_turn 12 = .ok (.ifCond .ne 6, 3) := by decide +kernel
theorem dX7_turn_15 : decode cX7_turn 15 = .ok (.bipush (-2), 2) := by decide +kernel
theorem dX7_turn_17 : decode cX7_turn 17 = .ok (.ireturn, 1) := by decide +kernel
theorem dX7_turn_18 : decode cX7_turn 18 = .ok (.aload_n 0, 1) := by decide +kernel
theorem dX7_turn_19 : decode cX7_turn 19 = .ok (.getfield 30, 3) := by decide +kernel
theorem dX7_turn_22 : decode cX7_turn 22 = .ok (.iload_n 1, 1) := by decide +kernel
theorem dX7_turn_23 : decode cX7_turn 23 = .ok (.invokevirtual 118, 3) := by decide +kernel
theorem dX7_turn_26 : decode cX7_turn 26 = .ok (.istore_n 3, 1) := by decide +kernel
theorem dX7_turn_27 : decode cX7_turn 27 = .ok (.iload_n 3, 1) := by decide +kernel
theorem dX7_turn_28 : decode cX7_turn 28 = .ok (.iconst 4, 1) := by decide +kernel
theorem dX7_turn_29 : decode cX7_turn 29 = .ok (.irem, 1) := by decide +kernel
theorem dX7_turn_30 : decode cX7_turn 30 = .ok (.istore 4, 2) := by decide +kernel
theorem dX7_turn_32 : decode cX7_turn 32 = .ok (.iload 4, 2) := by decide +kernel
theorem dX7_turn_34 : decode cX7_turn 34 = .ok (.iload_n 2, 1) := by decide +kernel
theorem dX7_turn_35 : decode cX7_turn 35 = .ok (.if_icmp .eq 13, 3) := by decide +kernel
theorem dX7_turn_38 : decode cX7_turn 38 = .ok (.aload_n 0, 1) := by decide +kernel
theorem dX7_turn_39 : decode cX7_turn 39 = .ok (.getfield 30, 3) := by decide +kernel
theorem dX7_turn_42 : decode cX7_turn 42 = .ok (.invokevirtual 326, 3) := by decide +kernel
theorem dX7_turn_45 : decode cX7_turn 45 = .ok (.ifCond .eq 6, 3) := by decide +kernel
theorem dX7_turn_48 : decode cX7_turn 48 = .ok (.bipush (-5), 2) := by decide +kernel
theorem dX7_turn_50 : decode cX7_turn 50 = .ok (.ireturn, 1) := by decide +kernel
theorem dX7_turn_51 : decode cX7_turn 51 = .ok (.aload_n 0, 1) := by decide +kernel
theorem dX7_turn_52 : decode cX7_turn 52 = .ok (.getfield 30, 3) := by decide +kernel
theorem dX7_turn_55 : decode cX7_turn 55 = .ok (.aload_n 0, 1) := by decide +kernel
theorem dX7_turn_56 : decode cX7_turn 56 = .ok (.getfield 30, 3) := by decide +kernel
theorem dX7_turn_59 : decode cX7_turn 59 = .ok (.invokevirtual 132, 3) := by decide +kernel
theorem dX7_turn_62 : decode cX7_turn 62 = .ok (.iload_n 1, 1) := by decide +kernel
theorem dX7_turn_63 : decode cX7_turn 63 = .ok (.iload_n 3, 1) := by decide +kernel
theorem dX7_turn_64 : decode cX7_turn 64 = .ok (.iload 4, 2) := by decide +kernel
theorem dX7_turn_66 : decode cX7_turn 66 = .ok (.isub, 1) := by decide +kernel
theorem dX7_turn_67 : decode cX7_turn 67 = .ok (.iload_n 2, 1) := by decide +kernel
theorem dX7_turn_68 : decode cX7_turn 68 = .ok (.iadd, 1) := by decide +kernel
theorem dX7_turn_69 : decode cX7_turn 69 = .ok (.invokestatic 329, 3) := by decide +kernel
theorem dX7_turn_72 : decode cX7_turn 72 = .ok (.aload_n 0, 1) := by decide +kernel
theorem dX7_turn_73 : decode cX7_turn 73 = .ok (.getfield 30, 3) := by decide +kernel
theorem dX7_turn_76 : decode cX7_turn 76 = .ok (.invokevirtual 97, 3) := by decide +kernel
theorem dX7_turn_79 : decode cX7_turn 79 = .ok (.aload_n 0, 1) := by decide +kernel
theorem dX7_turn_80 : decode cX7_turn 80 = .ok (.getfield 30, 3) := by decide +kernel
theorem dX7_turn_83 : decode cX7_turn 83 = .ok (.invokevirtual 90, 3) := by decide +kernel
theorem dX7_turn_86 : decode cX7_turn 86 = .ok (.invokevirtual 332, 3) := by decide +kernel
theorem dX7_turn_89 : decode cX7_turn 89 = .ok (.iload 4, 2) := by decide +kernel
theorem dX7_turn_91 : decode cX7_turn 91 = .ok (.ireturn, 1) := by decide +kernel
noncomputable def fX7_turn  (t_now_rows : Nat → Int32) (t_now_sizes : Nat → Int32) (t_now_rooms : Nat → Int32) (t_now_told : Int32) (t_now_acts : Int32) (v1 : Int32) (v2 : Int32) : Option (Int32 × (Nat → Int32) × (Nat → Int32) × (Nat → Int32) × Int32) := (fX7_isPly t_now_sizes t_now_told t_now_acts v1).bind fun r1 => (if r1 = 0 then some ((-2), t_now_rows, t_now_sizes, t_now_rooms, t_now_acts) else (if (fX7_isAngle v2) = 0 then some ((-2), t_now_rows, t_now_sizes, t_now_rooms, t_now_acts) else (fX1_typeAt t_now_rows t_now_acts v1).bind fun r7 => (if (irem r7 4) = v2 then some ((-5), t_now_rows, t_now_sizes, t_now_rooms, t_now_acts) else (if (fX1_isFull t_now_acts) = 0 then (fX1_row t_now_rows t_now_acts).bind fun r12 => (fX1_plies t_now_sizes t_now_acts).bind fun r14 => (fX1_roomNow t_now_rooms t_now_acts).bind fun r16 => ob4 (fX1_act t_now_rows t_now_sizes t_now_rooms t_now_acts (fX3_with r12 v1 ((r7 - (irem r7 4)) + v2)) r14 r16) fun w19 w20 w21 w22 => some ((irem r7 4), w19, w20, w21, w22) else some ((-5), t_now_rows, t_now_sizes, t_now_rooms, t_now_acts)))))
set_option maxHeartbeats 4000000 in
set_option maxRecDepth 100000 in
theorem ctX7_turn (l : Launch) (g : GT) (sz : Nat) (a_t : Nat → Nat) (a_t_tape : Nat → Nat) (a_t_reader : Nat → Nat) (a_t_now : Nat → Nat) (a_t_choices : Nat → Nat) (a_t_ways : Nat → Nat) (a_t_stress : Nat → Nat) (t_now_told : Int32) (t_now_lines : Int32) (t_now_kinds : Int32) (t_now_acts : Int32) (t_now_rows : Nat → Int32) (t_now_sizes : Nat → Int32) (t_now_rooms : Nat → Int32) (v1 : Int32) (v2 : Int32) (o : Int32) (o_t_now_rows : Nat → Int32) (o_t_now_sizes : Nat → Int32) (o_t_now_rooms : Nat → Int32) (o_t_now_acts : Int32) (h : fX7_turn t_now_rows t_now_sizes t_now_rooms t_now_told t_now_acts v1 v2 = some (o, o_t_now_rows, o_t_now_sizes, o_t_now_rooms, o_t_now_acts)) : Met l yX7_turn (Cond.code yX7_turn cX7_turn 5 (some .int) :: Tw) ⟨2, 0, 0, 43⟩ (va_Pc [.ref ((a_t 0)), .int v1, .int v2] (rwB g [((a_t 0), .inr (6, [.ref (a_t_tape 0), .ref (a_t_reader 0), .ref (a_t_now 0), .ref (a_t 4), .ref (a_t_choices 0), .ref (a_t_ways 0), .ref (a_t_stress 0)])), ((a_t_now 0), .inr (1, [.ref (a_t_now 1), .ref (a_t_now 2), .ref (a_t_now 3), .ref (a_t_now 4), .ref (a_t_now 5), .int t_now_told, .int t_now_lines, .int t_now_kinds, .int t_now_acts])), ((a_t_now 3), .inl (g.2.2.1 0, 31, .inl t_now_rows)), ((a_t_now 4), .inl (g.2.2.1 0, 31, .inl t_now_sizes)), ((a_t_now 5), .inl (g.2.2.1 0, 31, .inl t_now_rooms))] sz)) (va_Qi (fun x (_ : Nat → Nat) => x = o) (fun u => rwE g (va_A [((a_t 0), .inr (6, [.ref (a_t_tape 0), .ref (a_t_reader 0), .ref (a_t_now 0), .ref (a_t 4), .ref (a_t_choices 0), .ref (a_t_ways 0), .ref (a_t_stress 0)])), ((a_t_now 0), .inr (1, [.ref (a_t_now 1), .ref (a_t_now 2), .ref (a_t_now 3), .ref (a_t_now 4), .ref (a_t_now 5), .int t_now_told, .int t_now_lines, .int t_now_kinds, .int t_now_acts])), ((a_t_now 3), .inl (g.2.2.1 0, 31, .inl t_now_rows)), ((a_t_now 4), .inl (g.2.2.1 0, 31, .inl t_now_sizes)), ((a_t_now 5), .inl (g.2.2.1 0, 31, .inl t_now_rooms))] sz) [((a_t 0), .inr (6, [.ref (a_t_tape 0), .ref (a_t_reader 0), .ref (a_t_now 0), .ref (a_t 4), .ref (a_t_choices 0), .ref (a_t_ways 0), .ref (a_t_stress 0)])), ((a_t_now 0), .inr (1, [.ref (a_t_now 1), .ref (a_t_now 2), .ref (a_t_now 3), .ref (a_t_now 4), .ref (a_t_now 5), .int t_now_told, .int t_now_lines, .int t_now_kinds, .int o_t_now_acts])), ((a_t_now 3), .inl (g.2.2.1 0, 31, .inl o_t_now_rows)), ((a_t_now 4), .inl (g.2.2.1 0, 31, .inl o_t_now_sizes)), ((a_t_now 5), .inl (g.2.2.1 0, 31, .inl o_t_now_rooms))]) (va_A [((a_t 0), .inr (6, [.ref (a_t_tape 0), .ref (a_t_reader 0), .ref (a_t_now 0), .ref (a_t 4), .ref (a_t_choices 0), .ref (a_t_ways 0), .ref (a_t_stress 0)])), ((a_t_now 0), .inr (1, [.ref (a_t_now 1), .ref (a_t_now 2), .ref (a_t_now 3), .ref (a_t_now 4), .ref (a_t_now 5), .int t_now_told, .int t_now_lines, .int t_now_kinds, .int t_now_acts])), ((a_t_now 3), .inl (g.2.2.1 0, 31, .inl t_now_rows)), ((a_t_now 4), .inl (g.2.2.1 0, 31, .inl t_now_sizes)), ((a_t_now 5), .inl (g.2.2.1 0, 31, .inl t_now_rooms))] sz)) 0 0 (va_A [((a_t 0), .inr (6, [.ref (a_t_tape 0), .ref (a_t_reader 0), .ref (a_t_now 0), .ref (a_t 4), .ref (a_t_choices 0), .ref (a_t_ways 0), .ref (a_t_stress 0)])), ((a_t_now 0), .inr (1, [.ref (a_t_now 1), .ref (a_t_now 2), .ref (a_t_now 3), .ref (a_t_now 4), .ref (a_t_now 5), .int t_now_told, .int t_now_lines, .int t_now_kinds, .int t_now_acts])), ((a_t_now 3), .inl (g.2.2.1 0, 31, .inl t_now_rows)), ((a_t_now 4), .inl (g.2.2.1 0, 31, .inl t_now_sizes)), ((a_t_now 5), .inl (g.2.2.1 0, 31, .inl t_now_rooms))] sz) := by
  refine rw_meti (by decide) (Nat.le_of_ble_eq_true rfl) (lv0 := [(0, .ref ((a_t 0))), (1, .int v1), (2, .int v2)]) rfl ?_
  intro p e s m args below meth c ls Q A cx hret hG hAb hb0 hA hP hD hl
  have hx := cx.1
  have hb := cx.2.1
  have hG0 := hG
  have hGk : ∀ {H : Heap} {locs : List Loc}, va_S A s.heap H locs → GE g s H := fun hS => hG0.keptS hAb hS
  have hSb : ∀ {H : Heap} {locs : List Loc}, va_S A s.heap H locs → va_S (fun a => g.1 ≤ a) s.heap H locs := fun hS => ⟨hS.1, fun q h1 h2 => hS.2.1 q h1 (fun z => h2 (hAb q z)), fun l hl => hAb _ (hS.2.2 l hl)⟩
  have hS : va_S A s.heap s.heap [] := va_S.rf
  have hrt : ∀ (u : Nat → Nat) (pc : Nat) (ls : Array Slot) (v : Int32) (x_t_now_rows : Nat → Int32) (x_t_now_sizes : Nat → Int32) (x_t_now_rooms : Nat → Int32) (x_t_now_acts : Int32) (H : Heap) (locs : List Loc), decode cX7_turn pc = .ok (.ireturn, 1) → some (v, x_t_now_rows, x_t_now_sizes, x_t_now_rooms, x_t_now_acts) = some (o, o_t_now_rows, o_t_now_sizes, o_t_now_rooms, o_t_now_acts) → va_P g.2.1 vwCl [((a_t 0), .inr (6, [.ref (a_t_tape 0), .ref (a_t_reader 0), .ref (a_t_now 0), .ref (a_t 4), .ref (a_t_choices 0), .ref (a_t_ways 0), .ref (a_t_stress 0)])), ((a_t_now 0), .inr (1, [.ref (a_t_now 1), .ref (a_t_now 2), .ref (a_t_now 3), .ref (a_t_now 4), .ref (a_t_now 5), .int t_now_told, .int t_now_lines, .int t_now_kinds, .int x_t_now_acts])), ((a_t_now 3), .inl (g.2.2.1 0, 31, .inl x_t_now_rows)), ((a_t_now 4), .inl (g.2.2.1 0, 31, .inl x_t_now_sizes)), ((a_t_now 5), .inl (g.2.2.1 0, 31, .inl x_t_now_rooms))] H → va_D A [((a_t 0), .inr (6, [.ref (a_t_tape 0), .ref (a_t_reader 0), .ref (a_t_now 0), .ref (a_t 4), .ref (a_t_choices 0), .ref (a_t_ways 0), .ref (a_t_stress 0)])), ((a_t_now 0), .inr (1, [.ref (a_t_now 1), .ref (a_t_now 2), .ref (a_t_now 3), .ref (a_t_now 4), .ref (a_t_now 5), .int t_now_told, .int t_now_lines, .int t_now_kinds, .int x_t_now_acts])), ((a_t_now 3), .inl (g.2.2.1 0, 31, .inl x_t_now_rows)), ((a_t_now 4), .inl (g.2.2.1 0, 31, .inl x_t_now_sizes)), ((a_t_now 5), .inl (g.2.2.1 0, 31, .inl x_t_now_rooms))] → va_S A s.heap H locs → W p l e ⟨2, 0, 0, 43⟩ s m args below meth c H locs 0 0 Q (F0 m pc ls [.int v]) := by
    intro u pc ls v x_t_now_rows x_t_now_sizes x_t_now_rooms x_t_now_acts H locs hd h hP hD hS
    cases h
    exact hret u _ _ _ _ _ hd rfl hP hD hS
  unfold fX7_turn at h
  refine lv_aload_n hx hb dX7_turn_0 rfl (lv_at hl 0 rfl) ?_
  refine lv_iload_n hx hb dX7_turn_1 rfl (lv_at hl 1 rfl) ?_
  obtain ⟨r1, hr2, h⟩ := bnd h
  refine ro_z (runV (As := [.int v1]) (rest := []) cx hl.1 (ctX7_isPly l g a_t a_t_tape a_t_reader a_t_now a_t_choices a_t_ways a_t_stress t_now_told t_now_lines t_now_kinds t_now_acts t_now_sizes v1 r1 hr2) kmX7_isPly kvX7_isPly lm_X7_115 ⟨rfl, rfl⟩ ⟨Nat.le_of_ble_eq_true rfl, Nat.le_of_ble_eq_true rfl⟩ (roV (q0 := 0) (ci := 6) hG (hP.sub [0, 1, 3] rfl) hP rfl rfl) rfl rfl (Nat.le_of_ble_eq_true rfl) dX7_turn_2 ⟨Nat.le_of_ble_eq_true rfl, Nat.le_of_ble_eq_true rfl⟩) (fun hz3 => ?_)
  refine lv_if_eq (tgt := 15) hx hb dX7_turn_5 (by decide) (fun c4 => ?_) (fun c4 => ?_)
  · have h := itp c4 h
    refine lv_bipush (v := -2) hx hb dX7_turn_15 (by decide) ?_
    exact hrt (fun _ => 0) _ _ ((-2)) t_now_rows t_now_sizes t_now_rooms t_now_acts _ _ dX7_turn_17 h (hP.sub [0, 1, 2, 3, 4] rfl) (hD.sub [0, 1, 2, 3, 4] (by decide) rfl) hS
  · have h := itn c4 h
    refine lv_iload_n hx hb dX7_turn_8 rfl (lv_at hl 2 rfl) ?_
    refine ro_z (runS (As := [.int v2]) (rest := []) cx hl.1 (ctX7_isAngle l g v2 (fX7_isAngle v2) rfl) kmX7_isAngle ksX7_isAngle lm_X7_129 ⟨rfl, rfl⟩ ⟨Nat.le_of_ble_eq_true rfl, Nat.le_of_ble_eq_true rfl⟩ (roS hG (hP.sub [] rfl)) rfl rfl (Nat.le_of_ble_eq_true rfl) dX7_turn_9 ⟨Nat.le_of_ble_eq_true rfl, Nat.le_of_ble_eq_true rfl⟩) (fun hz5 => ?_)
    refine lv_if_ne (tgt := 18) hx hb dX7_turn_12 (by decide) (fun c6 => ?_) (fun c6 => ?_)
    · have h := itn c6 h
      refine lv_aload_n hx hb dX7_turn_18 rfl (lv_at hl 0 rfl) ?_
      refine xa_get (C := RX7) (T := TX7) (N := 7) cx hG hP 0 rfl rfl uX7 2 (by decide) lf_X7_30 rfl dX7_turn_19 ?_
      refine lv_iload_n hx hb dX7_turn_22 rfl (lv_at hl 1 rfl) ?_
      obtain ⟨r7, hr8, h⟩ := bnd h
      refine ro_i (runVN (As := [.int v1]) (rest := []) hG cx hl.1 (ctX1_typeAt l g a_t_now t_now_told t_now_lines t_now_kinds t_now_acts t_now_rows v1 r7 hr8) kmX1_typeAt kvX1_typeAt nm_21 ⟨rfl, rfl⟩ ⟨Nat.le_of_ble_eq_true rfl, Nat.le_of_ble_eq_true rfl⟩ (roV (q0 := 1) (ci := 1) hG (hP.sub [1, 2] rfl) hP rfl rfl) rfl rfl (Nat.le_of_ble_eq_true rfl) dX7_turn_23 ⟨Nat.le_of_ble_eq_true rfl, Nat.le_of_ble_eq_true rfl⟩) ?_
      refine lv_istore_n (lv' := [(3, .int r7), (0, .ref ((a_t 0))), (1, .int v1), (2, .int v2)]) hx hb dX7_turn_26 rfl hl (by decide) rfl (fun ls hl => ?_)
      refine lv_iload_n hx hb dX7_turn_27 rfl (lv_at hl 0 rfl) ?_
      refine lv_iconst (v := 4) hx hb dX7_turn_28 (by decide) ?_
      refine xv_irem hx hb dX7_turn_29 (by decide) ?_
      refine lv_istore (lv' := [(4, .int (irem r7 4)), (3, .int r7), (0, .ref ((a_t 0))), (1, .int v1), (2, .int v2)]) hx hb dX7_turn_30 hl (by decide) rfl (fun ls hl => ?_)
      refine lv_iload hx hb dX7_turn_32 (lv_at hl 0 rfl) ?_
      refine lv_iload_n hx hb dX7_turn_34 rfl (lv_at hl 4 rfl) ?_
      refine lv_icmp_eq (tgt := 48) hx hb dX7_turn_35 (by decide) (fun c9 => ?_) (fun c9 => ?_)
      · have h := itp c9 h
        refine lv_bipush (v := -5) hx hb dX7_turn_48 (by decide) ?_
        exact hrt (fun _ => 0) _ _ ((-5)) t_now_rows t_now_sizes t_now_rooms t_now_acts _ _ dX7_turn_50 h (hP.sub [0, 1, 2, 3, 4] rfl) (hD.sub [0, 1, 2, 3, 4] (by decide) rfl) hS
      · have h := itn c9 h
        refine lv_aload_n hx hb dX7_turn_38 rfl (lv_at hl 2 rfl) ?_
        refine xa_get (C := RX7) (T := TX7) (N := 7) cx hG hP 0 rfl rfl uX7 2 (by decide) lf_X7_30 rfl dX7_turn_39 ?_
        refine ro_z (runVN (As := []) (rest := []) hG cx hl.1 (ctX1_isFull l g a_t_now t_now_told t_now_lines t_now_kinds t_now_acts (fX1_isFull t_now_acts) rfl) kmX1_isFull kvX1_isFull nm_96 ⟨rfl, rfl⟩ ⟨Nat.le_of_ble_eq_true rfl, Nat.le_of_ble_eq_true rfl⟩ (roV (q0 := 1) (ci := 1) hG (hP.sub [1] rfl) hP rfl rfl) rfl rfl (Nat.le_of_ble_eq_true rfl) dX7_turn_42 ⟨Nat.le_of_ble_eq_true rfl, Nat.le_of_ble_eq_true rfl⟩) (fun hz10 => ?_)
        refine lv_if_eq (tgt := 51) hx hb dX7_turn_45 (by decide) (fun c11 => ?_) (fun c11 => ?_)
        · have h := itp c11 h
          refine lv_aload_n hx hb dX7_turn_51 rfl (lv_at hl 2 rfl) ?_
          refine xa_get (C := RX7) (T := TX7) (N := 7) cx hG hP 0 rfl rfl uX7 2 (by decide) lf_X7_30 rfl dX7_turn_52 ?_
          refine lv_aload_n hx hb dX7_turn_55 rfl (lv_at hl 2 rfl) ?_
          refine xa_get (C := RX7) (T := TX7) (N := 7) cx hG hP 0 rfl rfl uX7 2 (by decide) lf_X7_30 rfl dX7_turn_56 ?_
          obtain ⟨r12, hr13, h⟩ := bnd h
          refine ro_i (runVN (As := []) (rest := [.ref ((a_t_now 0))]) hG cx hl.1 (ctX1_row l g a_t_now t_now_told t_now_lines t_now_kinds t_now_acts t_now_rows r12 hr13) kmX1_row kvX1_row nm_25 ⟨rfl, rfl⟩ ⟨Nat.le_of_ble_eq_true rfl, Nat.le_of_ble_eq_true rfl⟩ (roV (q0 := 1) (ci := 1) hG (hP.sub [1, 2] rfl) hP rfl rfl) rfl rfl (Nat.le_of_ble_eq_true rfl) dX7_turn_59 ⟨Nat.le_of_ble_eq_true rfl, Nat.le_of_ble_eq_true rfl⟩) ?_
          refine lv_iload_n hx hb dX7_turn_62 rfl (lv_at hl 3 rfl) ?_
          refine lv_iload_n hx hb dX7_turn_63 rfl (lv_at hl 1 rfl) ?_
          refine lv_iload hx hb dX7_turn_64 (lv_at hl 0 rfl) ?_
          refine lv_isub hx hb dX7_turn_66 ?_
          refine lv_iload_n hx hb dX7_turn_67 rfl (lv_at hl 4 rfl) ?_
          refine lv_iadd hx hb dX7_turn_68 ?_
          refine ro_i (runSN (As := [.int r12, .int v1, .int ((r7 - (irem r7 4)) + v2)]) (rest := [.ref ((a_t_now 0))]) hG cx hl.1 (ctX3_with l g r12 v1 ((r7 - (irem r7 4)) + v2) (fX3_with r12 v1 ((r7 - (irem r7 4)) + v2)) rfl) kmX3_with ksX3_with nm_97 ⟨rfl, rfl⟩ ⟨Nat.le_of_ble_eq_true rfl, Nat.le_of_ble_eq_true rfl⟩ (roS hG (hP.sub [] rfl)) rfl rfl (Nat.le_of_ble_eq_true rfl) dX7_turn_69 ⟨Nat.le_of_ble_eq_true rfl, Nat.le_of_ble_eq_true rfl⟩) ?_
          refine lv_aload_n hx hb dX7_turn_72 rfl (lv_at hl 2 rfl) ?_
          refine xa_get (C := RX7) (T := TX7) (N := 7) cx hG hP 0 rfl rfl uX7 2 (by decide) lf_X7_30 rfl dX7_turn_73 ?_
          obtain ⟨r14, hr15, h⟩ := bnd h
          refine ro_i (runVN (As := []) (rest := [.int (fX3_with r12 v1 ((r7 - (irem r7 4)) + v2)), .ref ((a_t_now 0))]) hG cx hl.1 (ctX1_plies l g a_t_now t_now_told t_now_lines t_now_kinds t_now_acts t_now_sizes r14 hr15) kmX1_plies kvX1_plies nm_17 ⟨rfl, rfl⟩ ⟨Nat.le_of_ble_eq_true rfl, Nat.le_of_ble_eq_true rfl⟩ (roV (q0 := 1) (ci := 1) hG (hP.sub [1, 3] rfl) hP rfl rfl) rfl rfl (Nat.le_of_ble_eq_true rfl) dX7_turn_76 ⟨Nat.le_of_ble_eq_true rfl, Nat.le_of_ble_eq_true rfl⟩) ?_
          refine lv_aload_n hx hb dX7_turn_79 rfl (lv_at hl 2 rfl) ?_
          refine xa_get (C := RX7) (T := TX7) (N := 7) cx hG hP 0 rfl rfl uX7 2 (by decide) lf_X7_30 rfl dX7_turn_80 ?_
          obtain ⟨r16, hr17, h⟩ := bnd h
          refine ro_i (runVN (As := []) (rest := [.int r14, .int (fX3_with r12 v1 ((r7 - (irem r7 4)) + v2)), .ref ((a_t_now 0))]) hG cx hl.1 (ctX1_roomNow l g a_t_now t_now_told t_now_lines t_now_kinds t_now_acts t_now_rooms r16 hr17) kmX1_roomNow kvX1_roomNow nm_16 ⟨rfl, rfl⟩ ⟨Nat.le_of_ble_eq_true rfl, Nat.le_of_ble_eq_true rfl⟩ (roV (q0 := 1) (ci := 1) hG (hP.sub [1, 4] rfl) hP rfl rfl) rfl rfl (Nat.le_of_ble_eq_true rfl) dX7_turn_83 ⟨Nat.le_of_ble_eq_true rfl, Nat.le_of_ble_eq_true rfl⟩) ?_
          obtain ⟨w19, w20, w21, w22, hr18, h⟩ := ob4_out h
          refine rw_v (WN := fun u23 => [((a_t 0), .inr (6, [.ref (a_t_tape 0), .ref (a_t_reader 0), .ref (a_t_now 0), .ref (a_t 4), .ref (a_t_choices 0), .ref (a_t_ways 0), .ref (a_t_stress 0)])), ((a_t_now 0), .inr (1, [.ref (a_t_now 1), .ref (a_t_now 2), .ref (a_t_now 3), .ref (a_t_now 4), .ref (a_t_now 5), .int t_now_told, .int t_now_lines, .int t_now_kinds, .int w22])), ((a_t_now 3), .inl (g.2.2.1 0, 31, .inl w19)), ((a_t_now 4), .inl (g.2.2.1 0, 31, .inl w20)), ((a_t_now 5), .inl (g.2.2.1 0, 31, .inl w21))]) (wr := [((a_t 0), .inr (6, [.ref (a_t_tape 0), .ref (a_t_reader 0), .ref (a_t_now 0), .ref (a_t 4), .ref (a_t_choices 0), .ref (a_t_ways 0), .ref (a_t_stress 0)]))]) (runVN (As := [.int (fX3_with r12 v1 ((r7 - (irem r7 4)) + v2)), .int r14, .int r16]) (rest := []) hG cx hl.1 (ctX1_act l g s.heap.size a_t_now t_now_told t_now_lines t_now_kinds t_now_acts t_now_rows t_now_sizes t_now_rooms (fX3_with r12 v1 ((r7 - (irem r7 4)) + v2)) r14 r16 w19 w20 w21 w22 hr18) kmX1_act kvX1_act nm_98 ⟨rfl, rfl⟩ ⟨Nat.le_of_ble_eq_true rfl, Nat.le_of_ble_eq_true rfl⟩ (rwV (q0 := 1) (ci := 1) hG (hP.sub [1, 2, 3, 4] rfl) (hD.sub [1, 2, 3, 4] (by decide) rfl) hAb hb0 hS hP rfl rfl) rfl rfl (Nat.le_of_ble_eq_true rfl) dX7_turn_86 ⟨Nat.le_of_ble_eq_true rfl, Nat.le_of_ble_eq_true rfl⟩) hP hD hS hA [1, 2, 3, 4] [0] rfl rfl (by decide) (by decide) (fun _ => rfl) (fun u23 H locs hP hD hS => ?_)
          have hG := hGk hS
          refine lv_iload hx hb dX7_turn_89 (lv_at hl 0 rfl) ?_
          exact hrt (fun _ => 0) _ _ ((irem r7 4)) w19 w20 w21 w22 _ _ dX7_turn_91 h (hP.sub [0, 1, 2, 3, 4] rfl) (hD.sub [0, 1, 2, 3, 4] (by decide) rfl) hS
        · have h := itn c11 h
          refine lv_bipush (v := -5) hx hb dX7_turn_48 (by decide) ?_
          exact hrt (fun _ => 0) _ _ ((-5)) t_now_rows t_now_sizes t_now_rooms t_now_acts _ _ dX7_turn_50 h (hP.sub [0, 1, 2, 3, 4] rfl) (hD.sub [0, 1, 2, 3, 4] (by decide) rfl) hS
    · have h := itp c6 h
      refine lv_bipush (v := -2) hx hb dX7_turn_15 (by decide) ?_
      exact hrt (fun _ => 0) _ _ ((-2)) t_now_rows t_now_sizes t_now_rooms t_now_acts _ _ dX7_turn_17 h (hP.sub [0, 1, 2, 3, 4] rfl) (hD.sub [0, 1, 2, 3, 4] (by decide) rfl) hS
