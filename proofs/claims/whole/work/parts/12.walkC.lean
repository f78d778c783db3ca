-- X2_next
theorem dX2_next_0 : decode cX2_next 0 = .ok (.aload_n 0, 1) := by decide +kernel
theorem dX2_next_1 : decode cX2_next 1 = .ok (.aload_n 0, 1) := by decide +kernel
theorem dX2_next_2 : decode cX2_next 2 = .ok (.getfield 36, 3) := by decide +kernel
theorem dX2_next_5 : decode cX2_next 5 = .ok (.putfield 59, 3) := by decide +kernel
theorem dX2_next_8 : decode cX2_next 8 = .ok (.iconst 0, 1) := by decide +kernel
theorem dX2_next_9 : decode cX2_next 9 = .ok (.istore_n 1, 1) := by decide +kernel
theorem dX2_next_10 : decode cX2_next 10 = .ok (.iload_n 1, 1) := by decide +kernel
theorem dX2_next_11 : decode cX2_next 11 = .ok (.sipush 600, 3) := by decide +kernel
theorem dX2_next_14 : decode cX2_next 14 = .ok (.if_icmp .ge 34, 3) := by decide +kernel
theorem dX2_next_17 : decode cX2_next 17 = .ok (.aload_n 0, 1) := by decide +kernel
theorem dX2_next_18 : decode cX2_next 18 = .ok (.getfield 29, 3) := by decide +kernel
theorem dX2_next_21 : decode cX2_next 21 = .ok (.aload_n 0, 1) := by decide +kernel
theorem dX2_next_22 : decode cX2_next 22 = .ok (.getfield 59, 3) := by decide +kernel
theorem dX2_next_25 : decode cX2_next 25 = .ok (.invokevirtual 62, 3) := by decide +kernel
theorem dX2_next_28 : decode cX2_next 28 = .ok (.iconst 4, 1) := by decide +kernel
theorem dX2_next_29 : decode cX2_next 29 = .ok (.if_icmp .ne 19, 3) := by decide +kernel
theorem dX2_next_32 : decode cX2_next 32 = .ok (.aload_n 0, 1) := by decide +kernel
theorem dX2_next_33 : decode cX2_next 33 = .ok (.dup, 1) := by decide +kernel
theorem dX2_next_34 : decode cX2_next 34 = .ok (.getfield 59, 3) := by decide +kernel
theorem dX2_next_37 : decode cX2_next 37 = .ok (.iconst 1, 1) := by decide +kernel
theorem dX2_next_38 : decode cX2_next 38 = .ok (.iadd, 1) := by decide +kernel
theorem dX2_next_39 : decode cX2_next 39 = .ok (.putfield 59, 3) := by decide +kernel
theorem dX2_next_42 : decode cX2_next 42 = .ok (.iinc 1 1, 3) := by decide +kernel
theorem dX2_next_45 : decode cX2_next 45 = .ok (.goto (-35), 3) := by decide +kernel
theorem dX2_next_48 : decode cX2_next 48 = .ok (.aload_n 0, 1) := by decide +kernel
theorem dX2_next_49 : decode cX2_next 49 = .ok (.aload_n 0, 1) := by decide +kernel
theorem dX2_next_50 : decode cX2_next 50 = .ok (.getfield 29, 3) := by decide +kernel
theorem dX2_next_53 : decode cX2_next 53 = .ok (.aload_n 0, 1) := by decide +kernel
theorem dX2_next_54 : decode cX2_next 54 = .ok (.getfield 59, 3) := by decide +kernel
theorem dX2_next_57 : decode cX2_next 57 = .ok (.invokevirtual 62, 3) := by decide +kernel
theorem dX2_next_60 : decode cX2_next 60 = .ok (.putfield 45, 3) := by decide +kernel
theorem dX2_next_63 : decode cX2_next 63 = .ok (.aload_n 0, 1) := by decide +kernel
theorem dX2_next_64 : decode cX2_next 64 = .ok (.aload_n 0, 1) := by decide +kernel
theorem dX2_next_65 : decode cX2_next 65 = .ok (.getfield 59, 3) := by decide +kernel
theorem dX2_next_68 : decode cX2_next 68 = .ok (.iconst 1, 1) := by decide +kernel
theorem dX2_next_69 : decode cX2_next 69 = .ok (.iadd, 1) := by decide +kernel
theorem dX2_next_70 : decode cX2_next 70 = .ok (.putfield 36, 3) := by decide +kernel
theorem dX2_next_73 : decode cX2_next 73 = .ok (.aload_n 0, 1) := by decide +kernel
theorem dX2_next_74 : decode cX2_next 74 = .ok (.getfield 45, 3) := by decide +kernel
theorem dX2_next_77 : decode cX2_next 77 = .ok (.iconst 1, 1) := by decide +kernel
theorem dX2_next_78 : decode cX2_next 78 = .ok (.if_icmp .eq 11, 3) := by decide +kernel
theorem dX2_next_81 : decode cX2_next 81 = .ok (.aload_n 0, 1) := by decide +kernel
theorem dX2_next_82 : decode cX2_next 82 = .ok (.getfield 45, 3) := by decide +kernel
theorem dX2_next_85 : decode cX2_next 85 = .ok (.iconst 2, 1) := by decide +kernel
theorem dX2_next_86 : decode cX2_next 86 = .ok (.if_icmp .ne 7, 3) := by decide +kernel
theorem dX2_next_89 : decode cX2_next 89 = .ok (.iconst 1, 1) := by decide +kernel
theorem dX2_next_90 : decode cX2_next 90 = .ok (.goto 4, 3) := by decide +kernel
theorem dX2_next_93 : decode cX2_next 93 = .ok (.iconst 0, 1) := by decide +kernel
theorem dX2_next_94 : decode cX2_next 94 = .ok (.istore_n 1, 1) := by decide +kernel
theorem dX2_next_95 : decode cX2_next 95 = .ok (.iconst 0, 1) := by decide +kernel
theorem dX2_next_96 : decode cX2_next 96 = .ok (.istore_n 2, 1) := by decide +kernel
theorem dX2_next_97 : decode cX2_next 97 = .ok (.iload_n 2, 1) := by decide +kernel
theorem dX2_next_98 : decode cX2_next 98 = .ok (.sipush 600, 3) := by decide +kernel
theorem dX2_next_101 : decode cX2_next 101 = .ok (.if_icmp .ge 41, 3) := by decide +kernel
theorem dX2_next_104 : decode cX2_next 104 = .ok (.iload_n 1, 1) := by decide +kernel
theorem dX2_next_105 : decode cX2_next 105 = .ok (.ifCond .eq 37, 3) := by decide +kernel
theorem dX2_next_108 : decode cX2_next 108 = .ok (.aload_n 0, 1) := by decide +kernel
theorem dX2_next_109 : decode cX2_next 109 = .ok (.getfield 29, 3) := by decide +kernel
theorem dX2_next_112 : decode cX2_next 112 = .ok (.aload_n 0, 1) := by decide +kernel
theorem dX2_next_113 : decode cX2_next 113 = .ok (.getfield 36, 3) := by decide +kernel
theorem dX2_next_116 : decode cX2_next 116 = .ok (.invokevirtual 62, 3) := by decide +kernel
theorem dX2_next_119 : decode cX2_next 119 = .ok (.aload_n 0, 1) := by decide +kernel
theorem dX2_next_120 : decode cX2_next 120 = .ok (.getfield 45, 3) := by decide +kernel
theorem dX2_next_123 : decode cX2_next 123 = .ok (.if_icmp .ne 19, 3) := by decide +kernel
theorem dX2_next_126 : decode cX2_next 126 = .ok (.aload_n 0, 1) := by decide +kernel
theorem dX2_next_127 : decode cX2_next 127 = .ok (.dup, 1) := by decide +kernel
theorem dX2_next_128 : decode cX2_next 128 = .ok (.getfield 36, 3) := by decide +kernel
theorem dX2_next_131 : decode cX2_next 131 = .ok (.iconst 1, 1) := by decide +kernel
theorem dX2_next_132 : decode cX2_next 132 = .ok (.iadd, 1) := by decide +kernel
theorem dX2_next_133 : decode cX2_next 133 = .ok (.putfield 36, 3) := by decide +kernel
theorem dX2_next_136 : decode cX2_next 136 = .ok (.iinc 2 1, 3) := by decide +kernel
theorem dX2_next_139 : decode cX2_next 139 = .ok (.goto (-42), 3) := by decide +kernel
theorem dX2_next_142 : decode cX2_next 142 = .ok (.return_, 1) := by decide +kernel
noncomputable def fX2_next_97  : Nat → (Nat → Int32) → Int32 → Int32 → Int32 → Int32 → Int32 → Int32 → Option (Int32 × Int32 × Int32)
  | 0, _, _, _, _, _, _, _ => none
  | n + 1, t_text_bytes, t_text_size, t_token, t_start, t_after, v1, v2 => (if 600 ≤ v2 then some (t_token, t_start, t_after) else (if v1 = 0 then some (t_token, t_start, t_after) else (fX5_classAt t_text_bytes t_text_size t_after).bind fun r11 => (if r11 = t_token then fX2_next_97 n t_text_bytes t_text_size t_token t_start (t_after + 1) v1 (v2 + 1) else some (t_token, t_start, t_after))))
theorem fX2_next_97_z  (t_text_bytes : Nat → Int32) (t_text_size : Int32) (t_token : Int32) (t_start : Int32) (t_after : Int32) (v1 : Int32) (v2 : Int32) : fX2_next_97  0 t_text_bytes t_text_size t_token t_start t_after v1 v2 = none := rfl
theorem fX2_next_97_s  (n : Nat) (t_text_bytes : Nat → Int32) (t_text_size : Int32) (t_token : Int32) (t_start : Int32) (t_after : Int32) (v1 : Int32) (v2 : Int32) : fX2_next_97  (n + 1) t_text_bytes t_text_size t_token t_start t_after v1 v2 = (if 600 ≤ v2 then some (t_token, t_start, t_after) else (if v1 = 0 then some (t_token, t_start, t_after) else (fX5_classAt t_text_bytes t_text_size t_after).bind fun r11 => (if r11 = t_token then fX2_next_97 n t_text_bytes t_text_size t_token t_start (t_after + 1) v1 (v2 + 1) else some (t_token, t_start, t_after)))) := rfl
noncomputable def fX2_next_94  (t_text_bytes : Nat → Int32) (t_text_size : Int32) (t_token : Int32) (t_start : Int32) (t_after : Int32) (z0 : Int32) : Option (Int32 × Int32 × Int32) := fX2_next_97 FU t_text_bytes t_text_size t_token t_start t_after z0 0
noncomputable def fX2_next_89  (t_text_bytes : Nat → Int32) (t_text_size : Int32) (t_token : Int32) (t_start : Int32) (t_after : Int32) : Option (Int32 × Int32 × Int32) := fX2_next_94 t_text_bytes t_text_size t_token t_start t_after 1
noncomputable def fX2_next_48  (t_text_bytes : Nat → Int32) (t_text_size : Int32) (t_token : Int32) (t_start : Int32) (t_after : Int32) : Option (Int32 × Int32 × Int32) := (fX5_classAt t_text_bytes t_text_size t_start).bind fun r5 => (if r5 = 1 then fX2_next_89 t_text_bytes t_text_size r5 t_start (t_start + 1) else (if r5 = 2 then fX2_next_89 t_text_bytes t_text_size r5 t_start (t_start + 1) else fX2_next_94 t_text_bytes t_text_size r5 t_start (t_start + 1) 0))
noncomputable def fX2_next_10  : Nat → (Nat → Int32) → Int32 → Int32 → Int32 → Int32 → Int32 → Option (Int32 × Int32 × Int32)
  | 0, _, _, _, _, _, _ => none
  | n + 1, t_text_bytes, t_text_size, t_token, t_start, t_after, v1 => (if 600 ≤ v1 then fX2_next_48 t_text_bytes t_text_size t_token t_start t_after else (fX5_classAt t_text_bytes t_text_size t_start).bind fun r2 => (if r2 = 4 then fX2_next_10 n t_text_bytes t_text_size t_token (t_start + 1) t_after (v1 + 1) else fX2_next_48 t_text_bytes t_text_size t_token t_start t_after))
theorem fX2_next_10_z  (t_text_bytes : Nat → Int32) (t_text_size : Int32) (t_token : Int32) (t_start : Int32) (t_after : Int32) (v1 : Int32) : fX2_next_10  0 t_text_bytes t_text_size t_token t_start t_after v1 = none := rfl
theorem fX2_next_10_s  (n : Nat) (t_text_bytes : Nat → Int32) (t_text_size : Int32) (t_token : Int32) (t_start : Int32) (t_after : Int32) (v1 : Int32) : fX2_next_10  (n + 1) t_text_bytes t_text_size t_token t_start t_after v1 = (if 600 ≤ v1 then fX2_next_48 t_text_bytes t_text_size t_token t_start t_after else (fX5_classAt t_text_bytes t_text_size t_start).bind fun r2 => (if r2 = 4 then fX2_next_10 n t_text_bytes t_text_size t_token (t_start + 1) t_after (v1 + 1) else fX2_next_48 t_text_bytes t_text_size t_token t_start t_after)) := rfl
noncomputable def fX2_next  (t_text_bytes : Nat → Int32) (t_text_size : Int32) (t_token : Int32) (t_start : Int32) (t_after : Int32) : Option (Int32 × Int32 × Int32) := fX2_next_10 FU t_text_bytes t_text_size t_token t_after t_after 0
set_option maxHeartbeats 4000000 in
set_option maxRecDepth 100000 in
theorem ctX2_next (l : Launch) (g : GT) (sz : Nat) (a_t : Nat → Nat) (a_t_draft : Nat → Nat) (a_t_text : Nat → Nat) (t_token : Int32) (t_start : Int32) (t_after : Int32) (t_fault : Int32) (t_place : Int32) (t_text_size : Int32) (t_text_bytes : Nat → Int32) (o_t_token : Int32) (o_t_start : Int32) (o_t_after : Int32) (h : fX2_next t_text_bytes t_text_size t_token t_start t_after = some (o_t_token, o_t_start, o_t_after)) : Met l yX2_next (Cond.code yX2_next cX2_next 3 none :: Tw) ⟨1, 0, 0, 22⟩ (va_Pc [.ref ((a_t 0))] (rwB g [((a_t 0), .inr (2, [.ref (a_t_draft 0), .ref (a_t 2), .ref (a_t 3), .ref (a_t_text 0), .int t_token, .int t_start, .int t_after, .int t_fault, .int t_place])), ((a_t_text 0), .inr (4, [.ref (a_t_text 1), .int t_text_size])), ((a_t_text 1), .inl (g.2.2.1 2, 600, .inl t_text_bytes))] sz)) (va_Qv (fun (_ : Nat → Nat) => True) (fun u => rwE g (va_A [((a_t 0), .inr (2, [.ref (a_t_draft 0), .ref (a_t 2), .ref (a_t 3), .ref (a_t_text 0), .int t_token, .int t_start, .int t_after, .int t_fault, .int t_place])), ((a_t_text 0), .inr (4, [.ref (a_t_text 1), .int t_text_size])), ((a_t_text 1), .inl (g.2.2.1 2, 600, .inl t_text_bytes))] sz) [((a_t 0), .inr (2, [.ref (a_t_draft 0), .ref (a_t 2), .ref (a_t 3), .ref (a_t_text 0), .int o_t_token, .int o_t_start, .int o_t_after, .int t_fault, .int t_place])), ((a_t_text 0), .inr (4, [.ref (a_t_text 1), .int t_text_size])), ((a_t_text 1), .inl (g.2.2.1 2, 600, .inl t_text_bytes))]) (va_A [((a_t 0), .inr (2, [.ref (a_t_draft 0), .ref (a_t 2), .ref (a_t 3), .ref (a_t_text 0), .int t_token, .int t_start, .int t_after, .int t_fault, .int t_place])), ((a_t_text 0), .inr (4, [.ref (a_t_text 1), .int t_text_size])), ((a_t_text 1), .inl (g.2.2.1 2, 600, .inl t_text_bytes))] sz)) 0 0 (va_A [((a_t 0), .inr (2, [.ref (a_t_draft 0), .ref (a_t 2), .ref (a_t 3), .ref (a_t_text 0), .int t_token, .int t_start, .int t_after, .int t_fault, .int t_place])), ((a_t_text 0), .inr (4, [.ref (a_t_text 1), .int t_text_size])), ((a_t_text 1), .inl (g.2.2.1 2, 600, .inl t_text_bytes))] sz) := by
  refine rw_metv (by decide) (Nat.le_of_ble_eq_true rfl) (lv0 := [(0, .ref ((a_t 0)))]) rfl ?_
  intro p e s m args below meth c ls Q A cx hret hG hAb hb0 hA hP hD hl
  have hx := cx.1
  have hb := cx.2.1
  have hG0 := hG
  have hGk : ∀ {H : Heap} {locs : List Loc}, va_S A s.heap H locs → GE g s H := fun hS => hG0.keptS hAb hS
  have hSb : ∀ {H : Heap} {locs : List Loc}, va_S A s.heap H locs → va_S (fun a => g.1 ≤ a) s.heap H locs := fun hS => ⟨hS.1, fun q h1 h2 => hS.2.1 q h1 (fun z => h2 (hAb q z)), fun l hl => hAb _ (hS.2.2 l hl)⟩
  have hS : va_S A s.heap s.heap [] := va_S.rf
  have hrt : ∀ (u : Nat → Nat) (pc : Nat) (ls : Array Slot) (x_t_token : Int32) (x_t_start : Int32) (x_t_after : Int32) (H : Heap) (locs : List Loc), decode cX2_next pc = .ok (.return_, 1) → some (x_t_token, x_t_start, x_t_after) = some (o_t_token, o_t_start, o_t_after) → va_P g.2.1 vwCl [((a_t 0), .inr (2, [.ref (a_t_draft 0), .ref (a_t 2), .ref (a_t 3), .ref (a_t_text 0), .int x_t_token, .int x_t_start, .int x_t_after, .int t_fault, .int t_place])), ((a_t_text 0), .inr (4, [.ref (a_t_text 1), .int t_text_size])), ((a_t_text 1), .inl (g.2.2.1 2, 600, .inl t_text_bytes))] H → va_D A [((a_t 0), .inr (2, [.ref (a_t_draft 0), .ref (a_t 2), .ref (a_t 3), .ref (a_t_text 0), .int x_t_token, .int x_t_start, .int x_t_after, .int t_fault, .int t_place])), ((a_t_text 0), .inr (4, [.ref (a_t_text 1), .int t_text_size])), ((a_t_text 1), .inl (g.2.2.1 2, 600, .inl t_text_bytes))] → va_S A s.heap H locs → W p l e ⟨1, 0, 0, 22⟩ s m args below meth c H locs 0 0 Q (F0 m pc ls []) := by
    intro u pc ls x_t_token x_t_start x_t_after H locs hd h hP hD hS
    cases h
    exact hret u _ _ _ _ hd hP hD hS
  have w97 : ∀ (n : Nat) (t_token : Int32) (t_start : Int32) (t_after : Int32) (v1 : Int32) (v2 : Int32) (H : Heap) (locs : List Loc), va_P g.2.1 vwCl [((a_t 0), .inr (2, [.ref (a_t_draft 0), .ref (a_t 2), .ref (a_t 3), .ref (a_t_text 0), .int t_token, .int t_start, .int t_after, .int t_fault, .int t_place])), ((a_t_text 0), .inr (4, [.ref (a_t_text 1), .int t_text_size])), ((a_t_text 1), .inl (g.2.2.1 2, 600, .inl t_text_bytes))] H → va_D A [((a_t 0), .inr (2, [.ref (a_t_draft 0), .ref (a_t 2), .ref (a_t 3), .ref (a_t_text 0), .int t_token, .int t_start, .int t_after, .int t_fault, .int t_place])), ((a_t_text 0), .inr (4, [.ref (a_t_text 1), .int t_text_size])), ((a_t_text 1), .inl (g.2.2.1 2, 600, .inl t_text_bytes))] → va_S A s.heap H locs → ∀ (ls : Array Slot), lv_has ls 3 [(0, .ref ((a_t 0))), (1, .int v1), (2, .int v2)] → fX2_next_97  n t_text_bytes t_text_size t_token t_start t_after v1 v2 = some (o_t_token, o_t_start, o_t_after) → W p l e ⟨1, 0, 0, 22⟩ s m args below meth c H locs 0 0 Q (F0 m 97 ls []) := by
    intro n
    induction n with
    | zero => intro t_token t_start t_after v1 v2 H locs hP hD hS ls hl h; cases (fX2_next_97_z  t_text_bytes t_text_size t_token t_start t_after v1 v2).symm.trans h
    | succ n ih =>
    intro t_token t_start t_after v1 v2 H locs hP hD hS ls hl h
    have h := (fX2_next_97_s  n t_text_bytes t_text_size t_token t_start t_after v1 v2).symm.trans h
    have hG := hGk hS
    refine lv_iload_n hx hb dX2_next_97 rfl (lv_at hl 2 rfl) ?_
    refine lv_sipush (v := 600) hx hb dX2_next_98 (by decide) ?_
    refine lv_icmp_ge (tgt := 142) hx hb dX2_next_101 (by decide) (fun c9 => ?_) (fun c9 => ?_)
    · have h := itp c9 h
      exact hrt (fun _ => 0) _ _ t_token t_start t_after _ _ dX2_next_142 h (hP.sub [0, 1, 2] rfl) (hD.sub [0, 1, 2] (by decide) rfl) hS
    · have h := itn c9 h
      refine lv_iload_n hx hb dX2_next_104 rfl (lv_at hl 1 rfl) ?_
      refine lv_if_eq (tgt := 142) hx hb dX2_next_105 (by decide) (fun c10 => ?_) (fun c10 => ?_)
      · have h := itp c10 h
        exact hrt (fun _ => 0) _ _ t_token t_start t_after _ _ dX2_next_142 h (hP.sub [0, 1, 2] rfl) (hD.sub [0, 1, 2] (by decide) rfl) hS
      · have h := itn c10 h
        refine lv_aload_n hx hb dX2_next_108 rfl (lv_at hl 0 rfl) ?_
        refine xa_get (C := RX2) (T := TX2) (N := 9) cx hG hP 0 rfl rfl uX2 3 (by decide) lf_X2_29 rfl dX2_next_109 ?_
        refine lv_aload_n hx hb dX2_next_112 rfl (lv_at hl 0 rfl) ?_
        refine xa_get (C := RX2) (T := TX2) (N := 9) cx hG hP 0 rfl rfl uX2 6 (by decide) lf_X2_36 rfl dX2_next_113 ?_
        obtain ⟨r11, hr12, h⟩ := bnd h
        refine ro_i (runVN (As := [.int t_after]) (rest := []) hG cx hl.1 (ctX5_classAt l g a_t_text t_text_size t_text_bytes t_after r11 hr12) kmX5_classAt kvX5_classAt nm_10 ⟨rfl, rfl⟩ ⟨Nat.le_of_ble_eq_true rfl, Nat.le_of_ble_eq_true rfl⟩ (roV (q0 := 1) (ci := 4) hG (hP.sub [1, 2] rfl) hP rfl rfl) rfl rfl (Nat.le_of_ble_eq_true rfl) dX2_next_116 ⟨Nat.le_of_ble_eq_true rfl, Nat.le_of_ble_eq_true rfl⟩) ?_
        refine lv_aload_n hx hb dX2_next_119 rfl (lv_at hl 0 rfl) ?_
        refine xa_get (C := RX2) (T := TX2) (N := 9) cx hG hP 0 rfl rfl uX2 4 (by decide) lf_X2_45 rfl dX2_next_120 ?_
        refine lv_icmp_ne (tgt := 142) hx hb dX2_next_123 (by decide) (fun c13 => ?_) (fun c13 => ?_)
        · have h := itn c13 h
          exact hrt (fun _ => 0) _ _ t_token t_start t_after _ _ dX2_next_142 h (hP.sub [0, 1, 2] rfl) (hD.sub [0, 1, 2] (by decide) rfl) hS
        · have h := itp c13 h
          refine lv_aload_n hx hb dX2_next_126 rfl (lv_at hl 0 rfl) ?_
          refine lv_dup hx hb dX2_next_127 rfl ?_
          refine xa_get (C := RX2) (T := TX2) (N := 9) cx hG hP 0 rfl rfl uX2 6 (by decide) lf_X2_36 rfl dX2_next_128 ?_
          refine lv_iconst (v := 1) hx hb dX2_next_131 (by decide) ?_
          refine lv_iadd hx hb dX2_next_132 ?_
          refine xw_put (C := RX2) (T := TX2) (N := 9) (ty := .int) (v := .int (t_after + 1)) (ws' := [((a_t 0), .inr (2, [.ref (a_t_draft 0), .ref (a_t 2), .ref (a_t 3), .ref (a_t_text 0), .int t_token, .int t_start, .int (t_after + 1), .int t_fault, .int t_place])), ((a_t_text 0), .inr (4, [.ref (a_t_text 1), .int t_text_size])), ((a_t_text 1), .inl (g.2.2.1 2, 600, .inl t_text_bytes))]) cx hG hP hD hS 0 rfl rfl uX2 tyX2 tyX2_ok nmX2 6 (by decide) lf_X2_36 rfl (by decide +kernel) rfl rfl (Nat.le_of_ble_eq_true rfl) rfl dX2_next_133 (fun H locs hP hD hS => ?_)
          have hG := hGk hS
          refine lv_iinc (v := v2 + 1) (lv' := [(2, .int (v2 + 1)), (0, .ref ((a_t 0))), (1, .int v1)]) hx hb dX2_next_136 hl (k := 2) rfl rfl (by decide) rfl (fun ls hl => ?_)
          refine lv_goto (tgt := 97) hx hb dX2_next_139 (by decide) ?_
          exact ih t_token t_start (t_after + 1) v1 (v2 + 1) _ _ hP hD hS _ (lv_sub hl [1, 2, 0] rfl) h
  have w94 : ∀ (t_token : Int32) (t_start : Int32) (t_after : Int32) (z0 : Int32) (H : Heap) (locs : List Loc), va_P g.2.1 vwCl [((a_t 0), .inr (2, [.ref (a_t_draft 0), .ref (a_t 2), .ref (a_t 3), .ref (a_t_text 0), .int t_token, .int t_start, .int t_after, .int t_fault, .int t_place])), ((a_t_text 0), .inr (4, [.ref (a_t_text 1), .int t_text_size])), ((a_t_text 1), .inl (g.2.2.1 2, 600, .inl t_text_bytes))] H → va_D A [((a_t 0), .inr (2, [.ref (a_t_draft 0), .ref (a_t 2), .ref (a_t 3), .ref (a_t_text 0), .int t_token, .int t_start, .int t_after, .int t_fault, .int t_place])), ((a_t_text 0), .inr (4, [.ref (a_t_text 1), .int t_text_size])), ((a_t_text 1), .inl (g.2.2.1 2, 600, .inl t_text_bytes))] → va_S A s.heap H locs → ∀ (ls : Array Slot), lv_has ls 3 [(0, .ref ((a_t 0)))] → fX2_next_94  t_text_bytes t_text_size t_token t_start t_after z0 = some (o_t_token, o_t_start, o_t_after) → W p l e ⟨1, 0, 0, 22⟩ s m args below meth c H locs 0 0 Q (F0 m 94 ls [.int z0]) := by
    intro t_token t_start t_after z0 H locs hP hD hS ls hl h
    unfold fX2_next_94 at h
    have hG := hGk hS
    refine lv_istore_n (lv' := [(1, .int z0), (0, .ref ((a_t 0)))]) hx hb dX2_next_94 rfl hl (by decide) rfl (fun ls hl => ?_)
    refine lv_iconst (v := 0) hx hb dX2_next_95 (by decide) ?_
    refine lv_istore_n (lv' := [(2, .int (0)), (1, .int z0), (0, .ref ((a_t 0)))]) hx hb dX2_next_96 rfl hl (by decide) rfl (fun ls hl => ?_)
    exact w97 FU t_token t_start t_after z0 0 _ _ hP hD hS _ (lv_sub hl [2, 1, 0] rfl) h
  have w89 : ∀ (t_token : Int32) (t_start : Int32) (t_after : Int32) (H : Heap) (locs : List Loc), va_P g.2.1 vwCl [((a_t 0), .inr (2, [.ref (a_t_draft 0), .ref (a_t 2), .ref (a_t 3), .ref (a_t_text 0), .int t_token, .int t_start, .int t_after, .int t_fault, .int t_place])), ((a_t_text 0), .inr (4, [.ref (a_t_text 1), .int t_text_size])), ((a_t_text 1), .inl (g.2.2.1 2, 600, .inl t_text_bytes))] H → va_D A [((a_t 0), .inr (2, [.ref (a_t_draft 0), .ref (a_t 2), .ref (a_t 3), .ref (a_t_text 0), .int t_token, .int t_start, .int t_after, .int t_fault, .int t_place])), ((a_t_text 0), .inr (4, [.ref (a_t_text 1), .int t_text_size])), ((a_t_text 1), .inl (g.2.2.1 2, 600, .inl t_text_bytes))] → va_S A s.heap H locs → ∀ (ls : Array Slot), lv_has ls 3 [(0, .ref ((a_t 0)))] → fX2_next_89  t_text_bytes t_text_size t_token t_start t_after = some (o_t_token, o_t_start, o_t_after) → W p l e ⟨1, 0, 0, 22⟩ s m args below meth c H locs 0 0 Q (F0 m 89 ls []) := by
    intro t_token t_start t_after H locs hP hD hS ls hl h
    unfold fX2_next_89 at h
    have hG := hGk hS
    refine lv_iconst (v := 1) hx hb dX2_next_89 (by decide) ?_
    refine lv_goto (tgt := 94) hx hb dX2_next_90 (by decide) ?_
    exact w94 t_token t_start t_after 1 _ _ hP hD hS _ (lv_sub hl [0] rfl) h
  have w48 : ∀ (t_token : Int32) (t_start : Int32) (t_after : Int32) (H : Heap) (locs : List Loc), va_P g.2.1 vwCl [((a_t 0), .inr (2, [.ref (a_t_draft 0), .ref (a_t 2), .ref (a_t 3), .ref (a_t_text 0), .int t_token, .int t_start, .int t_after, .int t_fault, .int t_place])), ((a_t_text 0), .inr (4, [.ref (a_t_text 1), .int t_text_size])), ((a_t_text 1), .inl (g.2.2.1 2, 600, .inl t_text_bytes))] H → va_D A [((a_t 0), .inr (2, [.ref (a_t_draft 0), .ref (a_t 2), .ref (a_t 3), .ref (a_t_text 0), .int t_token, .int t_start, .int t_after, .int t_fault, .int t_place])), ((a_t_text 0), .inr (4, [.ref (a_t_text 1), .int t_text_size])), ((a_t_text 1), .inl (g.2.2.1 2, 600, .inl t_text_bytes))] → va_S A s.heap H locs → ∀ (ls : Array Slot), lv_has ls 3 [(0, .ref ((a_t 0)))] → fX2_next_48  t_text_bytes t_text_size t_token t_start t_after = some (o_t_token, o_t_start, o_t_after) → W p l e ⟨1, 0, 0, 22⟩ s m args below meth c H locs 0 0 Q (F0 m 48 ls []) := by
    intro t_token t_start t_after H locs hP hD hS ls hl h
    unfold fX2_next_48 at h
    have hG := hGk hS
    refine lv_aload_n hx hb dX2_next_48 rfl (lv_at hl 0 rfl) ?_
    refine lv_aload_n hx hb dX2_next_49 rfl (lv_at hl 0 rfl) ?_
    refine xa_get (C := RX2) (T := TX2) (N := 9) cx hG hP 0 rfl rfl uX2 3 (by decide) lf_X2_29 rfl dX2_next_50 ?_
    refine lv_aload_n hx hb dX2_next_53 rfl (lv_at hl 0 rfl) ?_
    refine xa_get (C := RX2) (T := TX2) (N := 9) cx hG hP 0 rfl rfl uX2 5 (by decide) lf_X2_59 rfl dX2_next_54 ?_
    obtain ⟨r5, hr6, h⟩ := bnd h
    refine ro_i (runVN (As := [.int t_start]) (rest := [.ref ((a_t 0))]) hG cx hl.1 (ctX5_classAt l g a_t_text t_text_size t_text_bytes t_start r5 hr6) kmX5_classAt kvX5_classAt nm_10 ⟨rfl, rfl⟩ ⟨Nat.le_of_ble_eq_true rfl, Nat.le_of_ble_eq_true rfl⟩ (roV (q0 := 1) (ci := 4) hG (hP.sub [1, 2] rfl) hP rfl rfl) rfl rfl (Nat.le_of_ble_eq_true rfl) dX2_next_57 ⟨Nat.le_of_ble_eq_true rfl, Nat.le_of_ble_eq_true rfl⟩) ?_
    refine xw_put (C := RX2) (T := TX2) (N := 9) (ty := .int) (v := .int r5) (ws' := [((a_t 0), .inr (2, [.ref (a_t_draft 0), .ref (a_t 2), .ref (a_t 3), .ref (a_t_text 0), .int r5, .int t_start, .int t_after, .int t_fault, .int t_place])), ((a_t_text 0), .inr (4, [.ref (a_t_text 1), .int t_text_size])), ((a_t_text 1), .inl (g.2.2.1 2, 600, .inl t_text_bytes))]) cx hG hP hD hS 0 rfl rfl uX2 tyX2 tyX2_ok nmX2 4 (by decide) lf_X2_45 rfl (by decide +kernel) rfl rfl (Nat.le_of_ble_eq_true rfl) rfl dX2_next_60 (fun H locs hP hD hS => ?_)
    have hG := hGk hS
    refine lv_aload_n hx hb dX2_next_63 rfl (lv_at hl 0 rfl) ?_
    refine lv_aload_n hx hb dX2_next_64 rfl (lv_at hl 0 rfl) ?_
    refine xa_get (C := RX2) (T := TX2) (N := 9) cx hG hP 0 rfl rfl uX2 5 (by decide) lf_X2_59 rfl dX2_next_65 ?_
    refine lv_iconst (v := 1) hx hb dX2_next_68 (by decide) ?_
    refine lv_iadd hx hb dX2_next_69 ?_
    refine xw_put (C := RX2) (T := TX2) (N := 9) (ty := .int) (v := .int (t_start + 1)) (ws' := [((a_t 0), .inr (2, [.ref (a_t_draft 0), .ref (a_t 2), .ref (a_t 3), .ref (a_t_text 0), .int r5, .int t_start, .int (t_start + 1), .int t_fault, .int t_place])), ((a_t_text 0), .inr (4, [.ref (a_t_text 1), .int t_text_size])), ((a_t_text 1), .inl (g.2.2.1 2, 600, .inl t_text_bytes))]) cx hG hP hD hS 0 rfl rfl uX2 tyX2 tyX2_ok nmX2 6 (by decide) lf_X2_36 rfl (by decide +kernel) rfl rfl (Nat.le_of_ble_eq_true rfl) rfl dX2_next_70 (fun H locs hP hD hS => ?_)
    have hG := hGk hS
    refine lv_aload_n hx hb dX2_next_73 rfl (lv_at hl 0 rfl) ?_
    refine xa_get (C := RX2) (T := TX2) (N := 9) cx hG hP 0 rfl rfl uX2 4 (by decide) lf_X2_45 rfl dX2_next_74 ?_
    refine lv_iconst (v := 1) hx hb dX2_next_77 (by decide) ?_
    refine lv_icmp_eq (tgt := 89) hx hb dX2_next_78 (by decide) (fun c7 => ?_) (fun c7 => ?_)
    · have h := itp c7 h
      exact w89 r5 t_start (t_start + 1) _ _ hP hD hS _ (lv_sub hl [0] rfl) h
    · have h := itn c7 h
      refine lv_aload_n hx hb dX2_next_81 rfl (lv_at hl 0 rfl) ?_
      refine xa_get (C := RX2) (T := TX2) (N := 9) cx hG hP 0 rfl rfl uX2 4 (by decide) lf_X2_45 rfl dX2_next_82 ?_
      refine lv_iconst (v := 2) hx hb dX2_next_85 (by decide) ?_
      refine lv_icmp_ne (tgt := 93) hx hb dX2_next_86 (by decide) (fun c8 => ?_) (fun c8 => ?_)
      · have h := itn c8 h
        refine lv_iconst (v := 0) hx hb dX2_next_93 (by decide) ?_
        exact w94 r5 t_start (t_start + 1) 0 _ _ hP hD hS _ (lv_sub hl [0] rfl) h
      · have h := itp c8 h
        exact w89 r5 t_start (t_start + 1) _ _ hP hD hS _ (lv_sub hl [0] rfl) h
  have w10 : ∀ (n : Nat) (t_token : Int32) (t_start : Int32) (t_after : Int32) (v1 : Int32) (H : Heap) (locs : List Loc), va_P g.2.1 vwCl [((a_t 0), .inr (2, [.ref (a_t_draft 0), .ref (a_t 2), .ref (a_t 3), .ref (a_t_text 0), .int t_token, .int t_start, .int t_after, .int t_fault, .int t_place])), ((a_t_text 0), .inr (4, [.ref (a_t_text 1), .int t_text_size])), ((a_t_text 1), .inl (g.2.2.1 2, 600, .inl t_text_bytes))] H → va_D A [((a_t 0), .inr (2, [.ref (a_t_draft 0), .ref (a_t 2), .ref (a_t 3), .ref (a_t_text 0), .int t_token, .int t_start, .int t_after, .int t_fault, .int t_place])), ((a_t_text 0), .inr (4, [.ref (a_t_text 1), .int t_text_size])), ((a_t_text 1), .inl (g.2.2.1 2, 600, .inl t_text_bytes))] → va_S A s.heap H locs → ∀ (ls : Array Slot), lv_has ls 3 [(0, .ref ((a_t 0))), (1, .int v1)] → fX2_next_10  n t_text_bytes t_text_size t_token t_start t_after v1 = some (o_t_token, o_t_start, o_t_after) → W p l e ⟨1, 0, 0, 22⟩ s m args below meth c H locs 0 0 Q (F0 m 10 ls []) := by
    intro n
    induction n with
    | zero => intro t_token t_start t_after v1 H locs hP hD hS ls hl h; cases (fX2_next_10_z  t_text_bytes t_text_size t_token t_start t_after v1).symm.trans h
    | succ n ih =>
    intro t_token t_start t_after v1 H locs hP hD hS ls hl h
    have h := (fX2_next_10_s  n t_text_bytes t_text_size t_token t_start t_after v1).symm.trans h
    have hG := hGk hS
    refine lv_iload_n hx hb dX2_next_10 rfl (lv_at hl 1 rfl) ?_
    refine lv_sipush (v := 600) hx hb dX2_next_11 (by decide) ?_
    refine lv_icmp_ge (tgt := 48) hx hb dX2_next_14 (by decide) (fun c1 => ?_) (fun c1 => ?_)
    · have h := itp c1 h
      exact w48 t_token t_start t_after _ _ hP hD hS _ (lv_sub hl [0] rfl) h
    · have h := itn c1 h
      refine lv_aload_n hx hb dX2_next_17 rfl (lv_at hl 0 rfl) ?_
      refine xa_get (C := RX2) (T := TX2) (N := 9) cx hG hP 0 rfl rfl uX2 3 (by decide) lf_X2_29 rfl dX2_next_18 ?_
      refine lv_aload_n hx hb dX2_next_21 rfl (lv_at hl 0 rfl) ?_
      refine xa_get (C := RX2) (T := TX2) (N := 9) cx hG hP 0 rfl rfl uX2 5 (by decide) lf_X2_59 rfl dX2_next_22 ?_
      obtain ⟨r2, hr3, h⟩ := bnd h
      refine ro_i (runVN (As := [.int t_start]) (rest := []) hG cx hl.1 (ctX5_classAt l g a_t_text t_text_size t_text_bytes t_start r2 hr3) kmX5_classAt kvX5_classAt nm_10 ⟨rfl, rfl⟩ ⟨Nat.le_of_ble_eq_true rfl, Nat.le_of_ble_eq_true rfl⟩ (roV (q0 := 1) (ci := 4) hG (hP.sub [1, 2] rfl) hP rfl rfl) rfl rfl (Nat.le_of_ble_eq_true rfl) dX2_next_25 ⟨Nat.le_of_ble_eq_true rfl, Nat.le_of_ble_eq_true rfl⟩) ?_
      refine lv_iconst (v := 4) hx hb dX2_next_28 (by decide) ?_
      refine lv_icmp_ne (tgt := 48) hx hb dX2_next_29 (by decide) (fun c4 => ?_) (fun c4 => ?_)
      · have h := itn c4 h
        exact w48 t_token t_start t_after _ _ hP hD hS _ (lv_sub hl [0] rfl) h
      · have h := itp c4 h
        refine lv_aload_n hx hb dX2_next_32 rfl (lv_at hl 0 rfl) ?_
        refine lv_dup hx hb dX2_next_33 rfl ?_
        refine xa_get (C := RX2) (T := TX2) (N := 9) cx hG hP 0 rfl rfl uX2 5 (by decide) lf_X2_59 rfl dX2_next_34 ?_
        refine lv_iconst (v := 1) hx hb dX2_next_37 (by decide) ?_
        refine lv_iadd hx hb dX2_next_38 ?_
        refine xw_put (C := RX2) (T := TX2) (N := 9) (ty := .int) (v := .int (t_start + 1)) (ws' := [((a_t 0), .inr (2, [.ref (a_t_draft 0), .ref (a_t 2), .ref (a_t 3), .ref (a_t_text 0), .int t_token, .int (t_start + 1), .int t_after, .int t_fault, .int t_place])), ((a_t_text 0), .inr (4, [.ref (a_t_text 1), .int t_text_size])), ((a_t_text 1), .inl (g.2.2.1 2, 600, .inl t_text_bytes))]) cx hG hP hD hS 0 rfl rfl uX2 tyX2 tyX2_ok nmX2 5 (by decide) lf_X2_59 rfl (by decide +kernel) rfl rfl (Nat.le_of_ble_eq_true rfl) rfl dX2_next_39 (fun H locs hP hD hS => ?_)
        have hG := hGk hS
        refine lv_iinc (v := v1 + 1) (lv' := [(1, .int (v1 + 1)), (0, .ref ((a_t 0)))]) hx hb dX2_next_42 hl (k := 1) rfl rfl (by decide) rfl (fun ls hl => ?_)
        refine lv_goto (tgt := 10) hx hb dX2_next_45 (by decide) ?_
        exact ih t_token (t_start + 1) t_after (v1 + 1) _ _ hP hD hS _ (lv_sub hl [1, 0] rfl) h
  unfold fX2_next at h
  refine lv_aload_n hx hb dX2_next_0 rfl (lv_at hl 0 rfl) ?_
  refine lv_aload_n hx hb dX2_next_1 rfl (lv_at hl 0 rfl) ?_
  refine xa_get (C := RX2) (T := TX2) (N := 9) cx hG hP 0 rfl rfl uX2 6 (by decide) lf_X2_36 rfl dX2_next_2 ?_
  refine xw_put (C := RX2) (T := TX2) (N := 9) (ty := .int) (v := .int t_after) (ws' := [((a_t 0), .inr (2, [.ref (a_t_draft 0), .ref (a_t 2), .ref (a_t 3), .ref (a_t_text 0), .int t_token, .int t_after, .int t_after, .int t_fault, .int t_place])), ((a_t_text 0), .inr (4, [.ref (a_t_text 1), .int t_text_size])), ((a_t_text 1), .inl (g.2.2.1 2, 600, .inl t_text_bytes))]) cx hG hP hD hS 0 rfl rfl uX2 tyX2 tyX2_ok nmX2 5 (by decide) lf_X2_59 rfl (by decide +kernel) rfl rfl (Nat.le_of_ble_eq_true rfl) rfl dX2_next_5 (fun H locs hP hD hS => ?_)
  have hG := hGk hS
  refine lv_iconst (v := 0) hx hb dX2_next_8 (by decide) ?_
  refine lv_istore_n (lv' := [(1, .int (0)), (0, .ref ((a_t 0)))]) hx hb dX2_next_9 rfl hl (by decide) rfl (fun ls hl => ?_)
  exact w10 FU t_token t_after t_after 0 _ _ hP hD hS _ (lv_sub hl [1, 0] rfl) h
-- X2_spells
theorem dX2_spells_0 : decode cX2_spells 0 = .ok (.aload_n 0, 1) := by decide +kernel
theorem dX2_spells_1 : decode cX2_spells 1 = .ok (.getfield 45, 3) := by decide +kernel
theorem dX2_spells_4 : decode cX2_spells 4 = .ok (.iconst 1, 1) := by decide +kernel
theorem dX2_spells_5 : decode cX2_spells 5 = .ok (.if_icmp .ne 19, 3) := by decide +kernel
theorem dX2_spells_8 : decode cX2_spells 8 = .ok (.aload_n 0, 1) := by decide +kernel
theorem dX2_spells_9 : decode cX2_spells 9 = .ok (.getfield 36, 3) := by decide +kernel
theorem dX2_spells_12 : decode cX2_spells 12 = .ok (.aload_n 0, 1) := by decide +kernel
theorem dX2_spells_13 : decode cX2_spells 13 = .ok (.getfield 59, 3) := by decide +kernel
theorem dX2_spells_16 : decode cX2_spells 16 = .ok (.isub, 1) := by decide +kernel
theorem dX2_spells_17 : decode cX2_spells 17 = .ok (.aload_n 1, 1) := by decide +kernel
theorem dX2_spells_18 : decode cX2_spells 18 = .ok (.invokevirtual 156, 3) := by decide +kernel
theorem dX2_spells_21 : decode cX2_spells 21 = .ok (.if_icmp .eq 5, 3) := by decide +kernel
theorem dX2_spells_24 : decode cX2_spells 24 = .ok (.iconst 0, 1) := by decide +kernel
theorem dX2_spells_25 : decode cX2_spells 25 = .ok (.ireturn, 1) := by decide +kernel
theorem dX2_spells_26 : decode cX2_spells 26 = .ok (.iconst 0, 1) := by decide +kernel
theorem dX2_spells_27 : decode cX2_spells 27 = .ok (.istore_n 2, 1) := by decide +kernel
theorem dX2_spells_28 : decode cX2_spells 28 = .ok (.iload_n 2, 1) := by decide +kernel
theorem dX2_spells_29 : decode cX2_spells 29 = .ok (.aload_n 1, 1) := by decide +kernel
theorem dX2_spells_30 : decode cX2_spells 30 = .ok (.invokevirtual 156, 3) := by decide +kernel
theorem dX2_spells_33 : decode cX2_spells 33 = .ok (.if_icmp .ge 32, 3) := by decide +kernel
theorem dX2_spells_36 : decode cX2_spells 36 = .ok (.aload_n 0, 1) := by decide +kernel
theorem dX2_spells_37 : decode cX2_spells 37 = .ok (.getfield 29, 3) := by decide +kernel
theorem dX2_spells_40 : decode cX2_spells 40 = .ok (.aload_n 0, 1) := by decide +kernel
theorem dX2_spells_41 : decode cX2_spells 41 = .ok (.getfield 59, 3) := by decide +kernel
theorem dX2_spells_44 : decode cX2_spells 44 = .ok (.iload_n 2, 1) := by decide +kernel
theorem dX2_spells_45 : decode cX2_spells 45 = .ok (.iadd, 1) := by decide +kernel
theorem dX2_spells_46 : decode cX2_spells 46 = .ok (.invokevirtual 68, 3) := by decide +kernel
theorem dX2_spells_49 : decode cX2_spells 49 = .ok (.aload_n 1, 1) := by decide +kernel
theorem dX2_spells_50 : decode cX2_spells 50 = .ok (.iload_n 2, 1) := by decide +kernel
theorem dX2_spells_51 : decode cX2_spells 51 = .ok (.invokevirtual 161, 3) := by decide +kernel
theorem dX2_spells_54 : decode cX2_spells 54 = .ok (.if_icmp .eq 5, 3) := by decide +kernel
theorem dX2_spells_57 : decode cX2_spells 57 = .ok (.iconst 0, 1) := by decide +kernel
theorem dX2_spells_58 : decode cX2_spells 58 = .ok (.ireturn, 1) := by decide +kernel
theorem dX2_spells_59 : decode cX2_spells 59 = .ok (.iinc 2 1, 3) := by decide +kernel
theorem dX2_spells_62 : decode cX2_spells 62 = .ok (.goto (-34), 3) := by decide +kernel
theorem dX2_spells_65 : decode cX2_spells 65 = .ok (.iconst 1, 1) := by decide +kernel
theorem dX2_spells_66 : decode cX2_spells 66 = .ok (.ireturn, 1) := by decide +kernel
noncomputable def fX2_spells_28  : Nat → (Nat → Int32) → Int32 → Int32 → Nat → Int32 → Option (Int32)
  | 0, _, _, _, _, _ => none
  | n + 1, t_text_bytes, t_text_size, t_start, v1, v2 => (if (nI (strN.getD v1 0)) ≤ v2 then some (1) else (fX5_at t_text_bytes t_text_size (t_start + v2)).bind fun r4 => chk (strN.getD v1 0) v2 ((if r4 = ((strB.getD v1 []).getD v2.toNatClampNeg 0) then fX2_spells_28 n t_text_bytes t_text_size t_start v1 (v2 + 1) else some (0))))
theorem fX2_spells_28_z  (t_text_bytes : Nat → Int32) (t_text_size : Int32) (t_start : Int32) (v1 : Nat) (v2 : Int32) : fX2_spells_28  0 t_text_bytes t_text_size t_start v1 v2 = none := rfl
theorem fX2_spells_28_s  (n : Nat) (t_text_bytes : Nat → Int32) (t_text_size : Int32) (t_start : Int32) (v1 : Nat) (v2 : Int32) : fX2_spells_28  (n + 1) t_text_bytes t_text_size t_start v1 v2 = (if (nI (strN.getD v1 0)) ≤ v2 then some (1) else (fX5_at t_text_bytes t_text_size (t_start + v2)).bind fun r4 => chk (strN.getD v1 0) v2 ((if r4 = ((strB.getD v1 []).getD v2.toNatClampNeg 0) then fX2_spells_28 n t_text_bytes t_text_size t_start v1 (v2 + 1) else some (0)))) := rfl
noncomputable def fX2_spells  (t_text_bytes : Nat → Int32) (t_text_size : Int32) (t_token : Int32) (t_start : Int32) (t_after : Int32) (v1 : Nat) : Option (Int32) := (if t_token = 1 then (if (t_after - t_start) = (nI (strN.getD v1 0)) then fX2_spells_28 FU t_text_bytes t_text_size t_start v1 0 else some (0)) else some (0))
set_option maxHeartbeats 4000000 in
set_option maxRecDepth 100000 in
theorem ctX2_spells (l : Launch) (g : GT) (a_t : Nat → Nat) (a_t_draft : Nat → Nat) (a_t_text : Nat → Nat) (t_token : Int32) (t_start : Int32) (t_after : Int32) (t_fault : Int32) (t_place : Int32) (t_text_size : Int32) (t_text_bytes : Nat → Int32) (v1 : Nat) (hs_v1 : v1 < 13) (o : Int32) (h : fX2_spells t_text_bytes t_text_size t_token t_start t_after v1 = some o) : Met l yX2_spells (Cond.code yX2_spells cX2_spells 3 (some .boolean) :: Tw) ⟨8, 0, 0, 150⟩ (va_Pc [.ref ((a_t 0)), .ref ((g.2.2.2.2.1 v1))] (roB g [((a_t 0), .inr (2, [.ref (a_t_draft 0), .ref (a_t 2), .ref (a_t 3), .ref (a_t_text 0), .int t_token, .int t_start, .int t_after, .int t_fault, .int t_place])), ((a_t_text 0), .inr (4, [.ref (a_t_text 1), .int t_text_size])), ((a_t_text 1), .inl (g.2.2.1 2, 600, .inl t_text_bytes))])) (vp_Si (fun x => x = o ∧ (x = 0 ∨ x = 1))) 0 0 (fun _ => False) := by
  refine ro_metz (by decide) (Nat.le_of_ble_eq_true rfl) (lv0 := [(0, .ref ((a_t 0))), (1, .ref ((g.2.2.2.2.1 v1)))]) rfl ?_
  intro p e s m args below meth c ls Q cx hret hG hP hl
  have hx := cx.1
  have hb := cx.2.1
  have hG0 := hG
  have w28 : ∀ (n : Nat) (v2 : Int32) (ls : Array Slot), lv_has ls 3 [(0, .ref ((a_t 0))), (1, .ref ((g.2.2.2.2.1 v1))), (2, .int v2)] → fX2_spells_28  n t_text_bytes t_text_size t_start v1 v2 = some o → W p l e ⟨8, 0, 0, 150⟩ s m args below meth c s.heap [] 0 0 Q (F0 m 28 ls []) := by
    intro n
    induction n with
    | zero => intro v2 ls hl h; cases (fX2_spells_28_z  t_text_bytes t_text_size t_start v1 v2).symm.trans h
    | succ n ih =>
    intro v2 ls hl h
    have h := (fX2_spells_28_s  n t_text_bytes t_text_size t_start v1 v2).symm.trans h
    refine lv_iload_n hx hb dX2_spells_28 rfl (lv_at hl 2 rfl) ?_
    refine lv_aload_n hx hb dX2_spells_29 rfl (lv_at hl 1 rfl) ?_
    refine ro_i (runV (As := []) (rest := [.int v2]) cx hl.1 (ctJ0_length_8abf5 l g v1 hs_v1) kmJ0_length_8abf5 kvJ0_length_8abf5 lm_X2_156 ⟨rfl, rfl⟩ ⟨Nat.le_of_ble_eq_true rfl, Nat.le_of_ble_eq_true rfl⟩ (xt_pre hG hs_v1) rfl rfl (Nat.le_of_ble_eq_true rfl) dX2_spells_30 ⟨Nat.le_of_ble_eq_true rfl, Nat.le_of_ble_eq_true rfl⟩) ?_
    refine lv_icmp_ge (tgt := 65) hx hb dX2_spells_33 (by decide) (fun c3 => ?_) (fun c3 => ?_)
    · have h := itp c3 h
      refine lv_iconst (v := 1) hx hb dX2_spells_65 (by decide) ?_
      exact hret _ _ _ dX2_spells_66 (by decide) (Option.some.inj h)
    · have h := itn c3 h
      refine lv_aload_n hx hb dX2_spells_36 rfl (lv_at hl 0 rfl) ?_
      refine xa_get (C := RX2) (T := TX2) (N := 9) cx hG hP 0 rfl rfl uX2 3 (by decide) lf_X2_29 rfl dX2_spells_37 ?_
      refine lv_aload_n hx hb dX2_spells_40 rfl (lv_at hl 0 rfl) ?_
      refine xa_get (C := RX2) (T := TX2) (N := 9) cx hG hP 0 rfl rfl uX2 5 (by decide) lf_X2_59 rfl dX2_spells_41 ?_
      refine lv_iload_n hx hb dX2_spells_44 rfl (lv_at hl 2 rfl) ?_
      refine lv_iadd hx hb dX2_spells_45 ?_
      obtain ⟨r4, hr5, h⟩ := bnd h
      refine ro_i (runVN (As := [.int (t_start + v2)]) (rest := []) hG cx hl.1 (ctX5_at l g a_t_text t_text_size t_text_bytes (t_start + v2) r4 hr5) kmX5_at kvX5_at nm_11 ⟨rfl, rfl⟩ ⟨Nat.le_of_ble_eq_true rfl, Nat.le_of_ble_eq_true rfl⟩ (roV (q0 := 1) (ci := 4) hG (hP.sub [1, 2] rfl) hP rfl rfl) rfl rfl (Nat.le_of_ble_eq_true rfl) dX2_spells_46 ⟨Nat.le_of_ble_eq_true rfl, Nat.le_of_ble_eq_true rfl⟩) ?_
      refine lv_aload_n hx hb dX2_spells_49 rfl (lv_at hl 1 rfl) ?_
      refine lv_iload_n hx hb dX2_spells_50 rfl (lv_at hl 2 rfl) ?_
      obtain ⟨hi6, h⟩ := chk_out h
      refine ro_i (runV (As := [.int v2]) (rest := [.int r4]) cx hl.1 (ctJ0_charAt_5068e l g v1 hs_v1 v2 hi6) kmJ0_charAt_5068e kvJ0_charAt_5068e lm_X2_161 ⟨rfl, rfl⟩ ⟨Nat.le_of_ble_eq_true rfl, Nat.le_of_ble_eq_true rfl⟩ (xt_pre hG hs_v1) rfl rfl (Nat.le_of_ble_eq_true rfl) dX2_spells_51 ⟨Nat.le_of_ble_eq_true rfl, Nat.le_of_ble_eq_true rfl⟩) ?_
      refine lv_icmp_eq (tgt := 59) hx hb dX2_spells_54 (by decide) (fun c7 => ?_) (fun c7 => ?_)
      · have h := itp c7 h
        refine lv_iinc (v := v2 + 1) (lv' := [(2, .int (v2 + 1)), (0, .ref ((a_t 0))), (1, .ref ((g.2.2.2.2.1 v1)))]) hx hb dX2_spells_59 hl (k := 2) rfl rfl (by decide) rfl (fun ls hl => ?_)
        refine lv_goto (tgt := 28) hx hb dX2_spells_62 (by decide) ?_
        exact ih (v2 + 1) _ (lv_sub hl [1, 2, 0] rfl) h
      · have h := itn c7 h
        refine lv_iconst (v := 0) hx hb dX2_spells_57 (by decide) ?_
        exact hret _ _ _ dX2_spells_58 (by decide) (Option.some.inj h)
  unfold fX2_spells at h
  refine lv_aload_n hx hb dX2_spells_0 rfl (lv_at hl 0 rfl) ?_
  refine xa_get (C := RX2) (T := TX2) (N := 9) cx hG hP 0 rfl rfl uX2 4 (by decide) lf_X2_45 rfl dX2_spells_1 ?_
  refine lv_iconst (v := 1) hx hb dX2_spells_4 (by decide) ?_
  refine lv_icmp_ne (tgt := 24) hx hb dX2_spells_5 (by decide) (fun c1 => ?_) (fun c1 => ?_)
  · have h := itn c1 h
    refine lv_iconst (v := 0) hx hb dX2_spells_24 (by decide) ?_
    exact hret _ _ _ dX2_spells_25 (by decide) (Option.some.inj h)
  · have h := itp c1 h
    refine lv_aload_n hx hb dX2_spells_8 rfl (lv_at hl 0 rfl) ?_
    refine xa_get (C := RX2) (T := TX2) (N := 9) cx hG hP 0 rfl rfl uX2 6 (by decide) lf_X2_36 rfl dX2_spells_9 ?_
    refine lv_aload_n hx hb dX2_spells_12 rfl (lv_at hl 0 rfl) ?_
    refine xa_get (C := RX2) (T := TX2) (N := 9) cx hG hP 0 rfl rfl uX2 5 (by decide) lf_X2_59 rfl dX2_spells_13 ?_
    refine lv_isub hx hb dX2_spells_16 ?_
    refine lv_aload_n hx hb dX2_spells_17 rfl (lv_at hl 1 rfl) ?_
    refine ro_i (runV (As := []) (rest := [.int (t_after - t_start)]) cx hl.1 (ctJ0_length_8abf5 l g v1 hs_v1) kmJ0_length_8abf5 kvJ0_length_8abf5 lm_X2_156 ⟨rfl, rfl⟩ ⟨Nat.le_of_ble_eq_true rfl, Nat.le_of_ble_eq_true rfl⟩ (xt_pre hG hs_v1) rfl rfl (Nat.le_of_ble_eq_true rfl) dX2_spells_18 ⟨Nat.le_of_ble_eq_true rfl, Nat.le_of_ble_eq_true rfl⟩) ?_
    refine lv_icmp_eq (tgt := 26) hx hb dX2_spells_21 (by decide) (fun c2 => ?_) (fun c2 => ?_)
    · have h := itp c2 h
      refine lv_iconst (v := 0) hx hb dX2_spells_26 (by decide) ?_
      refine lv_istore_n (lv' := [(2, .int (0)), (0, .ref ((a_t 0))), (1, .ref ((g.2.2.2.2.1 v1)))]) hx hb dX2_spells_27 rfl hl (by decide) rfl (fun ls hl => ?_)
      exact w28 FU 0 _ (lv_sub hl [1, 2, 0] rfl) h
    · have h := itn c2 h
      refine lv_iconst (v := 0) hx hb dX2_spells_24 (by decide) ?_
      exact hret _ _ _ dX2_spells_25 (by decide) (Option.some.inj h)
-- X2_refuse
theorem dX2_refuse_0 : decode cX2_refuse 0 = .ok (.aload_n 0, 1) := by decide +kernel
theorem dX2_refuse_1 : decode cX2_refuse 1 = .ok (.iload_n 1, 1) := by decide +kernel
theorem dX2_refuse_2 : decode cX2_refuse 2 = .ok (.putfield 33, 3) := by decide +kernel
theorem dX2_refuse_5 : decode cX2_refuse 5 = .ok (.aload_n 0, 1) := by decide +kernel
theorem dX2_refuse_6 : decode cX2_refuse 6 = .ok (.aload_n 0, 1) := by decide +kernel
theorem dX2_refuse_7 : decode cX2_refuse 7 = .ok (.getfield 59, 3) := by decide +kernel
theorem dX2_refuse_10 : decode cX2_refuse 10 = .ok (.putfield 25, 3) := by decide +kernel
theorem dX2_refuse_13 : decode cX2_refuse 13 = .ok (.iconst 0, 1) := by decide +kernel
theorem dX2_refuse_14 : decode cX2_refuse 14 = .ok (.ireturn, 1) := by decide +kernel
noncomputable def fX2_refuse  (t_start : Int32) (t_fault : Int32) (t_place : Int32) (v1 : Int32) : Option (Int32 × Int32 × Int32) := some ((0), v1, t_start)
set_option maxHeartbeats 4000000 in
set_option maxRecDepth 100000 in
theorem ctX2_refuse (l : Launch) (g : GT) (sz : Nat) (a_t : Nat → Nat) (a_t_draft : Nat → Nat) (a_t_text : Nat → Nat) (t_token : Int32) (t_start : Int32) (t_after : Int32) (t_fault : Int32) (t_place : Int32) (v1 : Int32) (o : Int32) (o_t_fault : Int32) (o_t_place : Int32) (h : fX2_refuse t_start t_fault t_place v1 = some (o, o_t_fault, o_t_place)) : Met l yX2_refuse (Cond.code yX2_refuse cX2_refuse 2 (some .boolean) :: Tw) ⟨0, 0, 0, 0⟩ (va_Pc [.ref ((a_t 0)), .int v1] (rwB g [((a_t 0), .inr (2, [.ref (a_t_draft 0), .ref (a_t 2), .ref (a_t 3), .ref (a_t_text 0), .int t_token, .int t_start, .int t_after, .int t_fault, .int t_place]))] sz)) (va_Qi (fun x (_ : Nat → Nat) => x = o ∧ (x = 0 ∨ x = 1)) (fun u => rwE g (va_A [((a_t 0), .inr (2, [.ref (a_t_draft 0), .ref (a_t 2), .ref (a_t 3), .ref (a_t_text 0), .int t_token, .int t_start, .int t_after, .int t_fault, .int t_place]))] sz) [((a_t 0), .inr (2, [.ref (a_t_draft 0), .ref (a_t 2), .ref (a_t 3), .ref (a_t_text 0), .int t_token, .int t_start, .int t_after, .int o_t_fault, .int o_t_place]))]) (va_A [((a_t 0), .inr (2, [.ref (a_t_draft 0), .ref (a_t 2), .ref (a_t 3), .ref (a_t_text 0), .int t_token, .int t_start, .int t_after, .int t_fault, .int t_place]))] sz)) 0 0 (va_A [((a_t 0), .inr (2, [.ref (a_t_draft 0), .ref (a_t 2), .ref (a_t 3), .ref (a_t_text 0), .int t_token, .int t_start, .int t_after, .int t_fault, .int t_place]))] sz) := by
  refine rw_metz (by decide) (Nat.le_of_ble_eq_true rfl) (lv0 := [(0, .ref ((a_t 0))), (1, .int v1)]) rfl ?_
  intro p e s m args below meth c ls Q A cx hret hG hAb hb0 hA hP hD hl
  have hx := cx.1
  have hb := cx.2.1
  have hG0 := hG
  have hGk : ∀ {H : Heap} {locs : List Loc}, va_S A s.heap H locs → GE g s H := fun hS => hG0.keptS hAb hS
  have hSb : ∀ {H : Heap} {locs : List Loc}, va_S A s.heap H locs → va_S (fun a => g.1 ≤ a) s.heap H locs := fun hS => ⟨hS.1, fun q h1 h2 => hS.2.1 q h1 (fun z => h2 (hAb q z)), fun l hl => hAb _ (hS.2.2 l hl)⟩
  have hS : va_S A s.heap s.heap [] := va_S.rf
  have hrt : ∀ (u : Nat → Nat) (pc : Nat) (ls : Array Slot) (v : Int32) (x_t_fault : Int32) (x_t_place : Int32) (H : Heap) (locs : List Loc), decode cX2_refuse pc = .ok (.ireturn, 1) → (v = 0 ∨ v = 1) → some (v, x_t_fault, x_t_place) = some (o, o_t_fault, o_t_place) → va_P g.2.1 vwCl [((a_t 0), .inr (2, [.ref (a_t_draft 0), .ref (a_t 2), .ref (a_t 3), .ref (a_t_text 0), .int t_token, .int t_start, .int t_after, .int x_t_fault, .int x_t_place]))] H → va_D A [((a_t 0), .inr (2, [.ref (a_t_draft 0), .ref (a_t 2), .ref (a_t 3), .ref (a_t_text 0), .int t_token, .int t_start, .int t_after, .int x_t_fault, .int x_t_place]))] → va_S A s.heap H locs → W p l e ⟨0, 0, 0, 0⟩ s m args below meth c H locs 0 0 Q (F0 m pc ls [.int v]) := by
    intro u pc ls v x_t_fault x_t_place H locs hd hz h hP hD hS
    cases h
    exact hret u _ _ _ _ _ hd hz rfl hP hD hS
  unfold fX2_refuse at h
  refine lv_aload_n hx hb dX2_refuse_0 rfl (lv_at hl 0 rfl) ?_
  refine lv_iload_n hx hb dX2_refuse_1 rfl (lv_at hl 1 rfl) ?_
  refine xw_put (C := RX2) (T := TX2) (N := 9) (ty := .int) (v := .int v1) (ws' := [((a_t 0), .inr (2, [.ref (a_t_draft 0), .ref (a_t 2), .ref (a_t 3), .ref (a_t_text 0), .int t_token, .int t_start, .int t_after, .int v1, .int t_place]))]) cx hG hP hD hS 0 rfl rfl uX2 tyX2 tyX2_ok nmX2 7 (by decide) lf_X2_33 rfl (by decide +kernel) rfl rfl (Nat.le_of_ble_eq_true rfl) rfl dX2_refuse_2 (fun H locs hP hD hS => ?_)
  have hG := hGk hS
  refine lv_aload_n hx hb dX2_refuse_5 rfl (lv_at hl 0 rfl) ?_
  refine lv_aload_n hx hb dX2_refuse_6 rfl (lv_at hl 0 rfl) ?_
  refine xa_get (C := RX2) (T := TX2) (N := 9) cx hG hP 0 rfl rfl uX2 5 (by decide) lf_X2_59 rfl dX2_refuse_7 ?_
  refine xw_put (C := RX2) (T := TX2) (N := 9) (ty := .int) (v := .int t_start) (ws' := [((a_t 0), .inr (2, [.ref (a_t_draft 0), .ref (a_t 2), .ref (a_t 3), .ref (a_t_text 0), .int t_token, .int t_start, .int t_after, .int v1, .int t_start]))]) cx hG hP hD hS 0 rfl rfl uX2 tyX2 tyX2_ok nmX2 8 (by decide) lf_X2_25 rfl (by decide +kernel) rfl rfl (Nat.le_of_ble_eq_true rfl) rfl dX2_refuse_10 (fun H locs hP hD hS => ?_)
  have hG := hGk hS
  refine lv_iconst (v := 0) hx hb dX2_refuse_13 (by decide) ?_
  exact hrt (fun _ => 0) _ _ ((0)) v1 t_start _ _ dX2_refuse_14 (by decide) h (hP.sub [0] rfl) (hD.sub [0] (by decide) rfl) hS
-- X2_pass
theorem dX2_pass_0 : decode cX2_pass 0 = .ok (.aload_n 0, 1) := by decide +kernel
theorem dX2_pass_1 : decode cX2_pass 1 = .ok (.aload_n 1, 1) := by decide +kernel
theorem dX2_pass_2 : decode cX2_pass 2 = .ok (.invokevirtual 82, 3) := by decide +kernel
theorem dX2_pass_5 : decode cX2_pass 5 = .ok (.ifCond .ne 9, 3) := by decide +kernel
theorem dX2_pass_8 : decode cX2_pass 8 = .ok (.aload_n 0, 1) := by decide +kernel
theorem dX2_pass_9 : decode cX2_pass 9 = .ok (.iconst 1, 1) := by decide +kernel
theorem dX2_pass_10 : decode cX2_pass 10 = .ok (.invokevirtual 94, 3) := by decide +kernel
theorem dX2_pass_13 : decode cX2_pass 13 = .ok (.ireturn, 1) := by decide +kernel
theorem dX2_pass_14 : decode cX2_pass 14 = .ok (.aload_n 0, 1) := by decide +kernel
theorem dX2_pass_15 : decode cX2_pass 15 = .ok (.invokevirtual 42, 3) := by decide +kernel
theorem dX2_pass_18 : decode cX2_pass 18 = .ok (.iconst 1, 1) := by decide +kernel
theorem dX2_pass_19 : decode cX2_pass 19 = .ok (.ireturn, 1) := by decide +kernel
noncomputable def fX2_pass  (t_text_bytes : Nat → Int32) (t_text_size : Int32) (t_token : Int32) (t_start : Int32) (t_after : Int32) (t_fault : Int32) (t_place : Int32) (v1 : Nat) : Option (Int32 × Int32 × Int32 × Int32 × Int32 × Int32) := (fX2_spells t_text_bytes t_text_size t_token t_start t_after v1).bind fun r1 => (if r1 = 0 then ob3 (fX2_refuse t_start t_fault t_place 1) fun r11 w12 w13 => some (r11, t_token, t_start, t_after, w12, w13) else ob3 (fX2_next t_text_bytes t_text_size t_token t_start t_after) fun w6 w7 w8 => some ((1), w6, w7, w8, t_fault, t_place))
set_option maxHeartbeats 4000000 in
set_option maxRecDepth 100000 in
theorem ctX2_pass (l : Launch) (g : GT) (sz : Nat) (a_t : Nat → Nat) (a_t_draft : Nat → Nat) (a_t_text : Nat → Nat) (t_token : Int32) (t_start : Int32) (t_after : Int32) (t_fault : Int32) (t_place : Int32) (t_text_size : Int32) (t_text_bytes : Nat → Int32) (v1 : Nat) (hs_v1 : v1 < 13) (o : Int32) (o_t_token : Int32) (o_t_start : Int32) (o_t_after : Int32) (o_t_fault : Int32) (o_t_place : Int32) (h : fX2_pass t_text_bytes t_text_size t_token t_start t_after t_fault t_place v1 = some (o, o_t_token, o_t_start, o_t_after, o_t_fault, o_t_place)) : Met l yX2_pass (Cond.code yX2_pass cX2_pass 2 (some .boolean) :: Tw) ⟨9, 0, 0, 172⟩ (va_Pc [.ref ((a_t 0)), .ref ((g.2.2.2.2.1 v1))] (rwB g [((a_t 0), .inr (2, [.ref (a_t_draft 0), .ref (a_t 2), .ref (a_t 3), .ref (a_t_text 0), .int t_token, .int t_start, .int t_after, .int t_fault, .int t_place])), ((a_t_text 0), .inr (4, [.ref (a_t_text 1), .int t_text_size])), ((a_t_text 1), .inl (g.2.2.1 2, 600, .inl t_text_bytes))] sz)) (va_Qi (fun x (_ : Nat → Nat) => x = o ∧ (x = 0 ∨ x = 1)) (fun u => rwE g (va_A [((a_t 0), .inr (2, [.ref (a_t_draft 0), .ref (a_t 2), .ref (a_t 3), .ref (a_t_text 0), .int t_token, .int t_start, .int t_after, .int t_fault, .int t_place])), ((a_t_text 0), .inr (4, [.ref (a_t_text 1), .int t_text_size])), ((a_t_text 1), .inl (g.2.2.1 2, 600, .inl t_text_bytes))] sz) [((a_t 0), .inr (2, [.ref (a_t_draft 0), .ref (a_t 2), .ref (a_t 3), .ref (a_t_text 0), .int o_t_token, .int o_t_start, .int o_t_after, .int o_t_fault, .int o_t_place])), ((a_t_text 0), .inr (4, [.ref (a_t_text 1), .int t_text_size])), ((a_t_text 1), .inl (g.2.2.1 2, 600, .inl t_text_bytes))]) (va_A [((a_t 0), .inr (2, [.ref (a_t_draft 0), .ref (a_t 2), .ref (a_t 3), .ref (a_t_text 0), .int t_token, .int t_start, .int t_after, .int t_fault, .int t_place])), ((a_t_text 0), .inr (4, [.ref (a_t_text 1), .int t_text_size])), ((a_t_text 1), .inl (g.2.2.1 2, 600, .inl t_text_bytes))] sz)) 0 0 (va_A [((a_t 0), .inr (2, [.ref (a_t_draft 0), .ref (a_t 2), .ref (a_t 3), .ref (a_t_text 0), .int t_token, .int t_start, .int t_after, .int t_fault, .int t_place])), ((a_t_text 0), .inr (4, [.ref (a_t_text 1), .int t_text_size])), ((a_t_text 1), .inl (g.2.2.1 2, 600, .inl t_text_bytes))] sz) := by
  refine rw_metz (by decide) (Nat.le_of_ble_eq_true rfl) (lv0 := [(0, .ref ((a_t 0))), (1, .ref ((g.2.2.2.2.1 v1)))]) rfl ?_
  intro p e s m args below meth c ls Q A cx hret hG hAb hb0 hA hP hD hl
  have hx := cx.1
  have hb := cx.2.1
  have hG0 := hG
  have hGk : ∀ {H : Heap} {locs : List Loc}, va_S A s.heap H locs → GE g s H := fun hS => hG0.keptS hAb hS
  have hSb : ∀ {H : Heap} {locs : List Loc}, va_S A s.heap H locs → va_S (fun a => g.1 ≤ a) s.heap H locs := fun hS => ⟨hS.1, fun q h1 h2 => hS.2.1 q h1 (fun z => h2 (hAb q z)), fun l hl => hAb _ (hS.2.2 l hl)⟩
  have hS : va_S A s.heap s.heap [] := va_S.rf
  have hrt : ∀ (u : Nat → Nat) (pc : Nat) (ls : Array Slot) (v : Int32) (x_t_token : Int32) (x_t_start : Int32) (x_t_after : Int32) (x_t_fault : Int32) (x_t_place : Int32) (H : Heap) (locs : List Loc), decode cX2_pass pc = .ok (.ireturn, 1) → (v = 0 ∨ v = 1) → some (v, x_t_token, x_t_start, x_t_after, x_t_fault, x_t_place) = some (o, o_t_token, o_t_start, o_t_after, o_t_fault, o_t_place) → va_P g.2.1 vwCl [((a_t 0), .inr (2, [.ref (a_t_draft 0), .ref (a_t 2), .ref (a_t 3), .ref (a_t_text 0), .int x_t_token, .int x_t_start, .int x_t_after, .int x_t_fault, .int x_t_place])), ((a_t_text 0), .inr (4, [.ref (a_t_text 1), .int t_text_size])), ((a_t_text 1), .inl (g.2.2.1 2, 600, .inl t_text_bytes))] H → va_D A [((a_t 0), .inr (2, [.ref (a_t_draft 0), .ref (a_t 2), .ref (a_t 3), .ref (a_t_text 0), .int x_t_token, .int x_t_start, .int x_t_after, .int x_t_fault, .int x_t_place])), ((a_t_text 0), .inr (4, [.ref (a_t_text 1), .int t_text_size])), ((a_t_text 1), .inl (g.2.2.1 2, 600, .inl t_text_bytes))] → va_S A s.heap H locs → W p l e ⟨9, 0, 0, 172⟩ s m args below meth c H locs 0 0 Q (F0 m pc ls [.int v]) := by
    intro u pc ls v x_t_token x_t_start x_t_after x_t_fault x_t_place H locs hd hz h hP hD hS
    cases h
    exact hret u _ _ _ _ _ hd hz rfl hP hD hS
  unfold fX2_pass at h
  refine lv_aload_n hx hb dX2_pass_0 rfl (lv_at hl 0 rfl) ?_
  refine lv_aload_n hx hb dX2_pass_1 rfl (lv_at hl 1 rfl) ?_
  obtain ⟨r1, hr2, h⟩ := bnd h
  refine ro_z (runV (As := [.ref ((g.2.2.2.2.1 v1))]) (rest := []) cx hl.1 (ctX2_spells l g a_t a_t_draft a_t_text t_token t_start t_after t_fault t_place t_text_size t_text_bytes v1 hs_v1 r1 hr2) kmX2_spells kvX2_spells lm_X2_82 ⟨rfl, rfl⟩ ⟨Nat.le_of_ble_eq_true rfl, Nat.le_of_ble_eq_true rfl⟩ (roV (q0 := 0) (ci := 2) hG (hP.sub [0, 1, 2] rfl) hP rfl rfl) rfl rfl (Nat.le_of_ble_eq_true rfl) dX2_pass_2 ⟨Nat.le_of_ble_eq_true rfl, Nat.le_of_ble_eq_true rfl⟩) (fun hz3 => ?_)
  refine lv_if_ne (tgt := 14) hx hb dX2_pass_5 (by decide) (fun c4 => ?_) (fun c4 => ?_)
  · have h := itn c4 h
    refine lv_aload_n hx hb dX2_pass_14 rfl (lv_at hl 0 rfl) ?_
    obtain ⟨w6, w7, w8, hr5, h⟩ := ob3_out h
    refine rw_v (WN := fun u9 => [((a_t 0), .inr (2, [.ref (a_t_draft 0), .ref (a_t 2), .ref (a_t 3), .ref (a_t_text 0), .int w6, .int w7, .int w8, .int t_fault, .int t_place])), ((a_t_text 0), .inr (4, [.ref (a_t_text 1), .int t_text_size])), ((a_t_text 1), .inl (g.2.2.1 2, 600, .inl t_text_bytes))]) (wr := []) (runV (As := []) (rest := []) cx hl.1 (ctX2_next l g s.heap.size a_t a_t_draft a_t_text t_token t_start t_after t_fault t_place t_text_size t_text_bytes w6 w7 w8 hr5) kmX2_next kvX2_next lm_X2_42 ⟨rfl, rfl⟩ ⟨Nat.le_of_ble_eq_true rfl, Nat.le_of_ble_eq_true rfl⟩ (rwV (q0 := 0) (ci := 2) hG (hP.sub [0, 1, 2] rfl) (hD.sub [0, 1, 2] (by decide) rfl) hAb hb0 hS hP rfl rfl) rfl rfl (Nat.le_of_ble_eq_true rfl) dX2_pass_15 ⟨Nat.le_of_ble_eq_true rfl, Nat.le_of_ble_eq_true rfl⟩) hP hD hS hA [0, 1, 2] [] rfl rfl (by decide) (by decide) (fun _ => rfl) (fun u9 H locs hP hD hS => ?_)
    have hG := hGk hS
    refine lv_iconst (v := 1) hx hb dX2_pass_18 (by decide) ?_
    exact hrt (fun _ => 0) _ _ ((1)) w6 w7 w8 t_fault t_place _ _ dX2_pass_19 (by decide) h (hP.sub [0, 1, 2] rfl) (hD.sub [0, 1, 2] (by decide) rfl) hS
  · have h := itp c4 h
    refine lv_aload_n hx hb dX2_pass_8 rfl (lv_at hl 0 rfl) ?_
    refine lv_iconst (v := 1) hx hb dX2_pass_9 (by decide) ?_
    obtain ⟨r11, w12, w13, hr10, h⟩ := ob3_out h
    refine rw_z (WN := fun u14 => [((a_t_text 0), .inr (4, [.ref (a_t_text 1), .int t_text_size])), ((a_t_text 1), .inl (g.2.2.1 2, 600, .inl t_text_bytes)), ((a_t 0), .inr (2, [.ref (a_t_draft 0), .ref (a_t 2), .ref (a_t 3), .ref (a_t_text 0), .int t_token, .int t_start, .int t_after, .int w12, .int w13]))]) (wr := [((a_t_text 0), .inr (4, [.ref (a_t_text 1), .int t_text_size])), ((a_t_text 1), .inl (g.2.2.1 2, 600, .inl t_text_bytes))]) (runV (As := [.int (1)]) (rest := []) cx hl.1 (ctX2_refuse l g s.heap.size a_t a_t_draft a_t_text t_token t_start t_after t_fault t_place (1) r11 w12 w13 hr10) kmX2_refuse kvX2_refuse lm_X2_94 ⟨rfl, rfl⟩ ⟨Nat.le_of_ble_eq_true rfl, Nat.le_of_ble_eq_true rfl⟩ (rwV (q0 := 0) (ci := 2) hG (hP.sub [0] rfl) (hD.sub [0] (by decide) rfl) hAb hb0 hS hP rfl rfl) rfl rfl (Nat.le_of_ble_eq_true rfl) dX2_pass_10 ⟨Nat.le_of_ble_eq_true rfl, Nat.le_of_ble_eq_true rfl⟩) hP hD hS hA [0] [1, 2] rfl rfl (by decide) (by decide) (fun _ => rfl) (fun hz15 u14 H locs hP hD hS => ?_)
    have hG := hGk hS
    exact hrt (fun _ => 0) _ _ r11 t_token t_start t_after w12 w13 _ _ dX2_pass_13 hz15 h (hP.sub [2, 0, 1] rfl) (hD.sub [2, 0, 1] (by decide) rfl) hS
-- X2_tokenValue
theorem dX2_tokenValue_0 : decode cX2_tokenValue 0 = .ok (.iconst 0, 1) := by decide +kernel
theorem dX2_tokenValue_1 : decode cX2_tokenValue 1 = .ok (.istore_n 1, 1) := by decide +kernel
theorem dX2_tokenValue_2 : decode cX2_tokenValue 2 = .ok (.aload_n 0, 1) := by decide +kernel
theorem dX2_tokenValue_3 : decode cX2_tokenValue 3 = .ok (.getfield 59, 3) := by decide +kernel
theorem dX2_tokenValue_6 : decode cX2_tokenValue 6 = .ok (.istore_n 2, 1) := by decide +kernel
theorem dX2_tokenValue_7 : decode cX2_tokenValue 7 = .ok (.iload_n 2, 1) := by decide +kernel
theorem dX2_tokenValue_8 : decode cX2_tokenValue 8 = .ok (.aload_n 0, 1) := by decide +kernel
theorem dX2_tokenValue_9 : decode cX2_tokenValue 9 = .ok (.getfield 36, 3) := by decide +kernel
theorem dX2_tokenValue_12 : decode cX2_tokenValue 12 = .ok (.if_icmp .ge 32, 3) := by decide +kernel
theorem dX2_tokenValue_15 : decode cX2_tokenValue 15 = .ok (.bipush 10, 2) := by decide +kernel
theorem dX2_tokenValue_17 : decode cX2_tokenValue 17 = .ok (.iload_n 1, 1) := by decide +kernel
theorem dX2_tokenValue_18 : decode cX2_tokenValue 18 = .ok (.imul, 1) := by decide +kernel
theorem dX2_tokenValue_19 : decode cX2_tokenValue 19 = .ok (.aload_n 0, 1) := by decide +kernel
theorem dX2_tokenValue_20 : decode cX2_tokenValue 20 = .ok (.getfield 29, 3) := by decide +kernel
theorem dX2_tokenValue_23 : decode cX2_tokenValue 23 = .ok (.iload_n 2, 1) := by decide +kernel
theorem dX2_tokenValue_24 : decode cX2_tokenValue 24 = .ok (.invokevirtual 68, 3) := by decide +kernel
theorem dX2_tokenValue_27 : decode cX2_tokenValue 27 = .ok (.iadd, 1) := by decide +kernel
theorem dX2_tokenValue_28 : decode cX2_tokenValue 28 = .ok (.bipush 48, 2) := by decide +kernel
theorem dX2_tokenValue_30 : decode cX2_tokenValue 30 = .ok (.isub, 1) := by decide +kernel
theorem dX2_tokenValue_31 : decode cX2_tokenValue 31 = .ok (.sipush 1000, 3) := by decide +kernel
theorem dX2_tokenValue_34 : decode cX2_tokenValue 34 = .ok (.invokestatic 71, 3) := by decide +kernel
theorem dX2_tokenValue_37 : decode cX2_tokenValue 37 = .ok (.istore_n 1, 1) := by decide +kernel
theorem dX2_tokenValue_38 : decode cX2_tokenValue 38 = .ok (.iinc 2 1, 3) := by decide +kernel
theorem dX2_tokenValue_41 : decode cX2_tokenValue 41 = .ok (.goto (-34), 3) := by decide +kernel
theorem dX2_tokenValue_44 : decode cX2_tokenValue 44 = .ok (.iload_n 1, 1) := by decide +kernel
theorem dX2_tokenValue_45 : decode cX2_tokenValue 45 = .ok (.ireturn, 1) := by decide +kernel
noncomputable def fX2_tokenValue_7  : Nat → (Nat → Int32) → Int32 → Int32 → Int32 → Int32 → Option (Int32)
  | 0, _, _, _, _, _ => none
  | n + 1, t_text_bytes, t_text_size, t_after, v1, v2 => (if t_after ≤ v2 then some v1 else (fX5_at t_text_bytes t_text_size v2).bind fun r2 => fX2_tokenValue_7 n t_text_bytes t_text_size t_after (imin (((10 * v1) + r2) - 48) 1000) (v2 + 1))
theorem fX2_tokenValue_7_z  (t_text_bytes : Nat → Int32) (t_text_size : Int32) (t_after : Int32) (v1 : Int32) (v2 : Int32) : fX2_tokenValue_7  0 t_text_bytes t_text_size t_after v1 v2 = none := rfl
theorem fX2_tokenValue_7_s  (n : Nat) (t_text_bytes : Nat → Int32) (t_text_size : Int32) (t_after : Int32) (v1 : Int32) (v2 : Int32) : fX2_tokenValue_7  (n + 1) t_text_bytes t_text_size t_after v1 v2 = (if t_after ≤ v2 then some v1 else (fX5_at t_text_bytes t_text_size v2).bind fun r2 => fX2_tokenValue_7 n t_text_bytes t_text_size t_after (imin (((10 * v1) + r2) - 48) 1000) (v2 + 1)) := rfl
noncomputable def fX2_tokenValue  (t_text_bytes : Nat → Int32) (t_text_size : Int32) (t_start : Int32) (t_after : Int32) : Option (Int32) := fX2_tokenValue_7 FU t_text_bytes t_text_size t_after 0 t_start
set_option maxHeartbeats 4000000 in
set_option maxRecDepth 100000 in
theorem ctX2_tokenValue (l : Launch) (g : GT) (a_t : Nat → Nat) (a_t_draft : Nat → Nat) (a_t_text : Nat → Nat) (t_token : Int32) (t_start : Int32) (t_after : Int32) (t_fault : Int32) (t_place : Int32) (t_text_size : Int32) (t_text_bytes : Nat → Int32) (o : Int32) (h : fX2_tokenValue t_text_bytes t_text_size t_start t_after = some o) : Met l yX2_tokenValue (Cond.code yX2_tokenValue cX2_tokenValue 3 (some .int) :: Tw) ⟨1, 0, 0, 26⟩ (va_Pc [.ref ((a_t 0))] (roB g [((a_t 0), .inr (2, [.ref (a_t_draft 0), .ref (a_t 2), .ref (a_t 3), .ref (a_t_text 0), .int t_token, .int t_start, .int t_after, .int t_fault, .int t_place])), ((a_t_text 0), .inr (4, [.ref (a_t_text 1), .int t_text_size])), ((a_t_text 1), .inl (g.2.2.1 2, 600, .inl t_text_bytes))])) (vp_Si (fun x => x = o)) 0 0 (fun _ => False) := by
  refine ro_meti (by decide) (Nat.le_of_ble_eq_true rfl) (lv0 := [(0, .ref ((a_t 0)))]) rfl ?_
  intro p e s m args below meth c ls Q cx hret hG hP hl
  have hx := cx.1
  have hb := cx.2.1
  have hG0 := hG
  have w7 : ∀ (n : Nat) (v1 : Int32) (v2 : Int32) (ls : Array Slot), lv_has ls 3 [(0, .ref ((a_t 0))), (1, .int v1), (2, .int v2)] → fX2_tokenValue_7  n t_text_bytes t_text_size t_after v1 v2 = some o → W p l e ⟨1, 0, 0, 26⟩ s m args below meth c s.heap [] 0 0 Q (F0 m 7 ls []) := by
    intro n
    induction n with
    | zero => intro v1 v2 ls hl h; cases (fX2_tokenValue_7_z  t_text_bytes t_text_size t_after v1 v2).symm.trans h
    | succ n ih =>
    intro v1 v2 ls hl h
    have h := (fX2_tokenValue_7_s  n t_text_bytes t_text_size t_after v1 v2).symm.trans h
    refine lv_iload_n hx hb dX2_tokenValue_7 rfl (lv_at hl 2 rfl) ?_
    refine lv_aload_n hx hb dX2_tokenValue_8 rfl (lv_at hl 0 rfl) ?_
    refine xa_get (C := RX2) (T := TX2) (N := 9) cx hG hP 0 rfl rfl uX2 6 (by decide) lf_X2_36 rfl dX2_tokenValue_9 ?_
    refine lv_icmp_ge (tgt := 44) hx hb dX2_tokenValue_12 (by decide) (fun c1 => ?_) (fun c1 => ?_)
    · have h := itp c1 h
      refine lv_iload_n hx hb dX2_tokenValue_44 rfl (lv_at hl 1 rfl) ?_
      exact hret _ _ _ dX2_tokenValue_45 (Option.some.inj h)
    · have h := itn c1 h
      refine lv_bipush (v := 10) hx hb dX2_tokenValue_15 (by decide) ?_
      refine lv_iload_n hx hb dX2_tokenValue_17 rfl (lv_at hl 1 rfl) ?_
      refine lv_imul hx hb dX2_tokenValue_18 ?_
      refine lv_aload_n hx hb dX2_tokenValue_19 rfl (lv_at hl 0 rfl) ?_
      refine xa_get (C := RX2) (T := TX2) (N := 9) cx hG hP 0 rfl rfl uX2 3 (by decide) lf_X2_29 rfl dX2_tokenValue_20 ?_
      refine lv_iload_n hx hb dX2_tokenValue_23 rfl (lv_at hl 2 rfl) ?_
      obtain ⟨r2, hr3, h⟩ := bnd h
      refine ro_i (runVN (As := [.int v2]) (rest := [.int (10 * v1)]) hG cx hl.1 (ctX5_at l g a_t_text t_text_size t_text_bytes v2 r2 hr3) kmX5_at kvX5_at nm_11 ⟨rfl, rfl⟩ ⟨Nat.le_of_ble_eq_true rfl, Nat.le_of_ble_eq_true rfl⟩ (roV (q0 := 1) (ci := 4) hG (hP.sub [1, 2] rfl) hP rfl rfl) rfl rfl (Nat.le_of_ble_eq_true rfl) dX2_tokenValue_24 ⟨Nat.le_of_ble_eq_true rfl, Nat.le_of_ble_eq_true rfl⟩) ?_
      refine lv_iadd hx hb dX2_tokenValue_27 ?_
      refine lv_bipush (v := 48) hx hb dX2_tokenValue_28 (by decide) ?_
      refine lv_isub hx hb dX2_tokenValue_30 ?_
      refine lv_sipush (v := 1000) hx hb dX2_tokenValue_31 (by decide) ?_
      refine xm_imin cx hl.1 lm_X2_71 ⟨ksJ9_min_7cf53, kmJ9_min_7cf53.2.1, kmJ9_min_7cf53.1⟩ (Nat.le_of_ble_eq_true rfl) (Nat.le_of_ble_eq_true rfl) (Nat.le_of_ble_eq_true rfl) (Nat.le_of_ble_eq_true rfl) dX2_tokenValue_34 ?_
      refine lv_istore_n (lv' := [(1, .int (imin (((10 * v1) + r2) - 48) 1000)), (0, .ref ((a_t 0))), (2, .int v2)]) hx hb dX2_tokenValue_37 rfl hl (by decide) rfl (fun ls hl => ?_)
      refine lv_iinc (v := v2 + 1) (lv' := [(2, .int (v2 + 1)), (1, .int (imin (((10 * v1) + r2) - 48) 1000)), (0, .ref ((a_t 0)))]) hx hb dX2_tokenValue_38 hl (k := 2) rfl rfl (by decide) rfl (fun ls hl => ?_)
      refine lv_goto (tgt := 7) hx hb dX2_tokenValue_41 (by decide) ?_
      exact ih (imin (((10 * v1) + r2) - 48) 1000) (v2 + 1) _ (lv_sub hl [2, 1, 0] rfl) h
  unfold fX2_tokenValue at h
  refine lv_iconst (v := 0) hx hb dX2_tokenValue_0 (by decide) ?_
  refine lv_istore_n (lv' := [(1, .int (0)), (0, .ref ((a_t 0)))]) hx hb dX2_tokenValue_1 rfl hl (by decide) rfl (fun ls hl => ?_)
  refine lv_aload_n hx hb dX2_tokenValue_2 rfl (lv_at hl 1 rfl) ?_
  refine xa_get (C := RX2) (T := TX2) (N := 9) cx hG hP 0 rfl rfl uX2 5 (by decide) lf_X2_59 rfl dX2_tokenValue_3 ?_
  refine lv_istore_n (lv' := [(2, .int t_start), (1, .int (0)), (0, .ref ((a_t 0)))]) hx hb dX2_tokenValue_6 rfl hl (by decide) rfl (fun ls hl => ?_)
  exact w7 FU 0 t_start _ (lv_sub hl [2, 1, 0] rfl) h
-- X2_isNumberIn
theorem dX2_isNumberIn_0 : decode cX2_isNumberIn 0 = .ok (.aload_n 0, 1) := by decide +kernel
theorem dX2_isNumberIn_1 : decode cX2_isNumberIn 1 = .ok (.getfield 45, 3) := by decide +kernel
theorem dX2_isNumberIn_4 : decode cX2_isNumberIn 4 = .ok (.iconst 2, 1) := by decide +kernel
theorem dX2_isNumberIn_5 : decode cX2_isNumberIn 5 = .ok (.if_icmp .eq 9, 3) := by decide +kernel
theorem dX2_isNumberIn_8 : decode cX2_isNumberIn 8 = .ok (.aload_n 0, 1) := by decide +kernel
theorem dX2_isNumberIn_9 : decode cX2_isNumberIn 9 = .ok (.iconst 1, 1) := by decide +kernel
theorem dX2_isNumberIn_10 : decode cX2_isNumberIn 10 = .ok (.invokevirtual 94, 3) := by decide +kernel
theorem dX2_isNumberIn_13 : decode cX2_isNumberIn 13 = .ok (.ireturn, 1) := by decide +kernel
theorem dX2_isNumberIn_14 : decode cX2_isNumberIn 14 = .ok (.aload_n 0, 1) := by decide +kernel
theorem dX2_isNumberIn_15 : decode cX2_isNumberIn 15 = .ok (.invokevirtual 112, 3) := by decide +kernel
theorem dX2_isNumberIn_18 : decode cX2_isNumberIn 18 = .ok (.istore_n 3, 1) := by decide +kernel
theorem dX2_isNumberIn_19 : decode cX2_isNumberIn 19 = .ok (.iload_n 3, 1) := by decide +kernel
theorem dX2_isNumberIn_20 : decode cX2_isNumberIn 20 = .ok (.iload_n 1, 1) := by decide +kernel
theorem dX2_isNumberIn_21 : decode cX2_isNumberIn 21 = .ok (.if_icmp .lt 8, 3) := by decide +kernel
theorem dX2_isNumberIn_24 : decode cX2_isNumberIn 24 = .ok (.iload_n 3, 1) := by decide +kernel
theorem dX2_isNumberIn_25 : decode cX2_isNumberIn 25 = .ok (.iload_n 2, 1) := by decide +kernel
theorem dX2_isNumberIn_26 : decode cX2_isNumberIn 26 = .ok (.if_icmp .le 11, 3) := by decide +kernel
theorem dX2_isNumberIn_29 : decode cX2_isNumberIn 29 = .ok (.aload_n 0, 1) := by decide +kernel
theorem dX2_isNumberIn_30 : decode cX2_isNumberIn 30 = .ok (.iconst 2, 1) := by decide +kernel
theorem dX2_isNumberIn_31 : decode cX2_isNumberIn 31 = .ok (.invokevirtual 94, 3) := by decide +kernel
theorem dX2_isNumberIn_34 : decode cX2_isNumberIn 34 = .ok (.ifCond .eq 7, 3) := by decide +kernel
theorem dX2_isNumberIn_37 : decode cX2_isNumberIn 37 = .ok (.iconst 1, 1) := by decide +kernel
theorem dX2_isNumberIn_38 : decode cX2_isNumberIn 38 = .ok (.goto 4, 3) := by decide +kernel
theorem dX2_isNumberIn_41 : decode cX2_isNumberIn 41 = .ok (.iconst 0, 1) := by decide +kernel
theorem dX2_isNumberIn_42 : decode cX2_isNumberIn 42 = .ok (.ireturn, 1) := by decide +kernel
noncomputable def fX2_isNumberIn_29  (t_start : Int32) (t_fault : Int32) (t_place : Int32) : Option (Int32 × Int32 × Int32) := ob3 (fX2_refuse t_start t_fault t_place 2) fun r13 w14 w15 => (if r13 = 0 then some ((0), w14, w15) else some ((1), w14, w15))
noncomputable def fX2_isNumberIn  (t_text_bytes : Nat → Int32) (t_text_size : Int32) (t_token : Int32) (t_start : Int32) (t_after : Int32) (t_fault : Int32) (t_place : Int32) (v1 : Int32) (v2 : Int32) : Option (Int32 × Int32 × Int32) := (if t_token = 2 then (fX2_tokenValue t_text_bytes t_text_size t_start t_after).bind fun r2 => (if r2 < v1 then fX2_isNumberIn_29 t_start t_fault t_place else (if r2 ≤ v2 then some ((1), t_fault, t_place) else fX2_isNumberIn_29 t_start t_fault t_place)) else ob3 (fX2_refuse t_start t_fault t_place 1) fun r7 w8 w9 => some (r7, w8, w9))
set_option maxHeartbeats 4000000 in
set_option maxRecDepth 100000 in
theorem ctX2_isNumberIn (l : Launch) (g : GT) (sz : Nat) (a_t : Nat → Nat) (a_t_draft : Nat → Nat) (a_t_text : Nat → Nat) (t_token : Int32) (t_start : Int32) (t_after : Int32) (t_fault : Int32) (t_place : Int32) (t_text_size : Int32) (t_text_bytes : Nat → Int32) (v1 : Int32) (v2 : Int32) (o : Int32) (o_t_fault : Int32) (o_t_place : Int32) (h : fX2_isNumberIn t_text_bytes t_text_size t_token t_start t_after t_fault t_place v1 v2 = some (o, o_t_fault, o_t_place)) : Met l yX2_isNumberIn (Cond.code yX2_isNumberIn cX2_isNumberIn 4 (some .boolean) :: Tw) ⟨2, 0, 0, 48⟩ (va_Pc [.ref ((a_t 0)), .int v1, .int v2] (rwB g [((a_t 0), .inr (2, [.ref (a_t_draft 0), .ref (a_t 2), .ref (a_t 3), .ref (a_t_text 0), .int t_token, .int t_start, .int t_after, .int t_fault, .int t_place])), ((a_t_text 0), .inr (4, [.ref (a_t_text 1), .int t_text_size])), ((a_t_text 1), .inl (g.2.2.1 2, 600, .inl t_text_bytes))] sz)) (va_Qi (fun x (_ : Nat → Nat) => x = o ∧ (x = 0 ∨ x = 1)) (fun u => rwE g (va_A [((a_t 0), .inr (2, [.ref (a_t_draft 0), .ref (a_t 2), .ref (a_t 3), .ref (a_t_text 0), .int t_token, .int t_start, .int t_after, .int t_fault, .int t_place])), ((a_t_text 0), .inr (4, [.ref (a_t_text 1), .int t_text_size])), ((a_t_text 1), .inl (g.2.2.1 2, 600, .inl t_text_bytes))] sz) [((a_t 0), .inr (2, [.ref (a_t_draft 0), .ref (a_t 2), .ref (a_t 3), .ref (a_t_text 0), .int t_token, .int t_start, .int t_after, .int o_t_fault, .int o_t_place])), ((a_t_text 0), .inr (4, [.ref (a_t_text 1), .int t_text_size])), ((a_t_text 1), .inl (g.2.2.1 2, 600, .inl t_text_bytes))]) (va_A [((a_t 0), .inr (2, [.ref (a_t_draft 0), .ref (a_t 2), .ref (a_t 3), .ref (a_t_text 0), .int t_token, .int t_start, .int t_after, .int t_fault, .int t_place])), ((a_t_text 0), .inr (4, [.ref (a_t_text 1), .int t_text_size])), ((a_t_text 1), .inl (g.2.2.1 2, 600, .inl t_text_bytes))] sz)) 0 0 (va_A [((a_t 0), .inr (2, [.ref (a_t_draft 0), .ref (a_t 2), .ref (a_t 3), .ref (a_t_text 0), .int t_token, .int t_start, .int t_after, .int t_fault, .int t_place])), ((a_t_text 0), .inr (4, [.ref (a_t_text 1), .int t_text_size])), ((a_t_text 1), .inl (g.2.2.1 2, 600, .inl t_text_bytes))] sz) := by
  refine rw_metz (by decide) (Nat.le_of_ble_eq_true rfl) (lv0 := [(0, .ref ((a_t 0))), (1, .int v1), (2, .int v2)]) rfl ?_
  intro p e s m args below meth c ls Q A cx hret hG hAb hb0 hA hP hD hl
  have hx := cx.1
  have hb := cx.2.1
  have hG0 := hG
  have hGk : ∀ {H : Heap} {locs : List Loc}, va_S A s.heap H locs → GE g s H := fun hS => hG0.keptS hAb hS
  have hSb : ∀ {H : Heap} {locs : List Loc}, va_S A s.heap H locs → va_S (fun a => g.1 ≤ a) s.heap H locs := fun hS => ⟨hS.1, fun q h1 h2 => hS.2.1 q h1 (fun z => h2 (hAb q z)), fun l hl => hAb _ (hS.2.2 l hl)⟩
  have hS : va_S A s.heap s.heap [] := va_S.rf
  have hrt : ∀ (u : Nat → Nat) (pc : Nat) (ls : Array Slot) (v : Int32) (x_t_fault : Int32) (x_t_place : Int32) (H : Heap) (locs : List Loc), decode cX2_isNumberIn pc = .ok (.ireturn, 1) → (v = 0 ∨ v = 1) → some (v, x_t_fault, x_t_place) = some (o, o_t_fault, o_t_place) → va_P g.2.1 vwCl [((a_t 0), .inr (2, [.ref (a_t_draft 0), .ref (a_t 2), .ref (a_t 3), .ref (a_t_text 0), .int t_token, .int t_start, .int t_after, .int x_t_fault, .int x_t_place])), ((a_t_text 0), .inr (4, [.ref (a_t_text 1), .int t_text_size])), ((a_t_text 1), .inl (g.2.2.1 2, 600, .inl t_text_bytes))] H → va_D A [((a_t 0), .inr (2, [.ref (a_t_draft 0), .ref (a_t 2), .ref (a_t 3), .ref (a_t_text 0), .int t_token, .int t_start, .int t_after, .int x_t_fault, .int x_t_place])), ((a_t_text 0), .inr (4, [.ref (a_t_text 1), .int t_text_size])), ((a_t_text 1), .inl (g.2.2.1 2, 600, .inl t_text_bytes))] → va_S A s.heap H locs → W p l e ⟨2, 0, 0, 48⟩ s m args below meth c H locs 0 0 Q (F0 m pc ls [.int v]) := by
    intro u pc ls v x_t_fault x_t_place H locs hd hz h hP hD hS
    cases h
    exact hret u _ _ _ _ _ hd hz rfl hP hD hS
  have w29 : ∀ (t_fault : Int32) (t_place : Int32) (H : Heap) (locs : List Loc), va_P g.2.1 vwCl [((a_t 0), .inr (2, [.ref (a_t_draft 0), .ref (a_t 2), .ref (a_t 3), .ref (a_t_text 0), .int t_token, .int t_start, .int t_after, .int t_fault, .int t_place])), ((a_t_text 0), .inr (4, [.ref (a_t_text 1), .int t_text_size])), ((a_t_text 1), .inl (g.2.2.1 2, 600, .inl t_text_bytes))] H → va_D A [((a_t 0), .inr (2, [.ref (a_t_draft 0), .ref (a_t 2), .ref (a_t 3), .ref (a_t_text 0), .int t_token, .int t_start, .int t_after, .int t_fault, .int t_place])), ((a_t_text 0), .inr (4, [.ref (a_t_text 1), .int t_text_size])), ((a_t_text 1), .inl (g.2.2.1 2, 600, .inl t_text_bytes))] → va_S A s.heap H locs → ∀ (ls : Array Slot), lv_has ls 4 [(0, .ref ((a_t 0)))] → fX2_isNumberIn_29  t_start t_fault t_place = some (o, o_t_fault, o_t_place) → W p l e ⟨2, 0, 0, 48⟩ s m args below meth c H locs 0 0 Q (F0 m 29 ls []) := by
    intro t_fault t_place H locs hP hD hS ls hl h
    unfold fX2_isNumberIn_29 at h
    have hG := hGk hS
    refine lv_aload_n hx hb dX2_isNumberIn_29 rfl (lv_at hl 0 rfl) ?_
    refine lv_iconst (v := 2) hx hb dX2_isNumberIn_30 (by decide) ?_
    obtain ⟨r13, w14, w15, hr12, h⟩ := ob3_out h
    refine rw_z (WN := fun u16 => [((a_t_text 0), .inr (4, [.ref (a_t_text 1), .int t_text_size])), ((a_t_text 1), .inl (g.2.2.1 2, 600, .inl t_text_bytes)), ((a_t 0), .inr (2, [.ref (a_t_draft 0), .ref (a_t 2), .ref (a_t 3), .ref (a_t_text 0), .int t_token, .int t_start, .int t_after, .int w14, .int w15]))]) (wr := [((a_t_text 0), .inr (4, [.ref (a_t_text 1), .int t_text_size])), ((a_t_text 1), .inl (g.2.2.1 2, 600, .inl t_text_bytes))]) (runV (As := [.int (2)]) (rest := []) cx hl.1 (ctX2_refuse l g H.size a_t a_t_draft a_t_text t_token t_start t_after t_fault t_place (2) r13 w14 w15 hr12) kmX2_refuse kvX2_refuse lm_X2_94 ⟨rfl, rfl⟩ ⟨Nat.le_of_ble_eq_true rfl, Nat.le_of_ble_eq_true rfl⟩ (rwV (q0 := 0) (ci := 2) hG (hP.sub [0] rfl) (hD.sub [0] (by decide) rfl) hAb hb0 hS hP rfl rfl) rfl rfl (Nat.le_of_ble_eq_true rfl) dX2_isNumberIn_31 ⟨Nat.le_of_ble_eq_true rfl, Nat.le_of_ble_eq_true rfl⟩) hP hD hS hA [0] [1, 2] rfl rfl (by decide) (by decide) (fun _ => rfl) (fun hz17 u16 H locs hP hD hS => ?_)
    have hG := hGk hS
    refine lv_if_eq (tgt := 41) hx hb dX2_isNumberIn_34 (by decide) (fun c18 => ?_) (fun c18 => ?_)
    · have h := itp c18 h
      refine lv_iconst (v := 0) hx hb dX2_isNumberIn_41 (by decide) ?_
      exact hrt (fun _ => 0) _ _ ((0)) w14 w15 _ _ dX2_isNumberIn_42 (by decide) h (hP.sub [2, 0, 1] rfl) (hD.sub [2, 0, 1] (by decide) rfl) hS
    · have h := itn c18 h
      refine lv_iconst (v := 1) hx hb dX2_isNumberIn_37 (by decide) ?_
      refine lv_goto (tgt := 42) hx hb dX2_isNumberIn_38 (by decide) ?_
      exact hrt (fun _ => 0) _ _ ((1)) w14 w15 _ _ dX2_isNumberIn_42 (by decide) h (hP.sub [2, 0, 1] rfl) (hD.sub [2, 0, 1] (by decide) rfl) hS
  unfold fX2_isNumberIn at h
  refine lv_aload_n hx hb dX2_isNumberIn_0 rfl (lv_at hl 0 rfl) ?_
  refine xa_get (C := RX2) (T := TX2) (N := 9) cx hG hP 0 rfl rfl uX2 4 (by decide) lf_X2_45 rfl dX2_isNumberIn_1 ?_
  refine lv_iconst (v := 2) hx hb dX2_isNumberIn_4 (by decide) ?_
  refine lv_icmp_eq (tgt := 14) hx hb dX2_isNumberIn_5 (by decide) (fun c1 => ?_) (fun c1 => ?_)
  · have h := itp c1 h
    refine lv_aload_n hx hb dX2_isNumberIn_14 rfl (lv_at hl 0 rfl) ?_
    obtain ⟨r2, hr3, h⟩ := bnd h
    refine ro_i (runV (As := []) (rest := []) cx hl.1 (ctX2_tokenValue l g a_t a_t_draft a_t_text t_token t_start t_after t_fault t_place t_text_size t_text_bytes r2 hr3) kmX2_tokenValue kvX2_tokenValue lm_X2_112 ⟨rfl, rfl⟩ ⟨Nat.le_of_ble_eq_true rfl, Nat.le_of_ble_eq_true rfl⟩ (roV (q0 := 0) (ci := 2) hG (hP.sub [0, 1, 2] rfl) hP rfl rfl) rfl rfl (Nat.le_of_ble_eq_true rfl) dX2_isNumberIn_15 ⟨Nat.le_of_ble_eq_true rfl, Nat.le_of_ble_eq_true rfl⟩) ?_
    refine lv_istore_n (lv' := [(3, .int r2), (0, .ref ((a_t 0))), (1, .int v1), (2, .int v2)]) hx hb dX2_isNumberIn_18 rfl hl (by decide) rfl (fun ls hl => ?_)
    refine lv_iload_n hx hb dX2_isNumberIn_19 rfl (lv_at hl 0 rfl) ?_
    refine lv_iload_n hx hb dX2_isNumberIn_20 rfl (lv_at hl 2 rfl) ?_
    refine lv_icmp_lt (tgt := 29) hx hb dX2_isNumberIn_21 (by decide) (fun c4 => ?_) (fun c4 => ?_)
    · have h := itp c4 h
      exact w29 t_fault t_place _ _ hP hD hS _ (lv_sub hl [1] rfl) h
    · have h := itn c4 h
      refine lv_iload_n hx hb dX2_isNumberIn_24 rfl (lv_at hl 0 rfl) ?_
      refine lv_iload_n hx hb dX2_isNumberIn_25 rfl (lv_at hl 3 rfl) ?_
      refine lv_icmp_le (tgt := 37) hx hb dX2_isNumberIn_26 (by decide) (fun c5 => ?_) (fun c5 => ?_)
      · have h := itp c5 h
        refine lv_iconst (v := 1) hx hb dX2_isNumberIn_37 (by decide) ?_
        refine lv_goto (tgt := 42) hx hb dX2_isNumberIn_38 (by decide) ?_
        exact hrt (fun _ => 0) _ _ ((1)) t_fault t_place _ _ dX2_isNumberIn_42 (by decide) h (hP.sub [0, 1, 2] rfl) (hD.sub [0, 1, 2] (by decide) rfl) hS
      · have h := itn c5 h
        exact w29 t_fault t_place _ _ hP hD hS _ (lv_sub hl [1] rfl) h
  · have h := itn c1 h
    refine lv_aload_n hx hb dX2_isNumberIn_8 rfl (lv_at hl 0 rfl) ?_
    refine lv_iconst (v := 1) hx hb dX2_isNumberIn_9 (by decide) ?_
    obtain ⟨r7, w8, w9, hr6, h⟩ := ob3_out h
    refine rw_z (WN := fun u10 => [((a_t_text 0), .inr (4, [.ref (a_t_text 1), .int t_text_size])), ((a_t_text 1), .inl (g.2.2.1 2, 600, .inl t_text_bytes)), ((a_t 0), .inr (2, [.ref (a_t_draft 0), .ref (a_t 2), .ref (a_t 3), .ref (a_t_text 0), .int t_token, .int t_start, .int t_after, .int w8, .int w9]))]) (wr := [((a_t_text 0), .inr (4, [.ref (a_t_text 1), .int t_text_size])), ((a_t_text 1), .inl (g.2.2.1 2, 600, .inl t_text_bytes))]) (runV (As := [.int (1)]) (rest := []) cx hl.1 (ctX2_refuse l g s.heap.size a_t a_t_draft a_t_text t_token t_start t_after t_fault t_place (1) r7 w8 w9 hr6) kmX2_refuse kvX2_refuse lm_X2_94 ⟨rfl, rfl⟩ ⟨Nat.le_of_ble_eq_true rfl, Nat.le_of_ble_eq_true rfl⟩ (rwV (q0 := 0) (ci := 2) hG (hP.sub [0] rfl) (hD.sub [0] (by decide) rfl) hAb hb0 hS hP rfl rfl) rfl rfl (Nat.le_of_ble_eq_true rfl) dX2_isNumberIn_10 ⟨Nat.le_of_ble_eq_true rfl, Nat.le_of_ble_eq_true rfl⟩) hP hD hS hA [0] [1, 2] rfl rfl (by decide) (by decide) (fun _ => rfl) (fun hz11 u10 H locs hP hD hS => ?_)
    have hG := hGk hS
    exact hrt (fun _ => 0) _ _ r7 w8 w9 _ _ dX2_isNumberIn_13 hz11 h (hP.sub [2, 0, 1] rfl) (hD.sub [2, 0, 1] (by decide) rfl) hS
-- X2_readPlate
theorem dX2_readPlate_0 : decode cX2_readPlate 0 = .ok (.aload_n 0, 1) := by decide +kernel
theorem dX2_readPlate_1 : decode cX2_readPlate 1 = .ok (.ldc 98, 2) := by decide +kernel
theorem dX2_readPlate_3 : decode cX2_readPlate 3 = .ok (.invokevirtual 100, 3) := by decide +kernel
theorem dX2_readPlate_6 : decode cX2_readPlate 6 = .ok (.ifCond .eq 22, 3) := by decide +kernel
theorem dX2_readPlate_9 : decode cX2_readPlate 9 = .ok (.aload_n 0, 1) := by decide +kernel
theorem dX2_readPlate_10 : decode cX2_readPlate 10 = .ok (.ldc 103, 2) := by decide +kernel
theorem dX2_readPlate_12 : decode cX2_readPlate 12 = .ok (.invokevirtual 100, 3) := by decide +kernel
theorem dX2_readPlate_15 : decode cX2_readPlate 15 = .ok (.ifCond .eq 13, 3) := by decide +kernel
theorem dX2_readPlate_18 : decode cX2_readPlate 18 = .ok (.aload_n 0, 1) := by decide +kernel
theorem dX2_readPlate_19 : decode cX2_readPlate 19 = .ok (.iconst 1, 1) := by decide +kernel
theorem dX2_readPlate_20 : decode cX2_readPlate 20 = .ok (.bipush 8, 2) := by decide +kernel
theorem dX2_readPlate_22 : decode cX2_readPlate 22 = .ok (.invokevirtual 105, 3) := by decide +kernel
theorem dX2_readPlate_25 : decode cX2_readPlate 25 = .ok (.ifCond .ne 5, 3) := by decide +kernel
theorem dX2_readPlate_28 : decode cX2_readPlate 28 = .ok (.iconst 0, 1) := by decide +kernel
theorem dX2_readPlate_29 : decode cX2_readPlate 29 = .ok (.ireturn, 1) := by decide +kernel
theorem dX2_readPlate_30 : decode cX2_readPlate 30 = .ok (.aload_n 0, 1) := by decide +kernel
theorem dX2_readPlate_31 : decode cX2_readPlate 31 = .ok (.getfield 12, 3) := by decide +kernel
theorem dX2_readPlate_34 : decode cX2_readPlate 34 = .ok (.getfield 109, 3) := by decide +kernel
theorem dX2_readPlate_37 : decode cX2_readPlate 37 = .ok (.iconst 0, 1) := by decide +kernel
theorem dX2_readPlate_38 : decode cX2_readPlate 38 = .ok (.aload_n 0, 1) := by decide +kernel
theorem dX2_readPlate_39 : decode cX2_readPlate 39 = .ok (.invokevirtual 112, 3) := by decide +kernel
theorem dX2_readPlate_42 : decode cX2_readPlate 42 = .ok (.iastore, 1) := by decide +kernel
theorem dX2_readPlate_43 : decode cX2_readPlate 43 = .ok (.aload_n 0, 1) := by decide +kernel
theorem dX2_readPlate_44 : decode cX2_readPlate 44 = .ok (.invokevirtual 42, 3) := by decide +kernel
theorem dX2_readPlate_47 : decode cX2_readPlate 47 = .ok (.iconst 1, 1) := by decide +kernel
theorem dX2_readPlate_48 : decode cX2_readPlate 48 = .ok (.ireturn, 1) := by decide +kernel
noncomputable def fX2_readPlate  (t_draft_rooms : Nat → Int32) (t_text_bytes : Nat → Int32) (t_text_size : Int32) (t_token : Int32) (t_start : Int32) (t_after : Int32) (t_fault : Int32) (t_place : Int32) : Option (Int32 × (Nat → Int32) × Int32 × Int32 × Int32 × Int32 × Int32) := ob6 (fX2_pass t_text_bytes t_text_size t_token t_start t_after t_fault t_place 0) fun r2 w3 w4 w5 w6 w7 => (if r2 = 0 then some ((0), t_draft_rooms, w3, w4, w5, w6, w7) else ob6 (fX2_pass t_text_bytes t_text_size w3 w4 w5 w6 w7 1) fun r12 w13 w14 w15 w16 w17 => (if r12 = 0 then some ((0), t_draft_rooms, w13, w14, w15, w16, w17) else ob3 (fX2_isNumberIn t_text_bytes t_text_size w13 w14 w15 w16 w17 1 8) fun r22 w23 w24 => (if r22 = 0 then some ((0), t_draft_rooms, w13, w14, w15, w23, w24) else (fX2_tokenValue t_text_bytes t_text_size w14 w15).bind fun r28 => ob3 (fX2_next t_text_bytes t_text_size w13 w14 w15) fun w31 w32 w33 => some ((1), upd t_draft_rooms 0 r28, w31, w32, w33, w23, w24))))
set_option maxHeartbeats 4000000 in
set_option maxRecDepth 100000 in
theorem ctX2_readPlate (l : Launch) (g : GT) (sz : Nat) (a_t : Nat → Nat) (a_t_draft : Nat → Nat) (a_t_text : Nat → Nat) (t_token : Int32) (t_start : Int32) (t_after : Int32) (t_fault : Int32) (t_place : Int32) (t_draft_told : Int32) (t_draft_lines : Int32) (t_draft_kinds : Int32) (t_draft_acts : Int32) (t_draft_rooms : Nat → Int32) (t_text_size : Int32) (t_text_bytes : Nat → Int32) (o : Int32) (o_t_draft_rooms : Nat → Int32) (o_t_token : Int32) (o_t_start : Int32) (o_t_after : Int32) (o_t_fault : Int32) (o_t_place : Int32) (h : fX2_readPlate t_draft_rooms t_text_bytes t_text_size t_token t_start t_after t_fault t_place = some (o, o_t_draft_rooms, o_t_token, o_t_start, o_t_after, o_t_fault, o_t_place)) : Met l yX2_readPlate (Cond.code yX2_readPlate cX2_readPlate 1 (some .boolean) :: Tw) ⟨10, 0, 0, 193⟩ (va_Pc [.ref ((a_t 0))] (rwB g [((a_t 0), .inr (2, [.ref (a_t_draft 0), .ref (a_t 2), .ref (a_t 3), .ref (a_t_text 0), .int t_token, .int t_start, .int t_after, .int t_fault, .int t_place])), ((a_t_draft 0), .inr (1, [.ref (a_t_draft 1), .ref (a_t_draft 2), .ref (a_t_draft 3), .ref (a_t_draft 4), .ref (a_t_draft 5), .int t_draft_told, .int t_draft_lines, .int t_draft_kinds, .int t_draft_acts])), ((a_t_draft 5), .inl (g.2.2.1 0, 31, .inl t_draft_rooms)), ((a_t_text 0), .inr (4, [.ref (a_t_text 1), .int t_text_size])), ((a_t_text 1), .inl (g.2.2.1 2, 600, .inl t_text_bytes))] sz)) (va_Qi (fun x (_ : Nat → Nat) => x = o ∧ (x = 0 ∨ x = 1)) (fun u => rwE g (va_A [((a_t 0), .inr (2, [.ref (a_t_draft 0), .ref (a_t 2), .ref (a_t 3), .ref (a_t_text 0), .int t_token, .int t_start, .int t_after, .int t_fault, .int t_place])), ((a_t_draft 0), .inr (1, [.ref (a_t_draft 1), .ref (a_t_draft 2), .ref (a_t_draft 3), .ref (a_t_draft 4), .ref (a_t_draft 5), .int t_draft_told, .int t_draft_lines, .int t_draft_kinds, .int t_draft_acts])), ((a_t_draft 5), .inl (g.2.2.1 0, 31, .inl t_draft_rooms)), ((a_t_text 0), .inr (4, [.ref (a_t_text 1), .int t_text_size])), ((a_t_text 1), .inl (g.2.2.1 2, 600, .inl t_text_bytes))] sz) [((a_t 0), .inr (2, [.ref (a_t_draft 0), .ref (a_t 2), .ref (a_t 3), .ref (a_t_text 0), .int o_t_token, .int o_t_start, .int o_t_after, .int o_t_fault, .int o_t_place])), ((a_t_draft 0), .inr (1, [.ref (a_t_draft 1), .ref (a_t_draft 2), .ref (a_t_draft 3), .ref (a_t_draft 4), .ref (a_t_draft 5), .int t_draft_told, .int t_draft_lines, .int t_draft_kinds, .int t_draft_acts])), ((a_t_draft 5), .inl (g.2.2.1 0, 31, .inl o_t_draft_rooms)), ((a_t_text 0), .inr (4, [.ref (a_t_text 1), .int t_text_size])), ((a_t_text 1), .inl (g.2.2.1 2, 600, .inl t_text_bytes))]) (va_A [((a_t 0), .inr (2, [.ref (a_t_draft 0), .ref (a_t 2), .ref (a_t 3), .ref (a_t_text 0), .int t_token, .int t_start, .int t_after, .int t_fault, .int t_place])), ((a_t_draft 0), .inr (1, [.ref (a_t_draft 1), .ref (a_t_draft 2), .ref (a_t_draft 3), .ref (a_t_draft 4), .ref (a_t_draft 5), .int t_draft_told, .int t_draft_lines, .int t_draft_kinds, .int t_draft_acts])), ((a_t_draft 5), .inl (g.2.2.1 0, 31, .inl t_draft_rooms)), ((a_t_text 0), .inr (4, [.ref (a_t_text 1), .int t_text_size])), ((a_t_text 1), .inl (g.2.2.1 2, 600, .inl t_text_bytes))] sz)) 0 0 (va_A [((a_t 0), .inr (2, [.ref (a_t_draft 0), .ref (a_t 2), .ref (a_t 3), .ref (a_t_text 0), .int t_token, .int t_start, .int t_after, .int t_fault, .int t_place])), ((a_t_draft 0), .inr (1, [.ref (a_t_draft 1), .ref (a_t_draft 2), .ref (a_t_draft 3), .ref (a_t_draft 4), .ref (a_t_draft 5), .int t_draft_told, .int t_draft_lines, .int t_draft_kinds, .int t_draft_acts])), ((a_t_draft 5), .inl (g.2.2.1 0, 31, .inl t_draft_rooms)), ((a_t_text 0), .inr (4, [.ref (a_t_text 1), .int t_text_size])), ((a_t_text 1), .inl (g.2.2.1 2, 600, .inl t_text_bytes))] sz) := by
  refine rw_metz (by decide) (Nat.le_of_ble_eq_true rfl) (lv0 := [(0, .ref ((a_t 0)))]) rfl ?_
  intro p e s m args below meth c ls Q A cx hret hG hAb hb0 hA hP hD hl
  have hx := cx.1
  have hb := cx.2.1
  have hG0 := hG
  have hGk : ∀ {H : Heap} {locs : List Loc}, va_S A s.heap H locs → GE g s H := fun hS => hG0.keptS hAb hS
  have hSb : ∀ {H : Heap} {locs : List Loc}, va_S A s.heap H locs → va_S (fun a => g.1 ≤ a) s.heap H locs := fun hS => ⟨hS.1, fun q h1 h2 => hS.2.1 q h1 (fun z => h2 (hAb q z)), fun l hl => hAb _ (hS.2.2 l hl)⟩
  have hS : va_S A s.heap s.heap [] := va_S.rf
  have hrt : ∀ (u : Nat → Nat) (pc : Nat) (ls : Array Slot) (v : Int32) (x_t_draft_rooms : Nat → Int32) (x_t_token : Int32) (x_t_start : Int32) (x_t_after : Int32) (x_t_fault : Int32) (x_t_place : Int32) (H : Heap) (locs : List Loc), decode cX2_readPlate pc = .ok (.ireturn, 1) → (v = 0 ∨ v = 1) → some (v, x_t_draft_rooms, x_t_token, x_t_start, x_t_after, x_t_fault, x_t_place) = some (o, o_t_draft_rooms, o_t_token, o_t_start, o_t_after, o_t_fault, o_t_place) → va_P g.2.1 vwCl [((a_t 0), .inr (2, [.ref (a_t_draft 0), .ref (a_t 2), .ref (a_t 3), .ref (a_t_text 0), .int x_t_token, .int x_t_start, .int x_t_after, .int x_t_fault, .int x_t_place])), ((a_t_draft 0), .inr (1, [.ref (a_t_draft 1), .ref (a_t_draft 2), .ref (a_t_draft 3), .ref (a_t_draft 4), .ref (a_t_draft 5), .int t_draft_told, .int t_draft_lines, .int t_draft_kinds, .int t_draft_acts])), ((a_t_draft 5), .inl (g.2.2.1 0, 31, .inl x_t_draft_rooms)), ((a_t_text 0), .inr (4, [.ref (a_t_text 1), .int t_text_size])), ((a_t_text 1), .inl (g.2.2.1 2, 600, .inl t_text_bytes))] H → va_D A [((a_t 0), .inr (2, [.ref (a_t_draft 0), .ref (a_t 2), .ref (a_t 3), .ref (a_t_text 0), .int x_t_token, .int x_t_start, .int x_t_after, .int x_t_fault, .int x_t_place])), ((a_t_draft 0), .inr (1, [.ref (a_t_draft 1), .ref (a_t_draft 2), .ref (a_t_draft 3), .ref (a_t_draft 4), .ref (a_t_draft 5), .int t_draft_told, .int t_draft_lines, .int t_draft_kinds, .int t_draft_acts])), ((a_t_draft 5), .inl (g.2.2.1 0, 31, .inl x_t_draft_rooms)), ((a_t_text 0), .inr (4, [.ref (a_t_text 1), .int t_text_size])), ((a_t_text 1), .inl (g.2.2.1 2, 600, .inl t_text_bytes))] → va_S A s.heap H locs → W p l e ⟨10, 0, 0, 193⟩ s m args below meth c H locs 0 0 Q (F0 m pc ls [.int v]) := by
    intro u pc ls v x_t_draft_rooms x_t_token x_t_start x_t_after x_t_fault x_t_place H locs hd hz h hP hD hS
    cases h
    exact hret u _ _ _ _ _ hd hz rfl hP hD hS
  unfold fX2_readPlate at h
  refine lv_aload_n hx hb dX2_readPlate_0 rfl (lv_at hl 0 rfl) ?_
  refine va_ldcS (own := RX2) (tx := "plate") (q := g.2.2.2.2.1 0) hx hb cx.2.2.2.1 (GE_st hG sr_0) dX2_readPlate_1 ?_
  obtain ⟨r2, w3, w4, w5, w6, w7, hr1, h⟩ := ob6_out h
  refine rw_z (WN := fun u8 => [((a_t_draft 0), .inr (1, [.ref (a_t_draft 1), .ref (a_t_draft 2), .ref (a_t_draft 3), .ref (a_t_draft 4), .ref (a_t_draft 5), .int t_draft_told, .int t_draft_lines, .int t_draft_kinds, .int t_draft_acts])), ((a_t_draft 5), .inl (g.2.2.1 0, 31, .inl t_draft_rooms)), ((a_t 0), .inr (2, [.ref (a_t_draft 0), .ref (a_t 2), .ref (a_t 3), .ref (a_t_text 0), .int w3, .int w4, .int w5, .int w6, .int w7])), ((a_t_text 0), .inr (4, [.ref (a_t_text 1), .int t_text_size])), ((a_t_text 1), .inl (g.2.2.1 2, 600, .inl t_text_bytes))]) (wr := [((a_t_draft 0), .inr (1, [.ref (a_t_draft 1), .ref (a_t_draft 2), .ref (a_t_draft 3), .ref (a_t_draft 4), .ref (a_t_draft 5), .int t_draft_told, .int t_draft_lines, .int t_draft_kinds, .int t_draft_acts])), ((a_t_draft 5), .inl (g.2.2.1 0, 31, .inl t_draft_rooms))]) (runV (As := [.ref ((g.2.2.2.2.1 0))]) (rest := []) cx hl.1 (ctX2_pass l g s.heap.size a_t a_t_draft a_t_text t_token t_start t_after t_fault t_place t_text_size t_text_bytes 0 (by decide) r2 w3 w4 w5 w6 w7 hr1) kmX2_pass kvX2_pass lm_X2_100 ⟨rfl, rfl⟩ ⟨Nat.le_of_ble_eq_true rfl, Nat.le_of_ble_eq_true rfl⟩ (rwV (q0 := 0) (ci := 2) hG (hP.sub [0, 3, 4] rfl) (hD.sub [0, 3, 4] (by decide) rfl) hAb hb0 hS hP rfl rfl) rfl rfl (Nat.le_of_ble_eq_true rfl) dX2_readPlate_3 ⟨Nat.le_of_ble_eq_true rfl, Nat.le_of_ble_eq_true rfl⟩) hP hD hS hA [0, 3, 4] [1, 2] rfl rfl (by decide) (by decide) (fun _ => rfl) (fun hz9 u8 H locs hP hD hS => ?_)
  have hG := hGk hS
  refine lv_if_eq (tgt := 28) hx hb dX2_readPlate_6 (by decide) (fun c10 => ?_) (fun c10 => ?_)
  · have h := itp c10 h
    refine lv_iconst (v := 0) hx hb dX2_readPlate_28 (by decide) ?_
    exact hrt (fun _ => 0) _ _ ((0)) t_draft_rooms w3 w4 w5 w6 w7 _ _ dX2_readPlate_29 (by decide) h (hP.sub [2, 0, 1, 3, 4] rfl) (hD.sub [2, 0, 1, 3, 4] (by decide) rfl) hS
  · have h := itn c10 h
    refine lv_aload_n hx hb dX2_readPlate_9 rfl (lv_at hl 0 rfl) ?_
    refine va_ldcS (own := RX2) (tx := "room") (q := g.2.2.2.2.1 1) hx hb cx.2.2.2.1 (GE_st hG sr_1) dX2_readPlate_10 ?_
    obtain ⟨r12, w13, w14, w15, w16, w17, hr11, h⟩ := ob6_out h
    refine rw_z (WN := fun u18 => [((a_t_draft 0), .inr (1, [.ref (a_t_draft 1), .ref (a_t_draft 2), .ref (a_t_draft 3), .ref (a_t_draft 4), .ref (a_t_draft 5), .int t_draft_told, .int t_draft_lines, .int t_draft_kinds, .int t_draft_acts])), ((a_t_draft 5), .inl (g.2.2.1 0, 31, .inl t_draft_rooms)), ((a_t 0), .inr (2, [.ref (a_t_draft 0), .ref (a_t 2), .ref (a_t 3), .ref (a_t_text 0), .int w13, .int w14, .int w15, .int w16, .int w17])), ((a_t_text 0), .inr (4, [.ref (a_t_text 1), .int t_text_size])), ((a_t_text 1), .inl (g.2.2.1 2, 600, .inl t_text_bytes))]) (wr := [((a_t_draft 0), .inr (1, [.ref (a_t_draft 1), .ref (a_t_draft 2), .ref (a_t_draft 3), .ref (a_t_draft 4), .ref (a_t_draft 5), .int t_draft_told, .int t_draft_lines, .int t_draft_kinds, .int t_draft_acts])), ((a_t_draft 5), .inl (g.2.2.1 0, 31, .inl t_draft_rooms))]) (runV (As := [.ref ((g.2.2.2.2.1 1))]) (rest := []) cx hl.1 (ctX2_pass l g H.size a_t a_t_draft a_t_text w3 w4 w5 w6 w7 t_text_size t_text_bytes 1 (by decide) r12 w13 w14 w15 w16 w17 hr11) kmX2_pass kvX2_pass lm_X2_100 ⟨rfl, rfl⟩ ⟨Nat.le_of_ble_eq_true rfl, Nat.le_of_ble_eq_true rfl⟩ (rwV (q0 := 2) (ci := 2) hG (hP.sub [2, 3, 4] rfl) (hD.sub [2, 3, 4] (by decide) rfl) hAb hb0 hS hP rfl rfl) rfl rfl (Nat.le_of_ble_eq_true rfl) dX2_readPlate_12 ⟨Nat.le_of_ble_eq_true rfl, Nat.le_of_ble_eq_true rfl⟩) hP hD hS hA [2, 3, 4] [0, 1] rfl rfl (by decide) (by decide) (fun _ => rfl) (fun hz19 u18 H locs hP hD hS => ?_)
    have hG := hGk hS
    refine lv_if_eq (tgt := 28) hx hb dX2_readPlate_15 (by decide) (fun c20 => ?_) (fun c20 => ?_)
    · have h := itp c20 h
      refine lv_iconst (v := 0) hx hb dX2_readPlate_28 (by decide) ?_
      exact hrt (fun _ => 0) _ _ ((0)) t_draft_rooms w13 w14 w15 w16 w17 _ _ dX2_readPlate_29 (by decide) h (hP.sub [2, 0, 1, 3, 4] rfl) (hD.sub [2, 0, 1, 3, 4] (by decide) rfl) hS
    · have h := itn c20 h
      refine lv_aload_n hx hb dX2_readPlate_18 rfl (lv_at hl 0 rfl) ?_
      refine lv_iconst (v := 1) hx hb dX2_readPlate_19 (by decide) ?_
      refine lv_bipush (v := 8) hx hb dX2_readPlate_20 (by decide) ?_
      obtain ⟨r22, w23, w24, hr21, h⟩ := ob3_out h
      refine rw_z (WN := fun u25 => [((a_t_draft 0), .inr (1, [.ref (a_t_draft 1), .ref (a_t_draft 2), .ref (a_t_draft 3), .ref (a_t_draft 4), .ref (a_t_draft 5), .int t_draft_told, .int t_draft_lines, .int t_draft_kinds, .int t_draft_acts])), ((a_t_draft 5), .inl (g.2.2.1 0, 31, .inl t_draft_rooms)), ((a_t 0), .inr (2, [.ref (a_t_draft 0), .ref (a_t 2), .ref (a_t 3), .ref (a_t_text 0), .int w13, .int w14, .int w15, .int w23, .int w24])), ((a_t_text 0), .inr (4, [.ref (a_t_text 1), .int t_text_size])), ((a_t_text 1), .inl (g.2.2.1 2, 600, .inl t_text_bytes))]) (wr := [((a_t_draft 0), .inr (1, [.ref (a_t_draft 1), .ref (a_t_draft 2), .ref (a_t_draft 3), .ref (a_t_draft 4), .ref (a_t_draft 5), .int t_draft_told, .int t_draft_lines, .int t_draft_kinds, .int t_draft_acts])), ((a_t_draft 5), .inl (g.2.2.1 0, 31, .inl t_draft_rooms))]) (runV (As := [.int (1), .int (8)]) (rest := []) cx hl.1 (ctX2_isNumberIn l g H.size a_t a_t_draft a_t_text w13 w14 w15 w16 w17 t_text_size t_text_bytes (1) (8) r22 w23 w24 hr21) kmX2_isNumberIn kvX2_isNumberIn lm_X2_105 ⟨rfl, rfl⟩ ⟨Nat.le_of_ble_eq_true rfl, Nat.le_of_ble_eq_true rfl⟩ (rwV (q0 := 2) (ci := 2) hG (hP.sub [2, 3, 4] rfl) (hD.sub [2, 3, 4] (by decide) rfl) hAb hb0 hS hP rfl rfl) rfl rfl (Nat.le_of_ble_eq_true rfl) dX2_readPlate_22 ⟨Nat.le_of_ble_eq_true rfl, Nat.le_of_ble_eq_true rfl⟩) hP hD hS hA [2, 3, 4] [0, 1] rfl rfl (by decide) (by decide) (fun _ => rfl) (fun hz26 u25 H locs hP hD hS => ?_)
      have hG := hGk hS
      refine lv_if_ne (tgt := 30) hx hb dX2_readPlate_25 (by decide) (fun c27 => ?_) (fun c27 => ?_)
      · have h := itn c27 h
        refine lv_aload_n hx hb dX2_readPlate_30 rfl (lv_at hl 0 rfl) ?_
        refine xa_get (C := RX2) (T := TX2) (N := 9) cx hG hP 2 rfl rfl uX2 0 (by decide) lf_X2_12 rfl dX2_readPlate_31 ?_
        refine xa_getN (C := RX1) (T := TX1) (N := 9) cx hG hP 0 rfl rfl uX1 4 (by decide) nf_3 rfl dX2_readPlate_34 ?_
        refine lv_iconst (v := 0) hx hb dX2_readPlate_37 (by decide) ?_
        refine lv_aload_n hx hb dX2_readPlate_38 rfl (lv_at hl 0 rfl) ?_
        obtain ⟨r28, hr29, h⟩ := bnd h
        refine ro_i (runV (As := []) (rest := [.int (0), .ref ((a_t_draft 5))]) cx hl.1 (ctX2_tokenValue l g a_t a_t_draft a_t_text w13 w14 w15 w23 w24 t_text_size t_text_bytes r28 hr29) kmX2_tokenValue kvX2_tokenValue lm_X2_112 ⟨rfl, rfl⟩ ⟨Nat.le_of_ble_eq_true rfl, Nat.le_of_ble_eq_true rfl⟩ (roV (q0 := 2) (ci := 2) hG (hP.sub [2, 3, 4] rfl) hP rfl rfl) rfl rfl (Nat.le_of_ble_eq_true rfl) dX2_readPlate_39 ⟨Nat.le_of_ble_eq_true rfl, Nat.le_of_ble_eq_true rfl⟩) ?_
        refine xw_iast (ws' := [((a_t_draft 0), .inr (1, [.ref (a_t_draft 1), .ref (a_t_draft 2), .ref (a_t_draft 3), .ref (a_t_draft 4), .ref (a_t_draft 5), .int t_draft_told, .int t_draft_lines, .int t_draft_kinds, .int t_draft_acts])), ((a_t_draft 5), .inl (g.2.2.1 0, 31, .inl (upd t_draft_rooms 0 r28))), ((a_t 0), .inr (2, [.ref (a_t_draft 0), .ref (a_t 2), .ref (a_t 3), .ref (a_t_text 0), .int w13, .int w14, .int w15, .int w23, .int w24])), ((a_t_text 0), .inr (4, [.ref (a_t_text 1), .int t_text_size])), ((a_t_text 1), .inl (g.2.2.1 2, 600, .inl t_text_bytes))]) (k := 0) cx hG hP hD hS 1 rfl (show ¬ ((0 : Int32) < 0 ∨ 31 ≤ (0 : Int32).toNatClampNeg) by decide) (by decide) rfl dX2_readPlate_42 (fun H locs hP hD hS => ?_)
        have hG := hGk hS
        refine lv_aload_n hx hb dX2_readPlate_43 rfl (lv_at hl 0 rfl) ?_
        obtain ⟨w31, w32, w33, hr30, h⟩ := ob3_out h
        refine rw_v (WN := fun u34 => [((a_t_draft 0), .inr (1, [.ref (a_t_draft 1), .ref (a_t_draft 2), .ref (a_t_draft 3), .ref (a_t_draft 4), .ref (a_t_draft 5), .int t_draft_told, .int t_draft_lines, .int t_draft_kinds, .int t_draft_acts])), ((a_t_draft 5), .inl (g.2.2.1 0, 31, .inl (upd t_draft_rooms 0 r28))), ((a_t 0), .inr (2, [.ref (a_t_draft 0), .ref (a_t 2), .ref (a_t 3), .ref (a_t_text 0), .int w31, .int w32, .int w33, .int w23, .int w24])), ((a_t_text 0), .inr (4, [.ref (a_t_text 1), .int t_text_size])), ((a_t_text 1), .inl (g.2.2.1 2, 600, .inl t_text_bytes))]) (wr := [((a_t_draft 0), .inr (1, [.ref (a_t_draft 1), .ref (a_t_draft 2), .ref (a_t_draft 3), .ref (a_t_draft 4), .ref (a_t_draft 5), .int t_draft_told, .int t_draft_lines, .int t_draft_kinds, .int t_draft_acts])), ((a_t_draft 5), .inl (g.2.2.1 0, 31, .inl (upd t_draft_rooms 0 r28)))]) (runV (As := []) (rest := []) cx hl.1 (ctX2_next l g H.size a_t a_t_draft a_t_text w13 w14 w15 w23 w24 t_text_size t_text_bytes w31 w32 w33 hr30) kmX2_next kvX2_next lm_X2_42 ⟨rfl, rfl⟩ ⟨Nat.le_of_ble_eq_true rfl, Nat.le_of_ble_eq_true rfl⟩ (rwV (q0 := 2) (ci := 2) hG (hP.sub [2, 3, 4] rfl) (hD.sub [2, 3, 4] (by decide) rfl) hAb hb0 hS hP rfl rfl) rfl rfl (Nat.le_of_ble_eq_true rfl) dX2_readPlate_44 ⟨Nat.le_of_ble_eq_true rfl, Nat.le_of_ble_eq_true rfl⟩) hP hD hS hA [2, 3, 4] [0, 1] rfl rfl (by decide) (by decide) (fun _ => rfl) (fun u34 H locs hP hD hS => ?_)
        have hG := hGk hS
        refine lv_iconst (v := 1) hx hb dX2_readPlate_47 (by decide) ?_
        exact hrt (fun _ => 0) _ _ ((1)) (upd t_draft_rooms 0 r28) w31 w32 w33 w23 w24 _ _ dX2_readPlate_48 (by decide) h (hP.sub [2, 0, 1, 3, 4] rfl) (hD.sub [2, 0, 1, 3, 4] (by decide) rfl) hS
      · have h := itp c27 h
        refine lv_iconst (v := 0) hx hb dX2_readPlate_28 (by decide) ?_
        exact hrt (fun _ => 0) _ _ ((0)) t_draft_rooms w13 w14 w15 w23 w24 _ _ dX2_readPlate_29 (by decide) h (hP.sub [2, 0, 1, 3, 4] rfl) (hD.sub [2, 0, 1, 3, 4] (by decide) rfl) hS
-- X2_isName
theorem dX2_isName_0 : decode cX2_isName 0 = .ok (.aload_n 0, 1) := by decide +kernel
theorem dX2_isName_1 : decode cX2_isName 1 = .ok (.getfield 45, 3) := by decide +kernel
theorem dX2_isName_4 : decode cX2_isName 4 = .ok (.iconst 1, 1) := by decide +kernel
theorem dX2_isName_5 : decode cX2_isName 5 = .ok (.if_icmp .eq 9, 3) := by decide +kernel
theorem dX2_isName_8 : decode cX2_isName 8 = .ok (.aload_n 0, 1) := by decide +kernel
theorem dX2_isName_9 : decode cX2_isName 9 = .ok (.iconst 1, 1) := by decide +kernel
theorem dX2_isName_10 : decode cX2_isName 10 = .ok (.invokevirtual 94, 3) := by decide +kernel
theorem dX2_isName_13 : decode cX2_isName 13 = .ok (.ireturn, 1) := by decide +kernel
theorem dX2_isName_14 : decode cX2_isName 14 = .ok (.aload_n 0, 1) := by decide +kernel
theorem dX2_isName_15 : decode cX2_isName 15 = .ok (.ldc 98, 2) := by decide +kernel
theorem dX2_isName_17 : decode cX2_isName 17 = .ok (.invokevirtual 82, 3) := by decide +kernel
theorem dX2_isName_20 : decode cX2_isName 20 = .ok (.ifCond .ne 21, 3) := by decide +kernel
theorem dX2_isName_23 : decode cX2_isName 23 = .ok (.aload_n 0, 1) := by decide +kernel
theorem dX2_isName_24 : decode cX2_isName 24 = .ok (.ldc 80, 2) := by decide +kernel
theorem dX2_isName_26 : decode cX2_isName 26 = .ok (.invokevirtual 82, 3) := by decide +kernel
theorem dX2_isName_29 : decode cX2_isName 29 = .ok (.ifCond .ne 12, 3) := by decide +kernel
theorem dX2_isName_32 : decode cX2_isName 32 = .ok (.aload_n 0, 1) := by decide +kernel
theorem dX2_isName_33 : decode cX2_isName 33 = .ok (.ldc 89, 2) := by decide +kernel
theorem dX2_isName_35 : decode cX2_isName 35 = .ok (.invokevirtual 82, 3) := by decide +kernel
theorem dX2_isName_38 : decode cX2_isName 38 = .ok (.ifCond .eq 7, 3) := by decide +kernel
theorem dX2_isName_41 : decode cX2_isName 41 = .ok (.iconst 1, 1) := by decide +kernel
theorem dX2_isName_42 : decode cX2_isName 42 = .ok (.goto 4, 3) := by decide +kernel
theorem dX2_isName_45 : decode cX2_isName 45 = .ok (.iconst 0, 1) := by decide +kernel
theorem dX2_isName_46 : decode cX2_isName 46 = .ok (.istore_n 1, 1) := by decide +kernel
theorem dX2_isName_47 : decode cX2_isName 47 = .ok (.iload_n 1, 1) := by decide +kernel
theorem dX2_isName_48 : decode cX2_isName 48 = .ok (.ifCond .ne 17, 3) := by decide +kernel
theorem dX2_isName_51 : decode cX2_isName 51 = .ok (.aload_n 0, 1) := by decide +kernel
theorem dX2_isName_52 : decode cX2_isName 52 = .ok (.getfield 36, 3) := by decide +kernel
theorem dX2_isName_55 : decode cX2_isName 55 = .ok (.aload_n 0, 1) := by decide +kernel
theorem dX2_isName_56 : decode cX2_isName 56 = .ok (.getfield 59, 3) := by decide +kernel
theorem dX2_isName_59 : decode cX2_isName 59 = .ok (.isub, 1) := by decide +kernel
theorem dX2_isName_60 : decode cX2_isName 60 = .ok (.bipush 6, 2) := by decide +kernel
theorem dX2_isName_62 : decode cX2_isName 62 = .ok (.if_icmp .le 11, 3) := by decide +kernel
theorem dX2_isName_65 : decode cX2_isName 65 = .ok (.aload_n 0, 1) := by decide +kernel
theorem dX2_isName_66 : decode cX2_isName 66 = .ok (.iconst 2, 1) := by decide +kernel
theorem dX2_isName_67 : decode cX2_isName 67 = .ok (.invokevirtual 94, 3) := by decide +kernel
theorem dX2_isName_70 : decode cX2_isName 70 = .ok (.ifCond .eq 7, 3) := by decide +kernel
theorem dX2_isName_73 : decode cX2_isName 73 = .ok (.iconst 1, 1) := by decide +kernel
theorem dX2_isName_74 : decode cX2_isName 74 = .ok (.goto 4, 3) := by decide +kernel
theorem dX2_isName_77 : decode cX2_isName 77 = .ok (.iconst 0, 1) := by decide +kernel
theorem dX2_isName_78 : decode cX2_isName 78 = .ok (.ireturn, 1) := by decide +kernel
noncomputable def fX2_isName_65  (t_start : Int32) (t_fault : Int32) (t_place : Int32) : Option (Int32 × Int32 × Int32) := ob3 (fX2_refuse t_start t_fault t_place 2) fun r23 w24 w25 => (if r23 = 0 then some ((0), w24, w25) else some ((1), w24, w25))
noncomputable def fX2_isName_46  (t_start : Int32) (t_after : Int32) (t_fault : Int32) (t_place : Int32) (z0 : Int32) : Option (Int32 × Int32 × Int32) := (if z0 = 0 then (if (t_after - t_start) ≤ 6 then some ((1), t_fault, t_place) else fX2_isName_65 t_start t_fault t_place) else fX2_isName_65 t_start t_fault t_place)
noncomputable def fX2_isName_41  (t_start : Int32) (t_after : Int32) (t_fault : Int32) (t_place : Int32) : Option (Int32 × Int32 × Int32) := fX2_isName_46 t_start t_after t_fault t_place 1
noncomputable def fX2_isName  (t_text_bytes : Nat → Int32) (t_text_size : Int32) (t_token : Int32) (t_start : Int32) (t_after : Int32) (t_fault : Int32) (t_place : Int32) : Option (Int32 × Int32 × Int32) := (if t_token = 1 then (fX2_spells t_text_bytes t_text_size t_token t_start t_after 0).bind fun r2 => (if r2 = 0 then (fX2_spells t_text_bytes t_text_size t_token t_start t_after 2).bind fun r6 => (if r6 = 0 then (fX2_spells t_text_bytes t_text_size t_token t_start t_after 3).bind fun r10 => (if r10 = 0 then fX2_isName_46 t_start t_after t_fault t_place 0 else fX2_isName_41 t_start t_after t_fault t_place) else fX2_isName_41 t_start t_after t_fault t_place) else fX2_isName_41 t_start t_after t_fault t_place) else ob3 (fX2_refuse t_start t_fault t_place 1) fun r15 w16 w17 => some (r15, w16, w17))
set_option maxHeartbeats 4000000 in
set_option maxRecDepth 100000 in
theorem ctX2_isName (l : Launch) (g : GT) (sz : Nat) (a_t : Nat → Nat) (a_t_draft : Nat → Nat) (a_t_text : Nat → Nat) (t_token : Int32) (t_start : Int32) (t_after : Int32) (t_fault : Int32) (t_place : Int32) (t_text_size : Int32) (t_text_bytes : Nat → Int32) (o : Int32) (o_t_fault : Int32) (o_t_place : Int32) (h : fX2_isName t_text_bytes t_text_size t_token t_start t_after t_fault t_place = some (o, o_t_fault, o_t_place)) : Met l yX2_isName (Cond.code yX2_isName cX2_isName 2 (some .boolean) :: Tw) ⟨9, 0, 0, 172⟩ (va_Pc [.ref ((a_t 0))] (rwB g [((a_t 0), .inr (2, [.ref (a_t_draft 0), .ref (a_t 2), .ref (a_t 3), .ref (a_t_text 0), .int t_token, .int t_start, .int t_after, .int t_fault, .int t_place])), ((a_t_text 0), .inr (4, [.ref (a_t_text 1), .int t_text_size])), ((a_t_text 1), .inl (g.2.2.1 2, 600, .inl t_text_bytes))] sz)) (va_Qi (fun x (_ : Nat → Nat) => x = o ∧ (x = 0 ∨ x = 1)) (fun u => rwE g (va_A [((a_t 0), .inr (2, [.ref (a_t_draft 0), .ref (a_t 2), .ref (a_t 3), .ref (a_t_text 0), .int t_token, .int t_start, .int t_after, .int t_fault, .int t_place])), ((a_t_text 0), .inr (4, [.ref (a_t_text 1), .int t_text_size])), ((a_t_text 1), .inl (g.2.2.1 2, 600, .inl t_text_bytes))] sz) [((a_t 0), .inr (2, [.ref (a_t_draft 0), .ref (a_t 2), .ref (a_t 3), .ref (a_t_text 0), .int t_token, .int t_start, .int t_after, .int o_t_fault, .int o_t_place])), ((a_t_text 0), .inr (4, [.ref (a_t_text 1), .int t_text_size])), ((a_t_text 1), .inl (g.2.2.1 2, 600, .inl t_text_bytes))]) (va_A [((a_t 0), .inr (2, [.ref (a_t_draft 0), .ref (a_t 2), .ref (a_t 3), .ref (a_t_text 0), .int t_token, .int t_start, .int t_after, .int t_fault, .int t_place])), ((a_t_text 0), .inr (4, [.ref (a_t_text 1), .int t_text_size])), ((a_t_text 1), .inl (g.2.2.1 2, 600, .inl t_text_bytes))] sz)) 0 0 (va_A [((a_t 0), .inr (2, [.ref (a_t_draft 0), .ref (a_t 2), .ref (a_t 3), .ref (a_t_text 0), .int t_token, .int t_start, .int t_after, .int t_fault, .int t_place])), ((a_t_text 0), .inr (4, [.ref (a_t_text 1), .int t_text_size])), ((a_t_text 1), .inl (g.2.2.1 2, 600, .inl t_text_bytes))] sz) := by
  refine rw_metz (by decide) (Nat.le_of_ble_eq_true rfl) (lv0 := [(0, .ref ((a_t 0)))]) rfl ?_
  intro p e s m args below meth c ls Q A cx hret hG hAb hb0 hA hP hD hl
  have hx := cx.1
  have hb := cx.2.1
  have hG0 := hG
  have hGk : ∀ {H : Heap} {locs : List Loc}, va_S A s.heap H locs → GE g s H := fun hS => hG0.keptS hAb hS
  have hSb : ∀ {H : Heap} {locs : List Loc}, va_S A s.heap H locs → va_S (fun a => g.1 ≤ a) s.heap H locs := fun hS => ⟨hS.1, fun q h1 h2 => hS.2.1 q h1 (fun z => h2 (hAb q z)), fun l hl => hAb _ (hS.2.2 l hl)⟩
  have hS : va_S A s.heap s.heap [] := va_S.rf
  have hrt : ∀ (u : Nat → Nat) (pc : Nat) (ls : Array Slot) (v : Int32) (x_t_fault : Int32) (x_t_place : Int32) (H : Heap) (locs : List Loc), decode cX2_isName pc = .ok (.ireturn, 1) → (v = 0 ∨ v = 1) → some (v, x_t_fault, x_t_place) = some (o, o_t_fault, o_t_place) → va_P g.2.1 vwCl [((a_t 0), .inr (2, [.ref (a_t_draft 0), .ref (a_t 2), .ref (a_t 3), .ref (a_t_text 0), .int t_token, .int t_start, .int t_after, .int x_t_fault, .int x_t_place])), ((a_t_text 0), .inr (4, [.ref (a_t_text 1), .int t_text_size])), ((a_t_text 1), .inl (g.2.2.1 2, 600, .inl t_text_bytes))] H → va_D A [((a_t 0), .inr (2, [.ref (a_t_draft 0), .ref (a_t 2), .ref (a_t 3), .ref (a_t_text 0), .int t_token, .int t_start, .int t_after, .int x_t_fault, .int x_t_place])), ((a_t_text 0), .inr (4, [.ref (a_t_text 1), .int t_text_size])), ((a_t_text 1), .inl (g.2.2.1 2, 600, .inl t_text_bytes))] → va_S A s.heap H locs → W p l e ⟨9, 0, 0, 172⟩ s m args below meth c H locs 0 0 Q (F0 m pc ls [.int v]) := by
    intro u pc ls v x_t_fault x_t_place H locs hd hz h hP hD hS
    cases h
    exact hret u _ _ _ _ _ hd hz rfl hP hD hS
  have w65 : ∀ (t_fault : Int32) (t_place : Int32) (H : Heap) (locs : List Loc), va_P g.2.1 vwCl [((a_t 0), .inr (2, [.ref (a_t_draft 0), .ref (a_t 2), .ref (a_t 3), .ref (a_t_text 0), .int t_token, .int t_start, .int t_after, .int t_fault, .int t_place])), ((a_t_text 0), .inr (4, [.ref (a_t_text 1), .int t_text_size])), ((a_t_text 1), .inl (g.2.2.1 2, 600, .inl t_text_bytes))] H → va_D A [((a_t 0), .inr (2, [.ref (a_t_draft 0), .ref (a_t 2), .ref (a_t 3), .ref (a_t_text 0), .int t_token, .int t_start, .int t_after, .int t_fault, .int t_place])), ((a_t_text 0), .inr (4, [.ref (a_t_text 1), .int t_text_size])), ((a_t_text 1), .inl (g.2.2.1 2, 600, .inl t_text_bytes))] → va_S A s.heap H locs → ∀ (ls : Array Slot), lv_has ls 2 [(0, .ref ((a_t 0)))] → fX2_isName_65  t_start t_fault t_place = some (o, o_t_fault, o_t_place) → W p l e ⟨9, 0, 0, 172⟩ s m args below meth c H locs 0 0 Q (F0 m 65 ls []) := by
    intro t_fault t_place H locs hP hD hS ls hl h
    unfold fX2_isName_65 at h
    have hG := hGk hS
    refine lv_aload_n hx hb dX2_isName_65 rfl (lv_at hl 0 rfl) ?_
    refine lv_iconst (v := 2) hx hb dX2_isName_66 (by decide) ?_
    obtain ⟨r23, w24, w25, hr22, h⟩ := ob3_out h
    refine rw_z (WN := fun u26 => [((a_t_text 0), .inr (4, [.ref (a_t_text 1), .int t_text_size])), ((a_t_text 1), .inl (g.2.2.1 2, 600, .inl t_text_bytes)), ((a_t 0), .inr (2, [.ref (a_t_draft 0), .ref (a_t 2), .ref (a_t 3), .ref (a_t_text 0), .int t_token, .int t_start, .int t_after, .int w24, .int w25]))]) (wr := [((a_t_text 0), .inr (4, [.ref (a_t_text 1), .int t_text_size])), ((a_t_text 1), .inl (g.2.2.1 2, 600, .inl t_text_bytes))]) (runV (As := [.int (2)]) (rest := []) cx hl.1 (ctX2_refuse l g H.size a_t a_t_draft a_t_text t_token t_start t_after t_fault t_place (2) r23 w24 w25 hr22) kmX2_refuse kvX2_refuse lm_X2_94 ⟨rfl, rfl⟩ ⟨Nat.le_of_ble_eq_true rfl, Nat.le_of_ble_eq_true rfl⟩ (rwV (q0 := 0) (ci := 2) hG (hP.sub [0] rfl) (hD.sub [0] (by decide) rfl) hAb hb0 hS hP rfl rfl) rfl rfl (Nat.le_of_ble_eq_true rfl) dX2_isName_67 ⟨Nat.le_of_ble_eq_true rfl, Nat.le_of_ble_eq_true rfl⟩) hP hD hS hA [0] [1, 2] rfl rfl (by decide) (by decide) (fun _ => rfl) (fun hz27 u26 H locs hP hD hS => ?_)
    have hG := hGk hS
    refine lv_if_eq (tgt := 77) hx hb dX2_isName_70 (by decide) (fun c28 => ?_) (fun c28 => ?_)
    · have h := itp c28 h
      refine lv_iconst (v := 0) hx hb dX2_isName_77 (by decide) ?_
      exact hrt (fun _ => 0) _ _ ((0)) w24 w25 _ _ dX2_isName_78 (by decide) h (hP.sub [2, 0, 1] rfl) (hD.sub [2, 0, 1] (by decide) rfl) hS
    · have h := itn c28 h
      refine lv_iconst (v := 1) hx hb dX2_isName_73 (by decide) ?_
      refine lv_goto (tgt := 78) hx hb dX2_isName_74 (by decide) ?_
      exact hrt (fun _ => 0) _ _ ((1)) w24 w25 _ _ dX2_isName_78 (by decide) h (hP.sub [2, 0, 1] rfl) (hD.sub [2, 0, 1] (by decide) rfl) hS
  have w46 : ∀ (t_fault : Int32) (t_place : Int32) (z0 : Int32) (H : Heap) (locs : List Loc), va_P g.2.1 vwCl [((a_t 0), .inr (2, [.ref (a_t_draft 0), .ref (a_t 2), .ref (a_t 3), .ref (a_t_text 0), .int t_token, .int t_start, .int t_after, .int t_fault, .int t_place])), ((a_t_text 0), .inr (4, [.ref (a_t_text 1), .int t_text_size])), ((a_t_text 1), .inl (g.2.2.1 2, 600, .inl t_text_bytes))] H → va_D A [((a_t 0), .inr (2, [.ref (a_t_draft 0), .ref (a_t 2), .ref (a_t 3), .ref (a_t_text 0), .int t_token, .int t_start, .int t_after, .int t_fault, .int t_place])), ((a_t_text 0), .inr (4, [.ref (a_t_text 1), .int t_text_size])), ((a_t_text 1), .inl (g.2.2.1 2, 600, .inl t_text_bytes))] → va_S A s.heap H locs → ∀ (ls : Array Slot), lv_has ls 2 [(0, .ref ((a_t 0)))] → fX2_isName_46  t_start t_after t_fault t_place z0 = some (o, o_t_fault, o_t_place) → W p l e ⟨9, 0, 0, 172⟩ s m args below meth c H locs 0 0 Q (F0 m 46 ls [.int z0]) := by
    intro t_fault t_place z0 H locs hP hD hS ls hl h
    unfold fX2_isName_46 at h
    have hG := hGk hS
    refine lv_istore_n (lv' := [(1, .int z0), (0, .ref ((a_t 0)))]) hx hb dX2_isName_46 rfl hl (by decide) rfl (fun ls hl => ?_)
    refine lv_iload_n hx hb dX2_isName_47 rfl (lv_at hl 0 rfl) ?_
    refine lv_if_ne (tgt := 65) hx hb dX2_isName_48 (by decide) (fun c20 => ?_) (fun c20 => ?_)
    · have h := itn c20 h
      exact w65 t_fault t_place _ _ hP hD hS _ (lv_sub hl [1] rfl) h
    · have h := itp c20 h
      refine lv_aload_n hx hb dX2_isName_51 rfl (lv_at hl 1 rfl) ?_
      refine xa_get (C := RX2) (T := TX2) (N := 9) cx hG hP 0 rfl rfl uX2 6 (by decide) lf_X2_36 rfl dX2_isName_52 ?_
      refine lv_aload_n hx hb dX2_isName_55 rfl (lv_at hl 1 rfl) ?_
      refine xa_get (C := RX2) (T := TX2) (N := 9) cx hG hP 0 rfl rfl uX2 5 (by decide) lf_X2_59 rfl dX2_isName_56 ?_
      refine lv_isub hx hb dX2_isName_59 ?_
      refine lv_bipush (v := 6) hx hb dX2_isName_60 (by decide) ?_
      refine lv_icmp_le (tgt := 73) hx hb dX2_isName_62 (by decide) (fun c21 => ?_) (fun c21 => ?_)
      · have h := itp c21 h
        refine lv_iconst (v := 1) hx hb dX2_isName_73 (by decide) ?_
        refine lv_goto (tgt := 78) hx hb dX2_isName_74 (by decide) ?_
        exact hrt (fun _ => 0) _ _ ((1)) t_fault t_place _ _ dX2_isName_78 (by decide) h (hP.sub [0, 1, 2] rfl) (hD.sub [0, 1, 2] (by decide) rfl) hS
      · have h := itn c21 h
        exact w65 t_fault t_place _ _ hP hD hS _ (lv_sub hl [1] rfl) h
  have w41 : ∀ (t_fault : Int32) (t_place : Int32) (H : Heap) (locs : List Loc), va_P g.2.1 vwCl [((a_t 0), .inr (2, [.ref (a_t_draft 0), .ref (a_t 2), .ref (a_t 3), .ref (a_t_text 0), .int t_token, .int t_start, .int t_after, .int t_fault, .int t_place])), ((a_t_text 0), .inr (4, [.ref (a_t_text 1), .int t_text_size])), ((a_t_text 1), .inl (g.2.2.1 2, 600, .inl t_text_bytes))] H → va_D A [((a_t 0), .inr (2, [.ref (a_t_draft 0), .ref (a_t 2), .ref (a_t 3), .ref (a_t_text 0), .int t_token, .int t_start, .int t_after, .int t_fault, .int t_place])), ((a_t_text 0), .inr (4, [.ref (a_t_text 1), .int t_text_size])), ((a_t_text 1), .inl (g.2.2.1 2, 600, .inl t_text_bytes))] → va_S A s.heap H locs → ∀ (ls : Array Slot), lv_has ls 2 [(0, .ref ((a_t 0)))] → fX2_isName_41  t_start t_after t_fault t_place = some (o, o_t_fault, o_t_place) → W p l e ⟨9, 0, 0, 172⟩ s m args below meth c H locs 0 0 Q (F0 m 41 ls []) := by
    intro t_fault t_place H locs hP hD hS ls hl h
    unfold fX2_isName_41 at h
    have hG := hGk hS
    refine lv_iconst (v := 1) hx hb dX2_isName_41 (by decide) ?_
    refine lv_goto (tgt := 46) hx hb dX2_isName_42 (by decide) ?_
    exact w46 t_fault t_place 1 _ _ hP hD hS _ (lv_sub hl [0] rfl) h
  unfold fX2_isName at h
  refine lv_aload_n hx hb dX2_isName_0 rfl (lv_at hl 0 rfl) ?_
  refine xa_get (C := RX2) (T := TX2) (N := 9) cx hG hP 0 rfl rfl uX2 4 (by decide) lf_X2_45 rfl dX2_isName_1 ?_
  refine lv_iconst (v := 1) hx hb dX2_isName_4 (by decide) ?_
  refine lv_icmp_eq (tgt := 14) hx hb dX2_isName_5 (by decide) (fun c1 => ?_) (fun c1 => ?_)
  · have h := itp c1 h
    refine lv_aload_n hx hb dX2_isName_14 rfl (lv_at hl 0 rfl) ?_
    refine va_ldcS (own := RX2) (tx := "plate") (q := g.2.2.2.2.1 0) hx hb cx.2.2.2.1 (GE_st hG sr_0) dX2_isName_15 ?_
    obtain ⟨r2, hr3, h⟩ := bnd h
    refine ro_z (runV (As := [.ref ((g.2.2.2.2.1 0))]) (rest := []) cx hl.1 (ctX2_spells l g a_t a_t_draft a_t_text t_token t_start t_after t_fault t_place t_text_size t_text_bytes 0 (by decide) r2 hr3) kmX2_spells kvX2_spells lm_X2_82 ⟨rfl, rfl⟩ ⟨Nat.le_of_ble_eq_true rfl, Nat.le_of_ble_eq_true rfl⟩ (roV (q0 := 0) (ci := 2) hG (hP.sub [0, 1, 2] rfl) hP rfl rfl) rfl rfl (Nat.le_of_ble_eq_true rfl) dX2_isName_17 ⟨Nat.le_of_ble_eq_true rfl, Nat.le_of_ble_eq_true rfl⟩) (fun hz4 => ?_)
    refine lv_if_ne (tgt := 41) hx hb dX2_isName_20 (by decide) (fun c5 => ?_) (fun c5 => ?_)
    · have h := itn c5 h
      exact w41 t_fault t_place _ _ hP hD hS _ (lv_sub hl [0] rfl) h
    · have h := itp c5 h
      refine lv_aload_n hx hb dX2_isName_23 rfl (lv_at hl 0 rfl) ?_
      refine va_ldcS (own := RX2) (tx := "kind") (q := g.2.2.2.2.1 2) hx hb cx.2.2.2.1 (GE_st hG sr_2) dX2_isName_24 ?_
      obtain ⟨r6, hr7, h⟩ := bnd h
      refine ro_z (runV (As := [.ref ((g.2.2.2.2.1 2))]) (rest := []) cx hl.1 (ctX2_spells l g a_t a_t_draft a_t_text t_token t_start t_after t_fault t_place t_text_size t_text_bytes 2 (by decide) r6 hr7) kmX2_spells kvX2_spells lm_X2_82 ⟨rfl, rfl⟩ ⟨Nat.le_of_ble_eq_true rfl, Nat.le_of_ble_eq_true rfl⟩ (roV (q0 := 0) (ci := 2) hG (hP.sub [0, 1, 2] rfl) hP rfl rfl) rfl rfl (Nat.le_of_ble_eq_true rfl) dX2_isName_26 ⟨Nat.le_of_ble_eq_true rfl, Nat.le_of_ble_eq_true rfl⟩) (fun hz8 => ?_)
      refine lv_if_ne (tgt := 41) hx hb dX2_isName_29 (by decide) (fun c9 => ?_) (fun c9 => ?_)
      · have h := itn c9 h
        exact w41 t_fault t_place _ _ hP hD hS _ (lv_sub hl [0] rfl) h
      · have h := itp c9 h
        refine lv_aload_n hx hb dX2_isName_32 rfl (lv_at hl 0 rfl) ?_
        refine va_ldcS (own := RX2) (tx := "ply") (q := g.2.2.2.2.1 3) hx hb cx.2.2.2.1 (GE_st hG sr_3) dX2_isName_33 ?_
        obtain ⟨r10, hr11, h⟩ := bnd h
        refine ro_z (runV (As := [.ref ((g.2.2.2.2.1 3))]) (rest := []) cx hl.1 (ctX2_spells l g a_t a_t_draft a_t_text t_token t_start t_after t_fault t_place t_text_size t_text_bytes 3 (by decide) r10 hr11) kmX2_spells kvX2_spells lm_X2_82 ⟨rfl, rfl⟩ ⟨Nat.le_of_ble_eq_true rfl, Nat.le_of_ble_eq_true rfl⟩ (roV (q0 := 0) (ci := 2) hG (hP.sub [0, 1, 2] rfl) hP rfl rfl) rfl rfl (Nat.le_of_ble_eq_true rfl) dX2_isName_35 ⟨Nat.le_of_ble_eq_true rfl, Nat.le_of_ble_eq_true rfl⟩) (fun hz12 => ?_)
        refine lv_if_eq (tgt := 45) hx hb dX2_isName_38 (by decide) (fun c13 => ?_) (fun c13 => ?_)
        · have h := itp c13 h
          refine lv_iconst (v := 0) hx hb dX2_isName_45 (by decide) ?_
          exact w46 t_fault t_place 0 _ _ hP hD hS _ (lv_sub hl [0] rfl) h
        · have h := itn c13 h
          exact w41 t_fault t_place _ _ hP hD hS _ (lv_sub hl [0] rfl) h
  · have h := itn c1 h
    refine lv_aload_n hx hb dX2_isName_8 rfl (lv_at hl 0 rfl) ?_
    refine lv_iconst (v := 1) hx hb dX2_isName_9 (by decide) ?_
    obtain ⟨r15, w16, w17, hr14, h⟩ := ob3_out h
    refine rw_z (WN := fun u18 => [((a_t_text 0), .inr (4, [.ref (a_t_text 1), .int t_text_size])), ((a_t_text 1), .inl (g.2.2.1 2, 600, .inl t_text_bytes)), ((a_t 0), .inr (2, [.ref (a_t_draft 0), .ref (a_t 2), .ref (a_t 3), .ref (a_t_text 0), .int t_token, .int t_start, .int t_after, .int w16, .int w17]))]) (wr := [((a_t_text 0), .inr (4, [.ref (a_t_text 1), .int t_text_size])), ((a_t_text 1), .inl (g.2.2.1 2, 600, .inl t_text_bytes))]) (runV (As := [.int (1)]) (rest := []) cx hl.1 (ctX2_refuse l g s.heap.size a_t a_t_draft a_t_text t_token t_start t_after t_fault t_place (1) r15 w16 w17 hr14) kmX2_refuse kvX2_refuse lm_X2_94 ⟨rfl, rfl⟩ ⟨Nat.le_of_ble_eq_true rfl, Nat.le_of_ble_eq_true rfl⟩ (rwV (q0 := 0) (ci := 2) hG (hP.sub [0] rfl) (hD.sub [0] (by decide) rfl) hAb hb0 hS hP rfl rfl) rfl rfl (Nat.le_of_ble_eq_true rfl) dX2_isName_10 ⟨Nat.le_of_ble_eq_true rfl, Nat.le_of_ble_eq_true rfl⟩) hP hD hS hA [0] [1, 2] rfl rfl (by decide) (by decide) (fun _ => rfl) (fun hz19 u18 H locs hP hD hS => ?_)
    have hG := hGk hS
    exact hrt (fun _ => 0) _ _ r15 w16 w17 _ _ dX2_isName_13 hz19 h (hP.sub [2, 0, 1] rfl) (hD.sub [2, 0, 1] (by decide) rfl) hS
-- X2_repeats
theorem dX2_repeats_0 : decode cX2_repeats 0 = .ok (.aload_n 0, 1) := by decide +kernel
theorem dX2_repeats_1 : decode cX2_repeats 1 = .ok (.getfield 36, 3) := by decide +kernel
theorem dX2_repeats_4 : decode cX2_repeats 4 = .ok (.aload_n 0, 1) := by decide +kernel
theorem dX2_repeats_5 : decode cX2_repeats 5 = .ok (.getfield 59, 3) := by decide +kernel
theorem dX2_repeats_8 : decode cX2_repeats 8 = .ok (.isub, 1) := by decide +kernel
theorem dX2_repeats_9 : decode cX2_repeats 9 = .ok (.iload_n 2, 1) := by decide +kernel
theorem dX2_repeats_10 : decode cX2_repeats 10 = .ok (.if_icmp .eq 5, 3) := by decide +kernel
theorem dX2_repeats_13 : decode cX2_repeats 13 = .ok (.iconst 0, 1) := by decide +kernel
theorem dX2_repeats_14 : decode cX2_repeats 14 = .ok (.ireturn, 1) := by decide +kernel
theorem dX2_repeats_15 : decode cX2_repeats 15 = .ok (.iconst 0, 1) := by decide +kernel
theorem dX2_repeats_16 : decode cX2_repeats 16 = .ok (.istore_n 3, 1) := by decide +kernel
theorem dX2_repeats_17 : decode cX2_repeats 17 = .ok (.iload_n 3, 1) := by decide +kernel
theorem dX2_repeats_18 : decode cX2_repeats 18 = .ok (.iload_n 2, 1) := by decide +kernel
theorem dX2_repeats_19 : decode cX2_repeats 19 = .ok (.if_icmp .ge 37, 3) := by decide +kernel
theorem dX2_repeats_22 : decode cX2_repeats 22 = .ok (.aload_n 0, 1) := by decide +kernel
theorem dX2_repeats_23 : decode cX2_repeats 23 = .ok (.getfield 29, 3) := by decide +kernel
theorem dX2_repeats_26 : decode cX2_repeats 26 = .ok (.aload_n 0, 1) := by decide +kernel
theorem dX2_repeats_27 : decode cX2_repeats 27 = .ok (.getfield 59, 3) := by decide +kernel
theorem dX2_repeats_30 : decode cX2_repeats 30 = .ok (.iload_n 3, 1) := by decide +kernel
theorem dX2_repeats_31 : decode cX2_repeats 31 = .ok (.iadd, 1) := by decide +kernel
theorem dX2_repeats_32 : decode cX2_repeats 32 = .ok (.invokevirtual 68, 3) := by decide +kernel
theorem dX2_repeats_35 : decode cX2_repeats 35 = .ok (.aload_n 0, 1) := by decide +kernel
theorem dX2_repeats_36 : decode cX2_repeats 36 = .ok (.getfield 29, 3) := by decide +kernel
theorem dX2_repeats_39 : decode cX2_repeats 39 = .ok (.iload_n 1, 1) := by decide +kernel
theorem dX2_repeats_40 : decode cX2_repeats 40 = .ok (.iload_n 3, 1) := by decide +kernel
theorem dX2_repeats_41 : decode cX2_repeats 41 = .ok (.iadd, 1) := by decide +kernel
theorem dX2_repeats_42 : decode cX2_repeats 42 = .ok (.invokevirtual 68, 3) := by decide +kernel
theorem dX2_repeats_45 : decode cX2_repeats 45 = .ok (.if_icmp .eq 5, 3) := by decide +kernel
theorem dX2_repeats_48 : decode cX2_repeats 48 = .ok (.iconst 0, 1) := by decide +kernel
theorem dX2_repeats_49 : decode cX2_repeats 49 = .ok (.ireturn, 1) := by decide +kernel
theorem dX2_repeats_50 : decode cX2_repeats 50 = .ok (.iinc 3 1, 3) := by decide +kernel
theorem dX2_repeats_53 : decode cX2_repeats 53 = .ok (.goto (-36), 3) := by decide +kernel
theorem dX2_repeats_56 : decode cX2_repeats 56 = .ok (.iconst 1, 1) := by decide +kernel
theorem dX2_repeats_57 : decode cX2_repeats 57 = .ok (.ireturn, 1) := by decide +kernel
noncomputable def fX2_repeats_17  : Nat → (Nat → Int32) → Int32 → Int32 → Int32 → Int32 → Int32 → Option (Int32)
  | 0, _, _, _, _, _, _ => none
  | n + 1, t_text_bytes, t_text_size, t_start, v1, v2, v3 => (if v2 ≤ v3 then some (1) else (fX5_at t_text_bytes t_text_size (t_start + v3)).bind fun r3 => (fX5_at t_text_bytes t_text_size (v1 + v3)).bind fun r5 => (if r3 = r5 then fX2_repeats_17 n t_text_bytes t_text_size t_start v1 v2 (v3 + 1) else some (0)))
theorem fX2_repeats_17_z  (t_text_bytes : Nat → Int32) (t_text_size : Int32) (t_start : Int32) (v1 : Int32) (v2 : Int32) (v3 : Int32) : fX2_repeats_17  0 t_text_bytes t_text_size t_start v1 v2 v3 = none := rfl
theorem fX2_repeats_17_s  (n : Nat) (t_text_bytes : Nat → Int32) (t_text_size : Int32) (t_start : Int32) (v1 : Int32) (v2 : Int32) (v3 : Int32) : fX2_repeats_17  (n + 1) t_text_bytes t_text_size t_start v1 v2 v3 = (if v2 ≤ v3 then some (1) else (fX5_at t_text_bytes t_text_size (t_start + v3)).bind fun r3 => (fX5_at t_text_bytes t_text_size (v1 + v3)).bind fun r5 => (if r3 = r5 then fX2_repeats_17 n t_text_bytes t_text_size t_start v1 v2 (v3 + 1) else some (0))) := rfl
noncomputable def fX2_repeats  (t_text_bytes : Nat → Int32) (t_text_size : Int32) (t_start : Int32) (t_after : Int32) (v1 : Int32) (v2 : Int32) : Option (Int32) := (if (t_after - t_start) = v2 then fX2_repeats_17 FU t_text_bytes t_text_size t_start v1 v2 0 else some (0))
set_option maxHeartbeats 4000000 in
set_option maxRecDepth 100000 in
theorem ctX2_repeats (l : Launch) (g : GT) (a_t : Nat → Nat) (a_t_draft : Nat → Nat) (a_t_text : Nat → Nat) (t_token : Int32) (t_start : Int32) (t_after : Int32) (t_fault : Int32) (t_place : Int32) (t_text_size : Int32) (t_text_bytes : Nat → Int32) (v1 : Int32) (v2 : Int32) (o : Int32) (h : fX2_repeats t_text_bytes t_text_size t_start t_after v1 v2 = some o) : Met l yX2_repeats (Cond.code yX2_repeats cX2_repeats 4 (some .boolean) :: Tw) ⟨1, 0, 0, 21⟩ (va_Pc [.ref ((a_t 0)), .int v1, .int v2] (roB g [((a_t 0), .inr (2, [.ref (a_t_draft 0), .ref (a_t 2), .ref (a_t 3), .ref (a_t_text 0), .int t_token, .int t_start, .int t_after, .int t_fault, .int t_place])), ((a_t_text 0), .inr (4, [.ref (a_t_text 1), .int t_text_size])), ((a_t_text 1), .inl (g.2.2.1 2, 600, .inl t_text_bytes))])) (vp_Si (fun x => x = o ∧ (x = 0 ∨ x = 1))) 0 0 (fun _ => False) := by
  refine ro_metz (by decide) (Nat.le_of_ble_eq_true rfl) (lv0 := [(0, .ref ((a_t 0))), (1, .int v1), (2, .int v2)]) rfl ?_
  intro p e s m args below meth c ls Q cx hret hG hP hl
  have hx := cx.1
  have hb := cx.2.1
  have hG0 := hG
  have w17 : ∀ (n : Nat) (v1 : Int32) (v2 : Int32) (v3 : Int32) (ls : Array Slot), lv_has ls 4 [(0, .ref ((a_t 0))), (1, .int v1), (2, .int v2), (3, .int v3)] → fX2_repeats_17  n t_text_bytes t_text_size t_start v1 v2 v3 = some o → W p l e ⟨1, 0, 0, 21⟩ s m args below meth c s.heap [] 0 0 Q (F0 m 17 ls []) := by
    intro n
    induction n with
    | zero => intro v1 v2 v3 ls hl h; cases (fX2_repeats_17_z  t_text_bytes t_text_size t_start v1 v2 v3).symm.trans h
    | succ n ih =>
    intro v1 v2 v3 ls hl h
    have h := (fX2_repeats_17_s  n t_text_bytes t_text_size t_start v1 v2 v3).symm.trans h
    refine lv_iload_n hx hb dX2_repeats_17 rfl (lv_at hl 3 rfl) ?_
    refine lv_iload_n hx hb dX2_repeats_18 rfl (lv_at hl 2 rfl) ?_
    refine lv_icmp_ge (tgt := 56) hx hb dX2_repeats_19 (by decide) (fun c2 => ?_) (fun c2 => ?_)
    · have h := itp c2 h
      refine lv_iconst (v := 1) hx hb dX2_repeats_56 (by decide) ?_
      exact hret _ _ _ dX2_repeats_57 (by decide) (Option.some.inj h)
    · have h := itn c2 h
      refine lv_aload_n hx hb dX2_repeats_22 rfl (lv_at hl 0 rfl) ?_
      refine xa_get (C := RX2) (T := TX2) (N := 9) cx hG hP 0 rfl rfl uX2 3 (by decide) lf_X2_29 rfl dX2_repeats_23 ?_
      refine lv_aload_n hx hb dX2_repeats_26 rfl (lv_at hl 0 rfl) ?_
      refine xa_get (C := RX2) (T := TX2) (N := 9) cx hG hP 0 rfl rfl uX2 5 (by decide) lf_X2_59 rfl dX2_repeats_27 ?_
      refine lv_iload_n hx hb dX2_repeats_30 rfl (lv_at hl 3 rfl) ?_
      refine lv_iadd hx hb dX2_repeats_31 ?_
      obtain ⟨r3, hr4, h⟩ := bnd h
      refine ro_i (runVN (As := [.int (t_start + v3)]) (rest := []) hG cx hl.1 (ctX5_at l g a_t_text t_text_size t_text_bytes (t_start + v3) r3 hr4) kmX5_at kvX5_at nm_11 ⟨rfl, rfl⟩ ⟨Nat.le_of_ble_eq_true rfl, Nat.le_of_ble_eq_true rfl⟩ (roV (q0 := 1) (ci := 4) hG (hP.sub [1, 2] rfl) hP rfl rfl) rfl rfl (Nat.le_of_ble_eq_true rfl) dX2_repeats_32 ⟨Nat.le_of_ble_eq_true rfl, Nat.le_of_ble_eq_true rfl⟩) ?_
      refine lv_aload_n hx hb dX2_repeats_35 rfl (lv_at hl 0 rfl) ?_
      refine xa_get (C := RX2) (T := TX2) (N := 9) cx hG hP 0 rfl rfl uX2 3 (by decide) lf_X2_29 rfl dX2_repeats_36 ?_
      refine lv_iload_n hx hb dX2_repeats_39 rfl (lv_at hl 1 rfl) ?_
      refine lv_iload_n hx hb dX2_repeats_40 rfl (lv_at hl 3 rfl) ?_
      refine lv_iadd hx hb dX2_repeats_41 ?_
      obtain ⟨r5, hr6, h⟩ := bnd h
      refine ro_i (runVN (As := [.int (v1 + v3)]) (rest := [.int r3]) hG cx hl.1 (ctX5_at l g a_t_text t_text_size t_text_bytes (v1 + v3) r5 hr6) kmX5_at kvX5_at nm_11 ⟨rfl, rfl⟩ ⟨Nat.le_of_ble_eq_true rfl, Nat.le_of_ble_eq_true rfl⟩ (roV (q0 := 1) (ci := 4) hG (hP.sub [1, 2] rfl) hP rfl rfl) rfl rfl (Nat.le_of_ble_eq_true rfl) dX2_repeats_42 ⟨Nat.le_of_ble_eq_true rfl, Nat.le_of_ble_eq_true rfl⟩) ?_
      refine lv_icmp_eq (tgt := 50) hx hb dX2_repeats_45 (by decide) (fun c7 => ?_) (fun c7 => ?_)
      · have h := itp c7 h
        refine lv_iinc (v := v3 + 1) (lv' := [(3, .int (v3 + 1)), (0, .ref ((a_t 0))), (1, .int v1), (2, .int v2)]) hx hb dX2_repeats_50 hl (k := 3) rfl rfl (by decide) rfl (fun ls hl => ?_)
        refine lv_goto (tgt := 17) hx hb dX2_repeats_53 (by decide) ?_
        exact ih v1 v2 (v3 + 1) _ (lv_sub hl [1, 2, 3, 0] rfl) h
      · have h := itn c7 h
        refine lv_iconst (v := 0) hx hb dX2_repeats_48 (by decide) ?_
        exact hret _ _ _ dX2_repeats_49 (by decide) (Option.some.inj h)
  unfold fX2_repeats at h
  refine lv_aload_n hx hb dX2_repeats_0 rfl (lv_at hl 0 rfl) ?_
  refine xa_get (C := RX2) (T := TX2) (N := 9) cx hG hP 0 rfl rfl uX2 6 (by decide) lf_X2_36 rfl dX2_repeats_1 ?_
  refine lv_aload_n hx hb dX2_repeats_4 rfl (lv_at hl 0 rfl) ?_
  refine xa_get (C := RX2) (T := TX2) (N := 9) cx hG hP 0 rfl rfl uX2 5 (by decide) lf_X2_59 rfl dX2_repeats_5 ?_
  refine lv_isub hx hb dX2_repeats_8 ?_
  refine lv_iload_n hx hb dX2_repeats_9 rfl (lv_at hl 2 rfl) ?_
  refine lv_icmp_eq (tgt := 15) hx hb dX2_repeats_10 (by decide) (fun c1 => ?_) (fun c1 => ?_)
  · have h := itp c1 h
    refine lv_iconst (v := 0) hx hb dX2_repeats_15 (by decide) ?_
    refine lv_istore_n (lv' := [(3, .int (0)), (0, .ref ((a_t 0))), (1, .int v1), (2, .int v2)]) hx hb dX2_repeats_16 rfl hl (by decide) rfl (fun ls hl => ?_)
    exact w17 FU v1 v2 0 _ (lv_sub hl [1, 2, 3, 0] rfl) h
  · have h := itn c1 h
    refine lv_iconst (v := 0) hx hb dX2_repeats_13 (by decide) ?_
    exact hret _ _ _ dX2_repeats_14 (by decide) (Option.some.inj h)
-- X2_toldKind
theorem dX2_toldKind_0 : decode cX2_toldKind 0 = .ok (.iconst 0, 1) := by decide +kernel
theorem dX2_toldKind_1 : decode cX2_toldKind 1 = .ok (.istore_n 1, 1) := by decide +kernel
theorem dX2_toldKind_2 : decode cX2_toldKind 2 = .ok (.iload_n 1, 1) := by decide +kernel
theorem dX2_toldKind_3 : decode cX2_toldKind 3 = .ok (.aload_n 0, 1) := by decide +kernel
theorem dX2_toldKind_4 : decode cX2_toldKind 4 = .ok (.getfield 12, 3) := by decide +kernel
theorem dX2_toldKind_7 : decode cX2_toldKind 7 = .ok (.getfield 116, 3) := by decide +kernel
theorem dX2_toldKind_10 : decode cX2_toldKind 10 = .ok (.if_icmp .ge 35, 3) := by decide +kernel
theorem dX2_toldKind_13 : decode cX2_toldKind 13 = .ok (.iload_n 1, 1) := by decide +kernel
theorem dX2_toldKind_14 : decode cX2_toldKind 14 = .ok (.iconst 3, 1) := by decide +kernel
theorem dX2_toldKind_15 : decode cX2_toldKind 15 = .ok (.if_icmp .ge 30, 3) := by decide +kernel
theorem dX2_toldKind_18 : decode cX2_toldKind 18 = .ok (.aload_n 0, 1) := by decide +kernel
theorem dX2_toldKind_19 : decode cX2_toldKind 19 = .ok (.aload_n 0, 1) := by decide +kernel
theorem dX2_toldKind_20 : decode cX2_toldKind 20 = .ok (.getfield 18, 3) := by decide +kernel
theorem dX2_toldKind_23 : decode cX2_toldKind 23 = .ok (.iload_n 1, 1) := by decide +kernel
theorem dX2_toldKind_24 : decode cX2_toldKind 24 = .ok (.iaload, 1) := by decide +kernel
theorem dX2_toldKind_25 : decode cX2_toldKind 25 = .ok (.aload_n 0, 1) := by decide +kernel
theorem dX2_toldKind_26 : decode cX2_toldKind 26 = .ok (.getfield 22, 3) := by decide +kernel
theorem dX2_toldKind_29 : decode cX2_toldKind 29 = .ok (.iload_n 1, 1) := by decide +kernel
theorem dX2_toldKind_30 : decode cX2_toldKind 30 = .ok (.iaload, 1) := by decide +kernel
theorem dX2_toldKind_31 : decode cX2_toldKind 31 = .ok (.invokevirtual 165, 3) := by decide +kernel
theorem dX2_toldKind_34 : decode cX2_toldKind 34 = .ok (.ifCond .eq 5, 3) := by decide +kernel
theorem dX2_toldKind_37 : decode cX2_toldKind 37 = .ok (.iload_n 1, 1) := by decide +kernel
theorem dX2_toldKind_38 : decode cX2_toldKind 38 = .ok (.ireturn, 1) := by decide +kernel
theorem dX2_toldKind_39 : decode cX2_toldKind 39 = .ok (.iinc 1 1, 3) := by decide +kernel
theorem dX2_toldKind_42 : decode cX2_toldKind 42 = .ok (.goto (-40), 3) := by decide +kernel
theorem dX2_toldKind_45 : decode cX2_toldKind 45 = .ok (.iconst (-1), 1) := by decide +kernel
theorem dX2_toldKind_46 : decode cX2_toldKind 46 = .ok (.ireturn, 1) := by decide +kernel
noncomputable def fX2_toldKind_2  : Nat → Int32 → (Nat → Int32) → (Nat → Int32) → (Nat → Int32) → Int32 → Int32 → Int32 → Int32 → Option (Int32)
  | 0, _, _, _, _, _, _, _, _ => none
  | n + 1, t_draft_kinds, t_nameStarts, t_nameLengths, t_text_bytes, t_text_size, t_start, t_after, v1 => (if t_draft_kinds ≤ v1 then some (-1) else (if 3 ≤ v1 then some (-1) else chk 3 v1 (chk 3 v1 ((fX2_repeats t_text_bytes t_text_size t_start t_after (t_nameStarts v1.toNatClampNeg) (t_nameLengths v1.toNatClampNeg)).bind fun r5 => (if r5 = 0 then fX2_toldKind_2 n t_draft_kinds t_nameStarts t_nameLengths t_text_bytes t_text_size t_start t_after (v1 + 1) else some v1)))))
theorem fX2_toldKind_2_z  (t_draft_kinds : Int32) (t_nameStarts : Nat → Int32) (t_nameLengths : Nat → Int32) (t_text_bytes : Nat → Int32) (t_text_size : Int32) (t_start : Int32) (t_after : Int32) (v1 : Int32) : fX2_toldKind_2  0 t_draft_kinds t_nameStarts t_nameLengths t_text_bytes t_text_size t_start t_after v1 = none := rfl
theorem fX2_toldKind_2_s  (n : Nat) (t_draft_kinds : Int32) (t_nameStarts : Nat → Int32) (t_nameLengths : Nat → Int32) (t_text_bytes : Nat → Int32) (t_text_size : Int32) (t_start : Int32) (t_after : Int32) (v1 : Int32) : fX2_toldKind_2  (n + 1) t_draft_kinds t_nameStarts t_nameLengths t_text_bytes t_text_size t_start t_after v1 = (if t_draft_kinds ≤ v1 then some (-1) else (if 3 ≤ v1 then some (-1) else chk 3 v1 (chk 3 v1 ((fX2_repeats t_text_bytes t_text_size t_start t_after (t_nameStarts v1.toNatClampNeg) (t_nameLengths v1.toNatClampNeg)).bind fun r5 => (if r5 = 0 then fX2_toldKind_2 n t_draft_kinds t_nameStarts t_nameLengths t_text_bytes t_text_size t_start t_after (v1 + 1) else some v1))))) := rfl
noncomputable def fX2_toldKind  (t_draft_kinds : Int32) (t_nameStarts : Nat → Int32) (t_nameLengths : Nat → Int32) (t_text_bytes : Nat → Int32) (t_text_size : Int32) (t_start : Int32) (t_after : Int32) : Option (Int32) := fX2_toldKind_2 FU t_draft_kinds t_nameStarts t_nameLengths t_text_bytes t_text_size t_start t_after 0
set_option maxHeartbeats 4000000 in
set_option maxRecDepth 100000 in
theorem ctX2_toldKind (l : Launch) (g : GT) (a_t : Nat → Nat) (a_t_draft : Nat → Nat) (a_t_text : Nat → Nat) (t_token : Int32) (t_start : Int32) (t_after : Int32) (t_fault : Int32) (t_place : Int32) (t_draft_told : Int32) (t_draft_lines : Int32) (t_draft_kinds : Int32) (t_draft_acts : Int32) (t_nameStarts : Nat → Int32) (t_nameLengths : Nat → Int32) (t_text_size : Int32) (t_text_bytes : Nat → Int32) (o : Int32) (h : fX2_toldKind t_draft_kinds t_nameStarts t_nameLengths t_text_bytes t_text_size t_start t_after = some o) : Met l yX2_toldKind (Cond.code yX2_toldKind cX2_toldKind 2 (some .int) :: Tw) ⟨2, 0, 0, 44⟩ (va_Pc [.ref ((a_t 0))] (roB g [((a_t 0), .inr (2, [.ref (a_t_draft 0), .ref (a_t 2), .ref (a_t 3), .ref (a_t_text 0), .int t_token, .int t_start, .int t_after, .int t_fault, .int t_place])), ((a_t_draft 0), .inr (1, [.ref (a_t_draft 1), .ref (a_t_draft 2), .ref (a_t_draft 3), .ref (a_t_draft 4), .ref (a_t_draft 5), .int t_draft_told, .int t_draft_lines, .int t_draft_kinds, .int t_draft_acts])), ((a_t 2), .inl (g.2.2.1 0, 3, .inl t_nameStarts)), ((a_t 3), .inl (g.2.2.1 0, 3, .inl t_nameLengths)), ((a_t_text 0), .inr (4, [.ref (a_t_text 1), .int t_text_size])), ((a_t_text 1), .inl (g.2.2.1 2, 600, .inl t_text_bytes))])) (vp_Si (fun x => x = o)) 0 0 (fun _ => False) := by
  refine ro_meti (by decide) (Nat.le_of_ble_eq_true rfl) (lv0 := [(0, .ref ((a_t 0)))]) rfl ?_
  intro p e s m args below meth c ls Q cx hret hG hP hl
  have hx := cx.1
  have hb := cx.2.1
  have hG0 := hG
  have w2 : ∀ (n : Nat) (v1 : Int32) (ls : Array Slot), lv_has ls 2 [(0, .ref ((a_t 0))), (1, .int v1)] → fX2_toldKind_2  n t_draft_kinds t_nameStarts t_nameLengths t_text_bytes t_text_size t_start t_after v1 = some o → W p l e ⟨2, 0, 0, 44⟩ s m args below meth c s.heap [] 0 0 Q (F0 m 2 ls []) := by
    intro n
    induction n with
    | zero => intro v1 ls hl h; cases (fX2_toldKind_2_z  t_draft_kinds t_nameStarts t_nameLengths t_text_bytes t_text_size t_start t_after v1).symm.trans h
    | succ n ih =>
    intro v1 ls hl h
    have h := (fX2_toldKind_2_s  n t_draft_kinds t_nameStarts t_nameLengths t_text_bytes t_text_size t_start t_after v1).symm.trans h
    refine lv_iload_n hx hb dX2_toldKind_2 rfl (lv_at hl 1 rfl) ?_
    refine lv_aload_n hx hb dX2_toldKind_3 rfl (lv_at hl 0 rfl) ?_
    refine xa_get (C := RX2) (T := TX2) (N := 9) cx hG hP 0 rfl rfl uX2 0 (by decide) lf_X2_12 rfl dX2_toldKind_4 ?_
    refine xa_getN (C := RX1) (T := TX1) (N := 9) cx hG hP 1 rfl rfl uX1 7 (by decide) nf_9 rfl dX2_toldKind_7 ?_
    refine lv_icmp_ge (tgt := 45) hx hb dX2_toldKind_10 (by decide) (fun c1 => ?_) (fun c1 => ?_)
    · have h := itp c1 h
      refine lv_iconst (v := -1) hx hb dX2_toldKind_45 (by decide) ?_
      exact hret _ _ _ dX2_toldKind_46 (Option.some.inj h)
    · have h := itn c1 h
      refine lv_iload_n hx hb dX2_toldKind_13 rfl (lv_at hl 1 rfl) ?_
      refine lv_iconst (v := 3) hx hb dX2_toldKind_14 (by decide) ?_
      refine lv_icmp_ge (tgt := 45) hx hb dX2_toldKind_15 (by decide) (fun c2 => ?_) (fun c2 => ?_)
      · have h := itp c2 h
        refine lv_iconst (v := -1) hx hb dX2_toldKind_45 (by decide) ?_
        exact hret _ _ _ dX2_toldKind_46 (Option.some.inj h)
      · have h := itn c2 h
        refine lv_aload_n hx hb dX2_toldKind_18 rfl (lv_at hl 0 rfl) ?_
        refine lv_aload_n hx hb dX2_toldKind_19 rfl (lv_at hl 0 rfl) ?_
        refine xa_get (C := RX2) (T := TX2) (N := 9) cx hG hP 0 rfl rfl uX2 1 (by decide) lf_X2_18 rfl dX2_toldKind_20 ?_
        refine lv_iload_n hx hb dX2_toldKind_23 rfl (lv_at hl 1 rfl) ?_
        obtain ⟨hi3, h⟩ := chk_out h
        refine xa_iald cx hG hP 2 rfl hi3 rfl dX2_toldKind_24 ?_
        refine lv_aload_n hx hb dX2_toldKind_25 rfl (lv_at hl 0 rfl) ?_
        refine xa_get (C := RX2) (T := TX2) (N := 9) cx hG hP 0 rfl rfl uX2 2 (by decide) lf_X2_22 rfl dX2_toldKind_26 ?_
        refine lv_iload_n hx hb dX2_toldKind_29 rfl (lv_at hl 1 rfl) ?_
        obtain ⟨hi4, h⟩ := chk_out h
        refine xa_iald cx hG hP 3 rfl hi4 rfl dX2_toldKind_30 ?_
        obtain ⟨r5, hr6, h⟩ := bnd h
        refine ro_z (runV (As := [.int (t_nameStarts v1.toNatClampNeg), .int (t_nameLengths v1.toNatClampNeg)]) (rest := []) cx hl.1 (ctX2_repeats l g a_t a_t_draft a_t_text t_token t_start t_after t_fault t_place t_text_size t_text_bytes (t_nameStarts v1.toNatClampNeg) (t_nameLengths v1.toNatClampNeg) r5 hr6) kmX2_repeats kvX2_repeats lm_X2_165 ⟨rfl, rfl⟩ ⟨Nat.le_of_ble_eq_true rfl, Nat.le_of_ble_eq_true rfl⟩ (roV (q0 := 0) (ci := 2) hG (hP.sub [0, 4, 5] rfl) hP rfl rfl) rfl rfl (Nat.le_of_ble_eq_true rfl) dX2_toldKind_31 ⟨Nat.le_of_ble_eq_true rfl, Nat.le_of_ble_eq_true rfl⟩) (fun hz7 => ?_)
        refine lv_if_eq (tgt := 39) hx hb dX2_toldKind_34 (by decide) (fun c8 => ?_) (fun c8 => ?_)
        · have h := itp c8 h
          refine lv_iinc (v := v1 + 1) (lv' := [(1, .int (v1 + 1)), (0, .ref ((a_t 0)))]) hx hb dX2_toldKind_39 hl (k := 1) rfl rfl (by decide) rfl (fun ls hl => ?_)
          refine lv_goto (tgt := 2) hx hb dX2_toldKind_42 (by decide) ?_
          exact ih (v1 + 1) _ (lv_sub hl [1, 0] rfl) h
        · have h := itn c8 h
          refine lv_iload_n hx hb dX2_toldKind_37 rfl (lv_at hl 1 rfl) ?_
          exact hret _ _ _ dX2_toldKind_38 (Option.some.inj h)
  unfold fX2_toldKind at h
  refine lv_iconst (v := 0) hx hb dX2_toldKind_0 (by decide) ?_
  refine lv_istore_n (lv' := [(1, .int (0)), (0, .ref ((a_t 0)))]) hx hb dX2_toldKind_1 rfl hl (by decide) rfl (fun ls hl => ?_)
  exact w2 FU 0 _ (lv_sub hl [1, 0] rfl) h
-- X2_readNumber
theorem dX2_readNumber_0 : decode cX2_readNumber 0 = .ok (.aload_n 0, 1) := by decide +kernel
theorem dX2_readNumber_1 : decode cX2_readNumber 1 = .ok (.aload_n 1, 1) := by decide +kernel
theorem dX2_readNumber_2 : decode cX2_readNumber 2 = .ok (.invokevirtual 100, 3) := by decide +kernel
theorem dX2_readNumber_5 : decode cX2_readNumber 5 = .ok (.ifCond .eq 14, 3) := by decide +kernel
theorem dX2_readNumber_8 : decode cX2_readNumber 8 = .ok (.aload_n 0, 1) := by decide +kernel
theorem dX2_readNumber_9 : decode cX2_readNumber 9 = .ok (.iload 4, 2) := by decide +kernel
theorem dX2_readNumber_11 : decode cX2_readNumber 11 = .ok (.iload 5, 2) := by decide +kernel
theorem dX2_readNumber_13 : decode cX2_readNumber 13 = .ok (.invokevirtual 105, 3) := by decide +kernel
theorem dX2_readNumber_16 : decode cX2_readNumber 16 = .ok (.ifCond .ne 5, 3) := by decide +kernel
theorem dX2_readNumber_19 : decode cX2_readNumber 19 = .ok (.iconst 0, 1) := by decide +kernel
theorem dX2_readNumber_20 : decode cX2_readNumber 20 = .ok (.ireturn, 1) := by decide +kernel
theorem dX2_readNumber_21 : decode cX2_readNumber 21 = .ok (.aload_n 0, 1) := by decide +kernel
theorem dX2_readNumber_22 : decode cX2_readNumber 22 = .ok (.getfield 12, 3) := by decide +kernel
theorem dX2_readNumber_25 : decode cX2_readNumber 25 = .ok (.iload_n 2, 1) := by decide +kernel
theorem dX2_readNumber_26 : decode cX2_readNumber 26 = .ok (.iload_n 3, 1) := by decide +kernel
theorem dX2_readNumber_27 : decode cX2_readNumber 27 = .ok (.aload_n 0, 1) := by decide +kernel
theorem dX2_readNumber_28 : decode cX2_readNumber 28 = .ok (.invokevirtual 112, 3) := by decide +kernel
theorem dX2_readNumber_31 : decode cX2_readNumber 31 = .ok (.invokevirtual 143, 3) := by decide +kernel
theorem dX2_readNumber_34 : decode cX2_readNumber 34 = .ok (.aload_n 0, 1) := by decide +kernel
theorem dX2_readNumber_35 : decode cX2_readNumber 35 = .ok (.invokevirtual 42, 3) := by decide +kernel
theorem dX2_readNumber_38 : decode cX2_readNumber 38 = .ok (.iconst 1, 1) := by decide +kernel
theorem dX2_readNumber_39 : decode cX2_readNumber 39 = .ok (.ireturn, 1) := by decide +kernel
noncomputable def fX2_readNumber  (t_draft_numbers : Nat → Int32) (t_text_bytes : Nat → Int32) (t_text_size : Int32) (t_token : Int32) (t_start : Int32) (t_after : Int32) (t_fault : Int32) (t_place : Int32) (v1 : Nat) (v2 : Int32) (v3 : Int32) (v4 : Int32) (v5 : Int32) : Option (Int32 × (Nat → Int32) × Int32 × Int32 × Int32 × Int32 × Int32) := ob6 (fX2_pass t_text_bytes t_text_size t_token t_start t_after t_fault t_place v1) fun r2 w3 w4 w5 w6 w7 => (if r2 = 0 then some ((0), t_draft_numbers, w3, w4, w5, w6, w7) else ob3 (fX2_isNumberIn t_text_bytes t_text_size w3 w4 w5 w6 w7 v4 v5) fun r12 w13 w14 => (if r12 = 0 then some ((0), t_draft_numbers, w3, w4, w5, w13, w14) else (fX2_tokenValue t_text_bytes t_text_size w4 w5).bind fun r18 => (fX1_setNumber t_draft_numbers v2 v3 r18).bind fun w21 => ob3 (fX2_next t_text_bytes t_text_size w3 w4 w5) fun w24 w25 w26 => some ((1), w21, w24, w25, w26, w13, w14)))
set_option maxHeartbeats 4000000 in
set_option maxRecDepth 100000 in
theorem ctX2_readNumber (l : Launch) (g : GT) (sz : Nat) (a_t : Nat → Nat) (a_t_draft : Nat → Nat) (a_t_text : Nat → Nat) (t_token : Int32) (t_start : Int32) (t_after : Int32) (t_fault : Int32) (t_place : Int32) (t_draft_told : Int32) (t_draft_lines : Int32) (t_draft_kinds : Int32) (t_draft_acts : Int32) (t_draft_numbers : Nat → Int32) (t_text_size : Int32) (t_text_bytes : Nat → Int32) (v1 : Nat) (hs_v1 : v1 < 13) (v2 : Int32) (v3 : Int32) (v4 : Int32) (v5 : Int32) (o : Int32) (o_t_draft_numbers : Nat → Int32) (o_t_token : Int32) (o_t_start : Int32) (o_t_after : Int32) (o_t_fault : Int32) (o_t_place : Int32) (h : fX2_readNumber t_draft_numbers t_text_bytes t_text_size t_token t_start t_after t_fault t_place v1 v2 v3 v4 v5 = some (o, o_t_draft_numbers, o_t_token, o_t_start, o_t_after, o_t_fault, o_t_place)) : Met l yX2_readNumber (Cond.code yX2_readNumber cX2_readNumber 6 (some .boolean) :: Tw) ⟨10, 0, 0, 193⟩ (va_Pc [.ref ((a_t 0)), .ref ((g.2.2.2.2.1 v1)), .int v2, .int v3, .int v4, .int v5] (rwB g [((a_t 0), .inr (2, [.ref (a_t_draft 0), .ref (a_t 2), .ref (a_t 3), .ref (a_t_text 0), .int t_token, .int t_start, .int t_after, .int t_fault, .int t_place])), ((a_t_draft 0), .inr (1, [.ref (a_t_draft 1), .ref (a_t_draft 2), .ref (a_t_draft 3), .ref (a_t_draft 4), .ref (a_t_draft 5), .int t_draft_told, .int t_draft_lines, .int t_draft_kinds, .int t_draft_acts])), ((a_t_draft 1), .inl (g.2.2.1 0, 15, .inl t_draft_numbers)), ((a_t_text 0), .inr (4, [.ref (a_t_text 1), .int t_text_size])), ((a_t_text 1), .inl (g.2.2.1 2, 600, .inl t_text_bytes))] sz)) (va_Qi (fun x (_ : Nat → Nat) => x = o ∧ (x = 0 ∨ x = 1)) (fun u => rwE g (va_A [((a_t 0), .inr (2, [.ref (a_t_draft 0), .ref (a_t 2), .ref (a_t 3), .ref (a_t_text 0), .int t_token, .int t_start, .int t_after, .int t_fault, .int t_place])), ((a_t_draft 0), .inr (1, [.ref (a_t_draft 1), .ref (a_t_draft 2), .ref (a_t_draft 3), .ref (a_t_draft 4), .ref (a_t_draft 5), .int t_draft_told, .int t_draft_lines, .int t_draft_kinds, .int t_draft_acts])), ((a_t_draft 1), .inl (g.2.2.1 0, 15, .inl t_draft_numbers)), ((a_t_text 0), .inr (4, [.ref (a_t_text 1), .int t_text_size])), ((a_t_text 1), .inl (g.2.2.1 2, 600, .inl t_text_bytes))] sz) [((a_t 0), .inr (2, [.ref (a_t_draft 0), .ref (a_t 2), .ref (a_t 3), .ref (a_t_text 0), .int o_t_token, .int o_t_start, .int o_t_after, .int o_t_fault, .int o_t_place])), ((a_t_draft 0), .inr (1, [.ref (a_t_draft 1), .ref (a_t_draft 2), .ref (a_t_draft 3), .ref (a_t_draft 4), .ref (a_t_draft 5), .int t_draft_told, .int t_draft_lines, .int t_draft_kinds, .int t_draft_acts])), ((a_t_draft 1), .inl (g.2.2.1 0, 15, .inl o_t_draft_numbers)), ((a_t_text 0), .inr (4, [.ref (a_t_text 1), .int t_text_size])), ((a_t_text 1), .inl (g.2.2.1 2, 600, .inl t_text_bytes))]) (va_A [((a_t 0), .inr (2, [.ref (a_t_draft 0), .ref (a_t 2), .ref (a_t 3), .ref (a_t_text 0), .int t_token, .int t_start, .int t_after, .int t_fault, .int t_place])), ((a_t_draft 0), .inr (1, [.ref (a_t_draft 1), .ref (a_t_draft 2), .ref (a_t_draft 3), .ref (a_t_draft 4), .ref (a_t_draft 5), .int t_draft_told, .int t_draft_lines, .int t_draft_kinds, .int t_draft_acts])), ((a_t_draft 1), .inl (g.2.2.1 0, 15, .inl t_draft_numbers)), ((a_t_text 0), .inr (4, [.ref (a_t_text 1), .int t_text_size])), ((a_t_text 1), .inl (g.2.2.1 2, 600, .inl t_text_bytes))] sz)) 0 0 (va_A [((a_t 0), .inr (2, [.ref (a_t_draft 0), .ref (a_t 2), .ref (a_t 3), .ref (a_t_text 0), .int t_token, .int t_start, .int t_after, .int t_fault, .int t_place])), ((a_t_draft 0), .inr (1, [.ref (a_t_draft 1), .ref (a_t_draft 2), .ref (a_t_draft 3), .ref (a_t_draft 4), .ref (a_t_draft 5), .int t_draft_told, .int t_draft_lines, .int t_draft_kinds, .int t_draft_acts])), ((a_t_draft 1), .inl (g.2.2.1 0, 15, .inl t_draft_numbers)), ((a_t_text 0), .inr (4, [.ref (a_t_text 1), .int t_text_size])), ((a_t_text 1), .inl (g.2.2.1 2, 600, .inl t_text_bytes))] sz) := by
  refine rw_metz (by decide) (Nat.le_of_ble_eq_true rfl) (lv0 := [(0, .ref ((a_t 0))), (1, .ref ((g.2.2.2.2.1 v1))), (2, .int v2), (3, .int v3), (4, .int v4), (5, .int v5)]) rfl ?_
  intro p e s m args below meth c ls Q A cx hret hG hAb hb0 hA hP hD hl
  have hx := cx.1
  have hb := cx.2.1
  have hG0 := hG
  have hGk : ∀ {H : Heap} {locs : List Loc}, va_S A s.heap H locs → GE g s H := fun hS => hG0.keptS hAb hS
  have hSb : ∀ {H : Heap} {locs : List Loc}, va_S A s.heap H locs → va_S (fun a => g.1 ≤ a) s.heap H locs := fun hS => ⟨hS.1, fun q h1 h2 => hS.2.1 q h1 (fun z => h2 (hAb q z)), fun l hl => hAb _ (hS.2.2 l hl)⟩
  have hS : va_S A s.heap s.heap [] := va_S.rf
  have hrt : ∀ (u : Nat → Nat) (pc : Nat) (ls : Array Slot) (v : Int32) (x_t_draft_numbers : Nat → Int32) (x_t_token : Int32) (x_t_start : Int32) (x_t_after : Int32) (x_t_fault : Int32) (x_t_place : Int32) (H : Heap) (locs : List Loc), decode cX2_readNumber pc = .ok (.ireturn, 1) → (v = 0 ∨ v = 1) → some (v, x_t_draft_numbers, x_t_token, x_t_start, x_t_after, x_t_fault, x_t_place) = some (o, o_t_draft_numbers, o_t_token, o_t_start, o_t_after, o_t_fault, o_t_place) → va_P g.2.1 vwCl [((a_t 0), .inr (2, [.ref (a_t_draft 0), .ref (a_t 2), .ref (a_t 3), .ref (a_t_text 0), .int x_t_token, .int x_t_start, .int x_t_after, .int x_t_fault, .int x_t_place])), ((a_t_draft 0), .inr (1, [.ref (a_t_draft 1), .ref (a_t_draft 2), .ref (a_t_draft 3), .ref (a_t_draft 4), .ref (a_t_draft 5), .int t_draft_told, .int t_draft_lines, .int t_draft_kinds, .int t_draft_acts])), ((a_t_draft 1), .inl (g.2.2.1 0, 15, .inl x_t_draft_numbers)), ((a_t_text 0), .inr (4, [.ref (a_t_text 1), .int t_text_size])), ((a_t_text 1), .inl (g.2.2.1 2, 600, .inl t_text_bytes))] H → va_D A [((a_t 0), .inr (2, [.ref (a_t_draft 0), .ref (a_t 2), .ref (a_t 3), .ref (a_t_text 0), .int x_t_token, .int x_t_start, .int x_t_after, .int x_t_fault, .int x_t_place])), ((a_t_draft 0), .inr (1, [.ref (a_t_draft 1), .ref (a_t_draft 2), .ref (a_t_draft 3), .ref (a_t_draft 4), .ref (a_t_draft 5), .int t_draft_told, .int t_draft_lines, .int t_draft_kinds, .int t_draft_acts])), ((a_t_draft 1), .inl (g.2.2.1 0, 15, .inl x_t_draft_numbers)), ((a_t_text 0), .inr (4, [.ref (a_t_text 1), .int t_text_size])), ((a_t_text 1), .inl (g.2.2.1 2, 600, .inl t_text_bytes))] → va_S A s.heap H locs → W p l e ⟨10, 0, 0, 193⟩ s m args below meth c H locs 0 0 Q (F0 m pc ls [.int v]) := by
    intro u pc ls v x_t_draft_numbers x_t_token x_t_start x_t_after x_t_fault x_t_place H locs hd hz h hP hD hS
    cases h
    exact hret u _ _ _ _ _ hd hz rfl hP hD hS
  unfold fX2_readNumber at h
  refine lv_aload_n hx hb dX2_readNumber_0 rfl (lv_at hl 0 rfl) ?_
  refine lv_aload_n hx hb dX2_readNumber_1 rfl (lv_at hl 1 rfl) ?_
  obtain ⟨r2, w3, w4, w5, w6, w7, hr1, h⟩ := ob6_out h
  refine rw_z (WN := fun u8 => [((a_t_draft 0), .inr (1, [.ref (a_t_draft 1), .ref (a_t_draft 2), .ref (a_t_draft 3), .ref (a_t_draft 4), .ref (a_t_draft 5), .int t_draft_told, .int t_draft_lines, .int t_draft_kinds, .int t_draft_acts])), ((a_t_draft 1), .inl (g.2.2.1 0, 15, .inl t_draft_numbers)), ((a_t 0), .inr (2, [.ref (a_t_draft 0), .ref (a_t 2), .ref (a_t 3), .ref (a_t_text 0), .int w3, .int w4, .int w5, .int w6, .int w7])), ((a_t_text 0), .inr (4, [.ref (a_t_text 1), .int t_text_size])), ((a_t_text 1), .inl (g.2.2.1 2, 600, .inl t_text_bytes))]) (wr := [((a_t_draft 0), .inr (1, [.ref (a_t_draft 1), .ref (a_t_draft 2), .ref (a_t_draft 3), .ref (a_t_draft 4), .ref (a_t_draft 5), .int t_draft_told, .int t_draft_lines, .int t_draft_kinds, .int t_draft_acts])), ((a_t_draft 1), .inl (g.2.2.1 0, 15, .inl t_draft_numbers))]) (runV (As := [.ref ((g.2.2.2.2.1 v1))]) (rest := []) cx hl.1 (ctX2_pass l g s.heap.size a_t a_t_draft a_t_text t_token t_start t_after t_fault t_place t_text_size t_text_bytes v1 hs_v1 r2 w3 w4 w5 w6 w7 hr1) kmX2_pass kvX2_pass lm_X2_100 ⟨rfl, rfl⟩ ⟨Nat.le_of_ble_eq_true rfl, Nat.le_of_ble_eq_true rfl⟩ (rwV (q0 := 0) (ci := 2) hG (hP.sub [0, 3, 4] rfl) (hD.sub [0, 3, 4] (by decide) rfl) hAb hb0 hS hP rfl rfl) rfl rfl (Nat.le_of_ble_eq_true rfl) dX2_readNumber_2 ⟨Nat.le_of_ble_eq_true rfl, Nat.le_of_ble_eq_true rfl⟩) hP hD hS hA [0, 3, 4] [1, 2] rfl rfl (by decide) (by decide) (fun _ => rfl) (fun hz9 u8 H locs hP hD hS => ?_)
  have hG := hGk hS
  refine lv_if_eq (tgt := 19) hx hb dX2_readNumber_5 (by decide) (fun c10 => ?_) (fun c10 => ?_)
  · have h := itp c10 h
    refine lv_iconst (v := 0) hx hb dX2_readNumber_19 (by decide) ?_
    exact hrt (fun _ => 0) _ _ ((0)) t_draft_numbers w3 w4 w5 w6 w7 _ _ dX2_readNumber_20 (by decide) h (hP.sub [2, 0, 1, 3, 4] rfl) (hD.sub [2, 0, 1, 3, 4] (by decide) rfl) hS
  · have h := itn c10 h
    refine lv_aload_n hx hb dX2_readNumber_8 rfl (lv_at hl 0 rfl) ?_
    refine lv_iload hx hb dX2_readNumber_9 (lv_at hl 4 rfl) ?_
    refine lv_iload hx hb dX2_readNumber_11 (lv_at hl 5 rfl) ?_
    obtain ⟨r12, w13, w14, hr11, h⟩ := ob3_out h
    refine rw_z (WN := fun u15 => [((a_t_draft 0), .inr (1, [.ref (a_t_draft 1), .ref (a_t_draft 2), .ref (a_t_draft 3), .ref (a_t_draft 4), .ref (a_t_draft 5), .int t_draft_told, .int t_draft_lines, .int t_draft_kinds, .int t_draft_acts])), ((a_t_draft 1), .inl (g.2.2.1 0, 15, .inl t_draft_numbers)), ((a_t 0), .inr (2, [.ref (a_t_draft 0), .ref (a_t 2), .ref (a_t 3), .ref (a_t_text 0), .int w3, .int w4, .int w5, .int w13, .int w14])), ((a_t_text 0), .inr (4, [.ref (a_t_text 1), .int t_text_size])), ((a_t_text 1), .inl (g.2.2.1 2, 600, .inl t_text_bytes))]) (wr := [((a_t_draft 0), .inr (1, [.ref (a_t_draft 1), .ref (a_t_draft 2), .ref (a_t_draft 3), .ref (a_t_draft 4), .ref (a_t_draft 5), .int t_draft_told, .int t_draft_lines, .int t_draft_kinds, .int t_draft_acts])), ((a_t_draft 1), .inl (g.2.2.1 0, 15, .inl t_draft_numbers))]) (runV (As := [.int v4, .int v5]) (rest := []) cx hl.1 (ctX2_isNumberIn l g H.size a_t a_t_draft a_t_text w3 w4 w5 w6 w7 t_text_size t_text_bytes v4 v5 r12 w13 w14 hr11) kmX2_isNumberIn kvX2_isNumberIn lm_X2_105 ⟨rfl, rfl⟩ ⟨Nat.le_of_ble_eq_true rfl, Nat.le_of_ble_eq_true rfl⟩ (rwV (q0 := 2) (ci := 2) hG (hP.sub [2, 3, 4] rfl) (hD.sub [2, 3, 4] (by decide) rfl) hAb hb0 hS hP rfl rfl) rfl rfl (Nat.le_of_ble_eq_true rfl) dX2_readNumber_13 ⟨Nat.le_of_ble_eq_true rfl, Nat.le_of_ble_eq_true rfl⟩) hP hD hS hA [2, 3, 4] [0, 1] rfl rfl (by decide) (by decide) (fun _ => rfl) (fun hz16 u15 H locs hP hD hS => ?_)
    have hG := hGk hS
    refine lv_if_ne (tgt := 21) hx hb dX2_readNumber_16 (by decide) (fun c17 => ?_) (fun c17 => ?_)
    · have h := itn c17 h
      refine lv_aload_n hx hb dX2_readNumber_21 rfl (lv_at hl 0 rfl) ?_
      refine xa_get (C := RX2) (T := TX2) (N := 9) cx hG hP 2 rfl rfl uX2 0 (by decide) lf_X2_12 rfl dX2_readNumber_22 ?_
      refine lv_iload_n hx hb dX2_readNumber_25 rfl (lv_at hl 2 rfl) ?_
      refine lv_iload_n hx hb dX2_readNumber_26 rfl (lv_at hl 3 rfl) ?_
      refine lv_aload_n hx hb dX2_readNumber_27 rfl (lv_at hl 0 rfl) ?_
      obtain ⟨r18, hr19, h⟩ := bnd h
      refine ro_i (runV (As := []) (rest := [.int v3, .int v2, .ref ((a_t_draft 0))]) cx hl.1 (ctX2_tokenValue l g a_t a_t_draft a_t_text w3 w4 w5 w13 w14 t_text_size t_text_bytes r18 hr19) kmX2_tokenValue kvX2_tokenValue lm_X2_112 ⟨rfl, rfl⟩ ⟨Nat.le_of_ble_eq_true rfl, Nat.le_of_ble_eq_true rfl⟩ (roV (q0 := 2) (ci := 2) hG (hP.sub [2, 3, 4] rfl) hP rfl rfl) rfl rfl (Nat.le_of_ble_eq_true rfl) dX2_readNumber_28 ⟨Nat.le_of_ble_eq_true rfl, Nat.le_of_ble_eq_true rfl⟩) ?_
      obtain ⟨w21, hr20, h⟩ := bnd h
      refine rw_v (WN := fun u22 => [((a_t 0), .inr (2, [.ref (a_t_draft 0), .ref (a_t 2), .ref (a_t 3), .ref (a_t_text 0), .int w3, .int w4, .int w5, .int w13, .int w14])), ((a_t_text 0), .inr (4, [.ref (a_t_text 1), .int t_text_size])), ((a_t_text 1), .inl (g.2.2.1 2, 600, .inl t_text_bytes)), ((a_t_draft 0), .inr (1, [.ref (a_t_draft 1), .ref (a_t_draft 2), .ref (a_t_draft 3), .ref (a_t_draft 4), .ref (a_t_draft 5), .int t_draft_told, .int t_draft_lines, .int t_draft_kinds, .int t_draft_acts])), ((a_t_draft 1), .inl (g.2.2.1 0, 15, .inl w21))]) (wr := [((a_t 0), .inr (2, [.ref (a_t_draft 0), .ref (a_t 2), .ref (a_t 3), .ref (a_t_text 0), .int w3, .int w4, .int w5, .int w13, .int w14])), ((a_t_text 0), .inr (4, [.ref (a_t_text 1), .int t_text_size])), ((a_t_text 1), .inl (g.2.2.1 2, 600, .inl t_text_bytes))]) (runVN (As := [.int v2, .int v3, .int r18]) (rest := []) hG cx hl.1 (ctX1_setNumber l g H.size a_t_draft t_draft_told t_draft_lines t_draft_kinds t_draft_acts t_draft_numbers v2 v3 r18 w21 hr20) kmX1_setNumber kvX1_setNumber nm_12 ⟨rfl, rfl⟩ ⟨Nat.le_of_ble_eq_true rfl, Nat.le_of_ble_eq_true rfl⟩ (rwV (q0 := 0) (ci := 1) hG (hP.sub [0, 1] rfl) (hD.sub [0, 1] (by decide) rfl) hAb hb0 hS hP rfl rfl) rfl rfl (Nat.le_of_ble_eq_true rfl) dX2_readNumber_31 ⟨Nat.le_of_ble_eq_true rfl, Nat.le_of_ble_eq_true rfl⟩) hP hD hS hA [0, 1] [2, 3, 4] rfl rfl (by decide) (by decide) (fun _ => rfl) (fun u22 H locs hP hD hS => ?_)
      have hG := hGk hS
      refine lv_aload_n hx hb dX2_readNumber_34 rfl (lv_at hl 0 rfl) ?_
      obtain ⟨w24, w25, w26, hr23, h⟩ := ob3_out h
      refine rw_v (WN := fun u27 => [((a_t_draft 0), .inr (1, [.ref (a_t_draft 1), .ref (a_t_draft 2), .ref (a_t_draft 3), .ref (a_t_draft 4), .ref (a_t_draft 5), .int t_draft_told, .int t_draft_lines, .int t_draft_kinds, .int t_draft_acts])), ((a_t_draft 1), .inl (g.2.2.1 0, 15, .inl w21)), ((a_t 0), .inr (2, [.ref (a_t_draft 0), .ref (a_t 2), .ref (a_t 3), .ref (a_t_text 0), .int w24, .int w25, .int w26, .int w13, .int w14])), ((a_t_text 0), .inr (4, [.ref (a_t_text 1), .int t_text_size])), ((a_t_text 1), .inl (g.2.2.1 2, 600, .inl t_text_bytes))]) (wr := [((a_t_draft 0), .inr (1, [.ref (a_t_draft 1), .ref (a_t_draft 2), .ref (a_t_draft 3), .ref (a_t_draft 4), .ref (a_t_draft 5), .int t_draft_told, .int t_draft_lines, .int t_draft_kinds, .int t_draft_acts])), ((a_t_draft 1), .inl (g.2.2.1 0, 15, .inl w21))]) (runV (As := []) (rest := []) cx hl.1 (ctX2_next l g H.size a_t a_t_draft a_t_text w3 w4 w5 w13 w14 t_text_size t_text_bytes w24 w25 w26 hr23) kmX2_next kvX2_next lm_X2_42 ⟨rfl, rfl⟩ ⟨Nat.le_of_ble_eq_true rfl, Nat.le_of_ble_eq_true rfl⟩ (rwV (q0 := 0) (ci := 2) hG (hP.sub [0, 1, 2] rfl) (hD.sub [0, 1, 2] (by decide) rfl) hAb hb0 hS hP rfl rfl) rfl rfl (Nat.le_of_ble_eq_true rfl) dX2_readNumber_35 ⟨Nat.le_of_ble_eq_true rfl, Nat.le_of_ble_eq_true rfl⟩) hP hD hS hA [0, 1, 2] [3, 4] rfl rfl (by decide) (by decide) (fun _ => rfl) (fun u27 H locs hP hD hS => ?_)
      have hG := hGk hS
      refine lv_iconst (v := 1) hx hb dX2_readNumber_38 (by decide) ?_
      exact hrt (fun _ => 0) _ _ ((1)) w21 w24 w25 w26 w13 w14 _ _ dX2_readNumber_39 (by decide) h (hP.sub [2, 0, 1, 3, 4] rfl) (hD.sub [2, 0, 1, 3, 4] (by decide) rfl) hS
    · have h := itp c17 h
      refine lv_iconst (v := 0) hx hb dX2_readNumber_19 (by decide) ?_
      exact hrt (fun _ => 0) _ _ ((0)) t_draft_numbers w3 w4 w5 w13 w14 _ _ dX2_readNumber_20 (by decide) h (hP.sub [2, 0, 1, 3, 4] rfl) (hD.sub [2, 0, 1, 3, 4] (by decide) rfl) hS
-- X2_readKind
theorem dX2_readKind_0 : decode cX2_readKind 0 = .ok (.aload_n 0, 1) := by decide +kernel
theorem dX2_readKind_1 : decode cX2_readKind 1 = .ok (.getfield 12, 3) := by decide +kernel
theorem dX2_readKind_4 : decode cX2_readKind 4 = .ok (.getfield 116, 3) := by decide +kernel
theorem dX2_readKind_7 : decode cX2_readKind 7 = .ok (.istore_n 1, 1) := by decide +kernel
theorem dX2_readKind_8 : decode cX2_readKind 8 = .ok (.iload_n 1, 1) := by decide +kernel
theorem dX2_readKind_9 : decode cX2_readKind 9 = .ok (.ifCond .lt 8, 3) := by decide +kernel
theorem dX2_readKind_12 : decode cX2_readKind 12 = .ok (.iload_n 1, 1) := by decide +kernel
theorem dX2_readKind_13 : decode cX2_readKind 13 = .ok (.iconst 3, 1) := by decide +kernel
theorem dX2_readKind_14 : decode cX2_readKind 14 = .ok (.if_icmp .lt 9, 3) := by decide +kernel
theorem dX2_readKind_17 : decode cX2_readKind 17 = .ok (.aload_n 0, 1) := by decide +kernel
theorem dX2_readKind_18 : decode cX2_readKind 18 = .ok (.iconst 3, 1) := by decide +kernel
theorem dX2_readKind_19 : decode cX2_readKind 19 = .ok (.invokevirtual 94, 3) := by decide +kernel
theorem dX2_readKind_22 : decode cX2_readKind 22 = .ok (.ireturn, 1) := by decide +kernel
theorem dX2_readKind_23 : decode cX2_readKind 23 = .ok (.aload_n 0, 1) := by decide +kernel
theorem dX2_readKind_24 : decode cX2_readKind 24 = .ok (.invokevirtual 42, 3) := by decide +kernel
theorem dX2_readKind_27 : decode cX2_readKind 27 = .ok (.aload_n 0, 1) := by decide +kernel
theorem dX2_readKind_28 : decode cX2_readKind 28 = .ok (.invokevirtual 119, 3) := by decide +kernel
theorem dX2_readKind_31 : decode cX2_readKind 31 = .ok (.ifCond .ne 5, 3) := by decide +kernel
theorem dX2_readKind_34 : decode cX2_readKind 34 = .ok (.iconst 0, 1) := by decide +kernel
theorem dX2_readKind_35 : decode cX2_readKind 35 = .ok (.ireturn, 1) := by decide +kernel
theorem dX2_readKind_36 : decode cX2_readKind 36 = .ok (.aload_n 0, 1) := by decide +kernel
theorem dX2_readKind_37 : decode cX2_readKind 37 = .ok (.invokevirtual 122, 3) := by decide +kernel
theorem dX2_readKind_40 : decode cX2_readKind 40 = .ok (.iconst (-1), 1) := by decide +kernel
theorem dX2_readKind_41 : decode cX2_readKind 41 = .ok (.if_icmp .eq 9, 3) := by decide +kernel
theorem dX2_readKind_44 : decode cX2_readKind 44 = .ok (.aload_n 0, 1) := by decide +kernel
theorem dX2_readKind_45 : decode cX2_readKind 45 = .ok (.iconst 2, 1) := by decide +kernel
theorem dX2_readKind_46 : decode cX2_readKind 46 = .ok (.invokevirtual 94, 3) := by decide +kernel
theorem dX2_readKind_49 : decode cX2_readKind 49 = .ok (.ireturn, 1) := by decide +kernel
theorem dX2_readKind_50 : decode cX2_readKind 50 = .ok (.aload_n 0, 1) := by decide +kernel
theorem dX2_readKind_51 : decode cX2_readKind 51 = .ok (.getfield 18, 3) := by decide +kernel
theorem dX2_readKind_54 : decode cX2_readKind 54 = .ok (.iload_n 1, 1) := by decide +kernel
theorem dX2_readKind_55 : decode cX2_readKind 55 = .ok (.aload_n 0, 1) := by decide +kernel
theorem dX2_readKind_56 : decode cX2_readKind 56 = .ok (.getfield 59, 3) := by decide +kernel
theorem dX2_readKind_59 : decode cX2_readKind 59 = .ok (.iastore, 1) := by decide +kernel
theorem dX2_readKind_60 : decode cX2_readKind 60 = .ok (.aload_n 0, 1) := by decide +kernel
theorem dX2_readKind_61 : decode cX2_readKind 61 = .ok (.getfield 22, 3) := by decide +kernel
theorem dX2_readKind_64 : decode cX2_readKind 64 = .ok (.iload_n 1, 1) := by decide +kernel
theorem dX2_readKind_65 : decode cX2_readKind 65 = .ok (.aload_n 0, 1) := by decide +kernel
theorem dX2_readKind_66 : decode cX2_readKind 66 = .ok (.getfield 36, 3) := by decide +kernel
theorem dX2_readKind_69 : decode cX2_readKind 69 = .ok (.aload_n 0, 1) := by decide +kernel
theorem dX2_readKind_70 : decode cX2_readKind 70 = .ok (.getfield 59, 3) := by decide +kernel
theorem dX2_readKind_73 : decode cX2_readKind 73 = .ok (.isub, 1) := by decide +kernel
theorem dX2_readKind_74 : decode cX2_readKind 74 = .ok (.iastore, 1) := by decide +kernel
theorem dX2_readKind_75 : decode cX2_readKind 75 = .ok (.aload_n 0, 1) := by decide +kernel
theorem dX2_readKind_76 : decode cX2_readKind 76 = .ok (.invokevirtual 42, 3) := by decide +kernel
theorem dX2_readKind_79 : decode cX2_readKind 79 = .ok (.aload_n 0, 1) := by decide +kernel
theorem dX2_readKind_80 : decode cX2_readKind 80 = .ok (.ldc 125, 2) := by decide +kernel
theorem dX2_readKind_82 : decode cX2_readKind 82 = .ok (.iload_n 1, 1) := by decide +kernel
theorem dX2_readKind_83 : decode cX2_readKind 83 = .ok (.iconst 0, 1) := by decide +kernel
theorem dX2_readKind_84 : decode cX2_readKind 84 = .ok (.iconst 1, 1) := by decide +kernel
theorem dX2_readKind_85 : decode cX2_readKind 85 = .ok (.bipush 99, 2) := by decide +kernel
theorem dX2_readKind_87 : decode cX2_readKind 87 = .ok (.invokevirtual 127, 3) := by decide +kernel
theorem dX2_readKind_90 : decode cX2_readKind 90 = .ok (.ifCond .eq 64, 3) := by decide +kernel
theorem dX2_readKind_93 : decode cX2_readKind 93 = .ok (.aload_n 0, 1) := by decide +kernel
theorem dX2_readKind_94 : decode cX2_readKind 94 = .ok (.ldc 131, 2) := by decide +kernel
theorem dX2_readKind_96 : decode cX2_readKind 96 = .ok (.iload_n 1, 1) := by decide +kernel
theorem dX2_readKind_97 : decode cX2_readKind 97 = .ok (.iconst 1, 1) := by decide +kernel
theorem dX2_readKind_98 : decode cX2_readKind 98 = .ok (.iconst 0, 1) := by decide +kernel
theorem dX2_readKind_99 : decode cX2_readKind 99 = .ok (.bipush 99, 2) := by decide +kernel
theorem dX2_readKind_101 : decode cX2_readKind 101 = .ok (.invokevirtual 127, 3) := by decide +kernel
theorem dX2_readKind_104 : decode cX2_readKind 104 = .ok (.ifCond .eq 50, 3) := by decide +kernel
theorem dX2_readKind_107 : decode cX2_readKind 107 = .ok (.aload_n 0, 1) := by decide +kernel
theorem dX2_readKind_108 : decode cX2_readKind 108 = .ok (.ldc 133, 2) := by decide +kernel
theorem dX2_readKind_110 : decode cX2_readKind 110 = .ok (.iload_n 1, 1) := by decide +kernel
theorem dX2_readKind_111 : decode cX2_readKind 111 = .ok (.iconst 2, 1) := by decide +kernel
theorem dX2_readKind_112 : decode cX2_readKind 112 = .ok (.iconst 0, 1) := by decide +kernel
theorem dX2_readKind_113 : decode cX2_readKind 113 = .ok (.bipush 99, 2) := by decide +kernel
theorem dX2_readKind_115 : decode cX2_readKind 115 = .ok (.invokevirtual 127, 3) := by decide +kernel
theorem dX2_readKind_118 : decode cX2_readKind 118 = .ok (.ifCond .eq 36, 3) := by decide +kernel
theorem dX2_readKind_121 : decode cX2_readKind 121 = .ok (.aload_n 0, 1) := by decide +kernel
theorem dX2_readKind_122 : decode cX2_readKind 122 = .ok (.ldc 135, 2) := by decide +kernel
theorem dX2_readKind_124 : decode cX2_readKind 124 = .ok (.iload_n 1, 1) := by decide +kernel
theorem dX2_readKind_125 : decode cX2_readKind 125 = .ok (.iconst 3, 1) := by decide +kernel
theorem dX2_readKind_126 : decode cX2_readKind 126 = .ok (.iconst 0, 1) := by decide +kernel
theorem dX2_readKind_127 : decode cX2_readKind 127 = .ok (.bipush 99, 2) := by decide +kernel
theorem dX2_readKind_129 : decode cX2_readKind 129 = .ok (.invokevirtual 127, 3) := by decide +kernel
theorem dX2_readKind_132 : decode cX2_readKind 132 = .ok (.ifCond .eq 22, 3) := by decide +kernel
theorem dX2_readKind_135 : decode cX2_readKind 135 = .ok (.aload_n 0, 1) := by decide +kernel
theorem dX2_readKind_136 : decode cX2_readKind 136 = .ok (.ldc 137, 2) := by decide +kernel
theorem dX2_readKind_138 : decode cX2_readKind 138 = .ok (.iload_n 1, 1) := by decide +kernel
theorem dX2_readKind_139 : decode cX2_readKind 139 = .ok (.iconst 4, 1) := by decide +kernel
theorem dX2_readKind_140 : decode cX2_readKind 140 = .ok (.iconst 1, 1) := by decide +kernel
theorem dX2_readKind_141 : decode cX2_readKind 141 = .ok (.sipush 999, 3) := by decide +kernel
theorem dX2_readKind_144 : decode cX2_readKind 144 = .ok (.invokevirtual 127, 3) := by decide +kernel
theorem dX2_readKind_147 : decode cX2_readKind 147 = .ok (.ifCond .eq 7, 3) := by decide +kernel
theorem dX2_readKind_150 : decode cX2_readKind 150 = .ok (.iconst 1, 1) := by decide +kernel
theorem dX2_readKind_151 : decode cX2_readKind 151 = .ok (.goto 4, 3) := by decide +kernel
theorem dX2_readKind_154 : decode cX2_readKind 154 = .ok (.iconst 0, 1) := by decide +kernel
theorem dX2_readKind_155 : decode cX2_readKind 155 = .ok (.istore_n 2, 1) := by decide +kernel
theorem dX2_readKind_156 : decode cX2_readKind 156 = .ok (.iload_n 2, 1) := by decide +kernel
theorem dX2_readKind_157 : decode cX2_readKind 157 = .ok (.ifCond .eq 24, 3) := by decide +kernel
theorem dX2_readKind_160 : decode cX2_readKind 160 = .ok (.aload_n 0, 1) := by decide +kernel
theorem dX2_readKind_161 : decode cX2_readKind 161 = .ok (.getfield 12, 3) := by decide +kernel
theorem dX2_readKind_164 : decode cX2_readKind 164 = .ok (.dup, 1) := by decide +kernel
theorem dX2_readKind_165 : decode cX2_readKind 165 = .ok (.getfield 116, 3) := by decide +kernel
theorem dX2_readKind_168 : decode cX2_readKind 168 = .ok (.iconst 1, 1) := by decide +kernel
theorem dX2_readKind_169 : decode cX2_readKind 169 = .ok (.iadd, 1) := by decide +kernel
theorem dX2_readKind_170 : decode cX2_readKind 170 = .ok (.putfield 116, 3) := by decide +kernel
theorem dX2_readKind_173 : decode cX2_readKind 173 = .ok (.aload_n 0, 1) := by decide +kernel
theorem dX2_readKind_174 : decode cX2_readKind 174 = .ok (.getfield 12, 3) := by decide +kernel
theorem dX2_readKind_177 : decode cX2_readKind 177 = .ok (.iload_n 1, 1) := by decide +kernel
theorem dX2_readKind_178 : decode cX2_readKind 178 = .ok (.invokevirtual 139, 3) := by decide +kernel
theorem dX2_readKind_181 : decode cX2_readKind 181 = .ok (.iload_n 2, 1) := by decide +kernel
theorem dX2_readKind_182 : decode cX2_readKind 182 = .ok (.ireturn, 1) := by decide +kernel
noncomputable def fX2_readKind_17  (t_draft_numbers : Nat → Int32) (t_draft_cells : Nat → Int32) (t_draft_kinds : Int32) (t_nameStarts : Nat → Int32) (t_nameLengths : Nat → Int32) (t_token : Int32) (t_start : Int32) (t_after : Int32) (t_fault : Int32) (t_place : Int32) : Option (Int32 × (Nat → Int32) × (Nat → Int32) × Int32 × (Nat → Int32) × (Nat → Int32) × Int32 × Int32 × Int32 × Int32 × Int32) := ob3 (fX2_refuse t_start t_fault t_place 3) fun r87 w88 w89 => some (r87, t_draft_numbers, t_draft_cells, t_draft_kinds, t_nameStarts, t_nameLengths, t_token, t_start, t_after, w88, w89)
noncomputable def fX2_readKind_155  (t_draft_numbers : Nat → Int32) (t_draft_cells : Nat → Int32) (t_draft_kinds : Int32) (t_nameStarts : Nat → Int32) (t_nameLengths : Nat → Int32) (t_token : Int32) (t_start : Int32) (t_after : Int32) (t_fault : Int32) (t_place : Int32) (v1 : Int32) (z0 : Int32) : Option (Int32 × (Nat → Int32) × (Nat → Int32) × Int32 × (Nat → Int32) × (Nat → Int32) × Int32 × Int32 × Int32 × Int32 × Int32) := (if z0 = 0 then zb z0 (some (z0, t_draft_numbers, t_draft_cells, t_draft_kinds, t_nameStarts, t_nameLengths, t_token, t_start, t_after, t_fault, t_place)) else (fX1_fillCells t_draft_numbers t_draft_cells v1).bind fun w95 => zb z0 (some (z0, t_draft_numbers, w95, t_draft_kinds + 1, t_nameStarts, t_nameLengths, t_token, t_start, t_after, t_fault, t_place)))
noncomputable def fX2_readKind_154  (t_draft_numbers : Nat → Int32) (t_draft_cells : Nat → Int32) (t_draft_kinds : Int32) (t_nameStarts : Nat → Int32) (t_nameLengths : Nat → Int32) (t_token : Int32) (t_start : Int32) (t_after : Int32) (t_fault : Int32) (t_place : Int32) (v1 : Int32) : Option (Int32 × (Nat → Int32) × (Nat → Int32) × Int32 × (Nat → Int32) × (Nat → Int32) × Int32 × Int32 × Int32 × Int32 × Int32) := fX2_readKind_155 t_draft_numbers t_draft_cells t_draft_kinds t_nameStarts t_nameLengths t_token t_start t_after t_fault t_place v1 0
noncomputable def fX2_readKind  (t_draft_numbers : Nat → Int32) (t_draft_cells : Nat → Int32) (t_draft_kinds : Int32) (t_nameStarts : Nat → Int32) (t_nameLengths : Nat → Int32) (t_text_bytes : Nat → Int32) (t_text_size : Int32) (t_token : Int32) (t_start : Int32) (t_after : Int32) (t_fault : Int32) (t_place : Int32) : Option (Int32 × (Nat → Int32) × (Nat → Int32) × Int32 × (Nat → Int32) × (Nat → Int32) × Int32 × Int32 × Int32 × Int32 × Int32) := (if t_draft_kinds < 0 then fX2_readKind_17 t_draft_numbers t_draft_cells t_draft_kinds t_nameStarts t_nameLengths t_token t_start t_after t_fault t_place else (if t_draft_kinds < 3 then ob3 (fX2_next t_text_bytes t_text_size t_token t_start t_after) fun w4 w5 w6 => ob3 (fX2_isName t_text_bytes t_text_size w4 w5 w6 t_fault t_place) fun r9 w10 w11 => (if r9 = 0 then some ((0), t_draft_numbers, t_draft_cells, t_draft_kinds, t_nameStarts, t_nameLengths, w4, w5, w6, w10, w11) else (fX2_toldKind t_draft_kinds t_nameStarts t_nameLengths t_text_bytes t_text_size w5 w6).bind fun r15 => (if r15 = (-1) then chk 3 t_draft_kinds (chk 3 t_draft_kinds (ob3 (fX2_next t_text_bytes t_text_size w4 w5 w6) fun w21 w22 w23 => ob7 (fX2_readNumber t_draft_numbers t_text_bytes t_text_size w21 w22 w23 w10 w11 4 t_draft_kinds 0 1 99) fun r26 w27 w28 w29 w30 w31 w32 => (if r26 = 0 then fX2_readKind_154 w27 t_draft_cells t_draft_kinds (upd t_nameStarts t_draft_kinds.toNatClampNeg w5) (upd t_nameLengths t_draft_kinds.toNatClampNeg (w6 - w5)) w28 w29 w30 w31 w32 t_draft_kinds else ob7 (fX2_readNumber w27 t_text_bytes t_text_size w28 w29 w30 w31 w32 5 t_draft_kinds 1 0 99) fun r37 w38 w39 w40 w41 w42 w43 => (if r37 = 0 then fX2_readKind_154 w38 t_draft_cells t_draft_kinds (upd t_nameStarts t_draft_kinds.toNatClampNeg w5) (upd t_nameLengths t_draft_kinds.toNatClampNeg (w6 - w5)) w39 w40 w41 w42 w43 t_draft_kinds else ob7 (fX2_readNumber w38 t_text_bytes t_text_size w39 w40 w41 w42 w43 6 t_draft_kinds 2 0 99) fun r48 w49 w50 w51 w52 w53 w54 => (if r48 = 0 then fX2_readKind_154 w49 t_draft_cells t_draft_kinds (upd t_nameStarts t_draft_kinds.toNatClampNeg w5) (upd t_nameLengths t_draft_kinds.toNatClampNeg (w6 - w5)) w50 w51 w52 w53 w54 t_draft_kinds else ob7 (fX2_readNumber w49 t_text_bytes t_text_size w50 w51 w52 w53 w54 7 t_draft_kinds 3 0 99) fun r59 w60 w61 w62 w63 w64 w65 => (if r59 = 0 then fX2_readKind_154 w60 t_draft_cells t_draft_kinds (upd t_nameStarts t_draft_kinds.toNatClampNeg w5) (upd t_nameLengths t_draft_kinds.toNatClampNeg (w6 - w5)) w61 w62 w63 w64 w65 t_draft_kinds else ob7 (fX2_readNumber w60 t_text_bytes t_text_size w61 w62 w63 w64 w65 8 t_draft_kinds 4 1 999) fun r70 w71 w72 w73 w74 w75 w76 => (if r70 = 0 then fX2_readKind_154 w71 t_draft_cells t_draft_kinds (upd t_nameStarts t_draft_kinds.toNatClampNeg w5) (upd t_nameLengths t_draft_kinds.toNatClampNeg (w6 - w5)) w72 w73 w74 w75 w76 t_draft_kinds else fX2_readKind_155 w71 t_draft_cells t_draft_kinds (upd t_nameStarts t_draft_kinds.toNatClampNeg w5) (upd t_nameLengths t_draft_kinds.toNatClampNeg (w6 - w5)) w72 w73 w74 w75 w76 t_draft_kinds 1))))))) else ob3 (fX2_refuse w5 w10 w11 2) fun r81 w82 w83 => some (r81, t_draft_numbers, t_draft_cells, t_draft_kinds, t_nameStarts, t_nameLengths, w4, w5, w6, w82, w83))) else fX2_readKind_17 t_draft_numbers t_draft_cells t_draft_kinds t_nameStarts t_nameLengths t_token t_start t_after t_fault t_place))
set_option maxHeartbeats 4000000 in
set_option maxRecDepth 100000 in
theorem ctX2_readKind (l : Launch) (g : GT) (sz : Nat) (a_t : Nat → Nat) (a_t_draft : Nat → Nat) (a_t_text : Nat → Nat) (t_token : Int32) (t_start : Int32) (t_after : Int32) (t_fault : Int32) (t_place : Int32) (t_draft_told : Int32) (t_draft_lines : Int32) (t_draft_kinds : Int32) (t_draft_acts : Int32) (t_draft_numbers : Nat → Int32) (t_draft_cells : Nat → Int32) (t_nameStarts : Nat → Int32) (t_nameLengths : Nat → Int32) (t_text_size : Int32) (t_text_bytes : Nat → Int32) (o : Int32) (o_t_draft_numbers : Nat → Int32) (o_t_draft_cells : Nat → Int32) (o_t_draft_kinds : Int32) (o_t_nameStarts : Nat → Int32) (o_t_nameLengths : Nat → Int32) (o_t_token : Int32) (o_t_start : Int32) (o_t_after : Int32) (o_t_fault : Int32) (o_t_place : Int32) (h : fX2_readKind t_draft_numbers t_draft_cells t_draft_kinds t_nameStarts t_nameLengths t_text_bytes t_text_size t_token t_start t_after t_fault t_place = some (o, o_t_draft_numbers, o_t_draft_cells, o_t_draft_kinds, o_t_nameStarts, o_t_nameLengths, o_t_token, o_t_start, o_t_after, o_t_fault, o_t_place)) : Met l yX2_readKind (Cond.code yX2_readKind cX2_readKind 3 (some .boolean) :: Tw) ⟨11, 0, 0, 218⟩ (va_Pc [.ref ((a_t 0))] (rwB g [((a_t 0), .inr (2, [.ref (a_t_draft 0), .ref (a_t 2), .ref (a_t 3), .ref (a_t_text 0), .int t_token, .int t_start, .int t_after, .int t_fault, .int t_place])), ((a_t_draft 0), .inr (1, [.ref (a_t_draft 1), .ref (a_t_draft 2), .ref (a_t_draft 3), .ref (a_t_draft 4), .ref (a_t_draft 5), .int t_draft_told, .int t_draft_lines, .int t_draft_kinds, .int t_draft_acts])), ((a_t_draft 1), .inl (g.2.2.1 0, 15, .inl t_draft_numbers)), ((a_t_draft 2), .inl (g.2.2.1 0, 144, .inl t_draft_cells)), ((a_t 2), .inl (g.2.2.1 0, 3, .inl t_nameStarts)), ((a_t 3), .inl (g.2.2.1 0, 3, .inl t_nameLengths)), ((a_t_text 0), .inr (4, [.ref (a_t_text 1), .int t_text_size])), ((a_t_text 1), .inl (g.2.2.1 2, 600, .inl t_text_bytes))] sz)) (va_Qi (fun x (_ : Nat → Nat) => x = o ∧ (x = 0 ∨ x = 1)) (fun u => rwE g (va_A [((a_t 0), .inr (2, [.ref (a_t_draft 0), .ref (a_t 2), .ref (a_t 3), .ref (a_t_text 0), .int t_token, .int t_start, .int t_after, .int t_fault, .int t_place])), ((a_t_draft 0), .inr (1, [.ref (a_t_draft 1), .ref (a_t_draft 2), .ref (a_t_draft 3), .ref (a_t_draft 4), .ref (a_t_draft 5), .int t_draft_told, .int t_draft_lines, .int t_draft_kinds, .int t_draft_acts])), ((a_t_draft 1), .inl (g.2.2.1 0, 15, .inl t_draft_numbers)), ((a_t_draft 2), .inl (g.2.2.1 0, 144, .inl t_draft_cells)), ((a_t 2), .inl (g.2.2.1 0, 3, .inl t_nameStarts)), ((a_t 3), .inl (g.2.2.1 0, 3, .inl t_nameLengths)), ((a_t_text 0), .inr (4, [.ref (a_t_text 1), .int t_text_size])), ((a_t_text 1), .inl (g.2.2.1 2, 600, .inl t_text_bytes))] sz) [((a_t 0), .inr (2, [.ref (a_t_draft 0), .ref (a_t 2), .ref (a_t 3), .ref (a_t_text 0), .int o_t_token, .int o_t_start, .int o_t_after, .int o_t_fault, .int o_t_place])), ((a_t_draft 0), .inr (1, [.ref (a_t_draft 1), .ref (a_t_draft 2), .ref (a_t_draft 3), .ref (a_t_draft 4), .ref (a_t_draft 5), .int t_draft_told, .int t_draft_lines, .int o_t_draft_kinds, .int t_draft_acts])), ((a_t_draft 1), .inl (g.2.2.1 0, 15, .inl o_t_draft_numbers)), ((a_t_draft 2), .inl (g.2.2.1 0, 144, .inl o_t_draft_cells)), ((a_t 2), .inl (g.2.2.1 0, 3, .inl o_t_nameStarts)), ((a_t 3), .inl (g.2.2.1 0, 3, .inl o_t_nameLengths)), ((a_t_text 0), .inr (4, [.ref (a_t_text 1), .int t_text_size])), ((a_t_text 1), .inl (g.2.2.1 2, 600, .inl t_text_bytes))]) (va_A [((a_t 0), .inr (2, [.ref (a_t_draft 0), .ref (a_t 2), .ref (a_t 3), .ref (a_t_text 0), .int t_token, .int t_start, .int t_after, .int t_fault, .int t_place])), ((a_t_draft 0), .inr (1, [.ref (a_t_draft 1), .ref (a_t_draft 2), .ref (a_t_draft 3), .ref (a_t_draft 4), .ref (a_t_draft 5), .int t_draft_told, .int t_draft_lines, .int t_draft_kinds, .int t_draft_acts])), ((a_t_draft 1), .inl (g.2.2.1 0, 15, .inl t_draft_numbers)), ((a_t_draft 2), .inl (g.2.2.1 0, 144, .inl t_draft_cells)), ((a_t 2), .inl (g.2.2.1 0, 3, .inl t_nameStarts)), ((a_t 3), .inl (g.2.2.1 0, 3, .inl t_nameLengths)), ((a_t_text 0), .inr (4, [.ref (a_t_text 1), .int t_text_size])), ((a_t_text 1), .inl (g.2.2.1 2, 600, .inl t_text_bytes))] sz)) 0 0 (va_A [((a_t 0), .inr (2, [.ref (a_t_draft 0), .ref (a_t 2), .ref (a_t 3), .ref (a_t_text 0), .int t_token, .int t_start, .int t_after, .int t_fault, .int t_place])), ((a_t_draft 0), .inr (1, [.ref (a_t_draft 1), .ref (a_t_draft 2), .ref (a_t_draft 3), .ref (a_t_draft 4), .ref (a_t_draft 5), .int t_draft_told, .int t_draft_lines, .int t_draft_kinds, .int t_draft_acts])), ((a_t_draft 1), .inl (g.2.2.1 0, 15, .inl t_draft_numbers)), ((a_t_draft 2), .inl (g.2.2.1 0, 144, .inl t_draft_cells)), ((a_t 2), .inl (g.2.2.1 0, 3, .inl t_nameStarts)), ((a_t 3), .inl (g.2.2.1 0, 3, .inl t_nameLengths)), ((a_t_text 0), .inr (4, [.ref (a_t_text 1), .int t_text_size])), ((a_t_text 1), .inl (g.2.2.1 2, 600, .inl t_text_bytes))] sz) := by
  refine rw_metz (by decide) (Nat.le_of_ble_eq_true rfl) (lv0 := [(0, .ref ((a_t 0)))]) rfl ?_
  intro p e s m args below meth c ls Q A cx hret hG hAb hb0 hA hP hD hl
  have hx := cx.1
  have hb := cx.2.1
  have hG0 := hG
  have hGk : ∀ {H : Heap} {locs : List Loc}, va_S A s.heap H locs → GE g s H := fun hS => hG0.keptS hAb hS
  have hSb : ∀ {H : Heap} {locs : List Loc}, va_S A s.heap H locs → va_S (fun a => g.1 ≤ a) s.heap H locs := fun hS => ⟨hS.1, fun q h1 h2 => hS.2.1 q h1 (fun z => h2 (hAb q z)), fun l hl => hAb _ (hS.2.2 l hl)⟩
  have hS : va_S A s.heap s.heap [] := va_S.rf
  have hrt : ∀ (u : Nat → Nat) (pc : Nat) (ls : Array Slot) (v : Int32) (x_t_draft_numbers : Nat → Int32) (x_t_draft_cells : Nat → Int32) (x_t_draft_kinds : Int32) (x_t_nameStarts : Nat → Int32) (x_t_nameLengths : Nat → Int32) (x_t_token : Int32) (x_t_start : Int32) (x_t_after : Int32) (x_t_fault : Int32) (x_t_place : Int32) (H : Heap) (locs : List Loc), decode cX2_readKind pc = .ok (.ireturn, 1) → (v = 0 ∨ v = 1) → some (v, x_t_draft_numbers, x_t_draft_cells, x_t_draft_kinds, x_t_nameStarts, x_t_nameLengths, x_t_token, x_t_start, x_t_after, x_t_fault, x_t_place) = some (o, o_t_draft_numbers, o_t_draft_cells, o_t_draft_kinds, o_t_nameStarts, o_t_nameLengths, o_t_token, o_t_start, o_t_after, o_t_fault, o_t_place) → va_P g.2.1 vwCl [((a_t 0), .inr (2, [.ref (a_t_draft 0), .ref (a_t 2), .ref (a_t 3), .ref (a_t_text 0), .int x_t_token, .int x_t_start, .int x_t_after, .int x_t_fault, .int x_t_place])), ((a_t_draft 0), .inr (1, [.ref (a_t_draft 1), .ref (a_t_draft 2), .ref (a_t_draft 3), .ref (a_t_draft 4), .ref (a_t_draft 5), .int t_draft_told, .int t_draft_lines, .int x_t_draft_kinds, .int t_draft_acts])), ((a_t_draft 1), .inl (g.2.2.1 0, 15, .inl x_t_draft_numbers)), ((a_t_draft 2), .inl (g.2.2.1 0, 144, .inl x_t_draft_cells)), ((a_t 2), .inl (g.2.2.1 0, 3, .inl x_t_nameStarts)), ((a_t 3), .inl (g.2.2.1 0, 3, .inl x_t_nameLengths)), ((a_t_text 0), .inr (4, [.ref (a_t_text 1), .int t_text_size])), ((a_t_text 1), .inl (g.2.2.1 2, 600, .inl t_text_bytes))] H → va_D A [((a_t 0), .inr (2, [.ref (a_t_draft 0), .ref (a_t 2), .ref (a_t 3), .ref (a_t_text 0), .int x_t_token, .int x_t_start, .int x_t_after, .int x_t_fault, .int x_t_place])), ((a_t_draft 0), .inr (1, [.ref (a_t_draft 1), .ref (a_t_draft 2), .ref (a_t_draft 3), .ref (a_t_draft 4), .ref (a_t_draft 5), .int t_draft_told, .int t_draft_lines, .int x_t_draft_kinds, .int t_draft_acts])), ((a_t_draft 1), .inl (g.2.2.1 0, 15, .inl x_t_draft_numbers)), ((a_t_draft 2), .inl (g.2.2.1 0, 144, .inl x_t_draft_cells)), ((a_t 2), .inl (g.2.2.1 0, 3, .inl x_t_nameStarts)), ((a_t 3), .inl (g.2.2.1 0, 3, .inl x_t_nameLengths)), ((a_t_text 0), .inr (4, [.ref (a_t_text 1), .int t_text_size])), ((a_t_text 1), .inl (g.2.2.1 2, 600, .inl t_text_bytes))] → va_S A s.heap H locs → W p l e ⟨11, 0, 0, 218⟩ s m args below meth c H locs 0 0 Q (F0 m pc ls [.int v]) := by
    intro u pc ls v x_t_draft_numbers x_t_draft_cells x_t_draft_kinds x_t_nameStarts x_t_nameLengths x_t_token x_t_start x_t_after x_t_fault x_t_place H locs hd hz h hP hD hS
    cases h
    exact hret u _ _ _ _ _ hd hz rfl hP hD hS
  have w17 : ∀ (t_draft_numbers : Nat → Int32) (t_draft_cells : Nat → Int32) (t_draft_kinds : Int32) (t_nameStarts : Nat → Int32) (t_nameLengths : Nat → Int32) (t_token : Int32) (t_start : Int32) (t_after : Int32) (t_fault : Int32) (t_place : Int32) (H : Heap) (locs : List Loc), va_P g.2.1 vwCl [((a_t 0), .inr (2, [.ref (a_t_draft 0), .ref (a_t 2), .ref (a_t 3), .ref (a_t_text 0), .int t_token, .int t_start, .int t_after, .int t_fault, .int t_place])), ((a_t_draft 0), .inr (1, [.ref (a_t_draft 1), .ref (a_t_draft 2), .ref (a_t_draft 3), .ref (a_t_draft 4), .ref (a_t_draft 5), .int t_draft_told, .int t_draft_lines, .int t_draft_kinds, .int t_draft_acts])), ((a_t_draft 1), .inl (g.2.2.1 0, 15, .inl t_draft_numbers)), ((a_t_draft 2), .inl (g.2.2.1 0, 144, .inl t_draft_cells)), ((a_t 2), .inl (g.2.2.1 0, 3, .inl t_nameStarts)), ((a_t 3), .inl (g.2.2.1 0, 3, .inl t_nameLengths)), ((a_t_text 0), .inr (4, [.ref (a_t_text 1), .int t_text_size])), ((a_t_text 1), .inl (g.2.2.1 2, 600, .inl t_text_bytes))] H → va_D A [((a_t 0), .inr (2, [.ref (a_t_draft 0), .ref (a_t 2), .ref (a_t 3), .ref (a_t_text 0), .int t_token, .int t_start, .int t_after, .int t_fault, .int t_place])), ((a_t_draft 0), .inr (1, [.ref (a_t_draft 1), .ref (a_t_draft 2), .ref (a_t_draft 3), .ref (a_t_draft 4), .ref (a_t_draft 5), .int t_draft_told, .int t_draft_lines, .int t_draft_kinds, .int t_draft_acts])), ((a_t_draft 1), .inl (g.2.2.1 0, 15, .inl t_draft_numbers)), ((a_t_draft 2), .inl (g.2.2.1 0, 144, .inl t_draft_cells)), ((a_t 2), .inl (g.2.2.1 0, 3, .inl t_nameStarts)), ((a_t 3), .inl (g.2.2.1 0, 3, .inl t_nameLengths)), ((a_t_text 0), .inr (4, [.ref (a_t_text 1), .int t_text_size])), ((a_t_text 1), .inl (g.2.2.1 2, 600, .inl t_text_bytes))] → va_S A s.heap H locs → ∀ (ls : Array Slot), lv_has ls 3 [(0, .ref ((a_t 0)))] → fX2_readKind_17  t_draft_numbers t_draft_cells t_draft_kinds t_nameStarts t_nameLengths t_token t_start t_after t_fault t_place = some (o, o_t_draft_numbers, o_t_draft_cells, o_t_draft_kinds, o_t_nameStarts, o_t_nameLengths, o_t_token, o_t_start, o_t_after, o_t_fault, o_t_place) → W p l e ⟨11, 0, 0, 218⟩ s m args below meth c H locs 0 0 Q (F0 m 17 ls []) := by
    intro t_draft_numbers t_draft_cells t_draft_kinds t_nameStarts t_nameLengths t_token t_start t_after t_fault t_place H locs hP hD hS ls hl h
    unfold fX2_readKind_17 at h
    have hG := hGk hS
    refine lv_aload_n hx hb dX2_readKind_17 rfl (lv_at hl 0 rfl) ?_
    refine lv_iconst (v := 3) hx hb dX2_readKind_18 (by decide) ?_
    obtain ⟨r87, w88, w89, hr86, h⟩ := ob3_out h
    refine rw_z (WN := fun u90 => [((a_t_draft 0), .inr (1, [.ref (a_t_draft 1), .ref (a_t_draft 2), .ref (a_t_draft 3), .ref (a_t_draft 4), .ref (a_t_draft 5), .int t_draft_told, .int t_draft_lines, .int t_draft_kinds, .int t_draft_acts])), ((a_t_draft 1), .inl (g.2.2.1 0, 15, .inl t_draft_numbers)), ((a_t_draft 2), .inl (g.2.2.1 0, 144, .inl t_draft_cells)), ((a_t 2), .inl (g.2.2.1 0, 3, .inl t_nameStarts)), ((a_t 3), .inl (g.2.2.1 0, 3, .inl t_nameLengths)), ((a_t_text 0), .inr (4, [.ref (a_t_text 1), .int t_text_size])), ((a_t_text 1), .inl (g.2.2.1 2, 600, .inl t_text_bytes)), ((a_t 0), .inr (2, [.ref (a_t_draft 0), .ref (a_t 2), .ref (a_t 3), .ref (a_t_text 0), .int t_token, .int t_start, .int t_after, .int w88, .int w89]))]) (wr := [((a_t_draft 0), .inr (1, [.ref (a_t_draft 1), .ref (a_t_draft 2), .ref (a_t_draft 3), .ref (a_t_draft 4), .ref (a_t_draft 5), .int t_draft_told, .int t_draft_lines, .int t_draft_kinds, .int t_draft_acts])), ((a_t_draft 1), .inl (g.2.2.1 0, 15, .inl t_draft_numbers)), ((a_t_draft 2), .inl (g.2.2.1 0, 144, .inl t_draft_cells)), ((a_t 2), .inl (g.2.2.1 0, 3, .inl t_nameStarts)), ((a_t 3), .inl (g.2.2.1 0, 3, .inl t_nameLengths)), ((a_t_text 0), .inr (4, [.ref (a_t_text 1), .int t_text_size])), ((a_t_text 1), .inl (g.2.2.1 2, 600, .inl t_text_bytes))]) (runV (As := [.int (3)]) (rest := []) cx hl.1 (ctX2_refuse l g H.size a_t a_t_draft a_t_text t_token t_start t_after t_fault t_place (3) r87 w88 w89 hr86) kmX2_refuse kvX2_refuse lm_X2_94 ⟨rfl, rfl⟩ ⟨Nat.le_of_ble_eq_true rfl, Nat.le_of_ble_eq_true rfl⟩ (rwV (q0 := 0) (ci := 2) hG (hP.sub [0] rfl) (hD.sub [0] (by decide) rfl) hAb hb0 hS hP rfl rfl) rfl rfl (Nat.le_of_ble_eq_true rfl) dX2_readKind_19 ⟨Nat.le_of_ble_eq_true rfl, Nat.le_of_ble_eq_true rfl⟩) hP hD hS hA [0] [1, 2, 3, 4, 5, 6, 7] rfl rfl (by decide) (by decide) (fun _ => rfl) (fun hz91 u90 H locs hP hD hS => ?_)
    have hG := hGk hS
    exact hrt (fun _ => 0) _ _ r87 t_draft_numbers t_draft_cells t_draft_kinds t_nameStarts t_nameLengths t_token t_start t_after w88 w89 _ _ dX2_readKind_22 hz91 h (hP.sub [7, 0, 1, 2, 3, 4, 5, 6] rfl) (hD.sub [7, 0, 1, 2, 3, 4, 5, 6] (by decide) rfl) hS
  have w155 : ∀ (t_draft_numbers : Nat → Int32) (t_draft_cells : Nat → Int32) (t_draft_kinds : Int32) (t_nameStarts : Nat → Int32) (t_nameLengths : Nat → Int32) (t_token : Int32) (t_start : Int32) (t_after : Int32) (t_fault : Int32) (t_place : Int32) (v1 : Int32) (z0 : Int32) (H : Heap) (locs : List Loc), va_P g.2.1 vwCl [((a_t 0), .inr (2, [.ref (a_t_draft 0), .ref (a_t 2), .ref (a_t 3), .ref (a_t_text 0), .int t_token, .int t_start, .int t_after, .int t_fault, .int t_place])), ((a_t_draft 0), .inr (1, [.ref (a_t_draft 1), .ref (a_t_draft 2), .ref (a_t_draft 3), .ref (a_t_draft 4), .ref (a_t_draft 5), .int t_draft_told, .int t_draft_lines, .int t_draft_kinds, .int t_draft_acts])), ((a_t_draft 1), .inl (g.2.2.1 0, 15, .inl t_draft_numbers)), ((a_t_draft 2), .inl (g.2.2.1 0, 144, .inl t_draft_cells)), ((a_t 2), .inl (g.2.2.1 0, 3, .inl t_nameStarts)), ((a_t 3), .inl (g.2.2.1 0, 3, .inl t_nameLengths)), ((a_t_text 0), .inr (4, [.ref (a_t_text 1), .int t_text_size])), ((a_t_text 1), .inl (g.2.2.1 2, 600, .inl t_text_bytes))] H → va_D A [((a_t 0), .inr (2, [.ref (a_t_draft 0), .ref (a_t 2), .ref (a_t 3), .ref (a_t_text 0), .int t_token, .int t_start, .int t_after, .int t_fault, .int t_place])), ((a_t_draft 0), .inr (1, [.ref (a_t_draft 1), .ref (a_t_draft 2), .ref (a_t_draft 3), .ref (a_t_draft 4), .ref (a_t_draft 5), .int t_draft_told, .int t_draft_lines, .int t_draft_kinds, .int t_draft_acts])), ((a_t_draft 1), .inl (g.2.2.1 0, 15, .inl t_draft_numbers)), ((a_t_draft 2), .inl (g.2.2.1 0, 144, .inl t_draft_cells)), ((a_t 2), .inl (g.2.2.1 0, 3, .inl t_nameStarts)), ((a_t 3), .inl (g.2.2.1 0, 3, .inl t_nameLengths)), ((a_t_text 0), .inr (4, [.ref (a_t_text 1), .int t_text_size])), ((a_t_text 1), .inl (g.2.2.1 2, 600, .inl t_text_bytes))] → va_S A s.heap H locs → ∀ (ls : Array Slot), lv_has ls 3 [(0, .ref ((a_t 0))), (1, .int v1)] → fX2_readKind_155  t_draft_numbers t_draft_cells t_draft_kinds t_nameStarts t_nameLengths t_token t_start t_after t_fault t_place v1 z0 = some (o, o_t_draft_numbers, o_t_draft_cells, o_t_draft_kinds, o_t_nameStarts, o_t_nameLengths, o_t_token, o_t_start, o_t_after, o_t_fault, o_t_place) → W p l e ⟨11, 0, 0, 218⟩ s m args below meth c H locs 0 0 Q (F0 m 155 ls [.int z0]) := by
    intro t_draft_numbers t_draft_cells t_draft_kinds t_nameStarts t_nameLengths t_token t_start t_after t_fault t_place v1 z0 H locs hP hD hS ls hl h
    unfold fX2_readKind_155 at h
    have hG := hGk hS
    refine lv_istore_n (lv' := [(2, .int z0), (0, .ref ((a_t 0))), (1, .int v1)]) hx hb dX2_readKind_155 rfl hl (by decide) rfl (fun ls hl => ?_)
    refine lv_iload_n hx hb dX2_readKind_156 rfl (lv_at hl 0 rfl) ?_
    refine lv_if_eq (tgt := 181) hx hb dX2_readKind_157 (by decide) (fun c92 => ?_) (fun c92 => ?_)
    · have h := itp c92 h
      refine lv_iload_n hx hb dX2_readKind_181 rfl (lv_at hl 0 rfl) ?_
      obtain ⟨hb93, h⟩ := zb_out h
      exact hrt (fun _ => 0) _ _ z0 t_draft_numbers t_draft_cells t_draft_kinds t_nameStarts t_nameLengths t_token t_start t_after t_fault t_place _ _ dX2_readKind_182 hb93 h (hP.sub [0, 1, 2, 3, 4, 5, 6, 7] rfl) (hD.sub [0, 1, 2, 3, 4, 5, 6, 7] (by decide) rfl) hS
    · have h := itn c92 h
      refine lv_aload_n hx hb dX2_readKind_160 rfl (lv_at hl 1 rfl) ?_
      refine xa_get (C := RX2) (T := TX2) (N := 9) cx hG hP 0 rfl rfl uX2 0 (by decide) lf_X2_12 rfl dX2_readKind_161 ?_
      refine lv_dup hx hb dX2_readKind_164 rfl ?_
      refine xa_getN (C := RX1) (T := TX1) (N := 9) cx hG hP 1 rfl rfl uX1 7 (by decide) nf_9 rfl dX2_readKind_165 ?_
      refine lv_iconst (v := 1) hx hb dX2_readKind_168 (by decide) ?_
      refine lv_iadd hx hb dX2_readKind_169 ?_
      refine xw_putN (C := RX1) (T := TX1) (N := 9) (ty := .int) (v := .int (t_draft_kinds + 1)) (ws' := [((a_t 0), .inr (2, [.ref (a_t_draft 0), .ref (a_t 2), .ref (a_t 3), .ref (a_t_text 0), .int t_token, .int t_start, .int t_after, .int t_fault, .int t_place])), ((a_t_draft 0), .inr (1, [.ref (a_t_draft 1), .ref (a_t_draft 2), .ref (a_t_draft 3), .ref (a_t_draft 4), .ref (a_t_draft 5), .int t_draft_told, .int t_draft_lines, .int (t_draft_kinds + 1), .int t_draft_acts])), ((a_t_draft 1), .inl (g.2.2.1 0, 15, .inl t_draft_numbers)), ((a_t_draft 2), .inl (g.2.2.1 0, 144, .inl t_draft_cells)), ((a_t 2), .inl (g.2.2.1 0, 3, .inl t_nameStarts)), ((a_t 3), .inl (g.2.2.1 0, 3, .inl t_nameLengths)), ((a_t_text 0), .inr (4, [.ref (a_t_text 1), .int t_text_size])), ((a_t_text 1), .inl (g.2.2.1 2, 600, .inl t_text_bytes))]) cx hG hP hD hS 1 rfl rfl uX1 tyX1 tyX1_ok nmX1 7 (by decide) nf_9 rfl (by decide +kernel) rfl rfl (Nat.le_of_ble_eq_true rfl) rfl dX2_readKind_170 (fun H locs hP hD hS => ?_)
      have hG := hGk hS
      refine lv_aload_n hx hb dX2_readKind_173 rfl (lv_at hl 1 rfl) ?_
      refine xa_get (C := RX2) (T := TX2) (N := 9) cx hG hP 0 rfl rfl uX2 0 (by decide) lf_X2_12 rfl dX2_readKind_174 ?_
      refine lv_iload_n hx hb dX2_readKind_177 rfl (lv_at hl 2 rfl) ?_
      obtain ⟨w95, hr94, h⟩ := bnd h
      refine rw_v (WN := fun u96 => [((a_t 0), .inr (2, [.ref (a_t_draft 0), .ref (a_t 2), .ref (a_t 3), .ref (a_t_text 0), .int t_token, .int t_start, .int t_after, .int t_fault, .int t_place])), ((a_t 2), .inl (g.2.2.1 0, 3, .inl t_nameStarts)), ((a_t 3), .inl (g.2.2.1 0, 3, .inl t_nameLengths)), ((a_t_text 0), .inr (4, [.ref (a_t_text 1), .int t_text_size])), ((a_t_text 1), .inl (g.2.2.1 2, 600, .inl t_text_bytes)), ((a_t_draft 0), .inr (1, [.ref (a_t_draft 1), .ref (a_t_draft 2), .ref (a_t_draft 3), .ref (a_t_draft 4), .ref (a_t_draft 5), .int t_draft_told, .int t_draft_lines, .int (t_draft_kinds + 1), .int t_draft_acts])), ((a_t_draft 1), .inl (g.2.2.1 0, 15, .inl t_draft_numbers)), ((a_t_draft 2), .inl (g.2.2.1 0, 144, .inl w95))]) (wr := [((a_t 0), .inr (2, [.ref (a_t_draft 0), .ref (a_t 2), .ref (a_t 3), .ref (a_t_text 0), .int t_token, .int t_start, .int t_after, .int t_fault, .int t_place])), ((a_t 2), .inl (g.2.2.1 0, 3, .inl t_nameStarts)), ((a_t 3), .inl (g.2.2.1 0, 3, .inl t_nameLengths)), ((a_t_text 0), .inr (4, [.ref (a_t_text 1), .int t_text_size])), ((a_t_text 1), .inl (g.2.2.1 2, 600, .inl t_text_bytes))]) (runVN (As := [.int v1]) (rest := []) hG cx hl.1 (ctX1_fillCells l g H.size a_t_draft t_draft_told t_draft_lines (t_draft_kinds + 1) t_draft_acts t_draft_numbers t_draft_cells v1 w95 hr94) kmX1_fillCells kvX1_fillCells nm_13 ⟨rfl, rfl⟩ ⟨Nat.le_of_ble_eq_true rfl, Nat.le_of_ble_eq_true rfl⟩ (rwV (q0 := 1) (ci := 1) hG (hP.sub [1, 2, 3] rfl) (hD.sub [1, 2, 3] (by decide) rfl) hAb hb0 hS hP rfl rfl) rfl rfl (Nat.le_of_ble_eq_true rfl) dX2_readKind_178 ⟨Nat.le_of_ble_eq_true rfl, Nat.le_of_ble_eq_true rfl⟩) hP hD hS hA [1, 2, 3] [0, 4, 5, 6, 7] rfl rfl (by decide) (by decide) (fun _ => rfl) (fun u96 H locs hP hD hS => ?_)
      have hG := hGk hS
      refine lv_iload_n hx hb dX2_readKind_181 rfl (lv_at hl 0 rfl) ?_
      obtain ⟨hb97, h⟩ := zb_out h
      exact hrt (fun _ => 0) _ _ z0 t_draft_numbers w95 (t_draft_kinds + 1) t_nameStarts t_nameLengths t_token t_start t_after t_fault t_place _ _ dX2_readKind_182 hb97 h (hP.sub [0, 5, 6, 7, 1, 2, 3, 4] rfl) (hD.sub [0, 5, 6, 7, 1, 2, 3, 4] (by decide) rfl) hS
  have w154 : ∀ (t_draft_numbers : Nat → Int32) (t_draft_cells : Nat → Int32) (t_draft_kinds : Int32) (t_nameStarts : Nat → Int32) (t_nameLengths : Nat → Int32) (t_token : Int32) (t_start : Int32) (t_after : Int32) (t_fault : Int32) (t_place : Int32) (v1 : Int32) (H : Heap) (locs : List Loc), va_P g.2.1 vwCl [((a_t 0), .inr (2, [.ref (a_t_draft 0), .ref (a_t 2), .ref (a_t 3), .ref (a_t_text 0), .int t_token, .int t_start, .int t_after, .int t_fault, .int t_place])), ((a_t_draft 0), .inr (1, [.ref (a_t_draft 1), .ref (a_t_draft 2), .ref (a_t_draft 3), .ref (a_t_draft 4), .ref (a_t_draft 5), .int t_draft_told, .int t_draft_lines, .int t_draft_kinds, .int t_draft_acts])), ((a_t_draft 1), .inl (g.2.2.1 0, 15, .inl t_draft_numbers)), ((a_t_draft 2), .inl (g.2.2.1 0, 144, .inl t_draft_cells)), ((a_t 2), .inl (g.2.2.1 0, 3, .inl t_nameStarts)), ((a_t 3), .inl (g.2.2.1 0, 3, .inl t_nameLengths)), ((a_t_text 0), .inr (4, [.ref (a_t_text 1), .int t_text_size])), ((a_t_text 1), .inl (g.2.2.1 2, 600, .inl t_text_bytes))] H → va_D A [((a_t 0), .inr (2, [.ref (a_t_draft 0), .ref (a_t 2), .ref (a_t 3), .ref (a_t_text 0), .int t_token, .int t_start, .int t_after, .int t_fault, .int t_place])), ((a_t_draft 0), .inr (1, [.ref (a_t_draft 1), .ref (a_t_draft 2), .ref (a_t_draft 3), .ref (a_t_draft 4), .ref (a_t_draft 5), .int t_draft_told, .int t_draft_lines, .int t_draft_kinds, .int t_draft_acts])), ((a_t_draft 1), .inl (g.2.2.1 0, 15, .inl t_draft_numbers)), ((a_t_draft 2), .inl (g.2.2.1 0, 144, .inl t_draft_cells)), ((a_t 2), .inl (g.2.2.1 0, 3, .inl t_nameStarts)), ((a_t 3), .inl (g.2.2.1 0, 3, .inl t_nameLengths)), ((a_t_text 0), .inr (4, [.ref (a_t_text 1), .int t_text_size])), ((a_t_text 1), .inl (g.2.2.1 2, 600, .inl t_text_bytes))] → va_S A s.heap H locs → ∀ (ls : Array Slot), lv_has ls 3 [(0, .ref ((a_t 0))), (1, .int v1)] → fX2_readKind_154  t_draft_numbers t_draft_cells t_draft_kinds t_nameStarts t_nameLengths t_token t_start t_after t_fault t_place v1 = some (o, o_t_draft_numbers, o_t_draft_cells, o_t_draft_kinds, o_t_nameStarts, o_t_nameLengths, o_t_token, o_t_start, o_t_after, o_t_fault, o_t_place) → W p l e ⟨11, 0, 0, 218⟩ s m args below meth c H locs 0 0 Q (F0 m 154 ls []) := by
    intro t_draft_numbers t_draft_cells t_draft_kinds t_nameStarts t_nameLengths t_token t_start t_after t_fault t_place v1 H locs hP hD hS ls hl h
    unfold fX2_readKind_154 at h
    have hG := hGk hS
    refine lv_iconst (v := 0) hx hb dX2_readKind_154 (by decide) ?_
    exact w155 t_draft_numbers t_draft_cells t_draft_kinds t_nameStarts t_nameLengths t_token t_start t_after t_fault t_place v1 0 _ _ hP hD hS _ (lv_sub hl [0, 1] rfl) h
  unfold fX2_readKind at h
  refine lv_aload_n hx hb dX2_readKind_0 rfl (lv_at hl 0 rfl) ?_
  refine xa_get (C := RX2) (T := TX2) (N := 9) cx hG hP 0 rfl rfl uX2 0 (by decide) lf_X2_12 rfl dX2_readKind_1 ?_
  refine xa_getN (C := RX1) (T := TX1) (N := 9) cx hG hP 1 rfl rfl uX1 7 (by decide) nf_9 rfl dX2_readKind_4 ?_
  refine lv_istore_n (lv' := [(1, .int t_draft_kinds), (0, .ref ((a_t 0)))]) hx hb dX2_readKind_7 rfl hl (by decide) rfl (fun ls hl => ?_)
  refine lv_iload_n hx hb dX2_readKind_8 rfl (lv_at hl 0 rfl) ?_
  refine lv_if_lt (tgt := 17) hx hb dX2_readKind_9 (by decide) (fun c1 => ?_) (fun c1 => ?_)
  · have h := itp c1 h
    exact w17 t_draft_numbers t_draft_cells t_draft_kinds t_nameStarts t_nameLengths t_token t_start t_after t_fault t_place _ _ hP hD hS _ (lv_sub hl [1] rfl) h
  · have h := itn c1 h
    refine lv_iload_n hx hb dX2_readKind_12 rfl (lv_at hl 0 rfl) ?_
    refine lv_iconst (v := 3) hx hb dX2_readKind_13 (by decide) ?_
    refine lv_icmp_lt (tgt := 23) hx hb dX2_readKind_14 (by decide) (fun c2 => ?_) (fun c2 => ?_)
    · have h := itp c2 h
      refine lv_aload_n hx hb dX2_readKind_23 rfl (lv_at hl 1 rfl) ?_
      obtain ⟨w4, w5, w6, hr3, h⟩ := ob3_out h
      refine rw_v (WN := fun u7 => [((a_t_draft 0), .inr (1, [.ref (a_t_draft 1), .ref (a_t_draft 2), .ref (a_t_draft 3), .ref (a_t_draft 4), .ref (a_t_draft 5), .int t_draft_told, .int t_draft_lines, .int t_draft_kinds, .int t_draft_acts])), ((a_t_draft 1), .inl (g.2.2.1 0, 15, .inl t_draft_numbers)), ((a_t_draft 2), .inl (g.2.2.1 0, 144, .inl t_draft_cells)), ((a_t 2), .inl (g.2.2.1 0, 3, .inl t_nameStarts)), ((a_t 3), .inl (g.2.2.1 0, 3, .inl t_nameLengths)), ((a_t 0), .inr (2, [.ref (a_t_draft 0), .ref (a_t 2), .ref (a_t 3), .ref (a_t_text 0), .int w4, .int w5, .int w6, .int t_fault, .int t_place])), ((a_t_text 0), .inr (4, [.ref (a_t_text 1), .int t_text_size])), ((a_t_text 1), .inl (g.2.2.1 2, 600, .inl t_text_bytes))]) (wr := [((a_t_draft 0), .inr (1, [.ref (a_t_draft 1), .ref (a_t_draft 2), .ref (a_t_draft 3), .ref (a_t_draft 4), .ref (a_t_draft 5), .int t_draft_told, .int t_draft_lines, .int t_draft_kinds, .int t_draft_acts])), ((a_t_draft 1), .inl (g.2.2.1 0, 15, .inl t_draft_numbers)), ((a_t_draft 2), .inl (g.2.2.1 0, 144, .inl t_draft_cells)), ((a_t 2), .inl (g.2.2.1 0, 3, .inl t_nameStarts)), ((a_t 3), .inl (g.2.2.1 0, 3, .inl t_nameLengths))]) (runV (As := []) (rest := []) cx hl.1 (ctX2_next l g s.heap.size a_t a_t_draft a_t_text t_token t_start t_after t_fault t_place t_text_size t_text_bytes w4 w5 w6 hr3) kmX2_next kvX2_next lm_X2_42 ⟨rfl, rfl⟩ ⟨Nat.le_of_ble_eq_true rfl, Nat.le_of_ble_eq_true rfl⟩ (rwV (q0 := 0) (ci := 2) hG (hP.sub [0, 6, 7] rfl) (hD.sub [0, 6, 7] (by decide) rfl) hAb hb0 hS hP rfl rfl) rfl rfl (Nat.le_of_ble_eq_true rfl) dX2_readKind_24 ⟨Nat.le_of_ble_eq_true rfl, Nat.le_of_ble_eq_true rfl⟩) hP hD hS hA [0, 6, 7] [1, 2, 3, 4, 5] rfl rfl (by decide) (by decide) (fun _ => rfl) (fun u7 H locs hP hD hS => ?_)
      have hG := hGk hS
      refine lv_aload_n hx hb dX2_readKind_27 rfl (lv_at hl 1 rfl) ?_
      obtain ⟨r9, w10, w11, hr8, h⟩ := ob3_out h
      refine rw_z (WN := fun u12 => [((a_t_draft 0), .inr (1, [.ref (a_t_draft 1), .ref (a_t_draft 2), .ref (a_t_draft 3), .ref (a_t_draft 4), .ref (a_t_draft 5), .int t_draft_told, .int t_draft_lines, .int t_draft_kinds, .int t_draft_acts])), ((a_t_draft 1), .inl (g.2.2.1 0, 15, .inl t_draft_numbers)), ((a_t_draft 2), .inl (g.2.2.1 0, 144, .inl t_draft_cells)), ((a_t 2), .inl (g.2.2.1 0, 3, .inl t_nameStarts)), ((a_t 3), .inl (g.2.2.1 0, 3, .inl t_nameLengths)), ((a_t 0), .inr (2, [.ref (a_t_draft 0), .ref (a_t 2), .ref (a_t 3), .ref (a_t_text 0), .int w4, .int w5, .int w6, .int w10, .int w11])), ((a_t_text 0), .inr (4, [.ref (a_t_text 1), .int t_text_size])), ((a_t_text 1), .inl (g.2.2.1 2, 600, .inl t_text_bytes))]) (wr := [((a_t_draft 0), .inr (1, [.ref (a_t_draft 1), .ref (a_t_draft 2), .ref (a_t_draft 3), .ref (a_t_draft 4), .ref (a_t_draft 5), .int t_draft_told, .int t_draft_lines, .int t_draft_kinds, .int t_draft_acts])), ((a_t_draft 1), .inl (g.2.2.1 0, 15, .inl t_draft_numbers)), ((a_t_draft 2), .inl (g.2.2.1 0, 144, .inl t_draft_cells)), ((a_t 2), .inl (g.2.2.1 0, 3, .inl t_nameStarts)), ((a_t 3), .inl (g.2.2.1 0, 3, .inl t_nameLengths))]) (runV (As := []) (rest := []) cx hl.1 (ctX2_isName l g H.size a_t a_t_draft a_t_text w4 w5 w6 t_fault t_place t_text_size t_text_bytes r9 w10 w11 hr8) kmX2_isName kvX2_isName lm_X2_119 ⟨rfl, rfl⟩ ⟨Nat.le_of_ble_eq_true rfl, Nat.le_of_ble_eq_true rfl⟩ (rwV (q0 := 5) (ci := 2) hG (hP.sub [5, 6, 7] rfl) (hD.sub [5, 6, 7] (by decide) rfl) hAb hb0 hS hP rfl rfl) rfl rfl (Nat.le_of_ble_eq_true rfl) dX2_readKind_28 ⟨Nat.le_of_ble_eq_true rfl, Nat.le_of_ble_eq_true rfl⟩) hP hD hS hA [5, 6, 7] [0, 1, 2, 3, 4] rfl rfl (by decide) (by decide) (fun _ => rfl) (fun hz13 u12 H locs hP hD hS => ?_)
      have hG := hGk hS
      refine lv_if_ne (tgt := 36) hx hb dX2_readKind_31 (by decide) (fun c14 => ?_) (fun c14 => ?_)
      · have h := itn c14 h
        refine lv_aload_n hx hb dX2_readKind_36 rfl (lv_at hl 1 rfl) ?_
        obtain ⟨r15, hr16, h⟩ := bnd h
        refine ro_i (runV (As := []) (rest := []) cx hl.1 (ctX2_toldKind l g a_t a_t_draft a_t_text w4 w5 w6 w10 w11 t_draft_told t_draft_lines t_draft_kinds t_draft_acts t_nameStarts t_nameLengths t_text_size t_text_bytes r15 hr16) kmX2_toldKind kvX2_toldKind lm_X2_122 ⟨rfl, rfl⟩ ⟨Nat.le_of_ble_eq_true rfl, Nat.le_of_ble_eq_true rfl⟩ (roV (q0 := 5) (ci := 2) hG (hP.sub [5, 0, 3, 4, 6, 7] rfl) hP rfl rfl) rfl rfl (Nat.le_of_ble_eq_true rfl) dX2_readKind_37 ⟨Nat.le_of_ble_eq_true rfl, Nat.le_of_ble_eq_true rfl⟩) ?_
        refine lv_iconst (v := -1) hx hb dX2_readKind_40 (by decide) ?_
        refine lv_icmp_eq (tgt := 50) hx hb dX2_readKind_41 (by decide) (fun c17 => ?_) (fun c17 => ?_)
        · have h := itp c17 h
          refine lv_aload_n hx hb dX2_readKind_50 rfl (lv_at hl 1 rfl) ?_
          refine xa_get (C := RX2) (T := TX2) (N := 9) cx hG hP 5 rfl rfl uX2 1 (by decide) lf_X2_18 rfl dX2_readKind_51 ?_
          refine lv_iload_n hx hb dX2_readKind_54 rfl (lv_at hl 0 rfl) ?_
          refine lv_aload_n hx hb dX2_readKind_55 rfl (lv_at hl 1 rfl) ?_
          refine xa_get (C := RX2) (T := TX2) (N := 9) cx hG hP 5 rfl rfl uX2 5 (by decide) lf_X2_59 rfl dX2_readKind_56 ?_
          obtain ⟨hi18, h⟩ := chk_out h
          refine xw_iast (ws' := [((a_t_draft 0), .inr (1, [.ref (a_t_draft 1), .ref (a_t_draft 2), .ref (a_t_draft 3), .ref (a_t_draft 4), .ref (a_t_draft 5), .int t_draft_told, .int t_draft_lines, .int t_draft_kinds, .int t_draft_acts])), ((a_t_draft 1), .inl (g.2.2.1 0, 15, .inl t_draft_numbers)), ((a_t_draft 2), .inl (g.2.2.1 0, 144, .inl t_draft_cells)), ((a_t 2), .inl (g.2.2.1 0, 3, .inl (upd t_nameStarts t_draft_kinds.toNatClampNeg w5))), ((a_t 3), .inl (g.2.2.1 0, 3, .inl t_nameLengths)), ((a_t 0), .inr (2, [.ref (a_t_draft 0), .ref (a_t 2), .ref (a_t 3), .ref (a_t_text 0), .int w4, .int w5, .int w6, .int w10, .int w11])), ((a_t_text 0), .inr (4, [.ref (a_t_text 1), .int t_text_size])), ((a_t_text 1), .inl (g.2.2.1 2, 600, .inl t_text_bytes))]) (k := t_draft_kinds.toNatClampNeg) cx hG hP hD hS 3 rfl hi18 rfl rfl dX2_readKind_59 (fun H locs hP hD hS => ?_)
          have hG := hGk hS
          refine lv_aload_n hx hb dX2_readKind_60 rfl (lv_at hl 1 rfl) ?_
          refine xa_get (C := RX2) (T := TX2) (N := 9) cx hG hP 5 rfl rfl uX2 2 (by decide) lf_X2_22 rfl dX2_readKind_61 ?_
          refine lv_iload_n hx hb dX2_readKind_64 rfl (lv_at hl 0 rfl) ?_
          refine lv_aload_n hx hb dX2_readKind_65 rfl (lv_at hl 1 rfl) ?_
          refine xa_get (C := RX2) (T := TX2) (N := 9) cx hG hP 5 rfl rfl uX2 6 (by decide) lf_X2_36 rfl dX2_readKind_66 ?_
          refine lv_aload_n hx hb dX2_readKind_69 rfl (lv_at hl 1 rfl) ?_
          refine xa_get (C := RX2) (T := TX2) (N := 9) cx hG hP 5 rfl rfl uX2 5 (by decide) lf_X2_59 rfl dX2_readKind_70 ?_
          refine lv_isub hx hb dX2_readKind_73 ?_
          obtain ⟨hi19, h⟩ := chk_out h
          refine xw_iast (ws' := [((a_t_draft 0), .inr (1, [.ref (a_t_draft 1), .ref (a_t_draft 2), .ref (a_t_draft 3), .ref (a_t_draft 4), .ref (a_t_draft 5), .int t_draft_told, .int t_draft_lines, .int t_draft_kinds, .int t_draft_acts])), ((a_t_draft 1), .inl (g.2.2.1 0, 15, .inl t_draft_numbers)), ((a_t_draft 2), .inl (g.2.2.1 0, 144, .inl t_draft_cells)), ((a_t 2), .inl (g.2.2.1 0, 3, .inl (upd t_nameStarts t_draft_kinds.toNatClampNeg w5))), ((a_t 3), .inl (g.2.2.1 0, 3, .inl (upd t_nameLengths t_draft_kinds.toNatClampNeg (w6 - w5)))), ((a_t 0), .inr (2, [.ref (a_t_draft 0), .ref (a_t 2), .ref (a_t 3), .ref (a_t_text 0), .int w4, .int w5, .int w6, .int w10, .int w11])), ((a_t_text 0), .inr (4, [.ref (a_t_text 1), .int t_text_size])), ((a_t_text 1), .inl (g.2.2.1 2, 600, .inl t_text_bytes))]) (k := t_draft_kinds.toNatClampNeg) cx hG hP hD hS 4 rfl hi19 rfl rfl dX2_readKind_74 (fun H locs hP hD hS => ?_)
          have hG := hGk hS
          refine lv_aload_n hx hb dX2_readKind_75 rfl (lv_at hl 1 rfl) ?_
          obtain ⟨w21, w22, w23, hr20, h⟩ := ob3_out h
          refine rw_v (WN := fun u24 => [((a_t_draft 0), .inr (1, [.ref (a_t_draft 1), .ref (a_t_draft 2), .ref (a_t_draft 3), .ref (a_t_draft 4), .ref (a_t_draft 5), .int t_draft_told, .int t_draft_lines, .int t_draft_kinds, .int t_draft_acts])), ((a_t_draft 1), .inl (g.2.2.1 0, 15, .inl t_draft_numbers)), ((a_t_draft 2), .inl (g.2.2.1 0, 144, .inl t_draft_cells)), ((a_t 2), .inl (g.2.2.1 0, 3, .inl (upd t_nameStarts t_draft_kinds.toNatClampNeg w5))), ((a_t 3), .inl (g.2.2.1 0, 3, .inl (upd t_nameLengths t_draft_kinds.toNatClampNeg (w6 - w5)))), ((a_t 0), .inr (2, [.ref (a_t_draft 0), .ref (a_t 2), .ref (a_t 3), .ref (a_t_text 0), .int w21, .int w22, .int w23, .int w10, .int w11])), ((a_t_text 0), .inr (4, [.ref (a_t_text 1), .int t_text_size])), ((a_t_text 1), .inl (g.2.2.1 2, 600, .inl t_text_bytes))]) (wr := [((a_t_draft 0), .inr (1, [.ref (a_t_draft 1), .ref (a_t_draft 2), .ref (a_t_draft 3), .ref (a_t_draft 4), .ref (a_t_draft 5), .int t_draft_told, .int t_draft_lines, .int t_draft_kinds, .int t_draft_acts])), ((a_t_draft 1), .inl (g.2.2.1 0, 15, .inl t_draft_numbers)), ((a_t_draft 2), .inl (g.2.2.1 0, 144, .inl t_draft_cells)), ((a_t 2), .inl (g.2.2.1 0, 3, .inl (upd t_nameStarts t_draft_kinds.toNatClampNeg w5))), ((a_t 3), .inl (g.2.2.1 0, 3, .inl (upd t_nameLengths t_draft_kinds.toNatClampNeg (w6 - w5))))]) (runV (As := []) (rest := []) cx hl.1 (ctX2_next l g H.size a_t a_t_draft a_t_text w4 w5 w6 w10 w11 t_text_size t_text_bytes w21 w22 w23 hr20) kmX2_next kvX2_next lm_X2_42 ⟨rfl, rfl⟩ ⟨Nat.le_of_ble_eq_true rfl, Nat.le_of_ble_eq_true rfl⟩ (rwV (q0 := 5) (ci := 2) hG (hP.sub [5, 6, 7] rfl) (hD.sub [5, 6, 7] (by decide) rfl) hAb hb0 hS hP rfl rfl) rfl rfl (Nat.le_of_ble_eq_true rfl) dX2_readKind_76 ⟨Nat.le_of_ble_eq_true rfl, Nat.le_of_ble_eq_true rfl⟩) hP hD hS hA [5, 6, 7] [0, 1, 2, 3, 4] rfl rfl (by decide) (by decide) (fun _ => rfl) (fun u24 H locs hP hD hS => ?_)
          have hG := hGk hS
          refine lv_aload_n hx hb dX2_readKind_79 rfl (lv_at hl 1 rfl) ?_
          refine va_ldcS (own := RX2) (tx := "one") (q := g.2.2.2.2.1 4) hx hb cx.2.2.2.1 (GE_st hG sr_4) dX2_readKind_80 ?_
          refine lv_iload_n hx hb dX2_readKind_82 rfl (lv_at hl 0 rfl) ?_
          refine lv_iconst (v := 0) hx hb dX2_readKind_83 (by decide) ?_
          refine lv_iconst (v := 1) hx hb dX2_readKind_84 (by decide) ?_
          refine lv_bipush (v := 99) hx hb dX2_readKind_85 (by decide) ?_
          obtain ⟨r26, w27, w28, w29, w30, w31, w32, hr25, h⟩ := ob7_out h
          refine rw_z (WN := fun u33 => [((a_t_draft 2), .inl (g.2.2.1 0, 144, .inl t_draft_cells)), ((a_t 2), .inl (g.2.2.1 0, 3, .inl (upd t_nameStarts t_draft_kinds.toNatClampNeg w5))), ((a_t 3), .inl (g.2.2.1 0, 3, .inl (upd t_nameLengths t_draft_kinds.toNatClampNeg (w6 - w5)))), ((a_t 0), .inr (2, [.ref (a_t_draft 0), .ref (a_t 2), .ref (a_t 3), .ref (a_t_text 0), .int w28, .int w29, .int w30, .int w31, .int w32])), ((a_t_draft 0), .inr (1, [.ref (a_t_draft 1), .ref (a_t_draft 2), .ref (a_t_draft 3), .ref (a_t_draft 4), .ref (a_t_draft 5), .int t_draft_told, .int t_draft_lines, .int t_draft_kinds, .int t_draft_acts])), ((a_t_draft 1), .inl (g.2.2.1 0, 15, .inl w27)), ((a_t_text 0), .inr (4, [.ref (a_t_text 1), .int t_text_size])), ((a_t_text 1), .inl (g.2.2.1 2, 600, .inl t_text_bytes))]) (wr := [((a_t_draft 2), .inl (g.2.2.1 0, 144, .inl t_draft_cells)), ((a_t 2), .inl (g.2.2.1 0, 3, .inl (upd t_nameStarts t_draft_kinds.toNatClampNeg w5))), ((a_t 3), .inl (g.2.2.1 0, 3, .inl (upd t_nameLengths t_draft_kinds.toNatClampNeg (w6 - w5))))]) (runV (As := [.ref ((g.2.2.2.2.1 4)), .int t_draft_kinds, .int (0), .int (1), .int (99)]) (rest := []) cx hl.1 (ctX2_readNumber l g H.size a_t a_t_draft a_t_text w21 w22 w23 w10 w11 t_draft_told t_draft_lines t_draft_kinds t_draft_acts t_draft_numbers t_text_size t_text_bytes 4 (by decide) t_draft_kinds (0) (1) (99) r26 w27 w28 w29 w30 w31 w32 hr25) kmX2_readNumber kvX2_readNumber lm_X2_127 ⟨rfl, rfl⟩ ⟨Nat.le_of_ble_eq_true rfl, Nat.le_of_ble_eq_true rfl⟩ (rwV (q0 := 5) (ci := 2) hG (hP.sub [5, 0, 1, 6, 7] rfl) (hD.sub [5, 0, 1, 6, 7] (by decide) rfl) hAb hb0 hS hP rfl rfl) rfl rfl (Nat.le_of_ble_eq_true rfl) dX2_readKind_87 ⟨Nat.le_of_ble_eq_true rfl, Nat.le_of_ble_eq_true rfl⟩) hP hD hS hA [5, 0, 1, 6, 7] [2, 3, 4] rfl rfl (by decide) (by decide) (fun _ => rfl) (fun hz34 u33 H locs hP hD hS => ?_)
          have hG := hGk hS
          refine lv_if_eq (tgt := 154) hx hb dX2_readKind_90 (by decide) (fun c35 => ?_) (fun c35 => ?_)
          · have h := itp c35 h
            exact w154 w27 t_draft_cells t_draft_kinds (upd t_nameStarts t_draft_kinds.toNatClampNeg w5) (upd t_nameLengths t_draft_kinds.toNatClampNeg (w6 - w5)) w28 w29 w30 w31 w32 t_draft_kinds _ _ (hP.sub [3, 4, 5, 0, 1, 2, 6, 7] rfl) (hD.sub [3, 4, 5, 0, 1, 2, 6, 7] (by decide) rfl) hS _ (lv_sub hl [1, 0] rfl) h
          · have h := itn c35 h
            refine lv_aload_n hx hb dX2_readKind_93 rfl (lv_at hl 1 rfl) ?_
            refine va_ldcS (own := RX2) (tx := "two") (q := g.2.2.2.2.1 5) hx hb cx.2.2.2.1 (GE_st hG sr_5) dX2_readKind_94 ?_
            refine lv_iload_n hx hb dX2_readKind_96 rfl (lv_at hl 0 rfl) ?_
            refine lv_iconst (v := 1) hx hb dX2_readKind_97 (by decide) ?_
            refine lv_iconst (v := 0) hx hb dX2_readKind_98 (by decide) ?_
            refine lv_bipush (v := 99) hx hb dX2_readKind_99 (by decide) ?_
            obtain ⟨r37, w38, w39, w40, w41, w42, w43, hr36, h⟩ := ob7_out h
            refine rw_z (WN := fun u44 => [((a_t_draft 2), .inl (g.2.2.1 0, 144, .inl t_draft_cells)), ((a_t 2), .inl (g.2.2.1 0, 3, .inl (upd t_nameStarts t_draft_kinds.toNatClampNeg w5))), ((a_t 3), .inl (g.2.2.1 0, 3, .inl (upd t_nameLengths t_draft_kinds.toNatClampNeg (w6 - w5)))), ((a_t 0), .inr (2, [.ref (a_t_draft 0), .ref (a_t 2), .ref (a_t 3), .ref (a_t_text 0), .int w39, .int w40, .int w41, .int w42, .int w43])), ((a_t_draft 0), .inr (1, [.ref (a_t_draft 1), .ref (a_t_draft 2), .ref (a_t_draft 3), .ref (a_t_draft 4), .ref (a_t_draft 5), .int t_draft_told, .int t_draft_lines, .int t_draft_kinds, .int t_draft_acts])), ((a_t_draft 1), .inl (g.2.2.1 0, 15, .inl w38)), ((a_t_text 0), .inr (4, [.ref (a_t_text 1), .int t_text_size])), ((a_t_text 1), .inl (g.2.2.1 2, 600, .inl t_text_bytes))]) (wr := [((a_t_draft 2), .inl (g.2.2.1 0, 144, .inl t_draft_cells)), ((a_t 2), .inl (g.2.2.1 0, 3, .inl (upd t_nameStarts t_draft_kinds.toNatClampNeg w5))), ((a_t 3), .inl (g.2.2.1 0, 3, .inl (upd t_nameLengths t_draft_kinds.toNatClampNeg (w6 - w5))))]) (runV (As := [.ref ((g.2.2.2.2.1 5)), .int t_draft_kinds, .int (1), .int (0), .int (99)]) (rest := []) cx hl.1 (ctX2_readNumber l g H.size a_t a_t_draft a_t_text w28 w29 w30 w31 w32 t_draft_told t_draft_lines t_draft_kinds t_draft_acts w27 t_text_size t_text_bytes 5 (by decide) t_draft_kinds (1) (0) (99) r37 w38 w39 w40 w41 w42 w43 hr36) kmX2_readNumber kvX2_readNumber lm_X2_127 ⟨rfl, rfl⟩ ⟨Nat.le_of_ble_eq_true rfl, Nat.le_of_ble_eq_true rfl⟩ (rwV (q0 := 3) (ci := 2) hG (hP.sub [3, 4, 5, 6, 7] rfl) (hD.sub [3, 4, 5, 6, 7] (by decide) rfl) hAb hb0 hS hP rfl rfl) rfl rfl (Nat.le_of_ble_eq_true rfl) dX2_readKind_101 ⟨Nat.le_of_ble_eq_true rfl, Nat.le_of_ble_eq_true rfl⟩) hP hD hS hA [3, 4, 5, 6, 7] [0, 1, 2] rfl rfl (by decide) (by decide) (fun _ => rfl) (fun hz45 u44 H locs hP hD hS => ?_)
            have hG := hGk hS
            refine lv_if_eq (tgt := 154) hx hb dX2_readKind_104 (by decide) (fun c46 => ?_) (fun c46 => ?_)
            · have h := itp c46 h
              exact w154 w38 t_draft_cells t_draft_kinds (upd t_nameStarts t_draft_kinds.toNatClampNeg w5) (upd t_nameLengths t_draft_kinds.toNatClampNeg (w6 - w5)) w39 w40 w41 w42 w43 t_draft_kinds _ _ (hP.sub [3, 4, 5, 0, 1, 2, 6, 7] rfl) (hD.sub [3, 4, 5, 0, 1, 2, 6, 7] (by decide) rfl) hS _ (lv_sub hl [1, 0] rfl) h
            · have h := itn c46 h
              refine lv_aload_n hx hb dX2_readKind_107 rfl (lv_at hl 1 rfl) ?_
              refine va_ldcS (own := RX2) (tx := "three") (q := g.2.2.2.2.1 6) hx hb cx.2.2.2.1 (GE_st hG sr_6) dX2_readKind_108 ?_
              refine lv_iload_n hx hb dX2_readKind_110 rfl (lv_at hl 0 rfl) ?_
              refine lv_iconst (v := 2) hx hb dX2_readKind_111 (by decide) ?_
              refine lv_iconst (v := 0) hx hb dX2_readKind_112 (by decide) ?_
              refine lv_bipush (v := 99) hx hb dX2_readKind_113 (by decide) ?_
              obtain ⟨r48, w49, w50, w51, w52, w53, w54, hr47, h⟩ := ob7_out h
              refine rw_z (WN := fun u55 => [((a_t_draft 2), .inl (g.2.2.1 0, 144, .inl t_draft_cells)), ((a_t 2), .inl (g.2.2.1 0, 3, .inl (upd t_nameStarts t_draft_kinds.toNatClampNeg w5))), ((a_t 3), .inl (g.2.2.1 0, 3, .inl (upd t_nameLengths t_draft_kinds.toNatClampNeg (w6 - w5)))), ((a_t 0), .inr (2, [.ref (a_t_draft 0), .ref (a_t 2), .ref (a_t 3), .ref (a_t_text 0), .int w50, .int w51, .int w52, .int w53, .int w54])), ((a_t_draft 0), .inr (1, [.ref (a_t_draft 1), .ref (a_t_draft 2), .ref (a_t_draft 3), .ref (a_t_draft 4), .ref (a_t_draft 5), .int t_draft_told, .int t_draft_lines, .int t_draft_kinds, .int t_draft_acts])), ((a_t_draft 1), .inl (g.2.2.1 0, 15, .inl w49)), ((a_t_text 0), .inr (4, [.ref (a_t_text 1), .int t_text_size])), ((a_t_text 1), .inl (g.2.2.1 2, 600, .inl t_text_bytes))]) (wr := [((a_t_draft 2), .inl (g.2.2.1 0, 144, .inl t_draft_cells)), ((a_t 2), .inl (g.2.2.1 0, 3, .inl (upd t_nameStarts t_draft_kinds.toNatClampNeg w5))), ((a_t 3), .inl (g.2.2.1 0, 3, .inl (upd t_nameLengths t_draft_kinds.toNatClampNeg (w6 - w5))))]) (runV (As := [.ref ((g.2.2.2.2.1 6)), .int t_draft_kinds, .int (2), .int (0), .int (99)]) (rest := []) cx hl.1 (ctX2_readNumber l g H.size a_t a_t_draft a_t_text w39 w40 w41 w42 w43 t_draft_told t_draft_lines t_draft_kinds t_draft_acts w38 t_text_size t_text_bytes 6 (by decide) t_draft_kinds (2) (0) (99) r48 w49 w50 w51 w52 w53 w54 hr47) kmX2_readNumber kvX2_readNumber lm_X2_127 ⟨rfl, rfl⟩ ⟨Nat.le_of_ble_eq_true rfl, Nat.le_of_ble_eq_true rfl⟩ (rwV (q0 := 3) (ci := 2) hG (hP.sub [3, 4, 5, 6, 7] rfl) (hD.sub [3, 4, 5, 6, 7] (by decide) rfl) hAb hb0 hS hP rfl rfl) rfl rfl (Nat.le_of_ble_eq_true rfl) dX2_readKind_115 ⟨Nat.le_of_ble_eq_true rfl, Nat.le_of_ble_eq_true rfl⟩) hP hD hS hA [3, 4, 5, 6, 7] [0, 1, 2] rfl rfl (by decide) (by decide) (fun _ => rfl) (fun hz56 u55 H locs hP hD hS => ?_)
              have hG := hGk hS
              refine lv_if_eq (tgt := 154) hx hb dX2_readKind_118 (by decide) (fun c57 => ?_) (fun c57 => ?_)
              · have h := itp c57 h
                exact w154 w49 t_draft_cells t_draft_kinds (upd t_nameStarts t_draft_kinds.toNatClampNeg w5) (upd t_nameLengths t_draft_kinds.toNatClampNeg (w6 - w5)) w50 w51 w52 w53 w54 t_draft_kinds _ _ (hP.sub [3, 4, 5, 0, 1, 2, 6, 7] rfl) (hD.sub [3, 4, 5, 0, 1, 2, 6, 7] (by decide) rfl) hS _ (lv_sub hl [1, 0] rfl) h
              · have h := itn c57 h
                refine lv_aload_n hx hb dX2_readKind_121 rfl (lv_at hl 1 rfl) ?_
                refine va_ldcS (own := RX2) (tx := "four") (q := g.2.2.2.2.1 7) hx hb cx.2.2.2.1 (GE_st hG sr_7) dX2_readKind_122 ?_
                refine lv_iload_n hx hb dX2_readKind_124 rfl (lv_at hl 0 rfl) ?_
                refine lv_iconst (v := 3) hx hb dX2_readKind_125 (by decide) ?_
                refine lv_iconst (v := 0) hx hb dX2_readKind_126 (by decide) ?_
                refine lv_bipush (v := 99) hx hb dX2_readKind_127 (by decide) ?_
                obtain ⟨r59, w60, w61, w62, w63, w64, w65, hr58, h⟩ := ob7_out h
                refine rw_z (WN := fun u66 => [((a_t_draft 2), .inl (g.2.2.1 0, 144, .inl t_draft_cells)), ((a_t 2), .inl (g.2.2.1 0, 3, .inl (upd t_nameStarts t_draft_kinds.toNatClampNeg w5))), ((a_t 3), .inl (g.2.2.1 0, 3, .inl (upd t_nameLengths t_draft_kinds.toNatClampNeg (w6 - w5)))), ((a_t 0), .inr (2, [.ref (a_t_draft 0), .ref (a_t 2), .ref (a_t 3), .ref (a_t_text 0), .int w61, .int w62, .int w63, .int w64, .int w65])), ((a_t_draft 0), .inr (1, [.ref (a_t_draft 1), .ref (a_t_draft 2), .ref (a_t_draft 3), .ref (a_t_draft 4), .ref (a_t_draft 5), .int t_draft_told, .int t_draft_lines, .int t_draft_kinds, .int t_draft_acts])), ((a_t_draft 1), .inl (g.2.2.1 0, 15, .inl w60)), ((a_t_text 0), .inr (4, [.ref (a_t_text 1), .int t_text_size])), ((a_t_text 1), .inl (g.2.2.1 2, 600, .inl t_text_bytes))]) (wr := [((a_t_draft 2), .inl (g.2.2.1 0, 144, .inl t_draft_cells)), ((a_t 2), .inl (g.2.2.1 0, 3, .inl (upd t_nameStarts t_draft_kinds.toNatClampNeg w5))), ((a_t 3), .inl (g.2.2.1 0, 3, .inl (upd t_nameLengths t_draft_kinds.toNatClampNeg (w6 - w5))))]) (runV (As := [.ref ((g.2.2.2.2.1 7)), .int t_draft_kinds, .int (3), .int (0), .int (99)]) (rest := []) cx hl.1 (ctX2_readNumber l g H.size a_t a_t_draft a_t_text w50 w51 w52 w53 w54 t_draft_told t_draft_lines t_draft_kinds t_draft_acts w49 t_text_size t_text_bytes 7 (by decide) t_draft_kinds (3) (0) (99) r59 w60 w61 w62 w63 w64 w65 hr58) kmX2_readNumber kvX2_readNumber lm_X2_127 ⟨rfl, rfl⟩ ⟨Nat.le_of_ble_eq_true rfl, Nat.le_of_ble_eq_true rfl⟩ (rwV (q0 := 3) (ci := 2) hG (hP.sub [3, 4, 5, 6, 7] rfl) (hD.sub [3, 4, 5, 6, 7] (by decide) rfl) hAb hb0 hS hP rfl rfl) rfl rfl (Nat.le_of_ble_eq_true rfl) dX2_readKind_129 ⟨Nat.le_of_ble_eq_true rfl, Nat.le_of_ble_eq_true rfl⟩) hP hD hS hA [3, 4, 5, 6, 7] [0, 1, 2] rfl rfl (by decide) (by decide) (fun _ => rfl) (fun hz67 u66 H locs hP hD hS => ?_)
                have hG := hGk hS
                refine lv_if_eq (tgt := 154) hx hb dX2_readKind_132 (by decide) (fun c68 => ?_) (fun c68 => ?_)
                · have h := itp c68 h
                  exact w154 w60 t_draft_cells t_draft_kinds (upd t_nameStarts t_draft_kinds.toNatClampNeg w5) (upd t_nameLengths t_draft_kinds.toNatClampNeg (w6 - w5)) w61 w62 w63 w64 w65 t_draft_kinds _ _ (hP.sub [3, 4, 5, 0, 1, 2, 6, 7] rfl) (hD.sub [3, 4, 5, 0, 1, 2, 6, 7] (by decide) rfl) hS _ (lv_sub hl [1, 0] rfl) h
                · have h := itn c68 h
                  refine lv_aload_n hx hb dX2_readKind_135 rfl (lv_at hl 1 rfl) ?_
                  refine va_ldcS (own := RX2) (tx := "limit") (q := g.2.2.2.2.1 8) hx hb cx.2.2.2.1 (GE_st hG sr_8) dX2_readKind_136 ?_
                  refine lv_iload_n hx hb dX2_readKind_138 rfl (lv_at hl 0 rfl) ?_
                  refine lv_iconst (v := 4) hx hb dX2_readKind_139 (by decide) ?_
                  refine lv_iconst (v := 1) hx hb dX2_readKind_140 (by decide) ?_
                  refine lv_sipush (v := 999) hx hb dX2_readKind_141 (by decide) ?_
                  obtain ⟨r70, w71, w72, w73, w74, w75, w76, hr69, h⟩ := ob7_out h
                  refine rw_z (WN := fun u77 => [((a_t_draft 2), .inl (g.2.2.1 0, 144, .inl t_draft_cells)), ((a_t 2), .inl (g.2.2.1 0, 3, .inl (upd t_nameStarts t_draft_kinds.toNatClampNeg w5))), ((a_t 3), .inl (g.2.2.1 0, 3, .inl (upd t_nameLengths t_draft_kinds.toNatClampNeg (w6 - w5)))), ((a_t 0), .inr (2, [.ref (a_t_draft 0), .ref (a_t 2), .ref (a_t 3), .ref (a_t_text 0), .int w72, .int w73, .int w74, .int w75, .int w76])), ((a_t_draft 0), .inr (1, [.ref (a_t_draft 1), .ref (a_t_draft 2), .ref (a_t_draft 3), .ref (a_t_draft 4), .ref (a_t_draft 5), .int t_draft_told, .int t_draft_lines, .int t_draft_kinds, .int t_draft_acts])), ((a_t_draft 1), .inl (g.2.2.1 0, 15, .inl w71)), ((a_t_text 0), .inr (4, [.ref (a_t_text 1), .int t_text_size])), ((a_t_text 1), .inl (g.2.2.1 2, 600, .inl t_text_bytes))]) (wr := [((a_t_draft 2), .inl (g.2.2.1 0, 144, .inl t_draft_cells)), ((a_t 2), .inl (g.2.2.1 0, 3, .inl (upd t_nameStarts t_draft_kinds.toNatClampNeg w5))), ((a_t 3), .inl (g.2.2.1 0, 3, .inl (upd t_nameLengths t_draft_kinds.toNatClampNeg (w6 - w5))))]) (runV (As := [.ref ((g.2.2.2.2.1 8)), .int t_draft_kinds, .int (4), .int (1), .int (999)]) (rest := []) cx hl.1 (ctX2_readNumber l g H.size a_t a_t_draft a_t_text w61 w62 w63 w64 w65 t_draft_told t_draft_lines t_draft_kinds t_draft_acts w60 t_text_size t_text_bytes 8 (by decide) t_draft_kinds (4) (1) (999) r70 w71 w72 w73 w74 w75 w76 hr69) kmX2_readNumber kvX2_readNumber lm_X2_127 ⟨rfl, rfl⟩ ⟨Nat.le_of_ble_eq_true rfl, Nat.le_of_ble_eq_true rfl⟩ (rwV (q0 := 3) (ci := 2) hG (hP.sub [3, 4, 5, 6, 7] rfl) (hD.sub [3, 4, 5, 6, 7] (by decide) rfl) hAb hb0 hS hP rfl rfl) rfl rfl (Nat.le_of_ble_eq_true rfl) dX2_readKind_144 ⟨Nat.le_of_ble_eq_true rfl, Nat.le_of_ble_eq_true rfl⟩) hP hD hS hA [3, 4, 5, 6, 7] [0, 1, 2] rfl rfl (by decide) (by decide) (fun _ => rfl) (fun hz78 u77 H locs hP hD hS => ?_)
                  have hG := hGk hS
                  refine lv_if_eq (tgt := 154) hx hb dX2_readKind_147 (by decide) (fun c79 => ?_) (fun c79 => ?_)
                  · have h := itp c79 h
                    exact w154 w71 t_draft_cells t_draft_kinds (upd t_nameStarts t_draft_kinds.toNatClampNeg w5) (upd t_nameLengths t_draft_kinds.toNatClampNeg (w6 - w5)) w72 w73 w74 w75 w76 t_draft_kinds _ _ (hP.sub [3, 4, 5, 0, 1, 2, 6, 7] rfl) (hD.sub [3, 4, 5, 0, 1, 2, 6, 7] (by decide) rfl) hS _ (lv_sub hl [1, 0] rfl) h
                  · have h := itn c79 h
                    refine lv_iconst (v := 1) hx hb dX2_readKind_150 (by decide) ?_
                    refine lv_goto (tgt := 155) hx hb dX2_readKind_151 (by decide) ?_
                    exact w155 w71 t_draft_cells t_draft_kinds (upd t_nameStarts t_draft_kinds.toNatClampNeg w5) (upd t_nameLengths t_draft_kinds.toNatClampNeg (w6 - w5)) w72 w73 w74 w75 w76 t_draft_kinds 1 _ _ (hP.sub [3, 4, 5, 0, 1, 2, 6, 7] rfl) (hD.sub [3, 4, 5, 0, 1, 2, 6, 7] (by decide) rfl) hS _ (lv_sub hl [1, 0] rfl) h
        · have h := itn c17 h
          refine lv_aload_n hx hb dX2_readKind_44 rfl (lv_at hl 1 rfl) ?_
          refine lv_iconst (v := 2) hx hb dX2_readKind_45 (by decide) ?_
          obtain ⟨r81, w82, w83, hr80, h⟩ := ob3_out h
          refine rw_z (WN := fun u84 => [((a_t_draft 0), .inr (1, [.ref (a_t_draft 1), .ref (a_t_draft 2), .ref (a_t_draft 3), .ref (a_t_draft 4), .ref (a_t_draft 5), .int t_draft_told, .int t_draft_lines, .int t_draft_kinds, .int t_draft_acts])), ((a_t_draft 1), .inl (g.2.2.1 0, 15, .inl t_draft_numbers)), ((a_t_draft 2), .inl (g.2.2.1 0, 144, .inl t_draft_cells)), ((a_t 2), .inl (g.2.2.1 0, 3, .inl t_nameStarts)), ((a_t 3), .inl (g.2.2.1 0, 3, .inl t_nameLengths)), ((a_t_text 0), .inr (4, [.ref (a_t_text 1), .int t_text_size])), ((a_t_text 1), .inl (g.2.2.1 2, 600, .inl t_text_bytes)), ((a_t 0), .inr (2, [.ref (a_t_draft 0), .ref (a_t 2), .ref (a_t 3), .ref (a_t_text 0), .int w4, .int w5, .int w6, .int w82, .int w83]))]) (wr := [((a_t_draft 0), .inr (1, [.ref (a_t_draft 1), .ref (a_t_draft 2), .ref (a_t_draft 3), .ref (a_t_draft 4), .ref (a_t_draft 5), .int t_draft_told, .int t_draft_lines, .int t_draft_kinds, .int t_draft_acts])), ((a_t_draft 1), .inl (g.2.2.1 0, 15, .inl t_draft_numbers)), ((a_t_draft 2), .inl (g.2.2.1 0, 144, .inl t_draft_cells)), ((a_t 2), .inl (g.2.2.1 0, 3, .inl t_nameStarts)), ((a_t 3), .inl (g.2.2.1 0, 3, .inl t_nameLengths)), ((a_t_text 0), .inr (4, [.ref (a_t_text 1), .int t_text_size])), ((a_t_text 1), .inl (g.2.2.1 2, 600, .inl t_text_bytes))]) (runV (As := [.int (2)]) (rest := []) cx hl.1 (ctX2_refuse l g H.size a_t a_t_draft a_t_text w4 w5 w6 w10 w11 (2) r81 w82 w83 hr80) kmX2_refuse kvX2_refuse lm_X2_94 ⟨rfl, rfl⟩ ⟨Nat.le_of_ble_eq_true rfl, Nat.le_of_ble_eq_true rfl⟩ (rwV (q0 := 5) (ci := 2) hG (hP.sub [5] rfl) (hD.sub [5] (by decide) rfl) hAb hb0 hS hP rfl rfl) rfl rfl (Nat.le_of_ble_eq_true rfl) dX2_readKind_46 ⟨Nat.le_of_ble_eq_true rfl, Nat.le_of_ble_eq_true rfl⟩) hP hD hS hA [5] [0, 1, 2, 3, 4, 6, 7] rfl rfl (by decide) (by decide) (fun _ => rfl) (fun hz85 u84 H locs hP hD hS => ?_)
          have hG := hGk hS
          exact hrt (fun _ => 0) _ _ r81 t_draft_numbers t_draft_cells t_draft_kinds t_nameStarts t_nameLengths w4 w5 w6 w82 w83 _ _ dX2_readKind_49 hz85 h (hP.sub [7, 0, 1, 2, 3, 4, 5, 6] rfl) (hD.sub [7, 0, 1, 2, 3, 4, 5, 6] (by decide) rfl) hS
      · have h := itp c14 h
        refine lv_iconst (v := 0) hx hb dX2_readKind_34 (by decide) ?_
        exact hrt (fun _ => 0) _ _ ((0)) t_draft_numbers t_draft_cells t_draft_kinds t_nameStarts t_nameLengths w4 w5 w6 w10 w11 _ _ dX2_readKind_35 (by decide) h (hP.sub [5, 0, 1, 2, 3, 4, 6, 7] rfl) (hD.sub [5, 0, 1, 2, 3, 4, 6, 7] (by decide) rfl) hS
    · have h := itn c2 h
      exact w17 t_draft_numbers t_draft_cells t_draft_kinds t_nameStarts t_nameLengths t_token t_start t_after t_fault t_place _ _ hP hD hS _ (lv_sub hl [1] rfl) h
-- X2_spelledAngle
theorem dX2_spelledAngle_0 : decode cX2_spelledAngle 0 = .ok (.aload_n 0, 1) := by decide +kernel
theorem dX2_spelledAngle_1 : decode cX2_spelledAngle 1 = .ok (.ldc 168, 2) := by decide +kernel
theorem dX2_spelledAngle_3 : decode cX2_spelledAngle 3 = .ok (.invokevirtual 82, 3) := by decide +kernel
theorem dX2_spelledAngle_6 : decode cX2_spelledAngle 6 = .ok (.ifCond .eq 5, 3) := by decide +kernel
theorem dX2_spelledAngle_9 : decode cX2_spelledAngle 9 = .ok (.iconst 0, 1) := by decide +kernel
theorem dX2_spelledAngle_10 : decode cX2_spelledAngle 10 = .ok (.ireturn, 1) := by decide +kernel
theorem dX2_spelledAngle_11 : decode cX2_spelledAngle 11 = .ok (.aload_n 0, 1) := by decide +kernel
theorem dX2_spelledAngle_12 : decode cX2_spelledAngle 12 = .ok (.ldc 170, 2) := by decide +kernel
theorem dX2_spelledAngle_14 : decode cX2_spelledAngle 14 = .ok (.invokevirtual 82, 3) := by decide +kernel
theorem dX2_spelledAngle_17 : decode cX2_spelledAngle 17 = .ok (.ifCond .eq 5, 3) := by decide +kernel
theorem dX2_spelledAngle_20 : decode cX2_spelledAngle 20 = .ok (.iconst 1, 1) := by decide +kernel
theorem dX2_spelledAngle_21 : decode cX2_spelledAngle 21 = .ok (.ireturn, 1) := by decide +kernel
theorem dX2_spelledAngle_22 : decode cX2_spelledAngle 22 = .ok (.aload_n 0, 1) := by decide +kernel
theorem dX2_spelledAngle_23 : decode cX2_spelledAngle 23 = .ok (.ldc 172, 2) := by decide +kernel
theorem dX2_spelledAngle_25 : decode cX2_spelledAngle 25 = .ok (.invokevirtual 82, 3) := by decide +kernel
theorem dX2_spelledAngle_28 : decode cX2_spelledAngle 28 = .ok (.ifCond .eq 5, 3) := by decide +kernel
theorem dX2_spelledAngle_31 : decode cX2_spelledAngle 31 = .ok (.iconst 2, 1) := by decide +kernel
theorem dX2_spelledAngle_32 : decode cX2_spelledAngle 32 = .ok (.ireturn, 1) := by decide +kernel
theorem dX2_spelledAngle_33 : decode cX2_spelledAngle 33 = .ok (.aload_n 0, 1) := by decide +kernel
theorem dX2_spelledAngle_34 : decode cX2_spelledAngle 34 = .ok (.ldc 174, 2) := by decide +kernel
theorem dX2_spelledAngle_36 : decode cX2_spelledAngle 36 = .ok (.invokevirtual 82, 3) := by decide +kernel
theorem dX2_spelledAngle_39 : decode cX2_spelledAngle 39 = .ok (.ifCond .eq 7, 3) := by decide +kernel
theorem dX2_spelledAngle_42 : decode cX2_spelledAngle 42 = .ok (.iconst 3, 1) := by decide +kernel
theorem dX2_spelledAngle_43 : decode cX2_spelledAngle 43 = .ok (.goto 4, 3) := by decide +kernel
theorem dX2_spelledAngle_46 : decode cX2_spelledAngle 46 = .ok (.iconst (-1), 1) := by decide +kernel
theorem dX2_spelledAngle_47 : decode cX2_spelledAngle 47 = .ok (.ireturn, 1) := by decide +kernel
noncomputable def fX2_spelledAngle  (t_text_bytes : Nat → Int32) (t_text_size : Int32) (t_token : Int32) (t_start : Int32) (t_after : Int32) : Option (Int32) := (fX2_spells t_text_bytes t_text_size t_token t_start t_after 9).bind fun r1 => (if r1 = 0 then (fX2_spells t_text_bytes t_text_size t_token t_start t_after 10).bind fun r5 => (if r5 = 0 then (fX2_spells t_text_bytes t_text_size t_token t_start t_after 11).bind fun r9 => (if r9 = 0 then (fX2_spells t_text_bytes t_text_size t_token t_start t_after 12).bind fun r13 => (if r13 = 0 then some (-1) else some (3)) else some (2)) else some (1)) else some (0))
set_option maxHeartbeats 4000000 in
set_option maxRecDepth 100000 in
theorem ctX2_spelledAngle (l : Launch) (g : GT) (a_t : Nat → Nat) (a_t_draft : Nat → Nat) (a_t_text : Nat → Nat) (t_token : Int32) (t_start : Int32) (t_after : Int32) (t_fault : Int32) (t_place : Int32) (t_text_size : Int32) (t_text_bytes : Nat → Int32) (o : Int32) (h : fX2_spelledAngle t_text_bytes t_text_size t_token t_start t_after = some o) : Met l yX2_spelledAngle (Cond.code yX2_spelledAngle cX2_spelledAngle 1 (some .int) :: Tw) ⟨9, 0, 0, 172⟩ (va_Pc [.ref ((a_t 0))] (roB g [((a_t 0), .inr (2, [.ref (a_t_draft 0), .ref (a_t 2), .ref (a_t 3), .ref (a_t_text 0), .int t_token, .int t_start, .int t_after, .int t_fault, .int t_place])), ((a_t_text 0), .inr (4, [.ref (a_t_text 1), .int t_text_size])), ((a_t_text 1), .inl (g.2.2.1 2, 600, .inl t_text_bytes))])) (vp_Si (fun x => x = o)) 0 0 (fun _ => False) := by
  refine ro_meti (by decide) (Nat.le_of_ble_eq_true rfl) (lv0 := [(0, .ref ((a_t 0)))]) rfl ?_
  intro p e s m args below meth c ls Q cx hret hG hP hl
  have hx := cx.1
  have hb := cx.2.1
  have hG0 := hG
  unfold fX2_spelledAngle at h
  refine lv_aload_n hx hb dX2_spelledAngle_0 rfl (lv_at hl 0 rfl) ?_
  refine va_ldcS (own := RX2) (tx := "flat") (q := g.2.2.2.2.1 9) hx hb cx.2.2.2.1 (GE_st hG sr_9) dX2_spelledAngle_1 ?_
  obtain ⟨r1, hr2, h⟩ := bnd h
  refine ro_z (runV (As := [.ref ((g.2.2.2.2.1 9))]) (rest := []) cx hl.1 (ctX2_spells l g a_t a_t_draft a_t_text t_token t_start t_after t_fault t_place t_text_size t_text_bytes 9 (by decide) r1 hr2) kmX2_spells kvX2_spells lm_X2_82 ⟨rfl, rfl⟩ ⟨Nat.le_of_ble_eq_true rfl, Nat.le_of_ble_eq_true rfl⟩ (roV (q0 := 0) (ci := 2) hG (hP.sub [0, 1, 2] rfl) hP rfl rfl) rfl rfl (Nat.le_of_ble_eq_true rfl) dX2_spelledAngle_3 ⟨Nat.le_of_ble_eq_true rfl, Nat.le_of_ble_eq_true rfl⟩) (fun hz3 => ?_)
  refine lv_if_eq (tgt := 11) hx hb dX2_spelledAngle_6 (by decide) (fun c4 => ?_) (fun c4 => ?_)
  · have h := itp c4 h
    refine lv_aload_n hx hb dX2_spelledAngle_11 rfl (lv_at hl 0 rfl) ?_
    refine va_ldcS (own := RX2) (tx := "rise") (q := g.2.2.2.2.1 10) hx hb cx.2.2.2.1 (GE_st hG sr_10) dX2_spelledAngle_12 ?_
    obtain ⟨r5, hr6, h⟩ := bnd h
    refine ro_z (runV (As := [.ref ((g.2.2.2.2.1 10))]) (rest := []) cx hl.1 (ctX2_spells l g a_t a_t_draft a_t_text t_token t_start t_after t_fault t_place t_text_size t_text_bytes 10 (by decide) r5 hr6) kmX2_spells kvX2_spells lm_X2_82 ⟨rfl, rfl⟩ ⟨Nat.le_of_ble_eq_true rfl, Nat.le_of_ble_eq_true rfl⟩ (roV (q0 := 0) (ci := 2) hG (hP.sub [0, 1, 2] rfl) hP rfl rfl) rfl rfl (Nat.le_of_ble_eq_true rfl) dX2_spelledAngle_14 ⟨Nat.le_of_ble_eq_true rfl, Nat.le_of_ble_eq_true rfl⟩) (fun hz7 => ?_)
    refine lv_if_eq (tgt := 22) hx hb dX2_spelledAngle_17 (by decide) (fun c8 => ?_) (fun c8 => ?_)
    · have h := itp c8 h
      refine lv_aload_n hx hb dX2_spelledAngle_22 rfl (lv_at hl 0 rfl) ?_
      refine va_ldcS (own := RX2) (tx := "fall") (q := g.2.2.2.2.1 11) hx hb cx.2.2.2.1 (GE_st hG sr_11) dX2_spelledAngle_23 ?_
      obtain ⟨r9, hr10, h⟩ := bnd h
      refine ro_z (runV (As := [.ref ((g.2.2.2.2.1 11))]) (rest := []) cx hl.1 (ctX2_spells l g a_t a_t_draft a_t_text t_token t_start t_after t_fault t_place t_text_size t_text_bytes 11 (by decide) r9 hr10) kmX2_spells kvX2_spells lm_X2_82 ⟨rfl, rfl⟩ ⟨Nat.le_of_ble_eq_true rfl, Nat.le_of_ble_eq_true rfl⟩ (roV (q0 := 0) (ci := 2) hG (hP.sub [0, 1, 2] rfl) hP rfl rfl) rfl rfl (Nat.le_of_ble_eq_true rfl) dX2_spelledAngle_25 ⟨Nat.le_of_ble_eq_true rfl, Nat.le_of_ble_eq_true rfl⟩) (fun hz11 => ?_)
      refine lv_if_eq (tgt := 33) hx hb dX2_spelledAngle_28 (by decide) (fun c12 => ?_) (fun c12 => ?_)
      · have h := itp c12 h
        refine lv_aload_n hx hb dX2_spelledAngle_33 rfl (lv_at hl 0 rfl) ?_
        refine va_ldcS (own := RX2) (tx := "cross") (q := g.2.2.2.2.1 12) hx hb cx.2.2.2.1 (GE_st hG sr_12) dX2_spelledAngle_34 ?_
        obtain ⟨r13, hr14, h⟩ := bnd h
        refine ro_z (runV (As := [.ref ((g.2.2.2.2.1 12))]) (rest := []) cx hl.1 (ctX2_spells l g a_t a_t_draft a_t_text t_token t_start t_after t_fault t_place t_text_size t_text_bytes 12 (by decide) r13 hr14) kmX2_spells kvX2_spells lm_X2_82 ⟨rfl, rfl⟩ ⟨Nat.le_of_ble_eq_true rfl, Nat.le_of_ble_eq_true rfl⟩ (roV (q0 := 0) (ci := 2) hG (hP.sub [0, 1, 2] rfl) hP rfl rfl) rfl rfl (Nat.le_of_ble_eq_true rfl) dX2_spelledAngle_36 ⟨Nat.le_of_ble_eq_true rfl, Nat.le_of_ble_eq_true rfl⟩) (fun hz15 => ?_)
        refine lv_if_eq (tgt := 46) hx hb dX2_spelledAngle_39 (by decide) (fun c16 => ?_) (fun c16 => ?_)
        · have h := itp c16 h
          refine lv_iconst (v := -1) hx hb dX2_spelledAngle_46 (by decide) ?_
          exact hret _ _ _ dX2_spelledAngle_47 (Option.some.inj h)
        · have h := itn c16 h
          refine lv_iconst (v := 3) hx hb dX2_spelledAngle_42 (by decide) ?_
          refine lv_goto (tgt := 47) hx hb dX2_spelledAngle_43 (by decide) ?_
          exact hret _ _ _ dX2_spelledAngle_47 (Option.some.inj h)
      · have h := itn c12 h
        refine lv_iconst (v := 2) hx hb dX2_spelledAngle_31 (by decide) ?_
        exact hret _ _ _ dX2_spelledAngle_32 (Option.some.inj h)
    · have h := itn c8 h
      refine lv_iconst (v := 1) hx hb dX2_spelledAngle_20 (by decide) ?_
      exact hret _ _ _ dX2_spelledAngle_21 (Option.some.inj h)
  · have h := itn c4 h
    refine lv_iconst (v := 0) hx hb dX2_spelledAngle_9 (by decide) ?_
    exact hret _ _ _ dX2_spelledAngle_10 (Option.some.inj h)
-- X2_readPly
theorem dX2_readPly_0 : decode cX2_readPly 0 = .ok (.aload_n 0, 1) := by decide +kernel
theorem dX2_readPly_1 : decode cX2_readPly 1 = .ok (.getfield 12, 3) := by decide +kernel
theorem dX2_readPly_4 : decode cX2_readPly 4 = .ok (.getfield 147, 3) := by decide +kernel
theorem dX2_readPly_7 : decode cX2_readPly 7 = .ok (.iconst 0, 1) := by decide +kernel
theorem dX2_readPly_8 : decode cX2_readPly 8 = .ok (.iaload, 1) := by decide +kernel
theorem dX2_readPly_9 : decode cX2_readPly 9 = .ok (.istore_n 1, 1) := by decide +kernel
theorem dX2_readPly_10 : decode cX2_readPly 10 = .ok (.iload_n 1, 1) := by decide +kernel
theorem dX2_readPly_11 : decode cX2_readPly 11 = .ok (.bipush 8, 2) := by decide +kernel
theorem dX2_readPly_13 : decode cX2_readPly 13 = .ok (.if_icmp .lt 9, 3) := by decide +kernel
theorem dX2_readPly_16 : decode cX2_readPly 16 = .ok (.aload_n 0, 1) := by decide +kernel
theorem dX2_readPly_17 : decode cX2_readPly 17 = .ok (.iconst 3, 1) := by decide +kernel
theorem dX2_readPly_18 : decode cX2_readPly 18 = .ok (.invokevirtual 94, 3) := by decide +kernel
theorem dX2_readPly_21 : decode cX2_readPly 21 = .ok (.ireturn, 1) := by decide +kernel
theorem dX2_readPly_22 : decode cX2_readPly 22 = .ok (.aload_n 0, 1) := by decide +kernel
theorem dX2_readPly_23 : decode cX2_readPly 23 = .ok (.invokevirtual 42, 3) := by decide +kernel
theorem dX2_readPly_26 : decode cX2_readPly 26 = .ok (.aload_n 0, 1) := by decide +kernel
theorem dX2_readPly_27 : decode cX2_readPly 27 = .ok (.invokevirtual 119, 3) := by decide +kernel
theorem dX2_readPly_30 : decode cX2_readPly 30 = .ok (.ifCond .ne 5, 3) := by decide +kernel
theorem dX2_readPly_33 : decode cX2_readPly 33 = .ok (.iconst 0, 1) := by decide +kernel
theorem dX2_readPly_34 : decode cX2_readPly 34 = .ok (.ireturn, 1) := by decide +kernel
theorem dX2_readPly_35 : decode cX2_readPly 35 = .ok (.aload_n 0, 1) := by decide +kernel
theorem dX2_readPly_36 : decode cX2_readPly 36 = .ok (.invokevirtual 122, 3) := by decide +kernel
theorem dX2_readPly_39 : decode cX2_readPly 39 = .ok (.istore_n 2, 1) := by decide +kernel
theorem dX2_readPly_40 : decode cX2_readPly 40 = .ok (.iload_n 2, 1) := by decide +kernel
theorem dX2_readPly_41 : decode cX2_readPly 41 = .ok (.iconst (-1), 1) := by decide +kernel
theorem dX2_readPly_42 : decode cX2_readPly 42 = .ok (.if_icmp .ne 9, 3) := by decide +kernel
theorem dX2_readPly_45 : decode cX2_readPly 45 = .ok (.aload_n 0, 1) := by decide +kernel
theorem dX2_readPly_46 : decode cX2_readPly 46 = .ok (.iconst 2, 1) := by decide +kernel
theorem dX2_readPly_47 : decode cX2_readPly 47 = .ok (.invokevirtual 94, 3) := by decide +kernel
theorem dX2_readPly_50 : decode cX2_readPly 50 = .ok (.ireturn, 1) := by decide +kernel
theorem dX2_readPly_51 : decode cX2_readPly 51 = .ok (.aload_n 0, 1) := by decide +kernel
theorem dX2_readPly_52 : decode cX2_readPly 52 = .ok (.invokevirtual 42, 3) := by decide +kernel
theorem dX2_readPly_55 : decode cX2_readPly 55 = .ok (.aload_n 0, 1) := by decide +kernel
theorem dX2_readPly_56 : decode cX2_readPly 56 = .ok (.invokevirtual 150, 3) := by decide +kernel
theorem dX2_readPly_59 : decode cX2_readPly 59 = .ok (.istore_n 3, 1) := by decide +kernel
theorem dX2_readPly_60 : decode cX2_readPly 60 = .ok (.iload_n 3, 1) := by decide +kernel
theorem dX2_readPly_61 : decode cX2_readPly 61 = .ok (.iconst (-1), 1) := by decide +kernel
theorem dX2_readPly_62 : decode cX2_readPly 62 = .ok (.if_icmp .ne 9, 3) := by decide +kernel
theorem dX2_readPly_65 : decode cX2_readPly 65 = .ok (.aload_n 0, 1) := by decide +kernel
theorem dX2_readPly_66 : decode cX2_readPly 66 = .ok (.iconst 1, 1) := by decide +kernel
theorem dX2_readPly_67 : decode cX2_readPly 67 = .ok (.invokevirtual 94, 3) := by decide +kernel
theorem dX2_readPly_70 : decode cX2_readPly 70 = .ok (.ireturn, 1) := by decide +kernel
theorem dX2_readPly_71 : decode cX2_readPly 71 = .ok (.aload_n 0, 1) := by decide +kernel
theorem dX2_readPly_72 : decode cX2_readPly 72 = .ok (.getfield 12, 3) := by decide +kernel
theorem dX2_readPly_75 : decode cX2_readPly 75 = .ok (.getfield 153, 3) := by decide +kernel
theorem dX2_readPly_78 : decode cX2_readPly 78 = .ok (.iconst 0, 1) := by decide +kernel
theorem dX2_readPly_79 : decode cX2_readPly 79 = .ok (.dup2, 1) := by decide +kernel
theorem dX2_readPly_80 : decode cX2_readPly 80 = .ok (.iaload, 1) := by decide +kernel
theorem dX2_readPly_81 : decode cX2_readPly 81 = .ok (.iload_n 2, 1) := by decide +kernel
theorem dX2_readPly_82 : decode cX2_readPly 82 = .ok (.iconst 4, 1) := by decide +kernel
theorem dX2_readPly_83 : decode cX2_readPly 83 = .ok (.imul, 1) := by decide +kernel
theorem dX2_readPly_84 : decode cX2_readPly 84 = .ok (.iload_n 3, 1) := by decide +kernel
theorem dX2_readPly_85 : decode cX2_readPly 85 = .ok (.iadd, 1) := by decide +kernel
theorem dX2_readPly_86 : decode cX2_readPly 86 = .ok (.iconst 4, 1) := by decide +kernel
theorem dX2_readPly_87 : decode cX2_readPly 87 = .ok (.iload_n 1, 1) := by decide +kernel
theorem dX2_readPly_88 : decode cX2_readPly 88 = .ok (.imul, 1) := by decide +kernel
theorem dX2_readPly_89 : decode cX2_readPly 89 = .ok (.ishl, 1) := by decide +kernel
theorem dX2_readPly_90 : decode cX2_readPly 90 = .ok (.ior, 1) := by decide +kernel
theorem dX2_readPly_91 : decode cX2_readPly 91 = .ok (.iastore, 1) := by decide +kernel
theorem dX2_readPly_92 : decode cX2_readPly 92 = .ok (.aload_n 0, 1) := by decide +kernel
theorem dX2_readPly_93 : decode cX2_readPly 93 = .ok (.getfield 12, 3) := by decide +kernel
theorem dX2_readPly_96 : decode cX2_readPly 96 = .ok (.getfield 147, 3) := by decide +kernel
theorem dX2_readPly_99 : decode cX2_readPly 99 = .ok (.iconst 0, 1) := by decide +kernel
theorem dX2_readPly_100 : decode cX2_readPly 100 = .ok (.iload_n 1, 1) := by decide +kernel
theorem dX2_readPly_101 : decode cX2_readPly 101 = .ok (.iconst 1, 1) := by decide +kernel
theorem dX2_readPly_102 : decode cX2_readPly 102 = .ok (.iadd, 1) := by decide +kernel
theorem dX2_readPly_103 : decode cX2_readPly 103 = .ok (.iastore, 1) := by decide +kernel
theorem dX2_readPly_104 : decode cX2_readPly 104 = .ok (.aload_n 0, 1) := by decide +kernel
theorem dX2_readPly_105 : decode cX2_readPly 105 = .ok (.invokevirtual 42, 3) := by decide +kernel
theorem dX2_readPly_108 : decode cX2_readPly 108 = .ok (.iconst 1, 1) := by decide +kernel
theorem dX2_readPly_109 : decode cX2_readPly 109 = .ok (.ireturn, 1) := by decide +kernel
noncomputable def fX2_readPly  (t_draft_rows : Nat → Int32) (t_draft_sizes : Nat → Int32) (t_draft_kinds : Int32) (t_nameStarts : Nat → Int32) (t_nameLengths : Nat → Int32) (t_text_bytes : Nat → Int32) (t_text_size : Int32) (t_token : Int32) (t_start : Int32) (t_after : Int32) (t_fault : Int32) (t_place : Int32) : Option (Int32 × (Nat → Int32) × (Nat → Int32) × Int32 × Int32 × Int32 × Int32 × Int32) := (if (t_draft_sizes 0) < 8 then ob3 (fX2_next t_text_bytes t_text_size t_token t_start t_after) fun w3 w4 w5 => ob3 (fX2_isName t_text_bytes t_text_size w3 w4 w5 t_fault t_place) fun r8 w9 w10 => (if r8 = 0 then some ((0), t_draft_rows, t_draft_sizes, w3, w4, w5, w9, w10) else (fX2_toldKind t_draft_kinds t_nameStarts t_nameLengths t_text_bytes t_text_size w4 w5).bind fun r14 => (if r14 = (-1) then ob3 (fX2_refuse w4 w9 w10 2) fun r37 w38 w39 => some (r37, t_draft_rows, t_draft_sizes, w3, w4, w5, w38, w39) else ob3 (fX2_next t_text_bytes t_text_size w3 w4 w5) fun w18 w19 w20 => (fX2_spelledAngle t_text_bytes t_text_size w18 w19 w20).bind fun r22 => (if r22 = (-1) then ob3 (fX2_refuse w19 w9 w10 1) fun r31 w32 w33 => some (r31, t_draft_rows, t_draft_sizes, w18, w19, w20, w32, w33) else ob3 (fX2_next t_text_bytes t_text_size w18 w19 w20) fun w26 w27 w28 => some ((1), upd t_draft_rows 0 ((t_draft_rows 0) ||| (((r14 * 4) + r22) <<< ((4 * (t_draft_sizes 0)) &&& 31))), upd t_draft_sizes 0 ((t_draft_sizes 0) + 1), w26, w27, w28, w9, w10)))) else ob3 (fX2_refuse t_start t_fault t_place 3) fun r43 w44 w45 => some (r43, t_draft_rows, t_draft_sizes, t_token, t_start, t_after, w44, w45))
set_option maxHeartbeats 4000000 in
set_option maxRecDepth 100000 in
theorem ctX2_readPly (l : Launch) (g : GT) (sz : Nat) (a_t : Nat → Nat) (a_t_draft : Nat → Nat) (a_t_text : Nat → Nat) (t_token : Int32) (t_start : Int32) (t_after : Int32) (t_fault : Int32) (t_place : Int32) (t_draft_told : Int32) (t_draft_lines : Int32) (t_draft_kinds : Int32) (t_draft_acts : Int32) (t_draft_rows : Nat → Int32) (t_draft_sizes : Nat → Int32) (t_nameStarts : Nat → Int32) (t_nameLengths : Nat → Int32) (t_text_size : Int32) (t_text_bytes : Nat → Int32) (o : Int32) (o_t_draft_rows : Nat → Int32) (o_t_draft_sizes : Nat → Int32) (o_t_token : Int32) (o_t_start : Int32) (o_t_after : Int32) (o_t_fault : Int32) (o_t_place : Int32) (h : fX2_readPly t_draft_rows t_draft_sizes t_draft_kinds t_nameStarts t_nameLengths t_text_bytes t_text_size t_token t_start t_after t_fault t_place = some (o, o_t_draft_rows, o_t_draft_sizes, o_t_token, o_t_start, o_t_after, o_t_fault, o_t_place)) : Met l yX2_readPly (Cond.code yX2_readPly cX2_readPly 4 (some .boolean) :: Tw) ⟨10, 0, 0, 193⟩ (va_Pc [.ref ((a_t 0))] (rwB g [((a_t 0), .inr (2, [.ref (a_t_draft 0), .ref (a_t 2), .ref (a_t 3), .ref (a_t_text 0), .int t_token, .int t_start, .int t_after, .int t_fault, .int t_place])), ((a_t_draft 0), .inr (1, [.ref (a_t_draft 1), .ref (a_t_draft 2), .ref (a_t_draft 3), .ref (a_t_draft 4), .ref (a_t_draft 5), .int t_draft_told, .int t_draft_lines, .int t_draft_kinds, .int t_draft_acts])), ((a_t_draft 3), .inl (g.2.2.1 0, 31, .inl t_draft_rows)), ((a_t_draft 4), .inl (g.2.2.1 0, 31, .inl t_draft_sizes)), ((a_t 2), .inl (g.2.2.1 0, 3, .inl t_nameStarts)), ((a_t 3), .inl (g.2.2.1 0, 3, .inl t_nameLengths)), ((a_t_text 0), .inr (4, [.ref (a_t_text 1), .int t_text_size])), ((a_t_text 1), .inl (g.2.2.1 2, 600, .inl t_text_bytes))] sz)) (va_Qi (fun x (_ : Nat → Nat) => x = o ∧ (x = 0 ∨ x = 1)) (fun u => rwE g (va_A [((a_t 0), .inr (2, [.ref (a_t_draft 0), .ref (a_t 2), .ref (a_t 3), .ref (a_t_text 0), .int t_token, .int t_start, .int t_after, .int t_fault, .int t_place])), ((a_t_draft 0), .inr (1, [.ref (a_t_draft 1), .ref (a_t_draft 2), .ref (a_t_draft 3), .ref (a_t_draft 4), .ref (a_t_draft 5), .int t_draft_told, .int t_draft_lines, .int t_draft_kinds, .int t_draft_acts])), ((a_t_draft 3), .inl (g.2.2.1 0, 31, .inl t_draft_rows)), ((a_t_draft 4), .inl (g.2.2.1 0, 31, .inl t_draft_sizes)), ((a_t 2), .inl (g.2.2.1 0, 3, .inl t_nameStarts)), ((a_t 3), .inl (g.2.2.1 0, 3, .inl t_nameLengths)), ((a_t_text 0), .inr (4, [.ref (a_t_text 1), .int t_text_size])), ((a_t_text 1), .inl (g.2.2.1 2, 600, .inl t_text_bytes))] sz) [((a_t 0), .inr (2, [.ref (a_t_draft 0), .ref (a_t 2), .ref (a_t 3), .ref (a_t_text 0), .int o_t_token, .int o_t_start, .int o_t_after, .int o_t_fault, .int o_t_place])), ((a_t_draft 0), .inr (1, [.ref (a_t_draft 1), .ref (a_t_draft 2), .ref (a_t_draft 3), .ref (a_t_draft 4), .ref (a_t_draft 5), .int t_draft_told, .int t_draft_lines, .int t_draft_kinds, .int t_draft_acts])), ((a_t_draft 3), .inl (g.2.2.1 0, 31, .inl o_t_draft_rows)), ((a_t_draft 4), .inl (g.2.2.1 0, 31, .inl o_t_draft_sizes)), ((a_t 2), .inl (g.2.2.1 0, 3, .inl t_nameStarts)), ((a_t 3), .inl (g.2.2.1 0, 3, .inl t_nameLengths)), ((a_t_text 0), .inr (4, [.ref (a_t_text 1), .int t_text_size])), ((a_t_text 1), .inl (g.2.2.1 2, 600, .inl t_text_bytes))]) (va_A [((a_t 0), .inr (2, [.ref (a_t_draft 0), .ref (a_t 2), .ref (a_t 3), .ref (a_t_text 0), .int t_token, .int t_start, .int t_after, .int t_fault, .int t_place])), ((a_t_draft 0), .inr (1, [.ref (a_t_draft 1), .ref (a_t_draft 2), .ref (a_t_draft 3), .ref (a_t_draft 4), .ref (a_t_draft 5), .int t_draft_told, .int t_draft_lines, .int t_draft_kinds, .int t_draft_acts])), ((a_t_draft 3), .inl (g.2.2.1 0, 31, .inl t_draft_rows)), ((a_t_draft 4), .inl (g.2.2.1 0, 31, .inl t_draft_sizes)), ((a_t 2), .inl (g.2.2.1 0, 3, .inl t_nameStarts)), ((a_t 3), .inl (g.2.2.1 0, 3, .inl t_nameLengths)), ((a_t_text 0), .inr (4, [.ref (a_t_text 1), .int t_text_size])), ((a_t_text 1), .inl (g.2.2.1 2, 600, .inl t_text_bytes))] sz)) 0 0 (va_A [((a_t 0), .inr (2, [.ref (a_t_draft 0), .ref (a_t 2), .ref (a_t 3), .ref (a_t_text 0), .int t_token, .int t_start, .int t_after, .int t_fault, .int t_place])), ((a_t_draft 0), .inr (1, [.ref (a_t_draft 1), .ref (a_t_draft 2), .ref (a_t_draft 3), .ref (a_t_draft 4), .ref (a_t_draft 5), .int t_draft_told, .int t_draft_lines, .int t_draft_kinds, .int t_draft_acts])), ((a_t_draft 3), .inl (g.2.2.1 0, 31, .inl t_draft_rows)), ((a_t_draft 4), .inl (g.2.2.1 0, 31, .inl t_draft_sizes)), ((a_t 2), .inl (g.2.2.1 0, 3, .inl t_nameStarts)), ((a_t 3), .inl (g.2.2.1 0, 3, .inl t_nameLengths)), ((a_t_text 0), .inr (4, [.ref (a_t_text 1), .int t_text_size])), ((a_t_text 1), .inl (g.2.2.1 2, 600, .inl t_text_bytes))] sz) := by
  refine rw_metz (by decide) (Nat.le_of_ble_eq_true rfl) (lv0 := [(0, .ref ((a_t 0)))]) rfl ?_
  intro p e s m args below meth c ls Q A cx hret hG hAb hb0 hA hP hD hl
  have hx := cx.1
  have hb := cx.2.1
  have hG0 := hG
  have hGk : ∀ {H : Heap} {locs : List Loc}, va_S A s.heap H locs → GE g s H := fun hS => hG0.keptS hAb hS
  have hSb : ∀ {H : Heap} {locs : List Loc}, va_S A s.heap H locs → va_S (fun a => g.1 ≤ a) s.heap H locs := fun hS => ⟨hS.1, fun q h1 h2 => hS.2.1 q h1 (fun z => h2 (hAb q z)), fun l hl => hAb _ (hS.2.2 l hl)⟩
  have hS : va_S A s.heap s.heap [] := va_S.rf
  have hrt : ∀ (u : Nat → Nat) (pc : Nat) (ls : Array Slot) (v : Int32) (x_t_draft_rows : Nat → Int32) (x_t_draft_sizes : Nat → Int32) (x_t_token : Int32) (x_t_start : Int32) (x_t_after : Int32) (x_t_fault : Int32) (x_t_place : Int32) (H : Heap) (locs : List Loc), decode cX2_readPly pc = .ok (.ireturn, 1) → (v = 0 ∨ v = 1) → some (v, x_t_draft_rows, x_t_draft_sizes, x_t_token, x_t_start, x_t_after, x_t_fault, x_t_place) = some (o, o_t_draft_rows, o_t_draft_sizes, o_t_token, o_t_start, o_t_after, o_t_fault, o_t_place) → va_P g.2.1 vwCl [((a_t 0), .inr (2, [.ref (a_t_draft 0), .ref (a_t 2), .ref (a_t 3), .ref (a_t_text 0), .int x_t_token, .int x_t_start, .int x_t_after, .int x_t_fault, .int x_t_place])), ((a_t_draft 0), .inr (1, [.ref (a_t_draft 1), .ref (a_t_draft 2), .ref (a_t_draft 3), .ref (a_t_draft 4), .ref (a_t_draft 5), .int t_draft_told, .int t_draft_lines, .int t_draft_kinds, .int t_draft_acts])), ((a_t_draft 3), .inl (g.2.2.1 0, 31, .inl x_t_draft_rows)), ((a_t_draft 4), .inl (g.2.2.1 0, 31, .inl x_t_draft_sizes)), ((a_t 2), .inl (g.2.2.1 0, 3, .inl t_nameStarts)), ((a_t 3), .inl (g.2.2.1 0, 3, .inl t_nameLengths)), ((a_t_text 0), .inr (4, [.ref (a_t_text 1), .int t_text_size])), ((a_t_text 1), .inl (g.2.2.1 2, 600, .inl t_text_bytes))] H → va_D A [((a_t 0), .inr (2, [.ref (a_t_draft 0), .ref (a_t 2), .ref (a_t 3), .ref (a_t_text 0), .int x_t_token, .int x_t_start, .int x_t_after, .int x_t_fault, .int x_t_place])), ((a_t_draft 0), .inr (1, [.ref (a_t_draft 1), .ref (a_t_draft 2), .ref (a_t_draft 3), .ref (a_t_draft 4), .ref (a_t_draft 5), .int t_draft_told, .int t_draft_lines, .int t_draft_kinds, .int t_draft_acts])), ((a_t_draft 3), .inl (g.2.2.1 0, 31, .inl x_t_draft_rows)), ((a_t_draft 4), .inl (g.2.2.1 0, 31, .inl x_t_draft_sizes)), ((a_t 2), .inl (g.2.2.1 0, 3, .inl t_nameStarts)), ((a_t 3), .inl (g.2.2.1 0, 3, .inl t_nameLengths)), ((a_t_text 0), .inr (4, [.ref (a_t_text 1), .int t_text_size])), ((a_t_text 1), .inl (g.2.2.1 2, 600, .inl t_text_bytes))] → va_S A s.heap H locs → W p l e ⟨10, 0, 0, 193⟩ s m args below meth c H locs 0 0 Q (F0 m pc ls [.int v]) := by
    intro u pc ls v x_t_draft_rows x_t_draft_sizes x_t_token x_t_start x_t_after x_t_fault x_t_place H locs hd hz h hP hD hS
    cases h
    exact hret u _ _ _ _ _ hd hz rfl hP hD hS
  unfold fX2_readPly at h
  refine lv_aload_n hx hb dX2_readPly_0 rfl (lv_at hl 0 rfl) ?_
  refine xa_get (C := RX2) (T := TX2) (N := 9) cx hG hP 0 rfl rfl uX2 0 (by decide) lf_X2_12 rfl dX2_readPly_1 ?_
  refine xa_getN (C := RX1) (T := TX1) (N := 9) cx hG hP 1 rfl rfl uX1 3 (by decide) nf_2 rfl dX2_readPly_4 ?_
  refine lv_iconst (v := 0) hx hb dX2_readPly_7 (by decide) ?_
  refine xa_iald (k := 0) cx hG hP 3 rfl (show ¬ ((0 : Int32) < 0 ∨ 31 ≤ (0 : Int32).toNatClampNeg) by decide) (by decide) dX2_readPly_8 ?_
  refine lv_istore_n (lv' := [(1, .int (t_draft_sizes 0)), (0, .ref ((a_t 0)))]) hx hb dX2_readPly_9 rfl hl (by decide) rfl (fun ls hl => ?_)
  refine lv_iload_n hx hb dX2_readPly_10 rfl (lv_at hl 0 rfl) ?_
  refine lv_bipush (v := 8) hx hb dX2_readPly_11 (by decide) ?_
  refine lv_icmp_lt (tgt := 22) hx hb dX2_readPly_13 (by decide) (fun c1 => ?_) (fun c1 => ?_)
  · have h := itp c1 h
    refine lv_aload_n hx hb dX2_readPly_22 rfl (lv_at hl 1 rfl) ?_
    obtain ⟨w3, w4, w5, hr2, h⟩ := ob3_out h
    refine rw_v (WN := fun u6 => [((a_t_draft 0), .inr (1, [.ref (a_t_draft 1), .ref (a_t_draft 2), .ref (a_t_draft 3), .ref (a_t_draft 4), .ref (a_t_draft 5), .int t_draft_told, .int t_draft_lines, .int t_draft_kinds, .int t_draft_acts])), ((a_t_draft 3), .inl (g.2.2.1 0, 31, .inl t_draft_rows)), ((a_t_draft 4), .inl (g.2.2.1 0, 31, .inl t_draft_sizes)), ((a_t 2), .inl (g.2.2.1 0, 3, .inl t_nameStarts)), ((a_t 3), .inl (g.2.2.1 0, 3, .inl t_nameLengths)), ((a_t 0), .inr (2, [.ref (a_t_draft 0), .ref (a_t 2), .ref (a_t 3), .ref (a_t_text 0), .int w3, .int w4, .int w5, .int t_fault, .int t_place])), ((a_t_text 0), .inr (4, [.ref (a_t_text 1), .int t_text_size])), ((a_t_text 1), .inl (g.2.2.1 2, 600, .inl t_text_bytes))]) (wr := [((a_t_draft 0), .inr (1, [.ref (a_t_draft 1), .ref (a_t_draft 2), .ref (a_t_draft 3), .ref (a_t_draft 4), .ref (a_t_draft 5), .int t_draft_told, .int t_draft_lines, .int t_draft_kinds, .int t_draft_acts])), ((a_t_draft 3), .inl (g.2.2.1 0, 31, .inl t_draft_rows)), ((a_t_draft 4), .inl (g.2.2.1 0, 31, .inl t_draft_sizes)), ((a_t 2), .inl (g.2.2.1 0, 3, .inl t_nameStarts)), ((a_t 3), .inl (g.2.2.1 0, 3, .inl t_nameLengths))]) (runV (As := []) (rest := []) cx hl.1 (ctX2_next l g s.heap.size a_t a_t_draft a_t_text t_token t_start t_after t_fault t_place t_text_size t_text_bytes w3 w4 w5 hr2) kmX2_next kvX2_next lm_X2_42 ⟨rfl, rfl⟩ ⟨Nat.le_of_ble_eq_true rfl, Nat.le_of_ble_eq_true rfl⟩ (rwV (q0 := 0) (ci := 2) hG (hP.sub [0, 6, 7] rfl) (hD.sub [0, 6, 7] (by decide) rfl) hAb hb0 hS hP rfl rfl) rfl rfl (Nat.le_of_ble_eq_true rfl) dX2_readPly_23 ⟨Nat.le_of_ble_eq_true rfl, Nat.le_of_ble_eq_true rfl⟩) hP hD hS hA [0, 6, 7] [1, 2, 3, 4, 5] rfl rfl (by decide) (by decide) (fun _ => rfl) (fun u6 H locs hP hD hS => ?_)
    have hG := hGk hS
    refine lv_aload_n hx hb dX2_readPly_26 rfl (lv_at hl 1 rfl) ?_
    obtain ⟨r8, w9, w10, hr7, h⟩ := ob3_out h
    refine rw_z (WN := fun u11 => [((a_t_draft 0), .inr (1, [.ref (a_t_draft 1), .ref (a_t_draft 2), .ref (a_t_draft 3), .ref (a_t_draft 4), .ref (a_t_draft 5), .int t_draft_told, .int t_draft_lines, .int t_draft_kinds, .int t_draft_acts])), ((a_t_draft 3), .inl (g.2.2.1 0, 31, .inl t_draft_rows)), ((a_t_draft 4), .inl (g.2.2.1 0, 31, .inl t_draft_sizes)), ((a_t 2), .inl (g.2.2.1 0, 3, .inl t_nameStarts)), ((a_t 3), .inl (g.2.2.1 0, 3, .inl t_nameLengths)), ((a_t 0), .inr (2, [.ref (a_t_draft 0), .ref (a_t 2), .ref (a_t 3), .ref (a_t_text 0), .int w3, .int w4, .int w5, .int w9, .int w10])), ((a_t_text 0), .inr (4, [.ref (a_t_text 1), .int t_text_size])), ((a_t_text 1), .inl (g.2.2.1 2, 600, .inl t_text_bytes))]) (wr := [((a_t_draft 0), .inr (1, [.ref (a_t_draft 1), .ref (a_t_draft 2), .ref (a_t_draft 3), .ref (a_t_draft 4), .ref (a_t_draft 5), .int t_draft_told, .int t_draft_lines, .int t_draft_kinds, .int t_draft_acts])), ((a_t_draft 3), .inl (g.2.2.1 0, 31, .inl t_draft_rows)), ((a_t_draft 4), .inl (g.2.2.1 0, 31, .inl t_draft_sizes)), ((a_t 2), .inl (g.2.2.1 0, 3, .inl t_nameStarts)), ((a_t 3), .inl (g.2.2.1 0, 3, .inl t_nameLengths))]) (runV (As := []) (rest := []) cx hl.1 (ctX2_isName l g H.size a_t a_t_draft a_t_text w3 w4 w5 t_fault t_place t_text_size t_text_bytes r8 w9 w10 hr7) kmX2_isName kvX2_isName lm_X2_119 ⟨rfl, rfl⟩ ⟨Nat.le_of_ble_eq_true rfl, Nat.le_of_ble_eq_true rfl⟩ (rwV (q0 := 5) (ci := 2) hG (hP.sub [5, 6, 7] rfl) (hD.sub [5, 6, 7] (by decide) rfl) hAb hb0 hS hP rfl rfl) rfl rfl (Nat.le_of_ble_eq_true rfl) dX2_readPly_27 ⟨Nat.le_of_ble_eq_true rfl, Nat.le_of_ble_eq_true rfl⟩) hP hD hS hA [5, 6, 7] [0, 1, 2, 3, 4] rfl rfl (by decide) (by decide) (fun _ => rfl) (fun hz12 u11 H locs hP hD hS => ?_)
    have hG := hGk hS
    refine lv_if_ne (tgt := 35) hx hb dX2_readPly_30 (by decide) (fun c13 => ?_) (fun c13 => ?_)
    · have h := itn c13 h
      refine lv_aload_n hx hb dX2_readPly_35 rfl (lv_at hl 1 rfl) ?_
      obtain ⟨r14, hr15, h⟩ := bnd h
      refine ro_i (runV (As := []) (rest := []) cx hl.1 (ctX2_toldKind l g a_t a_t_draft a_t_text w3 w4 w5 w9 w10 t_draft_told t_draft_lines t_draft_kinds t_draft_acts t_nameStarts t_nameLengths t_text_size t_text_bytes r14 hr15) kmX2_toldKind kvX2_toldKind lm_X2_122 ⟨rfl, rfl⟩ ⟨Nat.le_of_ble_eq_true rfl, Nat.le_of_ble_eq_true rfl⟩ (roV (q0 := 5) (ci := 2) hG (hP.sub [5, 0, 3, 4, 6, 7] rfl) hP rfl rfl) rfl rfl (Nat.le_of_ble_eq_true rfl) dX2_readPly_36 ⟨Nat.le_of_ble_eq_true rfl, Nat.le_of_ble_eq_true rfl⟩) ?_
      refine lv_istore_n (lv' := [(2, .int r14), (1, .int (t_draft_sizes 0)), (0, .ref ((a_t 0)))]) hx hb dX2_readPly_39 rfl hl (by decide) rfl (fun ls hl => ?_)
      refine lv_iload_n hx hb dX2_readPly_40 rfl (lv_at hl 0 rfl) ?_
      refine lv_iconst (v := -1) hx hb dX2_readPly_41 (by decide) ?_
      refine lv_icmp_ne (tgt := 51) hx hb dX2_readPly_42 (by decide) (fun c16 => ?_) (fun c16 => ?_)
      · have h := itn c16 h
        refine lv_aload_n hx hb dX2_readPly_51 rfl (lv_at hl 2 rfl) ?_
        obtain ⟨w18, w19, w20, hr17, h⟩ := ob3_out h
        refine rw_v (WN := fun u21 => [((a_t_draft 0), .inr (1, [.ref (a_t_draft 1), .ref (a_t_draft 2), .ref (a_t_draft 3), .ref (a_t_draft 4), .ref (a_t_draft 5), .int t_draft_told, .int t_draft_lines, .int t_draft_kinds, .int t_draft_acts])), ((a_t_draft 3), .inl (g.2.2.1 0, 31, .inl t_draft_rows)), ((a_t_draft 4), .inl (g.2.2.1 0, 31, .inl t_draft_sizes)), ((a_t 2), .inl (g.2.2.1 0, 3, .inl t_nameStarts)), ((a_t 3), .inl (g.2.2.1 0, 3, .inl t_nameLengths)), ((a_t 0), .inr (2, [.ref (a_t_draft 0), .ref (a_t 2), .ref (a_t 3), .ref (a_t_text 0), .int w18, .int w19, .int w20, .int w9, .int w10])), ((a_t_text 0), .inr (4, [.ref (a_t_text 1), .int t_text_size])), ((a_t_text 1), .inl (g.2.2.1 2, 600, .inl t_text_bytes))]) (wr := [((a_t_draft 0), .inr (1, [.ref (a_t_draft 1), .ref (a_t_draft 2), .ref (a_t_draft 3), .ref (a_t_draft 4), .ref (a_t_draft 5), .int t_draft_told, .int t_draft_lines, .int t_draft_kinds, .int t_draft_acts])), ((a_t_draft 3), .inl (g.2.2.1 0, 31, .inl t_draft_rows)), ((a_t_draft 4), .inl (g.2.2.1 0, 31, .inl t_draft_sizes)), ((a_t 2), .inl (g.2.2.1 0, 3, .inl t_nameStarts)), ((a_t 3), .inl (g.2.2.1 0, 3, .inl t_nameLengths))]) (runV (As := []) (rest := []) cx hl.1 (ctX2_next l g H.size a_t a_t_draft a_t_text w3 w4 w5 w9 w10 t_text_size t_text_bytes w18 w19 w20 hr17) kmX2_next kvX2_next lm_X2_42 ⟨rfl, rfl⟩ ⟨Nat.le_of_ble_eq_true rfl, Nat.le_of_ble_eq_true rfl⟩ (rwV (q0 := 5) (ci := 2) hG (hP.sub [5, 6, 7] rfl) (hD.sub [5, 6, 7] (by decide) rfl) hAb hb0 hS hP rfl rfl) rfl rfl (Nat.le_of_ble_eq_true rfl) dX2_readPly_52 ⟨Nat.le_of_ble_eq_true rfl, Nat.le_of_ble_eq_true rfl⟩) hP hD hS hA [5, 6, 7] [0, 1, 2, 3, 4] rfl rfl (by decide) (by decide) (fun _ => rfl) (fun u21 H locs hP hD hS => ?_)
        have hG := hGk hS
        refine lv_aload_n hx hb dX2_readPly_55 rfl (lv_at hl 2 rfl) ?_
        obtain ⟨r22, hr23, h⟩ := bnd h
        refine ro_i (runV (As := []) (rest := []) cx hl.1 (ctX2_spelledAngle l g a_t a_t_draft a_t_text w18 w19 w20 w9 w10 t_text_size t_text_bytes r22 hr23) kmX2_spelledAngle kvX2_spelledAngle lm_X2_150 ⟨rfl, rfl⟩ ⟨Nat.le_of_ble_eq_true rfl, Nat.le_of_ble_eq_true rfl⟩ (roV (q0 := 5) (ci := 2) hG (hP.sub [5, 6, 7] rfl) hP rfl rfl) rfl rfl (Nat.le_of_ble_eq_true rfl) dX2_readPly_56 ⟨Nat.le_of_ble_eq_true rfl, Nat.le_of_ble_eq_true rfl⟩) ?_
        refine lv_istore_n (lv' := [(3, .int r22), (2, .int r14), (1, .int (t_draft_sizes 0)), (0, .ref ((a_t 0)))]) hx hb dX2_readPly_59 rfl hl (by decide) rfl (fun ls hl => ?_)
        refine lv_iload_n hx hb dX2_readPly_60 rfl (lv_at hl 0 rfl) ?_
        refine lv_iconst (v := -1) hx hb dX2_readPly_61 (by decide) ?_
        refine lv_icmp_ne (tgt := 71) hx hb dX2_readPly_62 (by decide) (fun c24 => ?_) (fun c24 => ?_)
        · have h := itn c24 h
          refine lv_aload_n hx hb dX2_readPly_71 rfl (lv_at hl 3 rfl) ?_
          refine xa_get (C := RX2) (T := TX2) (N := 9) cx hG hP 5 rfl rfl uX2 0 (by decide) lf_X2_12 rfl dX2_readPly_72 ?_
          refine xa_getN (C := RX1) (T := TX1) (N := 9) cx hG hP 0 rfl rfl uX1 2 (by decide) nf_1 rfl dX2_readPly_75 ?_
          refine lv_iconst (v := 0) hx hb dX2_readPly_78 (by decide) ?_
          refine lv_dup2_11 hx hb dX2_readPly_79 rfl rfl ?_
          refine xa_iald (k := 0) cx hG hP 1 rfl (show ¬ ((0 : Int32) < 0 ∨ 31 ≤ (0 : Int32).toNatClampNeg) by decide) (by decide) dX2_readPly_80 ?_
          refine lv_iload_n hx hb dX2_readPly_81 rfl (lv_at hl 1 rfl) ?_
          refine lv_iconst (v := 4) hx hb dX2_readPly_82 (by decide) ?_
          refine lv_imul hx hb dX2_readPly_83 ?_
          refine lv_iload_n hx hb dX2_readPly_84 rfl (lv_at hl 0 rfl) ?_
          refine lv_iadd hx hb dX2_readPly_85 ?_
          refine lv_iconst (v := 4) hx hb dX2_readPly_86 (by decide) ?_
          refine lv_iload_n hx hb dX2_readPly_87 rfl (lv_at hl 2 rfl) ?_
          refine lv_imul hx hb dX2_readPly_88 ?_
          refine lv_ishl hx hb dX2_readPly_89 ?_
          refine lv_ior hx hb dX2_readPly_90 ?_
          refine xw_iast (ws' := [((a_t_draft 0), .inr (1, [.ref (a_t_draft 1), .ref (a_t_draft 2), .ref (a_t_draft 3), .ref (a_t_draft 4), .ref (a_t_draft 5), .int t_draft_told, .int t_draft_lines, .int t_draft_kinds, .int t_draft_acts])), ((a_t_draft 3), .inl (g.2.2.1 0, 31, .inl (upd t_draft_rows 0 ((t_draft_rows 0) ||| (((r14 * 4) + r22) <<< ((4 * (t_draft_sizes 0)) &&& 31)))))), ((a_t_draft 4), .inl (g.2.2.1 0, 31, .inl t_draft_sizes)), ((a_t 2), .inl (g.2.2.1 0, 3, .inl t_nameStarts)), ((a_t 3), .inl (g.2.2.1 0, 3, .inl t_nameLengths)), ((a_t 0), .inr (2, [.ref (a_t_draft 0), .ref (a_t 2), .ref (a_t 3), .ref (a_t_text 0), .int w18, .int w19, .int w20, .int w9, .int w10])), ((a_t_text 0), .inr (4, [.ref (a_t_text 1), .int t_text_size])), ((a_t_text 1), .inl (g.2.2.1 2, 600, .inl t_text_bytes))]) (k := 0) cx hG hP hD hS 1 rfl (show ¬ ((0 : Int32) < 0 ∨ 31 ≤ (0 : Int32).toNatClampNeg) by decide) (by decide) rfl dX2_readPly_91 (fun H locs hP hD hS => ?_)
          have hG := hGk hS
          refine lv_aload_n hx hb dX2_readPly_92 rfl (lv_at hl 3 rfl) ?_
          refine xa_get (C := RX2) (T := TX2) (N := 9) cx hG hP 5 rfl rfl uX2 0 (by decide) lf_X2_12 rfl dX2_readPly_93 ?_
          refine xa_getN (C := RX1) (T := TX1) (N := 9) cx hG hP 0 rfl rfl uX1 3 (by decide) nf_2 rfl dX2_readPly_96 ?_
          refine lv_iconst (v := 0) hx hb dX2_readPly_99 (by decide) ?_
          refine lv_iload_n hx hb dX2_readPly_100 rfl (lv_at hl 2 rfl) ?_
          refine lv_iconst (v := 1) hx hb dX2_readPly_101 (by decide) ?_
          refine lv_iadd hx hb dX2_readPly_102 ?_
          refine xw_iast (ws' := [((a_t_draft 0), .inr (1, [.ref (a_t_draft 1), .ref (a_t_draft 2), .ref (a_t_draft 3), .ref (a_t_draft 4), .ref (a_t_draft 5), .int t_draft_told, .int t_draft_lines, .int t_draft_kinds, .int t_draft_acts])), ((a_t_draft 3), .inl (g.2.2.1 0, 31, .inl (upd t_draft_rows 0 ((t_draft_rows 0) ||| (((r14 * 4) + r22) <<< ((4 * (t_draft_sizes 0)) &&& 31)))))), ((a_t_draft 4), .inl (g.2.2.1 0, 31, .inl (upd t_draft_sizes 0 ((t_draft_sizes 0) + 1)))), ((a_t 2), .inl (g.2.2.1 0, 3, .inl t_nameStarts)), ((a_t 3), .inl (g.2.2.1 0, 3, .inl t_nameLengths)), ((a_t 0), .inr (2, [.ref (a_t_draft 0), .ref (a_t 2), .ref (a_t 3), .ref (a_t_text 0), .int w18, .int w19, .int w20, .int w9, .int w10])), ((a_t_text 0), .inr (4, [.ref (a_t_text 1), .int t_text_size])), ((a_t_text 1), .inl (g.2.2.1 2, 600, .inl t_text_bytes))]) (k := 0) cx hG hP hD hS 2 rfl (show ¬ ((0 : Int32) < 0 ∨ 31 ≤ (0 : Int32).toNatClampNeg) by decide) (by decide) rfl dX2_readPly_103 (fun H locs hP hD hS => ?_)
          have hG := hGk hS
          refine lv_aload_n hx hb dX2_readPly_104 rfl (lv_at hl 3 rfl) ?_
          obtain ⟨w26, w27, w28, hr25, h⟩ := ob3_out h
          refine rw_v (WN := fun u29 => [((a_t_draft 0), .inr (1, [.ref (a_t_draft 1), .ref (a_t_draft 2), .ref (a_t_draft 3), .ref (a_t_draft 4), .ref (a_t_draft 5), .int t_draft_told, .int t_draft_lines, .int t_draft_kinds, .int t_draft_acts])), ((a_t_draft 3), .inl (g.2.2.1 0, 31, .inl (upd t_draft_rows 0 ((t_draft_rows 0) ||| (((r14 * 4) + r22) <<< ((4 * (t_draft_sizes 0)) &&& 31)))))), ((a_t_draft 4), .inl (g.2.2.1 0, 31, .inl (upd t_draft_sizes 0 ((t_draft_sizes 0) + 1)))), ((a_t 2), .inl (g.2.2.1 0, 3, .inl t_nameStarts)), ((a_t 3), .inl (g.2.2.1 0, 3, .inl t_nameLengths)), ((a_t 0), .inr (2, [.ref (a_t_draft 0), .ref (a_t 2), .ref (a_t 3), .ref (a_t_text 0), .int w26, .int w27, .int w28, .int w9, .int w10])), ((a_t_text 0), .inr (4, [.ref (a_t_text 1), .int t_text_size])), ((a_t_text 1), .inl (g.2.2.1 2, 600, .inl t_text_bytes))]) (wr := [((a_t_draft 0), .inr (1, [.ref (a_t_draft 1), .ref (a_t_draft 2), .ref (a_t_draft 3), .ref (a_t_draft 4), .ref (a_t_draft 5), .int t_draft_told, .int t_draft_lines, .int t_draft_kinds, .int t_draft_acts])), ((a_t_draft 3), .inl (g.2.2.1 0, 31, .inl (upd t_draft_rows 0 ((t_draft_rows 0) ||| (((r14 * 4) + r22) <<< ((4 * (t_draft_sizes 0)) &&& 31)))))), ((a_t_draft 4), .inl (g.2.2.1 0, 31, .inl (upd t_draft_sizes 0 ((t_draft_sizes 0) + 1)))), ((a_t 2), .inl (g.2.2.1 0, 3, .inl t_nameStarts)), ((a_t 3), .inl (g.2.2.1 0, 3, .inl t_nameLengths))]) (runV (As := []) (rest := []) cx hl.1 (ctX2_next l g H.size a_t a_t_draft a_t_text w18 w19 w20 w9 w10 t_text_size t_text_bytes w26 w27 w28 hr25) kmX2_next kvX2_next lm_X2_42 ⟨rfl, rfl⟩ ⟨Nat.le_of_ble_eq_true rfl, Nat.le_of_ble_eq_true rfl⟩ (rwV (q0 := 5) (ci := 2) hG (hP.sub [5, 6, 7] rfl) (hD.sub [5, 6, 7] (by decide) rfl) hAb hb0 hS hP rfl rfl) rfl rfl (Nat.le_of_ble_eq_true rfl) dX2_readPly_105 ⟨Nat.le_of_ble_eq_true rfl, Nat.le_of_ble_eq_true rfl⟩) hP hD hS hA [5, 6, 7] [0, 1, 2, 3, 4] rfl rfl (by decide) (by decide) (fun _ => rfl) (fun u29 H locs hP hD hS => ?_)
          have hG := hGk hS
          refine lv_iconst (v := 1) hx hb dX2_readPly_108 (by decide) ?_
          exact hrt (fun _ => 0) _ _ ((1)) (upd t_draft_rows 0 ((t_draft_rows 0) ||| (((r14 * 4) + r22) <<< ((4 * (t_draft_sizes 0)) &&& 31)))) (upd t_draft_sizes 0 ((t_draft_sizes 0) + 1)) w26 w27 w28 w9 w10 _ _ dX2_readPly_109 (by decide) h (hP.sub [5, 0, 1, 2, 3, 4, 6, 7] rfl) (hD.sub [5, 0, 1, 2, 3, 4, 6, 7] (by decide) rfl) hS
        · have h := itp c24 h
          refine lv_aload_n hx hb dX2_readPly_65 rfl (lv_at hl 3 rfl) ?_
          refine lv_iconst (v := 1) hx hb dX2_readPly_66 (by decide) ?_
          obtain ⟨r31, w32, w33, hr30, h⟩ := ob3_out h
          refine rw_z (WN := fun u34 => [((a_t_draft 0), .inr (1, [.ref (a_t_draft 1), .ref (a_t_draft 2), .ref (a_t_draft 3), .ref (a_t_draft 4), .ref (a_t_draft 5), .int t_draft_told, .int t_draft_lines, .int t_draft_kinds, .int t_draft_acts])), ((a_t_draft 3), .inl (g.2.2.1 0, 31, .inl t_draft_rows)), ((a_t_draft 4), .inl (g.2.2.1 0, 31, .inl t_draft_sizes)), ((a_t 2), .inl (g.2.2.1 0, 3, .inl t_nameStarts)), ((a_t 3), .inl (g.2.2.1 0, 3, .inl t_nameLengths)), ((a_t_text 0), .inr (4, [.ref (a_t_text 1), .int t_text_size])), ((a_t_text 1), .inl (g.2.2.1 2, 600, .inl t_text_bytes)), ((a_t 0), .inr (2, [.ref (a_t_draft 0), .ref (a_t 2), .ref (a_t 3), .ref (a_t_text 0), .int w18, .int w19, .int w20, .int w32, .int w33]))]) (wr := [((a_t_draft 0), .inr (1, [.ref (a_t_draft 1), .ref (a_t_draft 2), .ref (a_t_draft 3), .ref (a_t_draft 4), .ref (a_t_draft 5), .int t_draft_told, .int t_draft_lines, .int t_draft_kinds, .int t_draft_acts])), ((a_t_draft 3), .inl (g.2.2.1 0, 31, .inl t_draft_rows)), ((a_t_draft 4), .inl (g.2.2.1 0, 31, .inl t_draft_sizes)), ((a_t 2), .inl (g.2.2.1 0, 3, .inl t_nameStarts)), ((a_t 3), .inl (g.2.2.1 0, 3, .inl t_nameLengths)), ((a_t_text 0), .inr (4, [.ref (a_t_text 1), .int t_text_size])), ((a_t_text 1), .inl (g.2.2.1 2, 600, .inl t_text_bytes))]) (runV (As := [.int (1)]) (rest := []) cx hl.1 (ctX2_refuse l g H.size a_t a_t_draft a_t_text w18 w19 w20 w9 w10 (1) r31 w32 w33 hr30) kmX2_refuse kvX2_refuse lm_X2_94 ⟨rfl, rfl⟩ ⟨Nat.le_of_ble_eq_true rfl, Nat.le_of_ble_eq_true rfl⟩ (rwV (q0 := 5) (ci := 2) hG (hP.sub [5] rfl) (hD.sub [5] (by decide) rfl) hAb hb0 hS hP rfl rfl) rfl rfl (Nat.le_of_ble_eq_true rfl) dX2_readPly_67 ⟨Nat.le_of_ble_eq_true rfl, Nat.le_of_ble_eq_true rfl⟩) hP hD hS hA [5] [0, 1, 2, 3, 4, 6, 7] rfl rfl (by decide) (by decide) (fun _ => rfl) (fun hz35 u34 H locs hP hD hS => ?_)
          have hG := hGk hS
          exact hrt (fun _ => 0) _ _ r31 t_draft_rows t_draft_sizes w18 w19 w20 w32 w33 _ _ dX2_readPly_70 hz35 h (hP.sub [7, 0, 1, 2, 3, 4, 5, 6] rfl) (hD.sub [7, 0, 1, 2, 3, 4, 5, 6] (by decide) rfl) hS
      · have h := itp c16 h
        refine lv_aload_n hx hb dX2_readPly_45 rfl (lv_at hl 2 rfl) ?_
        refine lv_iconst (v := 2) hx hb dX2_readPly_46 (by decide) ?_
        obtain ⟨r37, w38, w39, hr36, h⟩ := ob3_out h
        refine rw_z (WN := fun u40 => [((a_t_draft 0), .inr (1, [.ref (a_t_draft 1), .ref (a_t_draft 2), .ref (a_t_draft 3), .ref (a_t_draft 4), .ref (a_t_draft 5), .int t_draft_told, .int t_draft_lines, .int t_draft_kinds, .int t_draft_acts])), ((a_t_draft 3), .inl (g.2.2.1 0, 31, .inl t_draft_rows)), ((a_t_draft 4), .inl (g.2.2.1 0, 31, .inl t_draft_sizes)), ((a_t 2), .inl (g.2.2.1 0, 3, .inl t_nameStarts)), ((a_t 3), .inl (g.2.2.1 0, 3, .inl t_nameLengths)), ((a_t_text 0), .inr (4, [.ref (a_t_text 1), .int t_text_size])), ((a_t_text 1), .inl (g.2.2.1 2, 600, .inl t_text_bytes)), ((a_t 0), .inr (2, [.ref (a_t_draft 0), .ref (a_t 2), .ref (a_t 3), .ref (a_t_text 0), .int w3, .int w4, .int w5, .int w38, .int w39]))]) (wr := [((a_t_draft 0), .inr (1, [.ref (a_t_draft 1), .ref (a_t_draft 2), .ref (a_t_draft 3), .ref (a_t_draft 4), .ref (a_t_draft 5), .int t_draft_told, .int t_draft_lines, .int t_draft_kinds, .int t_draft_acts])), ((a_t_draft 3), .inl (g.2.2.1 0, 31, .inl t_draft_rows)), ((a_t_draft 4), .inl (g.2.2.1 0, 31, .inl t_draft_sizes)), ((a_t 2), .inl (g.2.2.1 0, 3, .inl t_nameStarts)), ((a_t 3), .inl (g.2.2.1 0, 3, .inl t_nameLengths)), ((a_t_text 0), .inr (4, [.ref (a_t_text 1), .int t_text_size])), ((a_t_text 1), .inl (g.2.2.1 2, 600, .inl t_text_bytes))]) (runV (As := [.int (2)]) (rest := []) cx hl.1 (ctX2_refuse l g H.size a_t a_t_draft a_t_text w3 w4 w5 w9 w10 (2) r37 w38 w39 hr36) kmX2_refuse kvX2_refuse lm_X2_94 ⟨rfl, rfl⟩ ⟨Nat.le_of_ble_eq_true rfl, Nat.le_of_ble_eq_true rfl⟩ (rwV (q0 := 5) (ci := 2) hG (hP.sub [5] rfl) (hD.sub [5] (by decide) rfl) hAb hb0 hS hP rfl rfl) rfl rfl (Nat.le_of_ble_eq_true rfl) dX2_readPly_47 ⟨Nat.le_of_ble_eq_true rfl, Nat.le_of_ble_eq_true rfl⟩) hP hD hS hA [5] [0, 1, 2, 3, 4, 6, 7] rfl rfl (by decide) (by decide) (fun _ => rfl) (fun hz41 u40 H locs hP hD hS => ?_)
        have hG := hGk hS
        exact hrt (fun _ => 0) _ _ r37 t_draft_rows t_draft_sizes w3 w4 w5 w38 w39 _ _ dX2_readPly_50 hz41 h (hP.sub [7, 0, 1, 2, 3, 4, 5, 6] rfl) (hD.sub [7, 0, 1, 2, 3, 4, 5, 6] (by decide) rfl) hS
    · have h := itp c13 h
      refine lv_iconst (v := 0) hx hb dX2_readPly_33 (by decide) ?_
      exact hrt (fun _ => 0) _ _ ((0)) t_draft_rows t_draft_sizes w3 w4 w5 w9 w10 _ _ dX2_readPly_34 (by decide) h (hP.sub [5, 0, 1, 2, 3, 4, 6, 7] rfl) (hD.sub [5, 0, 1, 2, 3, 4, 6, 7] (by decide) rfl) hS
  · have h := itn c1 h
    refine lv_aload_n hx hb dX2_readPly_16 rfl (lv_at hl 1 rfl) ?_
    refine lv_iconst (v := 3) hx hb dX2_readPly_17 (by decide) ?_
    obtain ⟨r43, w44, w45, hr42, h⟩ := ob3_out h
    refine rw_z (WN := fun u46 => [((a_t_draft 0), .inr (1, [.ref (a_t_draft 1), .ref (a_t_draft 2), .ref (a_t_draft 3), .ref (a_t_draft 4), .ref (a_t_draft 5), .int t_draft_told, .int t_draft_lines, .int t_draft_kinds, .int t_draft_acts])), ((a_t_draft 3), .inl (g.2.2.1 0, 31, .inl t_draft_rows)), ((a_t_draft 4), .inl (g.2.2.1 0, 31, .inl t_draft_sizes)), ((a_t 2), .inl (g.2.2.1 0, 3, .inl t_nameStarts)), ((a_t 3), .inl (g.2.2.1 0, 3, .inl t_nameLengths)), ((a_t_text 0), .inr (4, [.ref (a_t_text 1), .int t_text_size])), ((a_t_text 1), .inl (g.2.2.1 2, 600, .inl t_text_bytes)), ((a_t 0), .inr (2, [.ref (a_t_draft 0), .ref (a_t 2), .ref (a_t 3), .ref (a_t_text 0), .int t_token, .int t_start, .int t_after, .int w44, .int w45]))]) (wr := [((a_t_draft 0), .inr (1, [.ref (a_t_draft 1), .ref (a_t_draft 2), .ref (a_t_draft 3), .ref (a_t_draft 4), .ref (a_t_draft 5), .int t_draft_told, .int t_draft_lines, .int t_draft_kinds, .int t_draft_acts])), ((a_t_draft 3), .inl (g.2.2.1 0, 31, .inl t_draft_rows)), ((a_t_draft 4), .inl (g.2.2.1 0, 31, .inl t_draft_sizes)), ((a_t 2), .inl (g.2.2.1 0, 3, .inl t_nameStarts)), ((a_t 3), .inl (g.2.2.1 0, 3, .inl t_nameLengths)), ((a_t_text 0), .inr (4, [.ref (a_t_text 1), .int t_text_size])), ((a_t_text 1), .inl (g.2.2.1 2, 600, .inl t_text_bytes))]) (runV (As := [.int (3)]) (rest := []) cx hl.1 (ctX2_refuse l g s.heap.size a_t a_t_draft a_t_text t_token t_start t_after t_fault t_place (3) r43 w44 w45 hr42) kmX2_refuse kvX2_refuse lm_X2_94 ⟨rfl, rfl⟩ ⟨Nat.le_of_ble_eq_true rfl, Nat.le_of_ble_eq_true rfl⟩ (rwV (q0 := 0) (ci := 2) hG (hP.sub [0] rfl) (hD.sub [0] (by decide) rfl) hAb hb0 hS hP rfl rfl) rfl rfl (Nat.le_of_ble_eq_true rfl) dX2_readPly_18 ⟨Nat.le_of_ble_eq_true rfl, Nat.le_of_ble_eq_true rfl⟩) hP hD hS hA [0] [1, 2, 3, 4, 5, 6, 7] rfl rfl (by decide) (by decide) (fun _ => rfl) (fun hz47 u46 H locs hP hD hS => ?_)
    have hG := hGk hS
    exact hrt (fun _ => 0) _ _ r43 t_draft_rows t_draft_sizes t_token t_start t_after w44 w45 _ _ dX2_readPly_21 hz47 h (hP.sub [7, 0, 1, 2, 3, 4, 5, 6] rfl) (hD.sub [7, 0, 1, 2, 3, 4, 5, 6] (by decide) rfl) hS
-- X2_readLine
theorem dX2_readLine_0 : decode cX2_readLine 0 = .ok (.aload_n 0, 1) := by decide +kernel
theorem dX2_readLine_1 : decode cX2_readLine 1 = .ok (.getfield 12, 3) := by decide +kernel
theorem dX2_readLine_4 : decode cX2_readLine 4 = .ok (.getfield 52, 3) := by decide +kernel
theorem dX2_readLine_7 : decode cX2_readLine 7 = .ok (.ifCond .ne 11, 3) := by decide +kernel
theorem dX2_readLine_10 : decode cX2_readLine 10 = .ok (.aload_n 0, 1) := by decide +kernel
theorem dX2_readLine_11 : decode cX2_readLine 11 = .ok (.invokevirtual 77, 3) := by decide +kernel
theorem dX2_readLine_14 : decode cX2_readLine 14 = .ok (.istore_n 1, 1) := by decide +kernel
theorem dX2_readLine_15 : decode cX2_readLine 15 = .ok (.goto 43, 3) := by decide +kernel
theorem dX2_readLine_18 : decode cX2_readLine 18 = .ok (.aload_n 0, 1) := by decide +kernel
theorem dX2_readLine_19 : decode cX2_readLine 19 = .ok (.ldc 80, 2) := by decide +kernel
theorem dX2_readLine_21 : decode cX2_readLine 21 = .ok (.invokevirtual 82, 3) := by decide +kernel
theorem dX2_readLine_24 : decode cX2_readLine 24 = .ok (.ifCond .eq 11, 3) := by decide +kernel
theorem dX2_readLine_27 : decode cX2_readLine 27 = .ok (.aload_n 0, 1) := by decide +kernel
theorem dX2_readLine_28 : decode cX2_readLine 28 = .ok (.invokevirtual 86, 3) := by decide +kernel
theorem dX2_readLine_31 : decode cX2_readLine 31 = .ok (.istore_n 1, 1) := by decide +kernel
theorem dX2_readLine_32 : decode cX2_readLine 32 = .ok (.goto 26, 3) := by decide +kernel
theorem dX2_readLine_35 : decode cX2_readLine 35 = .ok (.aload_n 0, 1) := by decide +kernel
theorem dX2_readLine_36 : decode cX2_readLine 36 = .ok (.ldc 89, 2) := by decide +kernel
theorem dX2_readLine_38 : decode cX2_readLine 38 = .ok (.invokevirtual 82, 3) := by decide +kernel
theorem dX2_readLine_41 : decode cX2_readLine 41 = .ok (.ifCond .eq 11, 3) := by decide +kernel
theorem dX2_readLine_44 : decode cX2_readLine 44 = .ok (.aload_n 0, 1) := by decide +kernel
theorem dX2_readLine_45 : decode cX2_readLine 45 = .ok (.invokevirtual 91, 3) := by decide +kernel
theorem dX2_readLine_48 : decode cX2_readLine 48 = .ok (.istore_n 1, 1) := by decide +kernel
theorem dX2_readLine_49 : decode cX2_readLine 49 = .ok (.goto 9, 3) := by decide +kernel
theorem dX2_readLine_52 : decode cX2_readLine 52 = .ok (.aload_n 0, 1) := by decide +kernel
theorem dX2_readLine_53 : decode cX2_readLine 53 = .ok (.iconst 1, 1) := by decide +kernel
theorem dX2_readLine_54 : decode cX2_readLine 54 = .ok (.invokevirtual 94, 3) := by decide +kernel
theorem dX2_readLine_57 : decode cX2_readLine 57 = .ok (.istore_n 1, 1) := by decide +kernel
theorem dX2_readLine_58 : decode cX2_readLine 58 = .ok (.iload_n 1, 1) := by decide +kernel
theorem dX2_readLine_59 : decode cX2_readLine 59 = .ok (.ifCond .ne 5, 3) := by decide +kernel
theorem dX2_readLine_62 : decode cX2_readLine 62 = .ok (.iconst 0, 1) := by decide +kernel
theorem dX2_readLine_63 : decode cX2_readLine 63 = .ok (.ireturn, 1) := by decide +kernel
theorem dX2_readLine_64 : decode cX2_readLine 64 = .ok (.aload_n 0, 1) := by decide +kernel
theorem dX2_readLine_65 : decode cX2_readLine 65 = .ok (.getfield 45, 3) := by decide +kernel
theorem dX2_readLine_68 : decode cX2_readLine 68 = .ok (.iconst 3, 1) := by decide +kernel
theorem dX2_readLine_69 : decode cX2_readLine 69 = .ok (.if_icmp .eq 9, 3) := by decide +kernel
theorem dX2_readLine_72 : decode cX2_readLine 72 = .ok (.aload_n 0, 1) := by decide +kernel
theorem dX2_readLine_73 : decode cX2_readLine 73 = .ok (.iconst 1, 1) := by decide +kernel
theorem dX2_readLine_74 : decode cX2_readLine 74 = .ok (.invokevirtual 94, 3) := by decide +kernel
theorem dX2_readLine_77 : decode cX2_readLine 77 = .ok (.ireturn, 1) := by decide +kernel
theorem dX2_readLine_78 : decode cX2_readLine 78 = .ok (.aload_n 0, 1) := by decide +kernel
theorem dX2_readLine_79 : decode cX2_readLine 79 = .ok (.getfield 12, 3) := by decide +kernel
theorem dX2_readLine_82 : decode cX2_readLine 82 = .ok (.dup, 1) := by decide +kernel
theorem dX2_readLine_83 : decode cX2_readLine 83 = .ok (.getfield 52, 3) := by decide +kernel
theorem dX2_readLine_86 : decode cX2_readLine 86 = .ok (.iconst 1, 1) := by decide +kernel
theorem dX2_readLine_87 : decode cX2_readLine 87 = .ok (.iadd, 1) := by decide +kernel
theorem dX2_readLine_88 : decode cX2_readLine 88 = .ok (.putfield 52, 3) := by decide +kernel
theorem dX2_readLine_91 : decode cX2_readLine 91 = .ok (.aload_n 0, 1) := by decide +kernel
theorem dX2_readLine_92 : decode cX2_readLine 92 = .ok (.invokevirtual 42, 3) := by decide +kernel
theorem dX2_readLine_95 : decode cX2_readLine 95 = .ok (.iconst 1, 1) := by decide +kernel
theorem dX2_readLine_96 : decode cX2_readLine 96 = .ok (.ireturn, 1) := by decide +kernel
noncomputable def fX2_readLine_58  (t_draft_numbers : Nat → Int32) (t_draft_cells : Nat → Int32) (t_draft_rows : Nat → Int32) (t_draft_sizes : Nat → Int32) (t_draft_rooms : Nat → Int32) (t_draft_lines : Int32) (t_draft_kinds : Int32) (t_nameStarts : Nat → Int32) (t_nameLengths : Nat → Int32) (t_text_bytes : Nat → Int32) (t_text_size : Int32) (t_token : Int32) (t_start : Int32) (t_after : Int32) (t_fault : Int32) (t_place : Int32) (v1 : Int32) : Option (Int32 × (Nat → Int32) × (Nat → Int32) × (Nat → Int32) × (Nat → Int32) × (Nat → Int32) × Int32 × Int32 × (Nat → Int32) × (Nat → Int32) × Int32 × Int32 × Int32 × Int32 × Int32) := (if v1 = 0 then some ((0), t_draft_numbers, t_draft_cells, t_draft_rows, t_draft_sizes, t_draft_rooms, t_draft_lines, t_draft_kinds, t_nameStarts, t_nameLengths, t_token, t_start, t_after, t_fault, t_place) else (if t_token = 3 then ob3 (fX2_next t_text_bytes t_text_size t_token t_start t_after) fun w54 w55 w56 => some ((1), t_draft_numbers, t_draft_cells, t_draft_rows, t_draft_sizes, t_draft_rooms, t_draft_lines + 1, t_draft_kinds, t_nameStarts, t_nameLengths, w54, w55, w56, t_fault, t_place) else ob3 (fX2_refuse t_start t_fault t_place 1) fun r59 w60 w61 => some (r59, t_draft_numbers, t_draft_cells, t_draft_rows, t_draft_sizes, t_draft_rooms, t_draft_lines, t_draft_kinds, t_nameStarts, t_nameLengths, t_token, t_start, t_after, w60, w61)))
noncomputable def fX2_readLine  (t_draft_numbers : Nat → Int32) (t_draft_cells : Nat → Int32) (t_draft_rows : Nat → Int32) (t_draft_sizes : Nat → Int32) (t_draft_rooms : Nat → Int32) (t_draft_lines : Int32) (t_draft_kinds : Int32) (t_nameStarts : Nat → Int32) (t_nameLengths : Nat → Int32) (t_text_bytes : Nat → Int32) (t_text_size : Int32) (t_token : Int32) (t_start : Int32) (t_after : Int32) (t_fault : Int32) (t_place : Int32) : Option (Int32 × (Nat → Int32) × (Nat → Int32) × (Nat → Int32) × (Nat → Int32) × (Nat → Int32) × Int32 × Int32 × (Nat → Int32) × (Nat → Int32) × Int32 × Int32 × Int32 × Int32 × Int32) := (if t_draft_lines = 0 then ob7 (fX2_readPlate t_draft_rooms t_text_bytes t_text_size t_token t_start t_after t_fault t_place) fun r42 w43 w44 w45 w46 w47 w48 => fX2_readLine_58 t_draft_numbers t_draft_cells t_draft_rows t_draft_sizes w43 t_draft_lines t_draft_kinds t_nameStarts t_nameLengths t_text_bytes t_text_size w44 w45 w46 w47 w48 r42 else (fX2_spells t_text_bytes t_text_size t_token t_start t_after 2).bind fun r2 => (if r2 = 0 then (fX2_spells t_text_bytes t_text_size t_token t_start t_after 3).bind fun r6 => (if r6 = 0 then ob3 (fX2_refuse t_start t_fault t_place 1) fun r11 w12 w13 => fX2_readLine_58 t_draft_numbers t_draft_cells t_draft_rows t_draft_sizes t_draft_rooms t_draft_lines t_draft_kinds t_nameStarts t_nameLengths t_text_bytes t_text_size t_token t_start t_after w12 w13 r11 else ob8 (fX2_readPly t_draft_rows t_draft_sizes t_draft_kinds t_nameStarts t_nameLengths t_text_bytes t_text_size t_token t_start t_after t_fault t_place) fun r17 w18 w19 w20 w21 w22 w23 w24 => fX2_readLine_58 t_draft_numbers t_draft_cells w18 w19 t_draft_rooms t_draft_lines t_draft_kinds t_nameStarts t_nameLengths t_text_bytes t_text_size w20 w21 w22 w23 w24 r17) else ob11 (fX2_readKind t_draft_numbers t_draft_cells t_draft_kinds t_nameStarts t_nameLengths t_text_bytes t_text_size t_token t_start t_after t_fault t_place) fun r28 w29 w30 w31 w32 w33 w34 w35 w36 w37 w38 => fX2_readLine_58 w29 w30 t_draft_rows t_draft_sizes t_draft_rooms t_draft_lines w31 w32 w33 t_text_bytes t_text_size w34 w35 w36 w37 w38 r28))
set_option maxHeartbeats 4000000 in
set_option maxRecDepth 100000 in
theorem ctX2_readLine (l : Launch) (g : GT) (sz : Nat) (a_t : Nat → Nat) (a_t_draft : Nat → Nat) (a_t_text : Nat → Nat) (t_token : Int32) (t_start : Int32) (t_after : Int32) (t_fault : Int32) (t_place : Int32) (t_draft_told : Int32) (t_draft_lines : Int32) (t_draft_kinds : Int32) (t_draft_acts : Int32) (t_draft_numbers : Nat → Int32) (t_draft_cells : Nat → Int32) (t_draft_rows : Nat → Int32) (t_draft_sizes : Nat → Int32) (t_draft_rooms : Nat → Int32) (t_nameStarts : Nat → Int32) (t_nameLengths : Nat → Int32) (t_text_size : Int32) (t_text_bytes : Nat → Int32) (o : Int32) (o_t_draft_numbers : Nat → Int32) (o_t_draft_cells : Nat → Int32) (o_t_draft_rows : Nat → Int32) (o_t_draft_sizes : Nat → Int32) (o_t_draft_rooms : Nat → Int32) (o_t_draft_lines : Int32) (o_t_draft_kinds : Int32) (o_t_nameStarts : Nat → Int32) (o_t_nameLengths : Nat → Int32) (o_t_token : Int32) (o_t_start : Int32) (o_t_after : Int32) (o_t_fault : Int32) (o_t_place : Int32) (h : fX2_readLine t_draft_numbers t_draft_cells t_draft_rows t_draft_sizes t_draft_rooms t_draft_lines t_draft_kinds t_nameStarts t_nameLengths t_text_bytes t_text_size t_token t_start t_after t_fault t_place = some (o, o_t_draft_numbers, o_t_draft_cells, o_t_draft_rows, o_t_draft_sizes, o_t_draft_rooms, o_t_draft_lines, o_t_draft_kinds, o_t_nameStarts, o_t_nameLengths, o_t_token, o_t_start, o_t_after, o_t_fault, o_t_place)) : Met l yX2_readLine (Cond.code yX2_readLine cX2_readLine 2 (some .boolean) :: Tw) ⟨12, 0, 0, 240⟩ (va_Pc [.ref ((a_t 0))] (rwB g [((a_t 0), .inr (2, [.ref (a_t_draft 0), .ref (a_t 2), .ref (a_t 3), .ref (a_t_text 0), .int t_token, .int t_start, .int t_after, .int t_fault, .int t_place])), ((a_t_draft 0), .inr (1, [.ref (a_t_draft 1), .ref (a_t_draft 2), .ref (a_t_draft 3), .ref (a_t_draft 4), .ref (a_t_draft 5), .int t_draft_told, .int t_draft_lines, .int t_draft_kinds, .int t_draft_acts])), ((a_t_draft 1), .inl (g.2.2.1 0, 15, .inl t_draft_numbers)), ((a_t_draft 2), .inl (g.2.2.1 0, 144, .inl t_draft_cells)), ((a_t_draft 3), .inl (g.2.2.1 0, 31, .inl t_draft_rows)), ((a_t_draft 4), .inl (g.2.2.1 0, 31, .inl t_draft_sizes)), ((a_t_draft 5), .inl (g.2.2.1 0, 31, .inl t_draft_rooms)), ((a_t 2), .inl (g.2.2.1 0, 3, .inl t_nameStarts)), ((a_t 3), .inl (g.2.2.1 0, 3, .inl t_nameLengths)), ((a_t_text 0), .inr (4, [.ref (a_t_text 1), .int t_text_size])), ((a_t_text 1), .inl (g.2.2.1 2, 600, .inl t_text_bytes))] sz)) (va_Qi (fun x (_ : Nat → Nat) => x = o ∧ (x = 0 ∨ x = 1)) (fun u => rwE g (va_A [((a_t 0), .inr (2, [.ref (a_t_draft 0), .ref (a_t 2), .ref (a_t 3), .ref (a_t_text 0), .int t_token, .int t_start, .int t_after, .int t_fault, .int t_place])), ((a_t_draft 0), .inr (1, [.ref (a_t_draft 1), .ref (a_t_draft 2), .ref (a_t_draft 3), .ref (a_t_draft 4), .ref (a_t_draft 5), .int t_draft_told, .int t_draft_lines, .int t_draft_kinds, .int t_draft_acts])), ((a_t_draft 1), .inl (g.2.2.1 0, 15, .inl t_draft_numbers)), ((a_t_draft 2), .inl (g.2.2.1 0, 144, .inl t_draft_cells)), ((a_t_draft 3), .inl (g.2.2.1 0, 31, .inl t_draft_rows)), ((a_t_draft 4), .inl (g.2.2.1 0, 31, .inl t_draft_sizes)), ((a_t_draft 5), .inl (g.2.2.1 0, 31, .inl t_draft_rooms)), ((a_t 2), .inl (g.2.2.1 0, 3, .inl t_nameStarts)), ((a_t 3), .inl (g.2.2.1 0, 3, .inl t_nameLengths)), ((a_t_text 0), .inr (4, [.ref (a_t_text 1), .int t_text_size])), ((a_t_text 1), .inl (g.2.2.1 2, 600, .inl t_text_bytes))] sz) [((a_t 0), .inr (2, [.ref (a_t_draft 0), .ref (a_t 2), .ref (a_t 3), .ref (a_t_text 0), .int o_t_token, .int o_t_start, .int o_t_after, .int o_t_fault, .int o_t_place])), ((a_t_draft 0), .inr (1, [.ref (a_t_draft 1), .ref (a_t_draft 2), .ref (a_t_draft 3), .ref (a_t_draft 4), .ref (a_t_draft 5), .int t_draft_told, .int o_t_draft_lines, .int o_t_draft_kinds, .int t_draft_acts])), ((a_t_draft 1), .inl (g.2.2.1 0, 15, .inl o_t_draft_numbers)), ((a_t_draft 2), .inl (g.2.2.1 0, 144, .inl o_t_draft_cells)), ((a_t_draft 3), .inl (g.2.2.1 0, 31, .inl o_t_draft_rows)), ((a_t_draft 4), .inl (g.2.2.1 0, 31, .inl o_t_draft_sizes)), ((a_t_draft 5), .inl (g.2.2.1 0, 31, .inl o_t_draft_rooms)), ((a_t 2), .inl (g.2.2.1 0, 3, .inl o_t_nameStarts)), ((a_t 3), .inl (g.2.2.1 0, 3, .inl o_t_nameLengths)), ((a_t_text 0), .inr (4, [.ref (a_t_text 1), .int t_text_size])), ((a_t_text 1), .inl (g.2.2.1 2, 600, .inl t_text_bytes))]) (va_A [((a_t 0), .inr (2, [.ref (a_t_draft 0), .ref (a_t 2), .ref (a_t 3), .ref (a_t_text 0), .int t_token, .int t_start, .int t_after, .int t_fault, .int t_place])), ((a_t_draft 0), .inr (1, [.ref (a_t_draft 1), .ref (a_t_draft 2), .ref (a_t_draft 3), .ref (a_t_draft 4), .ref (a_t_draft 5), .int t_draft_told, .int t_draft_lines, .int t_draft_kinds, .int t_draft_acts])), ((a_t_draft 1), .inl (g.2.2.1 0, 15, .inl t_draft_numbers)), ((a_t_draft 2), .inl (g.2.2.1 0, 144, .inl t_draft_cells)), ((a_t_draft 3), .inl (g.2.2.1 0, 31, .inl t_draft_rows)), ((a_t_draft 4), .inl (g.2.2.1 0, 31, .inl t_draft_sizes)), ((a_t_draft 5), .inl (g.2.2.1 0, 31, .inl t_draft_rooms)), ((a_t 2), .inl (g.2.2.1 0, 3, .inl t_nameStarts)), ((a_t 3), .inl (g.2.2.1 0, 3, .inl t_nameLengths)), ((a_t_text 0), .inr (4, [.ref (a_t_text 1), .int t_text_size])), ((a_t_text 1), .inl (g.2.2.1 2, 600, .inl t_text_bytes))] sz)) 0 0 (va_A [((a_t 0), .inr (2, [.ref (a_t_draft 0), .ref (a_t 2), .ref (a_t 3), .ref (a_t_text 0), .int t_token, .int t_start, .int t_after, .int t_fault, .int t_place])), ((a_t_draft 0), .inr (1, [.ref (a_t_draft 1), .ref (a_t_draft 2), .ref (a_t_draft 3), .ref (a_t_draft 4), .ref (a_t_draft 5), .int t_draft_told, .int t_draft_lines, .int t_draft_kinds, .int t_draft_acts])), ((a_t_draft 1), .inl (g.2.2.1 0, 15, .inl t_draft_numbers)), ((a_t_draft 2), .inl (g.2.2.1 0, 144, .inl t_draft_cells)), ((a_t_draft 3), .inl (g.2.2.1 0, 31, .inl t_draft_rows)), ((a_t_draft 4), .inl (g.2.2.1 0, 31, .inl t_draft_sizes)), ((a_t_draft 5), .inl (g.2.2.1 0, 31, .inl t_draft_rooms)), ((a_t 2), .inl (g.2.2.1 0, 3, .inl t_nameStarts)), ((a_t 3), .inl (g.2.2.1 0, 3, .inl t_nameLengths)), ((a_t_text 0), .inr (4, [.ref (a_t_text 1), .int t_text_size])), ((a_t_text 1), .inl (g.2.2.1 2, 600, .inl t_text_bytes))] sz) := by
  refine rw_metz (by decide) (Nat.le_of_ble_eq_true rfl) (lv0 := [(0, .ref ((a_t 0)))]) rfl ?_
  intro p e s m args below meth c ls Q A cx hret hG hAb hb0 hA hP hD hl
  have hx := cx.1
  have hb := cx.2.1
  have hG0 := hG
  have hGk : ∀ {H : Heap} {locs : List Loc}, va_S A s.heap H locs → GE g s H := fun hS => hG0.keptS hAb hS
  have hSb : ∀ {H : Heap} {locs : List Loc}, va_S A s.heap H locs → va_S (fun a => g.1 ≤ a) s.heap H locs := fun hS => ⟨hS.1, fun q h1 h2 => hS.2.1 q h1 (fun z => h2 (hAb q z)), fun l hl => hAb _ (hS.2.2 l hl)⟩
  have hS : va_S A s.heap s.heap [] := va_S.rf
  have hrt : ∀ (u : Nat → Nat) (pc : Nat) (ls : Array Slot) (v : Int32) (x_t_draft_numbers : Nat → Int32) (x_t_draft_cells : Nat → Int32) (x_t_draft_rows : Nat → Int32) (x_t_draft_sizes : Nat → Int32) (x_t_draft_rooms : Nat → Int32) (x_t_draft_lines : Int32) (x_t_draft_kinds : Int32) (x_t_nameStarts : Nat → Int32) (x_t_nameLengths : Nat → Int32) (x_t_token : Int32) (x_t_start : Int32) (x_t_after : Int32) (x_t_fault : Int32) (x_t_place : Int32) (H : Heap) (locs : List Loc), decode cX2_readLine pc = .ok (.ireturn, 1) → (v = 0 ∨ v = 1) → some (v, x_t_draft_numbers, x_t_draft_cells, x_t_draft_rows, x_t_draft_sizes, x_t_draft_rooms, x_t_draft_lines, x_t_draft_kinds, x_t_nameStarts, x_t_nameLengths, x_t_token, x_t_start, x_t_after, x_t_fault, x_t_place) = some (o, o_t_draft_numbers, o_t_draft_cells, o_t_draft_rows, o_t_draft_sizes, o_t_draft_rooms, o_t_draft_lines, o_t_draft_kinds, o_t_nameStarts, o_t_nameLengths, o_t_token, o_t_start, o_t_after, o_t_fault, o_t_place) → va_P g.2.1 vwCl [((a_t 0), .inr (2, [.ref (a_t_draft 0), .ref (a_t 2), .ref (a_t 3), .ref (a_t_text 0), .int x_t_token, .int x_t_start, .int x_t_after, .int x_t_fault, .int x_t_place])), ((a_t_draft 0), .inr (1, [.ref (a_t_draft 1), .ref (a_t_draft 2), .ref (a_t_draft 3), .ref (a_t_draft 4), .ref (a_t_draft 5), .int t_draft_told, .int x_t_draft_lines, .int x_t_draft_kinds, .int t_draft_acts])), ((a_t_draft 1), .inl (g.2.2.1 0, 15, .inl x_t_draft_numbers)), ((a_t_draft 2), .inl (g.2.2.1 0, 144, .inl x_t_draft_cells)), ((a_t_draft 3), .inl (g.2.2.1 0, 31, .inl x_t_draft_rows)), ((a_t_draft 4), .inl (g.2.2.1 0, 31, .inl x_t_draft_sizes)), ((a_t_draft 5), .inl (g.2.2.1 0, 31, .inl x_t_draft_rooms)), ((a_t 2), .inl (g.2.2.1 0, 3, .inl x_t_nameStarts)), ((a_t 3), .inl (g.2.2.1 0, 3, .inl x_t_nameLengths)), ((a_t_text 0), .inr (4, [.ref (a_t_text 1), .int t_text_size])), ((a_t_text 1), .inl (g.2.2.1 2, 600, .inl t_text_bytes))] H → va_D A [((a_t 0), .inr (2, [.ref (a_t_draft 0), .ref (a_t 2), .ref (a_t 3), .ref (a_t_text 0), .int x_t_token, .int x_t_start, .int x_t_after, .int x_t_fault, .int x_t_place])), ((a_t_draft 0), .inr (1, [.ref (a_t_draft 1), .ref (a_t_draft 2), .ref (a_t_draft 3), .ref (a_t_draft 4), .ref (a_t_draft 5), .int t_draft_told, .int x_t_draft_lines, .int x_t_draft_kinds, .int t_draft_acts])), ((a_t_draft 1), .inl (g.2.2.1 0, 15, .inl x_t_draft_numbers)), ((a_t_draft 2), .inl (g.2.2.1 0, 144, .inl x_t_draft_cells)), ((a_t_draft 3), .inl (g.2.2.1 0, 31, .inl x_t_draft_rows)), ((a_t_draft 4), .inl (g.2.2.1 0, 31, .inl x_t_draft_sizes)), ((a_t_draft 5), .inl (g.2.2.1 0, 31, .inl x_t_draft_rooms)), ((a_t 2), .inl (g.2.2.1 0, 3, .inl x_t_nameStarts)), ((a_t 3), .inl (g.2.2.1 0, 3, .inl x_t_nameLengths)), ((a_t_text 0), .inr (4, [.ref (a_t_text 1), .int t_text_size])), ((a_t_text 1), .inl (g.2.2.1 2, 600, .inl t_text_bytes))] → va_S A s.heap H locs → W p l e ⟨12, 0, 0, 240⟩ s m args below meth c H locs 0 0 Q (F0 m pc ls [.int v]) := by
    intro u pc ls v x_t_draft_numbers x_t_draft_cells x_t_draft_rows x_t_draft_sizes x_t_draft_rooms x_t_draft_lines x_t_draft_kinds x_t_nameStarts x_t_nameLengths x_t_token x_t_start x_t_after x_t_fault x_t_place H locs hd hz h hP hD hS
    cases h
    exact hret u _ _ _ _ _ hd hz rfl hP hD hS
  have w58 : ∀ (t_draft_numbers : Nat → Int32) (t_draft_cells : Nat → Int32) (t_draft_rows : Nat → Int32) (t_draft_sizes : Nat → Int32) (t_draft_rooms : Nat → Int32) (t_draft_lines : Int32) (t_draft_kinds : Int32) (t_nameStarts : Nat → Int32) (t_nameLengths : Nat → Int32) (t_token : Int32) (t_start : Int32) (t_after : Int32) (t_fault : Int32) (t_place : Int32) (v1 : Int32) (H : Heap) (locs : List Loc), va_P g.2.1 vwCl [((a_t 0), .inr (2, [.ref (a_t_draft 0), .ref (a_t 2), .ref (a_t 3), .ref (a_t_text 0), .int t_token, .int t_start, .int t_after, .int t_fault, .int t_place])), ((a_t_draft 0), .inr (1, [.ref (a_t_draft 1), .ref (a_t_draft 2), .ref (a_t_draft 3), .ref (a_t_draft 4), .ref (a_t_draft 5), .int t_draft_told, .int t_draft_lines, .int t_draft_kinds, .int t_draft_acts])), ((a_t_draft 1), .inl (g.2.2.1 0, 15, .inl t_draft_numbers)), ((a_t_draft 2), .inl (g.2.2.1 0, 144, .inl t_draft_cells)), ((a_t_draft 3), .inl (g.2.2.1 0, 31, .inl t_draft_rows)), ((a_t_draft 4), .inl (g.2.2.1 0, 31, .inl t_draft_sizes)), ((a_t_draft 5), .inl (g.2.2.1 0, 31, .inl t_draft_rooms)), ((a_t 2), .inl (g.2.2.1 0, 3, .inl t_nameStarts)), ((a_t 3), .inl (g.2.2.1 0, 3, .inl t_nameLengths)), ((a_t_text 0), .inr (4, [.ref (a_t_text 1), .int t_text_size])), ((a_t_text 1), .inl (g.2.2.1 2, 600, .inl t_text_bytes))] H → va_D A [((a_t 0), .inr (2, [.ref (a_t_draft 0), .ref (a_t 2), .ref (a_t 3), .ref (a_t_text 0), .int t_token, .int t_start, .int t_after, .int t_fault, .int t_place])), ((a_t_draft 0), .inr (1, [.ref (a_t_draft 1), .ref (a_t_draft 2), .ref (a_t_draft 3), .ref (a_t_draft 4), .ref (a_t_draft 5), .int t_draft_told, .int t_draft_lines, .int t_draft_kinds, .int t_draft_acts])), ((a_t_draft 1), .inl (g.2.2.1 0, 15, .inl t_draft_numbers)), ((a_t_draft 2), .inl (g.2.2.1 0, 144, .inl t_draft_cells)), ((a_t_draft 3), .inl (g.2.2.1 0, 31, .inl t_draft_rows)), ((a_t_draft 4), .inl (g.2.2.1 0, 31, .inl t_draft_sizes)), ((a_t_draft 5), .inl (g.2.2.1 0, 31, .inl t_draft_rooms)), ((a_t 2), .inl (g.2.2.1 0, 3, .inl t_nameStarts)), ((a_t 3), .inl (g.2.2.1 0, 3, .inl t_nameLengths)), ((a_t_text 0), .inr (4, [.ref (a_t_text 1), .int t_text_size])), ((a_t_text 1), .inl (g.2.2.1 2, 600, .inl t_text_bytes))] → va_S A s.heap H locs → ∀ (ls : Array Slot), lv_has ls 2 [(0, .ref ((a_t 0))), (1, .int v1)] → fX2_readLine_58  t_draft_numbers t_draft_cells t_draft_rows t_draft_sizes t_draft_rooms t_draft_lines t_draft_kinds t_nameStarts t_nameLengths t_text_bytes t_text_size t_token t_start t_after t_fault t_place v1 = some (o, o_t_draft_numbers, o_t_draft_cells, o_t_draft_rows, o_t_draft_sizes, o_t_draft_rooms, o_t_draft_lines, o_t_draft_kinds, o_t_nameStarts, o_t_nameLengths, o_t_token, o_t_start, o_t_after, o_t_fault, o_t_place) → W p l e ⟨12, 0, 0, 240⟩ s m args below meth c H locs 0 0 Q (F0 m 58 ls []) := by
    intro t_draft_numbers t_draft_cells t_draft_rows t_draft_sizes t_draft_rooms t_draft_lines t_draft_kinds t_nameStarts t_nameLengths t_token t_start t_after t_fault t_place v1 H locs hP hD hS ls hl h
    unfold fX2_readLine_58 at h
    have hG := hGk hS
    refine lv_iload_n hx hb dX2_readLine_58 rfl (lv_at hl 1 rfl) ?_
    refine lv_if_ne (tgt := 64) hx hb dX2_readLine_59 (by decide) (fun c51 => ?_) (fun c51 => ?_)
    · have h := itn c51 h
      refine lv_aload_n hx hb dX2_readLine_64 rfl (lv_at hl 0 rfl) ?_
      refine xa_get (C := RX2) (T := TX2) (N := 9) cx hG hP 0 rfl rfl uX2 4 (by decide) lf_X2_45 rfl dX2_readLine_65 ?_
      refine lv_iconst (v := 3) hx hb dX2_readLine_68 (by decide) ?_
      refine lv_icmp_eq (tgt := 78) hx hb dX2_readLine_69 (by decide) (fun c52 => ?_) (fun c52 => ?_)
      · have h := itp c52 h
        refine lv_aload_n hx hb dX2_readLine_78 rfl (lv_at hl 0 rfl) ?_
        refine xa_get (C := RX2) (T := TX2) (N := 9) cx hG hP 0 rfl rfl uX2 0 (by decide) lf_X2_12 rfl dX2_readLine_79 ?_
        refine lv_dup hx hb dX2_readLine_82 rfl ?_
        refine xa_getN (C := RX1) (T := TX1) (N := 9) cx hG hP 1 rfl rfl uX1 6 (by decide) nf_6 rfl dX2_readLine_83 ?_
        refine lv_iconst (v := 1) hx hb dX2_readLine_86 (by decide) ?_
        refine lv_iadd hx hb dX2_readLine_87 ?_
        refine xw_putN (C := RX1) (T := TX1) (N := 9) (ty := .int) (v := .int (t_draft_lines + 1)) (ws' := [((a_t 0), .inr (2, [.ref (a_t_draft 0), .ref (a_t 2), .ref (a_t 3), .ref (a_t_text 0), .int t_token, .int t_start, .int t_after, .int t_fault, .int t_place])), ((a_t_draft 0), .inr (1, [.ref (a_t_draft 1), .ref (a_t_draft 2), .ref (a_t_draft 3), .ref (a_t_draft 4), .ref (a_t_draft 5), .int t_draft_told, .int (t_draft_lines + 1), .int t_draft_kinds, .int t_draft_acts])), ((a_t_draft 1), .inl (g.2.2.1 0, 15, .inl t_draft_numbers)), ((a_t_draft 2), .inl (g.2.2.1 0, 144, .inl t_draft_cells)), ((a_t_draft 3), .inl (g.2.2.1 0, 31, .inl t_draft_rows)), ((a_t_draft 4), .inl (g.2.2.1 0, 31, .inl t_draft_sizes)), ((a_t_draft 5), .inl (g.2.2.1 0, 31, .inl t_draft_rooms)), ((a_t 2), .inl (g.2.2.1 0, 3, .inl t_nameStarts)), ((a_t 3), .inl (g.2.2.1 0, 3, .inl t_nameLengths)), ((a_t_text 0), .inr (4, [.ref (a_t_text 1), .int t_text_size])), ((a_t_text 1), .inl (g.2.2.1 2, 600, .inl t_text_bytes))]) cx hG hP hD hS 1 rfl rfl uX1 tyX1 tyX1_ok nmX1 6 (by decide) nf_6 rfl (by decide +kernel) rfl rfl (Nat.le_of_ble_eq_true rfl) rfl dX2_readLine_88 (fun H locs hP hD hS => ?_)
        have hG := hGk hS
        refine lv_aload_n hx hb dX2_readLine_91 rfl (lv_at hl 0 rfl) ?_
        obtain ⟨w54, w55, w56, hr53, h⟩ := ob3_out h
        refine rw_v (WN := fun u57 => [((a_t_draft 0), .inr (1, [.ref (a_t_draft 1), .ref (a_t_draft 2), .ref (a_t_draft 3), .ref (a_t_draft 4), .ref (a_t_draft 5), .int t_draft_told, .int (t_draft_lines + 1), .int t_draft_kinds, .int t_draft_acts])), ((a_t_draft 1), .inl (g.2.2.1 0, 15, .inl t_draft_numbers)), ((a_t_draft 2), .inl (g.2.2.1 0, 144, .inl t_draft_cells)), ((a_t_draft 3), .inl (g.2.2.1 0, 31, .inl t_draft_rows)), ((a_t_draft 4), .inl (g.2.2.1 0, 31, .inl t_draft_sizes)), ((a_t_draft 5), .inl (g.2.2.1 0, 31, .inl t_draft_rooms)), ((a_t 2), .inl (g.2.2.1 0, 3, .inl t_nameStarts)), ((a_t 3), .inl (g.2.2.1 0, 3, .inl t_nameLengths)), ((a_t 0), .inr (2, [.ref (a_t_draft 0), .ref (a_t 2), .ref (a_t 3), .ref (a_t_text 0), .int w54, .int w55, .int w56, .int t_fault, .int t_place])), ((a_t_text 0), .inr (4, [.ref (a_t_text 1), .int t_text_size])), ((a_t_text 1), .inl (g.2.2.1 2, 600, .inl t_text_bytes))]) (wr := [((a_t_draft 0), .inr (1, [.ref (a_t_draft 1), .ref (a_t_draft 2), .ref (a_t_draft 3), .ref (a_t_draft 4), .ref (a_t_draft 5), .int t_draft_told, .int (t_draft_lines + 1), .int t_draft_kinds, .int t_draft_acts])), ((a_t_draft 1), .inl (g.2.2.1 0, 15, .inl t_draft_numbers)), ((a_t_draft 2), .inl (g.2.2.1 0, 144, .inl t_draft_cells)), ((a_t_draft 3), .inl (g.2.2.1 0, 31, .inl t_draft_rows)), ((a_t_draft 4), .inl (g.2.2.1 0, 31, .inl t_draft_sizes)), ((a_t_draft 5), .inl (g.2.2.1 0, 31, .inl t_draft_rooms)), ((a_t 2), .inl (g.2.2.1 0, 3, .inl t_nameStarts)), ((a_t 3), .inl (g.2.2.1 0, 3, .inl t_nameLengths))]) (runV (As := []) (rest := []) cx hl.1 (ctX2_next l g H.size a_t a_t_draft a_t_text t_token t_start t_after t_fault t_place t_text_size t_text_bytes w54 w55 w56 hr53) kmX2_next kvX2_next lm_X2_42 ⟨rfl, rfl⟩ ⟨Nat.le_of_ble_eq_true rfl, Nat.le_of_ble_eq_true rfl⟩ (rwV (q0 := 0) (ci := 2) hG (hP.sub [0, 9, 10] rfl) (hD.sub [0, 9, 10] (by decide) rfl) hAb hb0 hS hP rfl rfl) rfl rfl (Nat.le_of_ble_eq_true rfl) dX2_readLine_92 ⟨Nat.le_of_ble_eq_true rfl, Nat.le_of_ble_eq_true rfl⟩) hP hD hS hA [0, 9, 10] [1, 2, 3, 4, 5, 6, 7, 8] rfl rfl (by decide) (by decide) (fun _ => rfl) (fun u57 H locs hP hD hS => ?_)
        have hG := hGk hS
        refine lv_iconst (v := 1) hx hb dX2_readLine_95 (by decide) ?_
        exact hrt (fun _ => 0) _ _ ((1)) t_draft_numbers t_draft_cells t_draft_rows t_draft_sizes t_draft_rooms (t_draft_lines + 1) t_draft_kinds t_nameStarts t_nameLengths w54 w55 w56 t_fault t_place _ _ dX2_readLine_96 (by decide) h (hP.sub [8, 0, 1, 2, 3, 4, 5, 6, 7, 9, 10] rfl) (hD.sub [8, 0, 1, 2, 3, 4, 5, 6, 7, 9, 10] (by decide) rfl) hS
      · have h := itn c52 h
        refine lv_aload_n hx hb dX2_readLine_72 rfl (lv_at hl 0 rfl) ?_
        refine lv_iconst (v := 1) hx hb dX2_readLine_73 (by decide) ?_
        obtain ⟨r59, w60, w61, hr58, h⟩ := ob3_out h
        refine rw_z (WN := fun u62 => [((a_t_draft 0), .inr (1, [.ref (a_t_draft 1), .ref (a_t_draft 2), .ref (a_t_draft 3), .ref (a_t_draft 4), .ref (a_t_draft 5), .int t_draft_told, .int t_draft_lines, .int t_draft_kinds, .int t_draft_acts])), ((a_t_draft 1), .inl (g.2.2.1 0, 15, .inl t_draft_numbers)), ((a_t_draft 2), .inl (g.2.2.1 0, 144, .inl t_draft_cells)), ((a_t_draft 3), .inl (g.2.2.1 0, 31, .inl t_draft_rows)), ((a_t_draft 4), .inl (g.2.2.1 0, 31, .inl t_draft_sizes)), ((a_t_draft 5), .inl (g.2.2.1 0, 31, .inl t_draft_rooms)), ((a_t 2), .inl (g.2.2.1 0, 3, .inl t_nameStarts)), ((a_t 3), .inl (g.2.2.1 0, 3, .inl t_nameLengths)), ((a_t_text 0), .inr (4, [.ref (a_t_text 1), .int t_text_size])), ((a_t_text 1), .inl (g.2.2.1 2, 600, .inl t_text_bytes)), ((a_t 0), .inr (2, [.ref (a_t_draft 0), .ref (a_t 2), .ref (a_t 3), .ref (a_t_text 0), .int t_token, .int t_start, .int t_after, .int w60, .int w61]))]) (wr := [((a_t_draft 0), .inr (1, [.ref (a_t_draft 1), .ref (a_t_draft 2), .ref (a_t_draft 3), .ref (a_t_draft 4), .ref (a_t_draft 5), .int t_draft_told, .int t_draft_lines, .int t_draft_kinds, .int t_draft_acts])), ((a_t_draft 1), .inl (g.2.2.1 0, 15, .inl t_draft_numbers)), ((a_t_draft 2), .inl (g.2.2.1 0, 144, .inl t_draft_cells)), ((a_t_draft 3), .inl (g.2.2.1 0, 31, .inl t_draft_rows)), ((a_t_draft 4), .inl (g.2.2.1 0, 31, .inl t_draft_sizes)), ((a_t_draft 5), .inl (g.2.2.1 0, 31, .inl t_draft_rooms)), ((a_t 2), .inl (g.2.2.1 0, 3, .inl t_nameStarts)), ((a_t 3), .inl (g.2.2.1 0, 3, .inl t_nameLengths)), ((a_t_text 0), .inr (4, [.ref (a_t_text 1), .int t_text_size])), ((a_t_text 1), .inl (g.2.2.1 2, 600, .inl t_text_bytes))]) (runV (As := [.int (1)]) (rest := []) cx hl.1 (ctX2_refuse l g H.size a_t a_t_draft a_t_text t_token t_start t_after t_fault t_place (1) r59 w60 w61 hr58) kmX2_refuse kvX2_refuse lm_X2_94 ⟨rfl, rfl⟩ ⟨Nat.le_of_ble_eq_true rfl, Nat.le_of_ble_eq_true rfl⟩ (rwV (q0 := 0) (ci := 2) hG (hP.sub [0] rfl) (hD.sub [0] (by decide) rfl) hAb hb0 hS hP rfl rfl) rfl rfl (Nat.le_of_ble_eq_true rfl) dX2_readLine_74 ⟨Nat.le_of_ble_eq_true rfl, Nat.le_of_ble_eq_true rfl⟩) hP hD hS hA [0] [1, 2, 3, 4, 5, 6, 7, 8, 9, 10] rfl rfl (by decide) (by decide) (fun _ => rfl) (fun hz63 u62 H locs hP hD hS => ?_)
        have hG := hGk hS
        exact hrt (fun _ => 0) _ _ r59 t_draft_numbers t_draft_cells t_draft_rows t_draft_sizes t_draft_rooms t_draft_lines t_draft_kinds t_nameStarts t_nameLengths t_token t_start t_after w60 w61 _ _ dX2_readLine_77 hz63 h (hP.sub [10, 0, 1, 2, 3, 4, 5, 6, 7, 8, 9] rfl) (hD.sub [10, 0, 1, 2, 3, 4, 5, 6, 7, 8, 9] (by decide) rfl) hS
    · have h := itp c51 h
      refine lv_iconst (v := 0) hx hb dX2_readLine_62 (by decide) ?_
      exact hrt (fun _ => 0) _ _ ((0)) t_draft_numbers t_draft_cells t_draft_rows t_draft_sizes t_draft_rooms t_draft_lines t_draft_kinds t_nameStarts t_nameLengths t_token t_start t_after t_fault t_place _ _ dX2_readLine_63 (by decide) h (hP.sub [0, 1, 2, 3, 4, 5, 6, 7, 8, 9, 10] rfl) (hD.sub [0, 1, 2, 3, 4, 5, 6, 7, 8, 9, 10] (by decide) rfl) hS
  unfold fX2_readLine at h
  refine lv_aload_n hx hb dX2_readLine_0 rfl (lv_at hl 0 rfl) ?_
  refine xa_get (C := RX2) (T := TX2) (N := 9) cx hG hP 0 rfl rfl uX2 0 (by decide) lf_X2_12 rfl dX2_readLine_1 ?_
  refine xa_getN (C := RX1) (T := TX1) (N := 9) cx hG hP 1 rfl rfl uX1 6 (by decide) nf_6 rfl dX2_readLine_4 ?_
  refine lv_if_ne (tgt := 18) hx hb dX2_readLine_7 (by decide) (fun c1 => ?_) (fun c1 => ?_)
  · have h := itn c1 h
    refine lv_aload_n hx hb dX2_readLine_18 rfl (lv_at hl 0 rfl) ?_
    refine va_ldcS (own := RX2) (tx := "kind") (q := g.2.2.2.2.1 2) hx hb cx.2.2.2.1 (GE_st hG sr_2) dX2_readLine_19 ?_
    obtain ⟨r2, hr3, h⟩ := bnd h
    refine ro_z (runV (As := [.ref ((g.2.2.2.2.1 2))]) (rest := []) cx hl.1 (ctX2_spells l g a_t a_t_draft a_t_text t_token t_start t_after t_fault t_place t_text_size t_text_bytes 2 (by decide) r2 hr3) kmX2_spells kvX2_spells lm_X2_82 ⟨rfl, rfl⟩ ⟨Nat.le_of_ble_eq_true rfl, Nat.le_of_ble_eq_true rfl⟩ (roV (q0 := 0) (ci := 2) hG (hP.sub [0, 9, 10] rfl) hP rfl rfl) rfl rfl (Nat.le_of_ble_eq_true rfl) dX2_readLine_21 ⟨Nat.le_of_ble_eq_true rfl, Nat.le_of_ble_eq_true rfl⟩) (fun hz4 => ?_)
    refine lv_if_eq (tgt := 35) hx hb dX2_readLine_24 (by decide) (fun c5 => ?_) (fun c5 => ?_)
    · have h := itp c5 h
      refine lv_aload_n hx hb dX2_readLine_35 rfl (lv_at hl 0 rfl) ?_
      refine va_ldcS (own := RX2) (tx := "ply") (q := g.2.2.2.2.1 3) hx hb cx.2.2.2.1 (GE_st hG sr_3) dX2_readLine_36 ?_
      obtain ⟨r6, hr7, h⟩ := bnd h
      refine ro_z (runV (As := [.ref ((g.2.2.2.2.1 3))]) (rest := []) cx hl.1 (ctX2_spells l g a_t a_t_draft a_t_text t_token t_start t_after t_fault t_place t_text_size t_text_bytes 3 (by decide) r6 hr7) kmX2_spells kvX2_spells lm_X2_82 ⟨rfl, rfl⟩ ⟨Nat.le_of_ble_eq_true rfl, Nat.le_of_ble_eq_true rfl⟩ (roV (q0 := 0) (ci := 2) hG (hP.sub [0, 9, 10] rfl) hP rfl rfl) rfl rfl (Nat.le_of_ble_eq_true rfl) dX2_readLine_38 ⟨Nat.le_of_ble_eq_true rfl, Nat.le_of_ble_eq_true rfl⟩) (fun hz8 => ?_)
      refine lv_if_eq (tgt := 52) hx hb dX2_readLine_41 (by decide) (fun c9 => ?_) (fun c9 => ?_)
      · have h := itp c9 h
        refine lv_aload_n hx hb dX2_readLine_52 rfl (lv_at hl 0 rfl) ?_
        refine lv_iconst (v := 1) hx hb dX2_readLine_53 (by decide) ?_
        obtain ⟨r11, w12, w13, hr10, h⟩ := ob3_out h
        refine rw_z (WN := fun u14 => [((a_t_draft 0), .inr (1, [.ref (a_t_draft 1), .ref (a_t_draft 2), .ref (a_t_draft 3), .ref (a_t_draft 4), .ref (a_t_draft 5), .int t_draft_told, .int t_draft_lines, .int t_draft_kinds, .int t_draft_acts])), ((a_t_draft 1), .inl (g.2.2.1 0, 15, .inl t_draft_numbers)), ((a_t_draft 2), .inl (g.2.2.1 0, 144, .inl t_draft_cells)), ((a_t_draft 3), .inl (g.2.2.1 0, 31, .inl t_draft_rows)), ((a_t_draft 4), .inl (g.2.2.1 0, 31, .inl t_draft_sizes)), ((a_t_draft 5), .inl (g.2.2.1 0, 31, .inl t_draft_rooms)), ((a_t 2), .inl (g.2.2.1 0, 3, .inl t_nameStarts)), ((a_t 3), .inl (g.2.2.1 0, 3, .inl t_nameLengths)), ((a_t_text 0), .inr (4, [.ref (a_t_text 1), .int t_text_size])), ((a_t_text 1), .inl (g.2.2.1 2, 600, .inl t_text_bytes)), ((a_t 0), .inr (2, [.ref (a_t_draft 0), .ref (a_t 2), .ref (a_t 3), .ref (a_t_text 0), .int t_token, .int t_start, .int t_after, .int w12, .int w13]))]) (wr := [((a_t_draft 0), .inr (1, [.ref (a_t_draft 1), .ref (a_t_draft 2), .ref (a_t_draft 3), .ref (a_t_draft 4), .ref (a_t_draft 5), .int t_draft_told, .int t_draft_lines, .int t_draft_kinds, .int t_draft_acts])), ((a_t_draft 1), .inl (g.2.2.1 0, 15, .inl t_draft_numbers)), ((a_t_draft 2), .inl (g.2.2.1 0, 144, .inl t_draft_cells)), ((a_t_draft 3), .inl (g.2.2.1 0, 31, .inl t_draft_rows)), ((a_t_draft 4), .inl (g.2.2.1 0, 31, .inl t_draft_sizes)), ((a_t_draft 5), .inl (g.2.2.1 0, 31, .inl t_draft_rooms)), ((a_t 2), .inl (g.2.2.1 0, 3, .inl t_nameStarts)), ((a_t 3), .inl (g.2.2.1 0, 3, .inl t_nameLengths)), ((a_t_text 0), .inr (4, [.ref (a_t_text 1), .int t_text_size])), ((a_t_text 1), .inl (g.2.2.1 2, 600, .inl t_text_bytes))]) (runV (As := [.int (1)]) (rest := []) cx hl.1 (ctX2_refuse l g s.heap.size a_t a_t_draft a_t_text t_token t_start t_after t_fault t_place (1) r11 w12 w13 hr10) kmX2_refuse kvX2_refuse lm_X2_94 ⟨rfl, rfl⟩ ⟨Nat.le_of_ble_eq_true rfl, Nat.le_of_ble_eq_true rfl⟩ (rwV (q0 := 0) (ci := 2) hG (hP.sub [0] rfl) (hD.sub [0] (by decide) rfl) hAb hb0 hS hP rfl rfl) rfl rfl (Nat.le_of_ble_eq_true rfl) dX2_readLine_54 ⟨Nat.le_of_ble_eq_true rfl, Nat.le_of_ble_eq_true rfl⟩) hP hD hS hA [0] [1, 2, 3, 4, 5, 6, 7, 8, 9, 10] rfl rfl (by decide) (by decide) (fun _ => rfl) (fun hz15 u14 H locs hP hD hS => ?_)
        have hG := hGk hS
        refine lv_istore_n (lv' := [(1, .int r11), (0, .ref ((a_t 0)))]) hx hb dX2_readLine_57 rfl hl (by decide) rfl (fun ls hl => ?_)
        exact w58 t_draft_numbers t_draft_cells t_draft_rows t_draft_sizes t_draft_rooms t_draft_lines t_draft_kinds t_nameStarts t_nameLengths t_token t_start t_after w12 w13 r11 _ _ (hP.sub [10, 0, 1, 2, 3, 4, 5, 6, 7, 8, 9] rfl) (hD.sub [10, 0, 1, 2, 3, 4, 5, 6, 7, 8, 9] (by decide) rfl) hS _ (lv_sub hl [1, 0] rfl) h
      · have h := itn c9 h
        refine lv_aload_n hx hb dX2_readLine_44 rfl (lv_at hl 0 rfl) ?_
        obtain ⟨r17, w18, w19, w20, w21, w22, w23, w24, hr16, h⟩ := ob8_out h
        refine rw_z (WN := fun u25 => [((a_t_draft 1), .inl (g.2.2.1 0, 15, .inl t_draft_numbers)), ((a_t_draft 2), .inl (g.2.2.1 0, 144, .inl t_draft_cells)), ((a_t_draft 5), .inl (g.2.2.1 0, 31, .inl t_draft_rooms)), ((a_t 0), .inr (2, [.ref (a_t_draft 0), .ref (a_t 2), .ref (a_t 3), .ref (a_t_text 0), .int w20, .int w21, .int w22, .int w23, .int w24])), ((a_t_draft 0), .inr (1, [.ref (a_t_draft 1), .ref (a_t_draft 2), .ref (a_t_draft 3), .ref (a_t_draft 4), .ref (a_t_draft 5), .int t_draft_told, .int t_draft_lines, .int t_draft_kinds, .int t_draft_acts])), ((a_t_draft 3), .inl (g.2.2.1 0, 31, .inl w18)), ((a_t_draft 4), .inl (g.2.2.1 0, 31, .inl w19)), ((a_t 2), .inl (g.2.2.1 0, 3, .inl t_nameStarts)), ((a_t 3), .inl (g.2.2.1 0, 3, .inl t_nameLengths)), ((a_t_text 0), .inr (4, [.ref (a_t_text 1), .int t_text_size])), ((a_t_text 1), .inl (g.2.2.1 2, 600, .inl t_text_bytes))]) (wr := [((a_t_draft 1), .inl (g.2.2.1 0, 15, .inl t_draft_numbers)), ((a_t_draft 2), .inl (g.2.2.1 0, 144, .inl t_draft_cells)), ((a_t_draft 5), .inl (g.2.2.1 0, 31, .inl t_draft_rooms))]) (runV (As := []) (rest := []) cx hl.1 (ctX2_readPly l g s.heap.size a_t a_t_draft a_t_text t_token t_start t_after t_fault t_place t_draft_told t_draft_lines t_draft_kinds t_draft_acts t_draft_rows t_draft_sizes t_nameStarts t_nameLengths t_text_size t_text_bytes r17 w18 w19 w20 w21 w22 w23 w24 hr16) kmX2_readPly kvX2_readPly lm_X2_91 ⟨rfl, rfl⟩ ⟨Nat.le_of_ble_eq_true rfl, Nat.le_of_ble_eq_true rfl⟩ (rwV (q0 := 0) (ci := 2) hG (hP.sub [0, 1, 4, 5, 7, 8, 9, 10] rfl) (hD.sub [0, 1, 4, 5, 7, 8, 9, 10] (by decide) rfl) hAb hb0 hS hP rfl rfl) rfl rfl (Nat.le_of_ble_eq_true rfl) dX2_readLine_45 ⟨Nat.le_of_ble_eq_true rfl, Nat.le_of_ble_eq_true rfl⟩) hP hD hS hA [0, 1, 4, 5, 7, 8, 9, 10] [2, 3, 6] rfl rfl (by decide) (by decide) (fun _ => rfl) (fun hz26 u25 H locs hP hD hS => ?_)
        have hG := hGk hS
        refine lv_istore_n (lv' := [(1, .int r17), (0, .ref ((a_t 0)))]) hx hb dX2_readLine_48 rfl hl (by decide) rfl (fun ls hl => ?_)
        refine lv_goto (tgt := 58) hx hb dX2_readLine_49 (by decide) ?_
        exact w58 t_draft_numbers t_draft_cells w18 w19 t_draft_rooms t_draft_lines t_draft_kinds t_nameStarts t_nameLengths w20 w21 w22 w23 w24 r17 _ _ (hP.sub [3, 4, 0, 1, 5, 6, 2, 7, 8, 9, 10] rfl) (hD.sub [3, 4, 0, 1, 5, 6, 2, 7, 8, 9, 10] (by decide) rfl) hS _ (lv_sub hl [1, 0] rfl) h
    · have h := itn c5 h
      refine lv_aload_n hx hb dX2_readLine_27 rfl (lv_at hl 0 rfl) ?_
      obtain ⟨r28, w29, w30, w31, w32, w33, w34, w35, w36, w37, w38, hr27, h⟩ := ob11_out h
      refine rw_z (WN := fun u39 => [((a_t_draft 3), .inl (g.2.2.1 0, 31, .inl t_draft_rows)), ((a_t_draft 4), .inl (g.2.2.1 0, 31, .inl t_draft_sizes)), ((a_t_draft 5), .inl (g.2.2.1 0, 31, .inl t_draft_rooms)), ((a_t 0), .inr (2, [.ref (a_t_draft 0), .ref (a_t 2), .ref (a_t 3), .ref (a_t_text 0), .int w34, .int w35, .int w36, .int w37, .int w38])), ((a_t_draft 0), .inr (1, [.ref (a_t_draft 1), .ref (a_t_draft 2), .ref (a_t_draft 3), .ref (a_t_draft 4), .ref (a_t_draft 5), .int t_draft_told, .int t_draft_lines, .int w31, .int t_draft_acts])), ((a_t_draft 1), .inl (g.2.2.1 0, 15, .inl w29)), ((a_t_draft 2), .inl (g.2.2.1 0, 144, .inl w30)), ((a_t 2), .inl (g.2.2.1 0, 3, .inl w32)), ((a_t 3), .inl (g.2.2.1 0, 3, .inl w33)), ((a_t_text 0), .inr (4, [.ref (a_t_text 1), .int t_text_size])), ((a_t_text 1), .inl (g.2.2.1 2, 600, .inl t_text_bytes))]) (wr := [((a_t_draft 3), .inl (g.2.2.1 0, 31, .inl t_draft_rows)), ((a_t_draft 4), .inl (g.2.2.1 0, 31, .inl t_draft_sizes)), ((a_t_draft 5), .inl (g.2.2.1 0, 31, .inl t_draft_rooms))]) (runV (As := []) (rest := []) cx hl.1 (ctX2_readKind l g s.heap.size a_t a_t_draft a_t_text t_token t_start t_after t_fault t_place t_draft_told t_draft_lines t_draft_kinds t_draft_acts t_draft_numbers t_draft_cells t_nameStarts t_nameLengths t_text_size t_text_bytes r28 w29 w30 w31 w32 w33 w34 w35 w36 w37 w38 hr27) kmX2_readKind kvX2_readKind lm_X2_86 ⟨rfl, rfl⟩ ⟨Nat.le_of_ble_eq_true rfl, Nat.le_of_ble_eq_true rfl⟩ (rwV (q0 := 0) (ci := 2) hG (hP.sub [0, 1, 2, 3, 7, 8, 9, 10] rfl) (hD.sub [0, 1, 2, 3, 7, 8, 9, 10] (by decide) rfl) hAb hb0 hS hP rfl rfl) rfl rfl (Nat.le_of_ble_eq_true rfl) dX2_readLine_28 ⟨Nat.le_of_ble_eq_true rfl, Nat.le_of_ble_eq_true rfl⟩) hP hD hS hA [0, 1, 2, 3, 7, 8, 9, 10] [4, 5, 6] rfl rfl (by decide) (by decide) (fun _ => rfl) (fun hz40 u39 H locs hP hD hS => ?_)
      have hG := hGk hS
      refine lv_istore_n (lv' := [(1, .int r28), (0, .ref ((a_t 0)))]) hx hb dX2_readLine_31 rfl hl (by decide) rfl (fun ls hl => ?_)
      refine lv_goto (tgt := 58) hx hb dX2_readLine_32 (by decide) ?_
      exact w58 w29 w30 t_draft_rows t_draft_sizes t_draft_rooms t_draft_lines w31 w32 w33 w34 w35 w36 w37 w38 r28 _ _ (hP.sub [3, 4, 5, 6, 0, 1, 2, 7, 8, 9, 10] rfl) (hD.sub [3, 4, 5, 6, 0, 1, 2, 7, 8, 9, 10] (by decide) rfl) hS _ (lv_sub hl [1, 0] rfl) h
  · have h := itp c1 h
    refine lv_aload_n hx hb dX2_readLine_10 rfl (lv_at hl 0 rfl) ?_
    obtain ⟨r42, w43, w44, w45, w46, w47, w48, hr41, h⟩ := ob7_out h
    refine rw_z (WN := fun u49 => [((a_t_draft 1), .inl (g.2.2.1 0, 15, .inl t_draft_numbers)), ((a_t_draft 2), .inl (g.2.2.1 0, 144, .inl t_draft_cells)), ((a_t_draft 3), .inl (g.2.2.1 0, 31, .inl t_draft_rows)), ((a_t_draft 4), .inl (g.2.2.1 0, 31, .inl t_draft_sizes)), ((a_t 2), .inl (g.2.2.1 0, 3, .inl t_nameStarts)), ((a_t 3), .inl (g.2.2.1 0, 3, .inl t_nameLengths)), ((a_t 0), .inr (2, [.ref (a_t_draft 0), .ref (a_t 2), .ref (a_t 3), .ref (a_t_text 0), .int w44, .int w45, .int w46, .int w47, .int w48])), ((a_t_draft 0), .inr (1, [.ref (a_t_draft 1), .ref (a_t_draft 2), .ref (a_t_draft 3), .ref (a_t_draft 4), .ref (a_t_draft 5), .int t_draft_told, .int t_draft_lines, .int t_draft_kinds, .int t_draft_acts])), ((a_t_draft 5), .inl (g.2.2.1 0, 31, .inl w43)), ((a_t_text 0), .inr (4, [.ref (a_t_text 1), .int t_text_size])), ((a_t_text 1), .inl (g.2.2.1 2, 600, .inl t_text_bytes))]) (wr := [((a_t_draft 1), .inl (g.2.2.1 0, 15, .inl t_draft_numbers)), ((a_t_draft 2), .inl (g.2.2.1 0, 144, .inl t_draft_cells)), ((a_t_draft 3), .inl (g.2.2.1 0, 31, .inl t_draft_rows)), ((a_t_draft 4), .inl (g.2.2.1 0, 31, .inl t_draft_sizes)), ((a_t 2), .inl (g.2.2.1 0, 3, .inl t_nameStarts)), ((a_t 3), .inl (g.2.2.1 0, 3, .inl t_nameLengths))]) (runV (As := []) (rest := []) cx hl.1 (ctX2_readPlate l g s.heap.size a_t a_t_draft a_t_text t_token t_start t_after t_fault t_place t_draft_told t_draft_lines t_draft_kinds t_draft_acts t_draft_rooms t_text_size t_text_bytes r42 w43 w44 w45 w46 w47 w48 hr41) kmX2_readPlate kvX2_readPlate lm_X2_77 ⟨rfl, rfl⟩ ⟨Nat.le_of_ble_eq_true rfl, Nat.le_of_ble_eq_true rfl⟩ (rwV (q0 := 0) (ci := 2) hG (hP.sub [0, 1, 6, 9, 10] rfl) (hD.sub [0, 1, 6, 9, 10] (by decide) rfl) hAb hb0 hS hP rfl rfl) rfl rfl (Nat.le_of_ble_eq_true rfl) dX2_readLine_11 ⟨Nat.le_of_ble_eq_true rfl, Nat.le_of_ble_eq_true rfl⟩) hP hD hS hA [0, 1, 6, 9, 10] [2, 3, 4, 5, 7, 8] rfl rfl (by decide) (by decide) (fun _ => rfl) (fun hz50 u49 H locs hP hD hS => ?_)
    have hG := hGk hS
    refine lv_istore_n (lv' := [(1, .int r42), (0, .ref ((a_t 0)))]) hx hb dX2_readLine_14 rfl hl (by decide) rfl (fun ls hl => ?_)
    refine lv_goto (tgt := 58) hx hb dX2_readLine_15 (by decide) ?_
    exact w58 t_draft_numbers t_draft_cells t_draft_rows t_draft_sizes w43 t_draft_lines t_draft_kinds t_nameStarts t_nameLengths w44 w45 w46 w47 w48 r42 _ _ (hP.sub [6, 7, 0, 1, 2, 3, 8, 4, 5, 9, 10] rfl) (hD.sub [6, 7, 0, 1, 2, 3, 8, 4, 5, 9, 10] (by decide) rfl) hS _ (lv_sub hl [1, 0] rfl) h
-- X2_read
theorem dX2_read_0 : decode cX2_read 0 = .ok (.aload_n 0, 1) := by decide +kernel
theorem dX2_read_1 : decode cX2_read 1 = .ok (.iconst 0, 1) := by decide +kernel
theorem dX2_read_2 : decode cX2_read 2 = .ok (.putfield 33, 3) := by decide +kernel
theorem dX2_read_5 : decode cX2_read 5 = .ok (.aload_n 0, 1) := by decide +kernel
theorem dX2_read_6 : decode cX2_read 6 = .ok (.iconst (-1), 1) := by decide +kernel
theorem dX2_read_7 : decode cX2_read 7 = .ok (.putfield 25, 3) := by decide +kernel
theorem dX2_read_10 : decode cX2_read 10 = .ok (.aload_n 0, 1) := by decide +kernel
theorem dX2_read_11 : decode cX2_read 11 = .ok (.iconst 0, 1) := by decide +kernel
theorem dX2_read_12 : decode cX2_read 12 = .ok (.putfield 36, 3) := by decide +kernel
theorem dX2_read_15 : decode cX2_read 15 = .ok (.aload_n 0, 1) := by decide +kernel
theorem dX2_read_16 : decode cX2_read 16 = .ok (.getfield 12, 3) := by decide +kernel
theorem dX2_read_19 : decode cX2_read 19 = .ok (.invokevirtual 39, 3) := by decide +kernel
theorem dX2_read_22 : decode cX2_read 22 = .ok (.aload_n 0, 1) := by decide +kernel
theorem dX2_read_23 : decode cX2_read 23 = .ok (.invokevirtual 42, 3) := by decide +kernel
theorem dX2_read_26 : decode cX2_read 26 = .ok (.iconst 1, 1) := by decide +kernel
theorem dX2_read_27 : decode cX2_read 27 = .ok (.istore_n 1, 1) := by decide +kernel
theorem dX2_read_28 : decode cX2_read 28 = .ok (.iconst 0, 1) := by decide +kernel
theorem dX2_read_29 : decode cX2_read 29 = .ok (.istore_n 2, 1) := by decide +kernel
theorem dX2_read_30 : decode cX2_read 30 = .ok (.iload_n 2, 1) := by decide +kernel
theorem dX2_read_31 : decode cX2_read 31 = .ok (.sipush 600, 3) := by decide +kernel
theorem dX2_read_34 : decode cX2_read 34 = .ok (.if_icmp .gt 26, 3) := by decide +kernel
theorem dX2_read_37 : decode cX2_read 37 = .ok (.iload_n 1, 1) := by decide +kernel
theorem dX2_read_38 : decode cX2_read 38 = .ok (.ifCond .eq 22, 3) := by decide +kernel
theorem dX2_read_41 : decode cX2_read 41 = .ok (.aload_n 0, 1) := by decide +kernel
theorem dX2_read_42 : decode cX2_read 42 = .ok (.getfield 45, 3) := by decide +kernel
theorem dX2_read_45 : decode cX2_read 45 = .ok (.iconst 5, 1) := by decide +kernel
theorem dX2_read_46 : decode cX2_read 46 = .ok (.if_icmp .eq 14, 3) := by decide +kernel
theorem dX2_read_49 : decode cX2_read 49 = .ok (.aload_n 0, 1) := by decide +kernel
theorem dX2_read_50 : decode cX2_read 50 = .ok (.invokevirtual 48, 3) := by decide +kernel
theorem dX2_read_53 : decode cX2_read 53 = .ok (.istore_n 1, 1) := by decide +kernel
theorem dX2_read_54 : decode cX2_read 54 = .ok (.iinc 2 1, 3) := by decide +kernel
theorem dX2_read_57 : decode cX2_read 57 = .ok (.goto (-27), 3) := by decide +kernel
theorem dX2_read_60 : decode cX2_read 60 = .ok (.aload_n 0, 1) := by decide +kernel
theorem dX2_read_61 : decode cX2_read 61 = .ok (.getfield 12, 3) := by decide +kernel
theorem dX2_read_64 : decode cX2_read 64 = .ok (.aload_n 0, 1) := by decide +kernel
theorem dX2_read_65 : decode cX2_read 65 = .ok (.getfield 12, 3) := by decide +kernel
theorem dX2_read_68 : decode cX2_read 68 = .ok (.getfield 52, 3) := by decide +kernel
theorem dX2_read_71 : decode cX2_read 71 = .ok (.ifCond .le 7, 3) := by decide +kernel
theorem dX2_read_74 : decode cX2_read 74 = .ok (.iconst 1, 1) := by decide +kernel
theorem dX2_read_75 : decode cX2_read 75 = .ok (.goto 4, 3) := by decide +kernel
theorem dX2_read_78 : decode cX2_read 78 = .ok (.iconst 0, 1) := by decide +kernel
theorem dX2_read_79 : decode cX2_read 79 = .ok (.putfield 55, 3) := by decide +kernel
theorem dX2_read_82 : decode cX2_read 82 = .ok (.iload_n 1, 1) := by decide +kernel
theorem dX2_read_83 : decode cX2_read 83 = .ok (.ireturn, 1) := by decide +kernel
noncomputable def fX2_read_60  (t_draft_numbers : Nat → Int32) (t_draft_cells : Nat → Int32) (t_draft_rows : Nat → Int32) (t_draft_sizes : Nat → Int32) (t_draft_rooms : Nat → Int32) (t_draft_told : Int32) (t_draft_lines : Int32) (t_draft_kinds : Int32) (t_draft_acts : Int32) (t_nameStarts : Nat → Int32) (t_nameLengths : Nat → Int32) (t_token : Int32) (t_start : Int32) (t_after : Int32) (t_fault : Int32) (t_place : Int32) (v1 : Int32) : Option (Int32 × (Nat → Int32) × (Nat → Int32) × (Nat → Int32) × (Nat → Int32) × (Nat → Int32) × Int32 × Int32 × Int32 × Int32 × (Nat → Int32) × (Nat → Int32) × Int32 × Int32 × Int32 × Int32 × Int32) := (if t_draft_lines ≤ 0 then zb v1 (some (v1, t_draft_numbers, t_draft_cells, t_draft_rows, t_draft_sizes, t_draft_rooms, 0, t_draft_lines, t_draft_kinds, t_draft_acts, t_nameStarts, t_nameLengths, t_token, t_start, t_after, t_fault, t_place)) else zb v1 (some (v1, t_draft_numbers, t_draft_cells, t_draft_rows, t_draft_sizes, t_draft_rooms, 1, t_draft_lines, t_draft_kinds, t_draft_acts, t_nameStarts, t_nameLengths, t_token, t_start, t_after, t_fault, t_place)))
noncomputable def fX2_read_30  : Nat → (Nat → Int32) → (Nat → Int32) → (Nat → Int32) → (Nat → Int32) → (Nat → Int32) → Int32 → Int32 → Int32 → Int32 → (Nat → Int32) → (Nat → Int32) → (Nat → Int32) → Int32 → Int32 → Int32 → Int32 → Int32 → Int32 → Int32 → Int32 → Option (Int32 × (Nat → Int32) × (Nat → Int32) × (Nat → Int32) × (Nat → Int32) × (Nat → Int32) × Int32 × Int32 × Int32 × Int32 × (Nat → Int32) × (Nat → Int32) × Int32 × Int32 × Int32 × Int32 × Int32)
  | 0, _, _, _, _, _, _, _, _, _, _, _, _, _, _, _, _, _, _, _, _ => none
  | n + 1, t_draft_numbers, t_draft_cells, t_draft_rows, t_draft_sizes, t_draft_rooms, t_draft_told, t_draft_lines, t_draft_kinds, t_draft_acts, t_nameStarts, t_nameLengths, t_text_bytes, t_text_size, t_token, t_start, t_after, t_fault, t_place, v1, v2 => (if 600 < v2 then fX2_read_60 t_draft_numbers t_draft_cells t_draft_rows t_draft_sizes t_draft_rooms t_draft_told t_draft_lines t_draft_kinds t_draft_acts t_nameStarts t_nameLengths t_token t_start t_after t_fault t_place v1 else (if v1 = 0 then fX2_read_60 t_draft_numbers t_draft_cells t_draft_rows t_draft_sizes t_draft_rooms t_draft_told t_draft_lines t_draft_kinds t_draft_acts t_nameStarts t_nameLengths t_token t_start t_after t_fault t_place v1 else (if t_token = 5 then fX2_read_60 t_draft_numbers t_draft_cells t_draft_rows t_draft_sizes t_draft_rooms t_draft_told t_draft_lines t_draft_kinds t_draft_acts t_nameStarts t_nameLengths t_token t_start t_after t_fault t_place v1 else ob15 (fX2_readLine t_draft_numbers t_draft_cells t_draft_rows t_draft_sizes t_draft_rooms t_draft_lines t_draft_kinds t_nameStarts t_nameLengths t_text_bytes t_text_size t_token t_start t_after t_fault t_place) fun r19 w20 w21 w22 w23 w24 w25 w26 w27 w28 w29 w30 w31 w32 w33 => fX2_read_30 n w20 w21 w22 w23 w24 t_draft_told w25 w26 t_draft_acts w27 w28 t_text_bytes t_text_size w29 w30 w31 w32 w33 r19 (v2 + 1))))
theorem fX2_read_30_z  (t_draft_numbers : Nat → Int32) (t_draft_cells : Nat → Int32) (t_draft_rows : Nat → Int32) (t_draft_sizes : Nat → Int32) (t_draft_rooms : Nat → Int32) (t_draft_told : Int32) (t_draft_lines : Int32) (t_draft_kinds : Int32) (t_draft_acts : Int32) (t_nameStarts : Nat → Int32) (t_nameLengths : Nat → Int32) (t_text_bytes : Nat → Int32) (t_text_size : Int32) (t_token : Int32) (t_start : Int32) (t_after : Int32) (t_fault : Int32) (t_place : Int32) (v1 : Int32) (v2 : Int32) : fX2_read_30  0 t_draft_numbers t_draft_cells t_draft_rows t_draft_sizes t_draft_rooms t_draft_told t_draft_lines t_draft_kinds t_draft_acts t_nameStarts t_nameLengths t_text_bytes t_text_size t_token t_start t_after t_fault t_place v1 v2 = none := rfl
theorem fX2_read_30_s  (n : Nat) (t_draft_numbers : Nat → Int32) (t_draft_cells : Nat → Int32) (t_draft_rows : Nat → Int32) (t_draft_sizes : Nat → Int32) (t_draft_rooms : Nat → Int32) (t_draft_told : Int32) (t_draft_lines : Int32) (t_draft_kinds : Int32) (t_draft_acts : Int32) (t_nameStarts : Nat → Int32) (t_nameLengths : Nat → Int32) (t_text_bytes : Nat → Int32) (t_text_size : Int32) (t_token : Int32) (t_start : Int32) (t_after : Int32) (t_fault : Int32) (t_place : Int32) (v1 : Int32) (v2 : Int32) : fX2_read_30  (n + 1) t_draft_numbers t_draft_cells t_draft_rows t_draft_sizes t_draft_rooms t_draft_told t_draft_lines t_draft_kinds t_draft_acts t_nameStarts t_nameLengths t_text_bytes t_text_size t_token t_start t_after t_fault t_place v1 v2 = (if 600 < v2 then fX2_read_60 t_draft_numbers t_draft_cells t_draft_rows t_draft_sizes t_draft_rooms t_draft_told t_draft_lines t_draft_kinds t_draft_acts t_nameStarts t_nameLengths t_token t_start t_after t_fault t_place v1 else (if v1 = 0 then fX2_read_60 t_draft_numbers t_draft_cells t_draft_rows t_draft_sizes t_draft_rooms t_draft_told t_draft_lines t_draft_kinds t_draft_acts t_nameStarts t_nameLengths t_token t_start t_after t_fault t_place v1 else (if t_token = 5 then fX2_read_60 t_draft_numbers t_draft_cells t_draft_rows t_draft_sizes t_draft_rooms t_draft_told t_draft_lines t_draft_kinds t_draft_acts t_nameStarts t_nameLengths t_token t_start t_after t_fault t_place v1 else ob15 (fX2_readLine t_draft_numbers t_draft_cells t_draft_rows t_draft_sizes t_draft_rooms t_draft_lines t_draft_kinds t_nameStarts t_nameLengths t_text_bytes t_text_size t_token t_start t_after t_fault t_place) fun r19 w20 w21 w22 w23 w24 w25 w26 w27 w28 w29 w30 w31 w32 w33 => fX2_read_30 n w20 w21 w22 w23 w24 t_draft_told w25 w26 t_draft_acts w27 w28 t_text_bytes t_text_size w29 w30 w31 w32 w33 r19 (v2 + 1)))) := rfl
noncomputable def fX2_read  (t_draft_numbers : Nat → Int32) (t_draft_cells : Nat → Int32) (t_draft_rows : Nat → Int32) (t_draft_sizes : Nat → Int32) (t_draft_rooms : Nat → Int32) (t_draft_told : Int32) (t_draft_lines : Int32) (t_draft_kinds : Int32) (t_draft_acts : Int32) (t_nameStarts : Nat → Int32) (t_nameLengths : Nat → Int32) (t_text_bytes : Nat → Int32) (t_text_size : Int32) (t_token : Int32) (t_start : Int32) (t_after : Int32) (t_fault : Int32) (t_place : Int32) : Option (Int32 × (Nat → Int32) × (Nat → Int32) × (Nat → Int32) × (Nat → Int32) × (Nat → Int32) × Int32 × Int32 × Int32 × Int32 × (Nat → Int32) × (Nat → Int32) × Int32 × Int32 × Int32 × Int32 × Int32) := ob7 (fX1_clear t_draft_rows t_draft_sizes t_draft_rooms t_draft_told t_draft_lines t_draft_kinds t_draft_acts) fun w2 w3 w4 w5 w6 w7 w8 => ob3 (fX2_next t_text_bytes t_text_size t_token t_start 0) fun w11 w12 w13 => fX2_read_30 FU t_draft_numbers t_draft_cells w2 w3 w4 w5 w6 w7 w8 t_nameStarts t_nameLengths t_text_bytes t_text_size w11 w12 w13 0 (-1) 1 0
set_option maxHeartbeats 4000000 in
set_option maxRecDepth 100000 in
theorem ctX2_read (l : Launch) (g : GT) (sz : Nat) (a_t : Nat → Nat) (a_t_draft : Nat → Nat) (a_t_text : Nat → Nat) (t_token : Int32) (t_start : Int32) (t_after : Int32) (t_fault : Int32) (t_place : Int32) (t_draft_told : Int32) (t_draft_lines : Int32) (t_draft_kinds : Int32) (t_draft_acts : Int32) (t_draft_numbers : Nat → Int32) (t_draft_cells : Nat → Int32) (t_draft_rows : Nat → Int32) (t_draft_sizes : Nat → Int32) (t_draft_rooms : Nat → Int32) (t_nameStarts : Nat → Int32) (t_nameLengths : Nat → Int32) (t_text_size : Int32) (t_text_bytes : Nat → Int32) (o : Int32) (o_t_draft_numbers : Nat → Int32) (o_t_draft_cells : Nat → Int32) (o_t_draft_rows : Nat → Int32) (o_t_draft_sizes : Nat → Int32) (o_t_draft_rooms : Nat → Int32) (o_t_draft_told : Int32) (o_t_draft_lines : Int32) (o_t_draft_kinds : Int32) (o_t_draft_acts : Int32) (o_t_nameStarts : Nat → Int32) (o_t_nameLengths : Nat → Int32) (o_t_token : Int32) (o_t_start : Int32) (o_t_after : Int32) (o_t_fault : Int32) (o_t_place : Int32) (h : fX2_read t_draft_numbers t_draft_cells t_draft_rows t_draft_sizes t_draft_rooms t_draft_told t_draft_lines t_draft_kinds t_draft_acts t_nameStarts t_nameLengths t_text_bytes t_text_size t_token t_start t_after t_fault t_place = some (o, o_t_draft_numbers, o_t_draft_cells, o_t_draft_rows, o_t_draft_sizes, o_t_draft_rooms, o_t_draft_told, o_t_draft_lines, o_t_draft_kinds, o_t_draft_acts, o_t_nameStarts, o_t_nameLengths, o_t_token, o_t_start, o_t_after, o_t_fault, o_t_place)) : Met l yX2_read (Cond.code yX2_read cX2_read 3 (some .boolean) :: Tw) ⟨13, 0, 0, 261⟩ (va_Pc [.ref ((a_t 0))] (rwB g [((a_t 0), .inr (2, [.ref (a_t_draft 0), .ref (a_t 2), .ref (a_t 3), .ref (a_t_text 0), .int t_token, .int t_start, .int t_after, .int t_fault, .int t_place])), ((a_t_draft 0), .inr (1, [.ref (a_t_draft 1), .ref (a_t_draft 2), .ref (a_t_draft 3), .ref (a_t_draft 4), .ref (a_t_draft 5), .int t_draft_told, .int t_draft_lines, .int t_draft_kinds, .int t_draft_acts])), ((a_t_draft 1), .inl (g.2.2.1 0, 15, .inl t_draft_numbers)), ((a_t_draft 2), .inl (g.2.2.1 0, 144, .inl t_draft_cells)), ((a_t_draft 3), .inl (g.2.2.1 0, 31, .inl t_draft_rows)), ((a_t_draft 4), .inl (g.2.2.1 0, 31, .inl t_draft_sizes)), ((a_t_draft 5), .inl (g.2.2.1 0, 31, .inl t_draft_rooms)), ((a_t 2), .inl (g.2.2.1 0, 3, .inl t_nameStarts)), ((a_t 3), .inl (g.2.2.1 0, 3, .inl t_nameLengths)), ((a_t_text 0), .inr (4, [.ref (a_t_text 1), .int t_text_size])), ((a_t_text 1), .inl (g.2.2.1 2, 600, .inl t_text_bytes))] sz)) (va_Qi (fun x (_ : Nat → Nat) => x = o ∧ (x = 0 ∨ x = 1)) (fun u => rwE g (va_A [((a_t 0), .inr (2, [.ref (a_t_draft 0), .ref (a_t 2), .ref (a_t 3), .ref (a_t_text 0), .int t_token, .int t_start, .int t_after, .int t_fault, .int t_place])), ((a_t_draft 0), .inr (1, [.ref (a_t_draft 1), .ref (a_t_draft 2), .ref (a_t_draft 3), .ref (a_t_draft 4), .ref (a_t_draft 5), .int t_draft_told, .int t_draft_lines, .int t_draft_kinds, .int t_draft_acts])), ((a_t_draft 1), .inl (g.2.2.1 0, 15, .inl t_draft_numbers)), ((a_t_draft 2), .inl (g.2.2.1 0, 144, .inl t_draft_cells)), ((a_t_draft 3), .inl (g.2.2.1 0, 31, .inl t_draft_rows)), ((a_t_draft 4), .inl (g.2.2.1 0, 31, .inl t_draft_sizes)), ((a_t_draft 5), .inl (g.2.2.1 0, 31, .inl t_draft_rooms)), ((a_t 2), .inl (g.2.2.1 0, 3, .inl t_nameStarts)), ((a_t 3), .inl (g.2.2.1 0, 3, .inl t_nameLengths)), ((a_t_text 0), .inr (4, [.ref (a_t_text 1), .int t_text_size])), ((a_t_text 1), .inl (g.2.2.1 2, 600, .inl t_text_bytes))] sz) [((a_t 0), .inr (2, [.ref (a_t_draft 0), .ref (a_t 2), .ref (a_t 3), .ref (a_t_text 0), .int o_t_token, .int o_t_start, .int o_t_after, .int o_t_fault, .int o_t_place])), ((a_t_draft 0), .inr (1, [.ref (a_t_draft 1), .ref (a_t_draft 2), .ref (a_t_draft 3), .ref (a_t_draft 4), .ref (a_t_draft 5), .int o_t_draft_told, .int o_t_draft_lines, .int o_t_draft_kinds, .int o_t_draft_acts])), ((a_t_draft 1), .inl (g.2.2.1 0, 15, .inl o_t_draft_numbers)), ((a_t_draft 2), .inl (g.2.2.1 0, 144, .inl o_t_draft_cells)), ((a_t_draft 3), .inl (g.2.2.1 0, 31, .inl o_t_draft_rows)), ((a_t_draft 4), .inl (g.2.2.1 0, 31, .inl o_t_draft_sizes)), ((a_t_draft 5), .inl (g.2.2.1 0, 31, .inl o_t_draft_rooms)), ((a_t 2), .inl (g.2.2.1 0, 3, .inl o_t_nameStarts)), ((a_t 3), .inl (g.2.2.1 0, 3, .inl o_t_nameLengths)), ((a_t_text 0), .inr (4, [.ref (a_t_text 1), .int t_text_size])), ((a_t_text 1), .inl (g.2.2.1 2, 600, .inl t_text_bytes))]) (va_A [((a_t 0), .inr (2, [.ref (a_t_draft 0), .ref (a_t 2), .ref (a_t 3), .ref (a_t_text 0), .int t_token, .int t_start, .int t_after, .int t_fault, .int t_place])), ((a_t_draft 0), .inr (1, [.ref (a_t_draft 1), .ref (a_t_draft 2), .ref (a_t_draft 3), .ref (a_t_draft 4), .ref (a_t_draft 5), .int t_draft_told, .int t_draft_lines, .int t_draft_kinds, .int t_draft_acts])), ((a_t_draft 1), .inl (g.2.2.1 0, 15, .inl t_draft_numbers)), ((a_t_draft 2), .inl (g.2.2.1 0, 144, .inl t_draft_cells)), ((a_t_draft 3), .inl (g.2.2.1 0, 31, .inl t_draft_rows)), ((a_t_draft 4), .inl (g.2.2.1 0, 31, .inl t_draft_sizes)), ((a_t_draft 5), .inl (g.2.2.1 0, 31, .inl t_draft_rooms)), ((a_t 2), .inl (g.2.2.1 0, 3, .inl t_nameStarts)), ((a_t 3), .inl (g.2.2.1 0, 3, .inl t_nameLengths)), ((a_t_text 0), .inr (4, [.ref (a_t_text 1), .int t_text_size])), ((a_t_text 1), .inl (g.2.2.1 2, 600, .inl t_text_bytes))] sz)) 0 0 (va_A [((a_t 0), .inr (2, [.ref (a_t_draft 0), .ref (a_t 2), .ref (a_t 3), .ref (a_t_text 0), .int t_token, .int t_start, .int t_after, .int t_fault, .int t_place])), ((a_t_draft 0), .inr (1, [.ref (a_t_draft 1), .ref (a_t_draft 2), .ref (a_t_draft 3), .ref (a_t_draft 4), .ref (a_t_draft 5), .int t_draft_told, .int t_draft_lines, .int t_draft_kinds, .int t_draft_acts])), ((a_t_draft 1), .inl (g.2.2.1 0, 15, .inl t_draft_numbers)), ((a_t_draft 2), .inl (g.2.2.1 0, 144, .inl t_draft_cells)), ((a_t_draft 3), .inl (g.2.2.1 0, 31, .inl t_draft_rows)), ((a_t_draft 4), .inl (g.2.2.1 0, 31, .inl t_draft_sizes)), ((a_t_draft 5), .inl (g.2.2.1 0, 31, .inl t_draft_rooms)), ((a_t 2), .inl (g.2.2.1 0, 3, .inl t_nameStarts)), ((a_t 3), .inl (g.2.2.1 0, 3, .inl t_nameLengths)), ((a_t_text 0), .inr (4, [.ref (a_t_text 1), .int t_text_size])), ((a_t_text 1), .inl (g.2.2.1 2, 600, .inl t_text_bytes))] sz) := by
  refine rw_metz (by decide) (Nat.le_of_ble_eq_true rfl) (lv0 := [(0, .ref ((a_t 0)))]) rfl ?_
  intro p e s m args below meth c ls Q A cx hret hG hAb hb0 hA hP hD hl
  have hx := cx.1
  have hb := cx.2.1
  have hG0 := hG
  have hGk : ∀ {H : Heap} {locs : List Loc}, va_S A s.heap H locs → GE g s H := fun hS => hG0.keptS hAb hS
  have hSb : ∀ {H : Heap} {locs : List Loc}, va_S A s.heap H locs → va_S (fun a => g.1 ≤ a) s.heap H locs := fun hS => ⟨hS.1, fun q h1 h2 => hS.2.1 q h1 (fun z => h2 (hAb q z)), fun l hl => hAb _ (hS.2.2 l hl)⟩
  have hS : va_S A s.heap s.heap [] := va_S.rf
  have hrt : ∀ (u : Nat → Nat) (pc : Nat) (ls : Array Slot) (v : Int32) (x_t_draft_numbers : Nat → Int32) (x_t_draft_cells : Nat → Int32) (x_t_draft_rows : Nat → Int32) (x_t_draft_sizes : Nat → Int32) (x_t_draft_rooms : Nat → Int32) (x_t_draft_told : Int32) (x_t_draft_lines : Int32) (x_t_draft_kinds : Int32) (x_t_draft_acts : Int32) (x_t_nameStarts : Nat → Int32) (x_t_nameLengths : Nat → Int32) (x_t_token : Int32) (x_t_start : Int32) (x_t_after : Int32) (x_t_fault : Int32) (x_t_place : Int32) (H : Heap) (locs : List Loc), decode cX2_read pc = .ok (.ireturn, 1) → (v = 0 ∨ v = 1) → some (v, x_t_draft_numbers, x_t_draft_cells, x_t_draft_rows, x_t_draft_sizes, x_t_draft_rooms, x_t_draft_told, x_t_draft_lines, x_t_draft_kinds, x_t_draft_acts, x_t_nameStarts, x_t_nameLengths, x_t_token, x_t_start, x_t_after, x_t_fault, x_t_place) = some (o, o_t_draft_numbers, o_t_draft_cells, o_t_draft_rows, o_t_draft_sizes, o_t_draft_rooms, o_t_draft_told, o_t_draft_lines, o_t_draft_kinds, o_t_draft_acts, o_t_nameStarts, o_t_nameLengths, o_t_token, o_t_start, o_t_after, o_t_fault, o_t_place) → va_P g.2.1 vwCl [((a_t 0), .inr (2, [.ref (a_t_draft 0), .ref (a_t 2), .ref (a_t 3), .ref (a_t_text 0), .int x_t_token, .int x_t_start, .int x_t_after, .int x_t_fault, .int x_t_place])), ((a_t_draft 0), .inr (1, [.ref (a_t_draft 1), .ref (a_t_draft 2), .ref (a_t_draft 3), .ref (a_t_draft 4), .ref (a_t_draft 5), .int x_t_draft_told, .int x_t_draft_lines, .int x_t_draft_kinds, .int x_t_draft_acts])), ((a_t_draft 1), .inl (g.2.2.1 0, 15, .inl x_t_draft_numbers)), ((a_t_draft 2), .inl (g.2.2.1 0, 144, .inl x_t_draft_cells)), ((a_t_draft 3), .inl (g.2.2.1 0, 31, .inl x_t_draft_rows)), ((a_t_draft 4), .inl (g.2.2.1 0, 31, .inl x_t_draft_sizes)), ((a_t_draft 5), .inl (g.2.2.1 0, 31, .inl x_t_draft_rooms)), ((a_t 2), .inl (g.2.2.1 0, 3, .inl x_t_nameStarts)), ((a_t 3), .inl (g.2.2.1 0, 3, .inl x_t_nameLengths)), ((a_t_text 0), .inr (4, [.ref (a_t_text 1), .int t_text_size])), ((a_t_text 1), .inl (g.2.2.1 2, 600, .inl t_text_bytes))] H → va_D A [((a_t 0), .inr (2, [.ref (a_t_draft 0), .ref (a_t 2), .ref (a_t 3), .ref (a_t_text 0), .int x_t_token, .int x_t_start, .int x_t_after, .int x_t_fault, .int x_t_place])), ((a_t_draft 0), .inr (1, [.ref (a_t_draft 1), .ref (a_t_draft 2), .ref (a_t_draft 3), .ref (a_t_draft 4), .ref (a_t_draft 5), .int x_t_draft_told, .int x_t_draft_lines, .int x_t_draft_kinds, .int x_t_draft_acts])), ((a_t_draft 1), .inl (g.2.2.1 0, 15, .inl x_t_draft_numbers)), ((a_t_draft 2), .inl (g.2.2.1 0, 144, .inl x_t_draft_cells)), ((a_t_draft 3), .inl (g.2.2.1 0, 31, .inl x_t_draft_rows)), ((a_t_draft 4), .inl (g.2.2.1 0, 31, .inl x_t_draft_sizes)), ((a_t_draft 5), .inl (g.2.2.1 0, 31, .inl x_t_draft_rooms)), ((a_t 2), .inl (g.2.2.1 0, 3, .inl x_t_nameStarts)), ((a_t 3), .inl (g.2.2.1 0, 3, .inl x_t_nameLengths)), ((a_t_text 0), .inr (4, [.ref (a_t_text 1), .int t_text_size])), ((a_t_text 1), .inl (g.2.2.1 2, 600, .inl t_text_bytes))] → va_S A s.heap H locs → W p l e ⟨13, 0, 0, 261⟩ s m args below meth c H locs 0 0 Q (F0 m pc ls [.int v]) := by
    intro u pc ls v x_t_draft_numbers x_t_draft_cells x_t_draft_rows x_t_draft_sizes x_t_draft_rooms x_t_draft_told x_t_draft_lines x_t_draft_kinds x_t_draft_acts x_t_nameStarts x_t_nameLengths x_t_token x_t_start x_t_after x_t_fault x_t_place H locs hd hz h hP hD hS
    cases h
    exact hret u _ _ _ _ _ hd hz rfl hP hD hS
  have w60 : ∀ (t_draft_numbers : Nat → Int32) (t_draft_cells : Nat → Int32) (t_draft_rows : Nat → Int32) (t_draft_sizes : Nat → Int32) (t_draft_rooms : Nat → Int32) (t_draft_told : Int32) (t_draft_lines : Int32) (t_draft_kinds : Int32) (t_draft_acts : Int32) (t_nameStarts : Nat → Int32) (t_nameLengths : Nat → Int32) (t_token : Int32) (t_start : Int32) (t_after : Int32) (t_fault : Int32) (t_place : Int32) (v1 : Int32) (H : Heap) (locs : List Loc), va_P g.2.1 vwCl [((a_t 0), .inr (2, [.ref (a_t_draft 0), .ref (a_t 2), .ref (a_t 3), .ref (a_t_text 0), .int t_token, .int t_start, .int t_after, .int t_fault, .int t_place])), ((a_t_draft 0), .inr (1, [.ref (a_t_draft 1), .ref (a_t_draft 2), .ref (a_t_draft 3), .ref (a_t_draft 4), .ref (a_t_draft 5), .int t_draft_told, .int t_draft_lines, .int t_draft_kinds, .int t_draft_acts])), ((a_t_draft 1), .inl (g.2.2.1 0, 15, .inl t_draft_numbers)), ((a_t_draft 2), .inl (g.2.2.1 0, 144, .inl t_draft_cells)), ((a_t_draft 3), .inl (g.2.2.1 0, 31, .inl t_draft_rows)), ((a_t_draft 4), .inl (g.2.2.1 0, 31, .inl t_draft_sizes)), ((a_t_draft 5), .inl (g.2.2.1 0, 31, .inl t_draft_rooms)), ((a_t 2), .inl (g.2.2.1 0, 3, .inl t_nameStarts)), ((a_t 3), .inl (g.2.2.1 0, 3, .inl t_nameLengths)), ((a_t_text 0), .inr (4, [.ref (a_t_text 1), .int t_text_size])), ((a_t_text 1), .inl (g.2.2.1 2, 600, .inl t_text_bytes))] H → va_D A [((a_t 0), .inr (2, [.ref (a_t_draft 0), .ref (a_t 2), .ref (a_t 3), .ref (a_t_text 0), .int t_token, .int t_start, .int t_after, .int t_fault, .int t_place])), ((a_t_draft 0), .inr (1, [.ref (a_t_draft 1), .ref (a_t_draft 2), .ref (a_t_draft 3), .ref (a_t_draft 4), .ref (a_t_draft 5), .int t_draft_told, .int t_draft_lines, .int t_draft_kinds, .int t_draft_acts])), ((a_t_draft 1), .inl (g.2.2.1 0, 15, .inl t_draft_numbers)), ((a_t_draft 2), .inl (g.2.2.1 0, 144, .inl t_draft_cells)), ((a_t_draft 3), .inl (g.2.2.1 0, 31, .inl t_draft_rows)), ((a_t_draft 4), .inl (g.2.2.1 0, 31, .inl t_draft_sizes)), ((a_t_draft 5), .inl (g.2.2.1 0, 31, .inl t_draft_rooms)), ((a_t 2), .inl (g.2.2.1 0, 3, .inl t_nameStarts)), ((a_t 3), .inl (g.2.2.1 0, 3, .inl t_nameLengths)), ((a_t_text 0), .inr (4, [.ref (a_t_text 1), .int t_text_size])), ((a_t_text 1), .inl (g.2.2.1 2, 600, .inl t_text_bytes))] → va_S A s.heap H locs → ∀ (ls : Array Slot), lv_has ls 3 [(0, .ref ((a_t 0))), (1, .int v1)] → fX2_read_60  t_draft_numbers t_draft_cells t_draft_rows t_draft_sizes t_draft_rooms t_draft_told t_draft_lines t_draft_kinds t_draft_acts t_nameStarts t_nameLengths t_token t_start t_after t_fault t_place v1 = some (o, o_t_draft_numbers, o_t_draft_cells, o_t_draft_rows, o_t_draft_sizes, o_t_draft_rooms, o_t_draft_told, o_t_draft_lines, o_t_draft_kinds, o_t_draft_acts, o_t_nameStarts, o_t_nameLengths, o_t_token, o_t_start, o_t_after, o_t_fault, o_t_place) → W p l e ⟨13, 0, 0, 261⟩ s m args below meth c H locs 0 0 Q (F0 m 60 ls []) := by
    intro t_draft_numbers t_draft_cells t_draft_rows t_draft_sizes t_draft_rooms t_draft_told t_draft_lines t_draft_kinds t_draft_acts t_nameStarts t_nameLengths t_token t_start t_after t_fault t_place v1 H locs hP hD hS ls hl h
    unfold fX2_read_60 at h
    have hG := hGk hS
    refine lv_aload_n hx hb dX2_read_60 rfl (lv_at hl 0 rfl) ?_
    refine xa_get (C := RX2) (T := TX2) (N := 9) cx hG hP 0 rfl rfl uX2 0 (by decide) lf_X2_12 rfl dX2_read_61 ?_
    refine lv_aload_n hx hb dX2_read_64 rfl (lv_at hl 0 rfl) ?_
    refine xa_get (C := RX2) (T := TX2) (N := 9) cx hG hP 0 rfl rfl uX2 0 (by decide) lf_X2_12 rfl dX2_read_65 ?_
    refine xa_getN (C := RX1) (T := TX1) (N := 9) cx hG hP 1 rfl rfl uX1 6 (by decide) nf_6 rfl dX2_read_68 ?_
    refine lv_if_le (tgt := 78) hx hb dX2_read_71 (by decide) (fun c36 => ?_) (fun c36 => ?_)
    · have h := itp c36 h
      refine lv_iconst (v := 0) hx hb dX2_read_78 (by decide) ?_
      refine xw_putN (C := RX1) (T := TX1) (N := 9) (ty := .boolean) (v := .int (0)) (ws' := [((a_t 0), .inr (2, [.ref (a_t_draft 0), .ref (a_t 2), .ref (a_t 3), .ref (a_t_text 0), .int t_token, .int t_start, .int t_after, .int t_fault, .int t_place])), ((a_t_draft 0), .inr (1, [.ref (a_t_draft 1), .ref (a_t_draft 2), .ref (a_t_draft 3), .ref (a_t_draft 4), .ref (a_t_draft 5), .int 0, .int t_draft_lines, .int t_draft_kinds, .int t_draft_acts])), ((a_t_draft 1), .inl (g.2.2.1 0, 15, .inl t_draft_numbers)), ((a_t_draft 2), .inl (g.2.2.1 0, 144, .inl t_draft_cells)), ((a_t_draft 3), .inl (g.2.2.1 0, 31, .inl t_draft_rows)), ((a_t_draft 4), .inl (g.2.2.1 0, 31, .inl t_draft_sizes)), ((a_t_draft 5), .inl (g.2.2.1 0, 31, .inl t_draft_rooms)), ((a_t 2), .inl (g.2.2.1 0, 3, .inl t_nameStarts)), ((a_t 3), .inl (g.2.2.1 0, 3, .inl t_nameLengths)), ((a_t_text 0), .inr (4, [.ref (a_t_text 1), .int t_text_size])), ((a_t_text 1), .inl (g.2.2.1 2, 600, .inl t_text_bytes))]) cx hG hP hD hS 1 rfl rfl uX1 tyX1 tyX1_ok nmX1 5 (by decide) nf_4 rfl (by decide +kernel) rfl rfl (Nat.le_of_ble_eq_true rfl) rfl dX2_read_79 (fun H locs hP hD hS => ?_)
      have hG := hGk hS
      refine lv_iload_n hx hb dX2_read_82 rfl (lv_at hl 1 rfl) ?_
      obtain ⟨hb37, h⟩ := zb_out h
      exact hrt (fun _ => 0) _ _ v1 t_draft_numbers t_draft_cells t_draft_rows t_draft_sizes t_draft_rooms (0) t_draft_lines t_draft_kinds t_draft_acts t_nameStarts t_nameLengths t_token t_start t_after t_fault t_place _ _ dX2_read_83 hb37 h (hP.sub [0, 1, 2, 3, 4, 5, 6, 7, 8, 9, 10] rfl) (hD.sub [0, 1, 2, 3, 4, 5, 6, 7, 8, 9, 10] (by decide) rfl) hS
    · have h := itn c36 h
      refine lv_iconst (v := 1) hx hb dX2_read_74 (by decide) ?_
      refine lv_goto (tgt := 79) hx hb dX2_read_75 (by decide) ?_
      refine xw_putN (C := RX1) (T := TX1) (N := 9) (ty := .boolean) (v := .int (1)) (ws' := [((a_t 0), .inr (2, [.ref (a_t_draft 0), .ref (a_t 2), .ref (a_t 3), .ref (a_t_text 0), .int t_token, .int t_start, .int t_after, .int t_fault, .int t_place])), ((a_t_draft 0), .inr (1, [.ref (a_t_draft 1), .ref (a_t_draft 2), .ref (a_t_draft 3), .ref (a_t_draft 4), .ref (a_t_draft 5), .int 1, .int t_draft_lines, .int t_draft_kinds, .int t_draft_acts])), ((a_t_draft 1), .inl (g.2.2.1 0, 15, .inl t_draft_numbers)), ((a_t_draft 2), .inl (g.2.2.1 0, 144, .inl t_draft_cells)), ((a_t_draft 3), .inl (g.2.2.1 0, 31, .inl t_draft_rows)), ((a_t_draft 4), .inl (g.2.2.1 0, 31, .inl t_draft_sizes)), ((a_t_draft 5), .inl (g.2.2.1 0, 31, .inl t_draft_rooms)), ((a_t 2), .inl (g.2.2.1 0, 3, .inl t_nameStarts)), ((a_t 3), .inl (g.2.2.1 0, 3, .inl t_nameLengths)), ((a_t_text 0), .inr (4, [.ref (a_t_text 1), .int t_text_size])), ((a_t_text 1), .inl (g.2.2.1 2, 600, .inl t_text_bytes))]) cx hG hP hD hS 1 rfl rfl uX1 tyX1 tyX1_ok nmX1 5 (by decide) nf_4 rfl (by decide +kernel) rfl rfl (Nat.le_of_ble_eq_true rfl) rfl dX2_read_79 (fun H locs hP hD hS => ?_)
      have hG := hGk hS
      refine lv_iload_n hx hb dX2_read_82 rfl (lv_at hl 1 rfl) ?_
      obtain ⟨hb38, h⟩ := zb_out h
      exact hrt (fun _ => 0) _ _ v1 t_draft_numbers t_draft_cells t_draft_rows t_draft_sizes t_draft_rooms (1) t_draft_lines t_draft_kinds t_draft_acts t_nameStarts t_nameLengths t_token t_start t_after t_fault t_place _ _ dX2_read_83 hb38 h (hP.sub [0, 1, 2, 3, 4, 5, 6, 7, 8, 9, 10] rfl) (hD.sub [0, 1, 2, 3, 4, 5, 6, 7, 8, 9, 10] (by decide) rfl) hS
  have w30 : ∀ (n : Nat) (t_draft_numbers : Nat → Int32) (t_draft_cells : Nat → Int32) (t_draft_rows : Nat → Int32) (t_draft_sizes : Nat → Int32) (t_draft_rooms : Nat → Int32) (t_draft_told : Int32) (t_draft_lines : Int32) (t_draft_kinds : Int32) (t_draft_acts : Int32) (t_nameStarts : Nat → Int32) (t_nameLengths : Nat → Int32) (t_token : Int32) (t_start : Int32) (t_after : Int32) (t_fault : Int32) (t_place : Int32) (v1 : Int32) (v2 : Int32) (H : Heap) (locs : List Loc), va_P g.2.1 vwCl [((a_t 0), .inr (2, [.ref (a_t_draft 0), .ref (a_t 2), .ref (a_t 3), .ref (a_t_text 0), .int t_token, .int t_start, .int t_after, .int t_fault, .int t_place])), ((a_t_draft 0), .inr (1, [.ref (a_t_draft 1), .ref (a_t_draft 2), .ref (a_t_draft 3), .ref (a_t_draft 4), .ref (a_t_draft 5), .int t_draft_told, .int t_draft_lines, .int t_draft_kinds, .int t_draft_acts])), ((a_t_draft 1), .inl (g.2.2.1 0, 15, .inl t_draft_numbers)), ((a_t_draft 2), .inl (g.2.2.1 0, 144, .inl t_draft_cells)), ((a_t_draft 3), .inl (g.2.2.1 0, 31, .inl t_draft_rows)), ((a_t_draft 4), .inl (g.2.2.1 0, 31, .inl t_draft_sizes)), ((a_t_draft 5), .inl (g.2.2.1 0, 31, .inl t_draft_rooms)), ((a_t 2), .inl (g.2.2.1 0, 3, .inl t_nameStarts)), ((a_t 3), .inl (g.2.2.1 0, 3, .inl t_nameLengths)), ((a_t_text 0), .inr (4, [.ref (a_t_text 1), .int t_text_size])), ((a_t_text 1), .inl (g.2.2.1 2, 600, .inl t_text_bytes))] H → va_D A [((a_t 0), .inr (2, [.ref (a_t_draft 0), .ref (a_t 2), .ref (a_t 3), .ref (a_t_text 0), .int t_token, .int t_start, .int t_after, .int t_fault, .int t_place])), ((a_t_draft 0), .inr (1, [.ref (a_t_draft 1), .ref (a_t_draft 2), .ref (a_t_draft 3), .ref (a_t_draft 4), .ref (a_t_draft 5), .int t_draft_told, .int t_draft_lines, .int t_draft_kinds, .int t_draft_acts])), ((a_t_draft 1), .inl (g.2.2.1 0, 15, .inl t_draft_numbers)), ((a_t_draft 2), .inl (g.2.2.1 0, 144, .inl t_draft_cells)), ((a_t_draft 3), .inl (g.2.2.1 0, 31, .inl t_draft_rows)), ((a_t_draft 4), .inl (g.2.2.1 0, 31, .inl t_draft_sizes)), ((a_t_draft 5), .inl (g.2.2.1 0, 31, .inl t_draft_rooms)), ((a_t 2), .inl (g.2.2.1 0, 3, .inl t_nameStarts)), ((a_t 3), .inl (g.2.2.1 0, 3, .inl t_nameLengths)), ((a_t_text 0), .inr (4, [.ref (a_t_text 1), .int t_text_size])), ((a_t_text 1), .inl (g.2.2.1 2, 600, .inl t_text_bytes))] → va_S A s.heap H locs → ∀ (ls : Array Slot), lv_has ls 3 [(0, .ref ((a_t 0))), (1, .int v1), (2, .int v2)] → fX2_read_30  n t_draft_numbers t_draft_cells t_draft_rows t_draft_sizes t_draft_rooms t_draft_told t_draft_lines t_draft_kinds t_draft_acts t_nameStarts t_nameLengths t_text_bytes t_text_size t_token t_start t_after t_fault t_place v1 v2 = some (o, o_t_draft_numbers, o_t_draft_cells, o_t_draft_rows, o_t_draft_sizes, o_t_draft_rooms, o_t_draft_told, o_t_draft_lines, o_t_draft_kinds, o_t_draft_acts, o_t_nameStarts, o_t_nameLengths, o_t_token, o_t_start, o_t_after, o_t_fault, o_t_place) → W p l e ⟨13, 0, 0, 261⟩ s m args below meth c H locs 0 0 Q (F0 m 30 ls []) := by
    intro n
    induction n with
    | zero => intro t_draft_numbers t_draft_cells t_draft_rows t_draft_sizes t_draft_rooms t_draft_told t_draft_lines t_draft_kinds t_draft_acts t_nameStarts t_nameLengths t_token t_start t_after t_fault t_place v1 v2 H locs hP hD hS ls hl h; cases (fX2_read_30_z  t_draft_numbers t_draft_cells t_draft_rows t_draft_sizes t_draft_rooms t_draft_told t_draft_lines t_draft_kinds t_draft_acts t_nameStarts t_nameLengths t_text_bytes t_text_size t_token t_start t_after t_fault t_place v1 v2).symm.trans h
    | succ n ih =>
    intro t_draft_numbers t_draft_cells t_draft_rows t_draft_sizes t_draft_rooms t_draft_told t_draft_lines t_draft_kinds t_draft_acts t_nameStarts t_nameLengths t_token t_start t_after t_fault t_place v1 v2 H locs hP hD hS ls hl h
    have h := (fX2_read_30_s  n t_draft_numbers t_draft_cells t_draft_rows t_draft_sizes t_draft_rooms t_draft_told t_draft_lines t_draft_kinds t_draft_acts t_nameStarts t_nameLengths t_text_bytes t_text_size t_token t_start t_after t_fault t_place v1 v2).symm.trans h
    have hG := hGk hS
    refine lv_iload_n hx hb dX2_read_30 rfl (lv_at hl 2 rfl) ?_
    refine lv_sipush (v := 600) hx hb dX2_read_31 (by decide) ?_
    refine lv_icmp_gt (tgt := 60) hx hb dX2_read_34 (by decide) (fun c15 => ?_) (fun c15 => ?_)
    · have h := itp c15 h
      exact w60 t_draft_numbers t_draft_cells t_draft_rows t_draft_sizes t_draft_rooms t_draft_told t_draft_lines t_draft_kinds t_draft_acts t_nameStarts t_nameLengths t_token t_start t_after t_fault t_place v1 _ _ hP hD hS _ (lv_sub hl [0, 1] rfl) h
    · have h := itn c15 h
      refine lv_iload_n hx hb dX2_read_37 rfl (lv_at hl 1 rfl) ?_
      refine lv_if_eq (tgt := 60) hx hb dX2_read_38 (by decide) (fun c16 => ?_) (fun c16 => ?_)
      · have h := itp c16 h
        exact w60 t_draft_numbers t_draft_cells t_draft_rows t_draft_sizes t_draft_rooms t_draft_told t_draft_lines t_draft_kinds t_draft_acts t_nameStarts t_nameLengths t_token t_start t_after t_fault t_place v1 _ _ hP hD hS _ (lv_sub hl [0, 1] rfl) h
      · have h := itn c16 h
        refine lv_aload_n hx hb dX2_read_41 rfl (lv_at hl 0 rfl) ?_
        refine xa_get (C := RX2) (T := TX2) (N := 9) cx hG hP 0 rfl rfl uX2 4 (by decide) lf_X2_45 rfl dX2_read_42 ?_
        refine lv_iconst (v := 5) hx hb dX2_read_45 (by decide) ?_
        refine lv_icmp_eq (tgt := 60) hx hb dX2_read_46 (by decide) (fun c17 => ?_) (fun c17 => ?_)
        · have h := itp c17 h
          exact w60 t_draft_numbers t_draft_cells t_draft_rows t_draft_sizes t_draft_rooms t_draft_told t_draft_lines t_draft_kinds t_draft_acts t_nameStarts t_nameLengths t_token t_start t_after t_fault t_place v1 _ _ hP hD hS _ (lv_sub hl [0, 1] rfl) h
        · have h := itn c17 h
          refine lv_aload_n hx hb dX2_read_49 rfl (lv_at hl 0 rfl) ?_
          obtain ⟨r19, w20, w21, w22, w23, w24, w25, w26, w27, w28, w29, w30, w31, w32, w33, hr18, h⟩ := ob15_out h
          refine rw_z (WN := fun u34 => [((a_t 0), .inr (2, [.ref (a_t_draft 0), .ref (a_t 2), .ref (a_t 3), .ref (a_t_text 0), .int w29, .int w30, .int w31, .int w32, .int w33])), ((a_t_draft 0), .inr (1, [.ref (a_t_draft 1), .ref (a_t_draft 2), .ref (a_t_draft 3), .ref (a_t_draft 4), .ref (a_t_draft 5), .int t_draft_told, .int w25, .int w26, .int t_draft_acts])), ((a_t_draft 1), .inl (g.2.2.1 0, 15, .inl w20)), ((a_t_draft 2), .inl (g.2.2.1 0, 144, .inl w21)), ((a_t_draft 3), .inl (g.2.2.1 0, 31, .inl w22)), ((a_t_draft 4), .inl (g.2.2.1 0, 31, .inl w23)), ((a_t_draft 5), .inl (g.2.2.1 0, 31, .inl w24)), ((a_t 2), .inl (g.2.2.1 0, 3, .inl w27)), ((a_t 3), .inl (g.2.2.1 0, 3, .inl w28)), ((a_t_text 0), .inr (4, [.ref (a_t_text 1), .int t_text_size])), ((a_t_text 1), .inl (g.2.2.1 2, 600, .inl t_text_bytes))]) (wr := []) (runV (As := []) (rest := []) cx hl.1 (ctX2_readLine l g H.size a_t a_t_draft a_t_text t_token t_start t_after t_fault t_place t_draft_told t_draft_lines t_draft_kinds t_draft_acts t_draft_numbers t_draft_cells t_draft_rows t_draft_sizes t_draft_rooms t_nameStarts t_nameLengths t_text_size t_text_bytes r19 w20 w21 w22 w23 w24 w25 w26 w27 w28 w29 w30 w31 w32 w33 hr18) kmX2_readLine kvX2_readLine lm_X2_48 ⟨rfl, rfl⟩ ⟨Nat.le_of_ble_eq_true rfl, Nat.le_of_ble_eq_true rfl⟩ (rwV (q0 := 0) (ci := 2) hG (hP.sub [0, 1, 2, 3, 4, 5, 6, 7, 8, 9, 10] rfl) (hD.sub [0, 1, 2, 3, 4, 5, 6, 7, 8, 9, 10] (by decide) rfl) hAb hb0 hS hP rfl rfl) rfl rfl (Nat.le_of_ble_eq_true rfl) dX2_read_50 ⟨Nat.le_of_ble_eq_true rfl, Nat.le_of_ble_eq_true rfl⟩) hP hD hS hA [0, 1, 2, 3, 4, 5, 6, 7, 8, 9, 10] [] rfl rfl (by decide) (by decide) (fun _ => rfl) (fun hz35 u34 H locs hP hD hS => ?_)
          have hG := hGk hS
          refine lv_istore_n (lv' := [(1, .int r19), (0, .ref ((a_t 0))), (2, .int v2)]) hx hb dX2_read_53 rfl hl (by decide) rfl (fun ls hl => ?_)
          refine lv_iinc (v := v2 + 1) (lv' := [(2, .int (v2 + 1)), (1, .int r19), (0, .ref ((a_t 0)))]) hx hb dX2_read_54 hl (k := 2) rfl rfl (by decide) rfl (fun ls hl => ?_)
          refine lv_goto (tgt := 30) hx hb dX2_read_57 (by decide) ?_
          exact ih w20 w21 w22 w23 w24 t_draft_told w25 w26 t_draft_acts w27 w28 w29 w30 w31 w32 w33 r19 (v2 + 1) _ _ hP hD hS _ (lv_sub hl [2, 1, 0] rfl) h
  unfold fX2_read at h
  refine lv_aload_n hx hb dX2_read_0 rfl (lv_at hl 0 rfl) ?_
  refine lv_iconst (v := 0) hx hb dX2_read_1 (by decide) ?_
  refine xw_put (C := RX2) (T := TX2) (N := 9) (ty := .int) (v := .int (0)) (ws' := [((a_t 0), .inr (2, [.ref (a_t_draft 0), .ref (a_t 2), .ref (a_t 3), .ref (a_t_text 0), .int t_token, .int t_start, .int t_after, .int 0, .int t_place])), ((a_t_draft 0), .inr (1, [.ref (a_t_draft 1), .ref (a_t_draft 2), .ref (a_t_draft 3), .ref (a_t_draft 4), .ref (a_t_draft 5), .int t_draft_told, .int t_draft_lines, .int t_draft_kinds, .int t_draft_acts])), ((a_t_draft 1), .inl (g.2.2.1 0, 15, .inl t_draft_numbers)), ((a_t_draft 2), .inl (g.2.2.1 0, 144, .inl t_draft_cells)), ((a_t_draft 3), .inl (g.2.2.1 0, 31, .inl t_draft_rows)), ((a_t_draft 4), .inl (g.2.2.1 0, 31, .inl t_draft_sizes)), ((a_t_draft 5), .inl (g.2.2.1 0, 31, .inl t_draft_rooms)), ((a_t 2), .inl (g.2.2.1 0, 3, .inl t_nameStarts)), ((a_t 3), .inl (g.2.2.1 0, 3, .inl t_nameLengths)), ((a_t_text 0), .inr (4, [.ref (a_t_text 1), .int t_text_size])), ((a_t_text 1), .inl (g.2.2.1 2, 600, .inl t_text_bytes))]) cx hG hP hD hS 0 rfl rfl uX2 tyX2 tyX2_ok nmX2 7 (by decide) lf_X2_33 rfl (by decide +kernel) rfl rfl (Nat.le_of_ble_eq_true rfl) rfl dX2_read_2 (fun H locs hP hD hS => ?_)
  have hG := hGk hS
  refine lv_aload_n hx hb dX2_read_5 rfl (lv_at hl 0 rfl) ?_
  refine lv_iconst (v := -1) hx hb dX2_read_6 (by decide) ?_
  refine xw_put (C := RX2) (T := TX2) (N := 9) (ty := .int) (v := .int (-1)) (ws' := [((a_t 0), .inr (2, [.ref (a_t_draft 0), .ref (a_t 2), .ref (a_t 3), .ref (a_t_text 0), .int t_token, .int t_start, .int t_after, .int 0, .int (-1)])), ((a_t_draft 0), .inr (1, [.ref (a_t_draft 1), .ref (a_t_draft 2), .ref (a_t_draft 3), .ref (a_t_draft 4), .ref (a_t_draft 5), .int t_draft_told, .int t_draft_lines, .int t_draft_kinds, .int t_draft_acts])), ((a_t_draft 1), .inl (g.2.2.1 0, 15, .inl t_draft_numbers)), ((a_t_draft 2), .inl (g.2.2.1 0, 144, .inl t_draft_cells)), ((a_t_draft 3), .inl (g.2.2.1 0, 31, .inl t_draft_rows)), ((a_t_draft 4), .inl (g.2.2.1 0, 31, .inl t_draft_sizes)), ((a_t_draft 5), .inl (g.2.2.1 0, 31, .inl t_draft_rooms)), ((a_t 2), .inl (g.2.2.1 0, 3, .inl t_nameStarts)), ((a_t 3), .inl (g.2.2.1 0, 3, .inl t_nameLengths)), ((a_t_text 0), .inr (4, [.ref (a_t_text 1), .int t_text_size])), ((a_t_text 1), .inl (g.2.2.1 2, 600, .inl t_text_bytes))]) cx hG hP hD hS 0 rfl rfl uX2 tyX2 tyX2_ok nmX2 8 (by decide) lf_X2_25 rfl (by decide +kernel) rfl rfl (Nat.le_of_ble_eq_true rfl) rfl dX2_read_7 (fun H locs hP hD hS => ?_)
  have hG := hGk hS
  refine lv_aload_n hx hb dX2_read_10 rfl (lv_at hl 0 rfl) ?_
  refine lv_iconst (v := 0) hx hb dX2_read_11 (by decide) ?_
  refine xw_put (C := RX2) (T := TX2) (N := 9) (ty := .int) (v := .int (0)) (ws' := [((a_t 0), .inr (2, [.ref (a_t_draft 0), .ref (a_t 2), .ref (a_t 3), .ref (a_t_text 0), .int t_token, .int t_start, .int 0, .int 0, .int (-1)])), ((a_t_draft 0), .inr (1, [.ref (a_t_draft 1), .ref (a_t_draft 2), .ref (a_t_draft 3), .ref (a_t_draft 4), .ref (a_t_draft 5), .int t_draft_told, .int t_draft_lines, .int t_draft_kinds, .int t_draft_acts])), ((a_t_draft 1), .inl (g.2.2.1 0, 15, .inl t_draft_numbers)), ((a_t_draft 2), .inl (g.2.2.1 0, 144, .inl t_draft_cells)), ((a_t_draft 3), .inl (g.2.2.1 0, 31, .inl t_draft_rows)), ((a_t_draft 4), .inl (g.2.2.1 0, 31, .inl t_draft_sizes)), ((a_t_draft 5), .inl (g.2.2.1 0, 31, .inl t_draft_rooms)), ((a_t 2), .inl (g.2.2.1 0, 3, .inl t_nameStarts)), ((a_t 3), .inl (g.2.2.1 0, 3, .inl t_nameLengths)), ((a_t_text 0), .inr (4, [.ref (a_t_text 1), .int t_text_size])), ((a_t_text 1), .inl (g.2.2.1 2, 600, .inl t_text_bytes))]) cx hG hP hD hS 0 rfl rfl uX2 tyX2 tyX2_ok nmX2 6 (by decide) lf_X2_36 rfl (by decide +kernel) rfl rfl (Nat.le_of_ble_eq_true rfl) rfl dX2_read_12 (fun H locs hP hD hS => ?_)
  have hG := hGk hS
  refine lv_aload_n hx hb dX2_read_15 rfl (lv_at hl 0 rfl) ?_
  refine xa_get (C := RX2) (T := TX2) (N := 9) cx hG hP 0 rfl rfl uX2 0 (by decide) lf_X2_12 rfl dX2_read_16 ?_
  obtain ⟨w2, w3, w4, w5, w6, w7, w8, hr1, h⟩ := ob7_out h
  refine rw_v (WN := fun u9 => [((a_t 0), .inr (2, [.ref (a_t_draft 0), .ref (a_t 2), .ref (a_t 3), .ref (a_t_text 0), .int t_token, .int t_start, .int 0, .int 0, .int (-1)])), ((a_t_draft 1), .inl (g.2.2.1 0, 15, .inl t_draft_numbers)), ((a_t_draft 2), .inl (g.2.2.1 0, 144, .inl t_draft_cells)), ((a_t 2), .inl (g.2.2.1 0, 3, .inl t_nameStarts)), ((a_t 3), .inl (g.2.2.1 0, 3, .inl t_nameLengths)), ((a_t_text 0), .inr (4, [.ref (a_t_text 1), .int t_text_size])), ((a_t_text 1), .inl (g.2.2.1 2, 600, .inl t_text_bytes)), ((a_t_draft 0), .inr (1, [.ref (a_t_draft 1), .ref (a_t_draft 2), .ref (a_t_draft 3), .ref (a_t_draft 4), .ref (a_t_draft 5), .int w5, .int w6, .int w7, .int w8])), ((a_t_draft 3), .inl (g.2.2.1 0, 31, .inl w2)), ((a_t_draft 4), .inl (g.2.2.1 0, 31, .inl w3)), ((a_t_draft 5), .inl (g.2.2.1 0, 31, .inl w4))]) (wr := [((a_t 0), .inr (2, [.ref (a_t_draft 0), .ref (a_t 2), .ref (a_t 3), .ref (a_t_text 0), .int t_token, .int t_start, .int 0, .int 0, .int (-1)])), ((a_t_draft 1), .inl (g.2.2.1 0, 15, .inl t_draft_numbers)), ((a_t_draft 2), .inl (g.2.2.1 0, 144, .inl t_draft_cells)), ((a_t 2), .inl (g.2.2.1 0, 3, .inl t_nameStarts)), ((a_t 3), .inl (g.2.2.1 0, 3, .inl t_nameLengths)), ((a_t_text 0), .inr (4, [.ref (a_t_text 1), .int t_text_size])), ((a_t_text 1), .inl (g.2.2.1 2, 600, .inl t_text_bytes))]) (runVN (As := []) (rest := []) hG cx hl.1 (ctX1_clear l g H.size a_t_draft t_draft_told t_draft_lines t_draft_kinds t_draft_acts t_draft_rows t_draft_sizes t_draft_rooms w2 w3 w4 w5 w6 w7 w8 hr1) kmX1_clear kvX1_clear nm_9 ⟨rfl, rfl⟩ ⟨Nat.le_of_ble_eq_true rfl, Nat.le_of_ble_eq_true rfl⟩ (rwV (q0 := 1) (ci := 1) hG (hP.sub [1, 4, 5, 6] rfl) (hD.sub [1, 4, 5, 6] (by decide) rfl) hAb hb0 hS hP rfl rfl) rfl rfl (Nat.le_of_ble_eq_true rfl) dX2_read_19 ⟨Nat.le_of_ble_eq_true rfl, Nat.le_of_ble_eq_true rfl⟩) hP hD hS hA [1, 4, 5, 6] [0, 2, 3, 7, 8, 9, 10] rfl rfl (by decide) (by decide) (fun _ => rfl) (fun u9 H locs hP hD hS => ?_)
  have hG := hGk hS
  refine lv_aload_n hx hb dX2_read_22 rfl (lv_at hl 0 rfl) ?_
  obtain ⟨w11, w12, w13, hr10, h⟩ := ob3_out h
  refine rw_v (WN := fun u14 => [((a_t_draft 1), .inl (g.2.2.1 0, 15, .inl t_draft_numbers)), ((a_t_draft 2), .inl (g.2.2.1 0, 144, .inl t_draft_cells)), ((a_t 2), .inl (g.2.2.1 0, 3, .inl t_nameStarts)), ((a_t 3), .inl (g.2.2.1 0, 3, .inl t_nameLengths)), ((a_t_draft 0), .inr (1, [.ref (a_t_draft 1), .ref (a_t_draft 2), .ref (a_t_draft 3), .ref (a_t_draft 4), .ref (a_t_draft 5), .int w5, .int w6, .int w7, .int w8])), ((a_t_draft 3), .inl (g.2.2.1 0, 31, .inl w2)), ((a_t_draft 4), .inl (g.2.2.1 0, 31, .inl w3)), ((a_t_draft 5), .inl (g.2.2.1 0, 31, .inl w4)), ((a_t 0), .inr (2, [.ref (a_t_draft 0), .ref (a_t 2), .ref (a_t 3), .ref (a_t_text 0), .int w11, .int w12, .int w13, .int 0, .int (-1)])), ((a_t_text 0), .inr (4, [.ref (a_t_text 1), .int t_text_size])), ((a_t_text 1), .inl (g.2.2.1 2, 600, .inl t_text_bytes))]) (wr := [((a_t_draft 1), .inl (g.2.2.1 0, 15, .inl t_draft_numbers)), ((a_t_draft 2), .inl (g.2.2.1 0, 144, .inl t_draft_cells)), ((a_t 2), .inl (g.2.2.1 0, 3, .inl t_nameStarts)), ((a_t 3), .inl (g.2.2.1 0, 3, .inl t_nameLengths)), ((a_t_draft 0), .inr (1, [.ref (a_t_draft 1), .ref (a_t_draft 2), .ref (a_t_draft 3), .ref (a_t_draft 4), .ref (a_t_draft 5), .int w5, .int w6, .int w7, .int w8])), ((a_t_draft 3), .inl (g.2.2.1 0, 31, .inl w2)), ((a_t_draft 4), .inl (g.2.2.1 0, 31, .inl w3)), ((a_t_draft 5), .inl (g.2.2.1 0, 31, .inl w4))]) (runV (As := []) (rest := []) cx hl.1 (ctX2_next l g H.size a_t a_t_draft a_t_text t_token t_start (0) (0) (-1) t_text_size t_text_bytes w11 w12 w13 hr10) kmX2_next kvX2_next lm_X2_42 ⟨rfl, rfl⟩ ⟨Nat.le_of_ble_eq_true rfl, Nat.le_of_ble_eq_true rfl⟩ (rwV (q0 := 0) (ci := 2) hG (hP.sub [0, 5, 6] rfl) (hD.sub [0, 5, 6] (by decide) rfl) hAb hb0 hS hP rfl rfl) rfl rfl (Nat.le_of_ble_eq_true rfl) dX2_read_23 ⟨Nat.le_of_ble_eq_true rfl, Nat.le_of_ble_eq_true rfl⟩) hP hD hS hA [0, 5, 6] [1, 2, 3, 4, 7, 8, 9, 10] rfl rfl (by decide) (by decide) (fun _ => rfl) (fun u14 H locs hP hD hS => ?_)
  have hG := hGk hS
  refine lv_iconst (v := 1) hx hb dX2_read_26 (by decide) ?_
  refine lv_istore_n (lv' := [(1, .int (1)), (0, .ref ((a_t 0)))]) hx hb dX2_read_27 rfl hl (by decide) rfl (fun ls hl => ?_)
  refine lv_iconst (v := 0) hx hb dX2_read_28 (by decide) ?_
  refine lv_istore_n (lv' := [(2, .int (0)), (1, .int (1)), (0, .ref ((a_t 0)))]) hx hb dX2_read_29 rfl hl (by decide) rfl (fun ls hl => ?_)
  exact w30 FU t_draft_numbers t_draft_cells w2 w3 w4 w5 w6 w7 w8 t_nameStarts t_nameLengths w11 w12 w13 0 (-1) 1 0 _ _ (hP.sub [8, 4, 0, 1, 5, 6, 7, 2, 3, 9, 10] rfl) (hD.sub [8, 4, 0, 1, 5, 6, 7, 2, 3, 9, 10] (by decide) rfl) hS _ (lv_sub hl [2, 1, 0] rfl) h
-- X0_forget
theorem dX0_forget_0 : decode cX0_forget 0 = .ok (.aload_n 0, 1) := by decide +kernel
theorem dX0_forget_1 : decode cX0_forget 1 = .ok (.iconst 0, 1) := by decide +kernel
theorem dX0_forget_2 : decode cX0_forget 2 = .ok (.putfield 18, 3) := by decide +kernel
theorem dX0_forget_5 : decode cX0_forget 5 = .ok (.return_, 1) := by decide +kernel
noncomputable def fX0_forget  (t_ready : Int32) : Option (Int32) := some 0
set_option maxHeartbeats 4000000 in
set_option maxRecDepth 100000 in
theorem ctX0_forget (l : Launch) (g : GT) (sz : Nat) (a_t : Nat → Nat) (b_t_rows : Nat) (b_t_seen : Nat) (t_size : Int32) (t_ready : Int32) (t_pool : Int32) (t_plies : Int32) (t_room : Int32) (o_t_ready : Int32) (h : fX0_forget t_ready = some (o_t_ready)) : Met l yX0_forget (Cond.code yX0_forget cX0_forget 1 none :: Tw) ⟨0, 0, 0, 0⟩ (va_Pc [.ref ((a_t 0))] (rwB g [((a_t 0), .inr (0, [.ref b_t_rows, .ref b_t_seen, .int t_size, .int t_ready, .int t_pool, .int t_plies, .int t_room]))] sz)) (va_Qv (fun (_ : Nat → Nat) => True) (fun u => rwE g (va_A [((a_t 0), .inr (0, [.ref b_t_rows, .ref b_t_seen, .int t_size, .int t_ready, .int t_pool, .int t_plies, .int t_room]))] sz) [((a_t 0), .inr (0, [.ref b_t_rows, .ref b_t_seen, .int t_size, .int o_t_ready, .int t_pool, .int t_plies, .int t_room]))]) (va_A [((a_t 0), .inr (0, [.ref b_t_rows, .ref b_t_seen, .int t_size, .int t_ready, .int t_pool, .int t_plies, .int t_room]))] sz)) 0 0 (va_A [((a_t 0), .inr (0, [.ref b_t_rows, .ref b_t_seen, .int t_size, .int t_ready, .int t_pool, .int t_plies, .int t_room]))] sz) := by
  refine rw_metv (by decide) (Nat.le_of_ble_eq_true rfl) (lv0 := [(0, .ref ((a_t 0)))]) rfl ?_
  intro p e s m args below meth c ls Q A cx hret hG hAb hb0 hA hP hD hl
  have hx := cx.1
  have hb := cx.2.1
  have hG0 := hG
  have hGk : ∀ {H : Heap} {locs : List Loc}, va_S A s.heap H locs → GE g s H := fun hS => hG0.keptS hAb hS
  have hSb : ∀ {H : Heap} {locs : List Loc}, va_S A s.heap H locs → va_S (fun a => g.1 ≤ a) s.heap H locs := fun hS => ⟨hS.1, fun q h1 h2 => hS.2.1 q h1 (fun z => h2 (hAb q z)), fun l hl => hAb _ (hS.2.2 l hl)⟩
  have hS : va_S A s.heap s.heap [] := va_S.rf
  have hrt : ∀ (u : Nat → Nat) (pc : Nat) (ls : Array Slot) (x_t_ready : Int32) (H : Heap) (locs : List Loc), decode cX0_forget pc = .ok (.return_, 1) → some (x_t_ready) = some (o_t_ready) → va_P g.2.1 vwCl [((a_t 0), .inr (0, [.ref b_t_rows, .ref b_t_seen, .int t_size, .int x_t_ready, .int t_pool, .int t_plies, .int t_room]))] H → va_D A [((a_t 0), .inr (0, [.ref b_t_rows, .ref b_t_seen, .int t_size, .int x_t_ready, .int t_pool, .int t_plies, .int t_room]))] → va_S A s.heap H locs → W p l e ⟨0, 0, 0, 0⟩ s m args below meth c H locs 0 0 Q (F0 m pc ls []) := by
    intro u pc ls x_t_ready H locs hd h hP hD hS
    cases h
    exact hret u _ _ _ _ hd hP hD hS
  unfold fX0_forget at h
  refine lv_aload_n hx hb dX0_forget_0 rfl (lv_at hl 0 rfl) ?_
  refine lv_iconst (v := 0) hx hb dX0_forget_1 (by decide) ?_
  refine xw_put (C := RX0) (T := TX0) (N := 7) (ty := .boolean) (v := .int (0)) (ws' := [((a_t 0), .inr (0, [.ref b_t_rows, .ref b_t_seen, .int t_size, .int 0, .int t_pool, .int t_plies, .int t_room]))]) cx hG hP hD hS 0 rfl rfl uX0 tyX0 tyX0_ok nmX0 3 (by decide) lf_X0_18 rfl (by decide +kernel) rfl rfl (Nat.le_of_ble_eq_true rfl) rfl dX0_forget_2 (fun H locs hP hD hS => ?_)
  have hG := hGk hS
  exact hrt (fun _ => 0) _ _ (0) _ _ dX0_forget_5 h (hP.sub [0] rfl) (hD.sub [0] (by decide) rfl) hS
-- X0_mostRows
theorem dX0_mostRows_0 : decode cX0_mostRows 0 = .ok (.iconst 1, 1) := by decide +kernel
theorem dX0_mostRows_1 : decode cX0_mostRows 1 = .ok (.istore_n 1, 1) := by decide +kernel
theorem dX0_mostRows_2 : decode cX0_mostRows 2 = .ok (.iconst 0, 1) := by decide +kernel
theorem dX0_mostRows_3 : decode cX0_mostRows 3 = .ok (.istore_n 2, 1) := by decide +kernel
theorem dX0_mostRows_4 : decode cX0_mostRows 4 = .ok (.iconst 0, 1) := by decide +kernel
theorem dX0_mostRows_5 : decode cX0_mostRows 5 = .ok (.istore_n 3, 1) := by decide +kernel
theorem dX0_mostRows_6 : decode cX0_mostRows 6 = .ok (.iload_n 3, 1) := by decide +kernel
theorem dX0_mostRows_7 : decode cX0_mostRows 7 = .ok (.aload_n 0, 1) := by decide +kernel
theorem dX0_mostRows_8 : decode cX0_mostRows 8 = .ok (.getfield 41, 3) := by decide +kernel
theorem dX0_mostRows_11 : decode cX0_mostRows 11 = .ok (.if_icmp .ge 54, 3) := by decide +kernel
theorem dX0_mostRows_14 : decode cX0_mostRows 14 = .ok (.iload_n 3, 1) := by decide +kernel
theorem dX0_mostRows_15 : decode cX0_mostRows 15 = .ok (.ifCond .le 30, 3) := by decide +kernel
theorem dX0_mostRows_18 : decode cX0_mostRows 18 = .ok (.aload_n 0, 1) := by decide +kernel
theorem dX0_mostRows_19 : decode cX0_mostRows 19 = .ok (.getfield 37, 3) := by decide +kernel
theorem dX0_mostRows_22 : decode cX0_mostRows 22 = .ok (.iload_n 3, 1) := by decide +kernel
theorem dX0_mostRows_23 : decode cX0_mostRows 23 = .ok (.invokestatic 59, 3) := by decide +kernel
theorem dX0_mostRows_26 : decode cX0_mostRows 26 = .ok (.aload_n 0, 1) := by decide +kernel
theorem dX0_mostRows_27 : decode cX0_mostRows 27 = .ok (.getfield 37, 3) := by decide +kernel
theorem dX0_mostRows_30 : decode cX0_mostRows 30 = .ok (.iload_n 3, 1) := by decide +kernel
theorem dX0_mostRows_31 : decode cX0_mostRows 31 = .ok (.iconst 1, 1) := by decide +kernel
theorem dX0_mostRows_32 : decode cX0_mostRows 32 = .ok (.isub, 1) := by decide +kernel
theorem dX0_mostRows_33 : decode cX0_mostRows 33 = .ok (.invokestatic 59, 3) := by decide +kernel
theorem dX0_mostRows_36 : decode cX0_mostRows 36 = .ok (.if_icmp .ne 9, 3) := by decide +kernel
theorem dX0_mostRows_39 : decode cX0_mostRows 39 = .ok (.iload_n 2, 1) := by decide +kernel
theorem dX0_mostRows_40 : decode cX0_mostRows 40 = .ok (.iconst 1, 1) := by decide +kernel
theorem dX0_mostRows_41 : decode cX0_mostRows 41 = .ok (.iadd, 1) := by decide +kernel
theorem dX0_mostRows_42 : decode cX0_mostRows 42 = .ok (.goto 4, 3) := by decide +kernel
theorem dX0_mostRows_45 : decode cX0_mostRows 45 = .ok (.iconst 1, 1) := by decide +kernel
theorem dX0_mostRows_46 : decode cX0_mostRows 46 = .ok (.istore_n 2, 1) := by decide +kernel
theorem dX0_mostRows_47 : decode cX0_mostRows 47 = .ok (.iload_n 1, 1) := by decide +kernel
theorem dX0_mostRows_48 : decode cX0_mostRows 48 = .ok (.iload_n 3, 1) := by decide +kernel
theorem dX0_mostRows_49 : decode cX0_mostRows 49 = .ok (.iconst 1, 1) := by decide +kernel
theorem dX0_mostRows_50 : decode cX0_mostRows 50 = .ok (.iadd, 1) := by decide +kernel
theorem dX0_mostRows_51 : decode cX0_mostRows 51 = .ok (.imul, 1) := by decide +kernel
theorem dX0_mostRows_52 : decode cX0_mostRows 52 = .ok (.iconst 1, 1) := by decide +kernel
theorem dX0_mostRows_53 : decode cX0_mostRows 53 = .ok (.iload_n 2, 1) := by decide +kernel
theorem dX0_mostRows_54 : decode cX0_mostRows 54 = .ok (.invokestatic 62, 3) := by decide +kernel
theorem dX0_mostRows_57 : decode cX0_mostRows 57 = .ok (.idiv, 1) := by decide +kernel
theorem dX0_mostRows_58 : decode cX0_mostRows 58 = .ok (.istore_n 1, 1) := by decide +kernel
theorem dX0_mostRows_59 : decode cX0_mostRows 59 = .ok (.iinc 3 1, 3) := by decide +kernel
theorem dX0_mostRows_62 : decode cX0_mostRows 62 = .ok (.goto (-56), 3) := by decide +kernel
theorem dX0_mostRows_65 : decode cX0_mostRows 65 = .ok (.iload_n 1, 1) := by decide +kernel
theorem dX0_mostRows_66 : decode cX0_mostRows 66 = .ok (.ireturn, 1) := by decide +kernel
noncomputable def fX0_mostRows_46 (k6 : Int32 → Int32 → Int32 → Int32 → Int32 → Option (Int32)) (t_pool : Int32) (t_plies : Int32) (v1 : Int32) (v3 : Int32) (z0 : Int32) : Option (Int32) := nz (imax 1 z0) (k6 t_pool t_plies ((v1 * (v3 + 1)) / (imax 1 z0)) z0 (v3 + 1))
noncomputable def fX0_mostRows_45 (k6 : Int32 → Int32 → Int32 → Int32 → Int32 → Option (Int32)) (t_pool : Int32) (t_plies : Int32) (v1 : Int32) (v3 : Int32) : Option (Int32) := fX0_mostRows_46 k6 t_pool t_plies v1 v3 1
noncomputable def fX0_mostRows_6  : Nat → Int32 → Int32 → Int32 → Int32 → Int32 → Option (Int32)
  | 0, _, _, _, _, _ => none
  | n + 1, t_pool, t_plies, v1, v2, v3 => (if t_plies ≤ v3 then some v1 else (if v3 ≤ 0 then fX0_mostRows_45 (fX0_mostRows_6 n) t_pool t_plies v1 v3 else (if (fX3_typeAt t_pool v3) = (fX3_typeAt t_pool (v3 - 1)) then fX0_mostRows_46 (fX0_mostRows_6 n) t_pool t_plies v1 v3 (v2 + 1) else fX0_mostRows_45 (fX0_mostRows_6 n) t_pool t_plies v1 v3)))
theorem fX0_mostRows_6_z  (t_pool : Int32) (t_plies : Int32) (v1 : Int32) (v2 : Int32) (v3 : Int32) : fX0_mostRows_6  0 t_pool t_plies v1 v2 v3 = none := rfl
theorem fX0_mostRows_6_s  (n : Nat) (t_pool : Int32) (t_plies : Int32) (v1 : Int32) (v2 : Int32) (v3 : Int32) : fX0_mostRows_6  (n + 1) t_pool t_plies v1 v2 v3 = (if t_plies ≤ v3 then some v1 else (if v3 ≤ 0 then fX0_mostRows_45 (fX0_mostRows_6 n) t_pool t_plies v1 v3 else (if (fX3_typeAt t_pool v3) = (fX3_typeAt t_pool (v3 - 1)) then fX0_mostRows_46 (fX0_mostRows_6 n) t_pool t_plies v1 v3 (v2 + 1) else fX0_mostRows_45 (fX0_mostRows_6 n) t_pool t_plies v1 v3))) := rfl
noncomputable def fX0_mostRows  (t_pool : Int32) (t_plies : Int32) : Option (Int32) := fX0_mostRows_6 FU t_pool t_plies 1 0 0
set_option maxHeartbeats 4000000 in
set_option maxRecDepth 100000 in
theorem ctX0_mostRows (l : Launch) (g : GT) (a_t : Nat → Nat) (b_t_rows : Nat) (b_t_seen : Nat) (t_size : Int32) (t_ready : Int32) (t_pool : Int32) (t_plies : Int32) (t_room : Int32) (o : Int32) (h : fX0_mostRows t_pool t_plies = some o) : Met l yX0_mostRows (Cond.code yX0_mostRows cX0_mostRows 4 (some .int) :: Tw) ⟨1, 0, 0, 26⟩ (va_Pc [.ref ((a_t 0))] (roB g [((a_t 0), .inr (0, [.ref b_t_rows, .ref b_t_seen, .int t_size, .int t_ready, .int t_pool, .int t_plies, .int t_room]))])) (vp_Si (fun x => x = o)) 0 0 (fun _ => False) := by
  refine ro_meti (by decide) (Nat.le_of_ble_eq_true rfl) (lv0 := [(0, .ref ((a_t 0)))]) rfl ?_
  intro p e s m args below meth c ls Q cx hret hG hP hl
  have hx := cx.1
  have hb := cx.2.1
  have hG0 := hG
  have w46 : ∀ (k6 : Int32 → Int32 → Int32 → Int32 → Int32 → Option (Int32)) (hk6 : ∀ (v1 : Int32) (v2 : Int32) (v3 : Int32) (ls : Array Slot), lv_has ls 4 [(0, .ref ((a_t 0))), (1, .int v1), (2, .int v2), (3, .int v3)] → k6 t_pool t_plies v1 v2 v3 = some o → W p l e ⟨1, 0, 0, 26⟩ s m args below meth c s.heap [] 0 0 Q (F0 m 6 ls [])) (v1 : Int32) (v3 : Int32) (z0 : Int32) (ls : Array Slot), lv_has ls 4 [(0, .ref ((a_t 0))), (1, .int v1), (3, .int v3)] → fX0_mostRows_46 k6 t_pool t_plies v1 v3 z0 = some o → W p l e ⟨1, 0, 0, 26⟩ s m args below meth c s.heap [] 0 0 Q (F0 m 46 ls [.int z0]) := by
    intro k6 hk6 v1 v3 z0 ls hl h
    unfold fX0_mostRows_46 at h
    refine lv_istore_n (lv' := [(2, .int z0), (0, .ref ((a_t 0))), (1, .int v1), (3, .int v3)]) hx hb dX0_mostRows_46 rfl hl (by decide) rfl (fun ls hl => ?_)
    refine lv_iload_n hx hb dX0_mostRows_47 rfl (lv_at hl 2 rfl) ?_
    refine lv_iload_n hx hb dX0_mostRows_48 rfl (lv_at hl 3 rfl) ?_
    refine lv_iconst (v := 1) hx hb dX0_mostRows_49 (by decide) ?_
    refine lv_iadd hx hb dX0_mostRows_50 ?_
    refine lv_imul hx hb dX0_mostRows_51 ?_
    refine lv_iconst (v := 1) hx hb dX0_mostRows_52 (by decide) ?_
    refine lv_iload_n hx hb dX0_mostRows_53 rfl (lv_at hl 0 rfl) ?_
    refine xm_imax cx hl.1 lm_X0_62 ⟨ksJ9_max_7cf53, kmJ9_max_7cf53.2.1, kmJ9_max_7cf53.1⟩ (Nat.le_of_ble_eq_true rfl) (Nat.le_of_ble_eq_true rfl) (Nat.le_of_ble_eq_true rfl) (Nat.le_of_ble_eq_true rfl) dX0_mostRows_54 ?_
    obtain ⟨hz4, h⟩ := nz_out h
    refine lv_idiv hx hb dX0_mostRows_57 hz4 ?_
    refine lv_istore_n (lv' := [(1, .int ((v1 * (v3 + 1)) / (imax 1 z0))), (2, .int z0), (0, .ref ((a_t 0))), (3, .int v3)]) hx hb dX0_mostRows_58 rfl hl (by decide) rfl (fun ls hl => ?_)
    refine lv_iinc (v := v3 + 1) (lv' := [(3, .int (v3 + 1)), (1, .int ((v1 * (v3 + 1)) / (imax 1 z0))), (2, .int z0), (0, .ref ((a_t 0)))]) hx hb dX0_mostRows_59 hl (k := 3) rfl rfl (by decide) rfl (fun ls hl => ?_)
    refine lv_goto (tgt := 6) hx hb dX0_mostRows_62 (by decide) ?_
    exact hk6 ((v1 * (v3 + 1)) / (imax 1 z0)) z0 (v3 + 1) _ (lv_sub hl [3, 1, 2, 0] rfl) h
  have w45 : ∀ (k6 : Int32 → Int32 → Int32 → Int32 → Int32 → Option (Int32)) (hk6 : ∀ (v1 : Int32) (v2 : Int32) (v3 : Int32) (ls : Array Slot), lv_has ls 4 [(0, .ref ((a_t 0))), (1, .int v1), (2, .int v2), (3, .int v3)] → k6 t_pool t_plies v1 v2 v3 = some o → W p l e ⟨1, 0, 0, 26⟩ s m args below meth c s.heap [] 0 0 Q (F0 m 6 ls [])) (v1 : Int32) (v3 : Int32) (ls : Array Slot), lv_has ls 4 [(0, .ref ((a_t 0))), (1, .int v1), (3, .int v3)] → fX0_mostRows_45 k6 t_pool t_plies v1 v3 = some o → W p l e ⟨1, 0, 0, 26⟩ s m args below meth c s.heap [] 0 0 Q (F0 m 45 ls []) := by
    intro k6 hk6 v1 v3 ls hl h
    unfold fX0_mostRows_45 at h
    refine lv_iconst (v := 1) hx hb dX0_mostRows_45 (by decide) ?_
    exact w46 _ hk6 v1 v3 1 _ (lv_sub hl [0, 1, 2] rfl) h
  have w6 : ∀ (n : Nat) (v1 : Int32) (v2 : Int32) (v3 : Int32) (ls : Array Slot), lv_has ls 4 [(0, .ref ((a_t 0))), (1, .int v1), (2, .int v2), (3, .int v3)] → fX0_mostRows_6  n t_pool t_plies v1 v2 v3 = some o → W p l e ⟨1, 0, 0, 26⟩ s m args below meth c s.heap [] 0 0 Q (F0 m 6 ls []) := by
    intro n
    induction n with
    | zero => intro v1 v2 v3 ls hl h; cases (fX0_mostRows_6_z  t_pool t_plies v1 v2 v3).symm.trans h
    | succ n ih =>
    intro v1 v2 v3 ls hl h
    have h := (fX0_mostRows_6_s  n t_pool t_plies v1 v2 v3).symm.trans h
    refine lv_iload_n hx hb dX0_mostRows_6 rfl (lv_at hl 3 rfl) ?_
    refine lv_aload_n hx hb dX0_mostRows_7 rfl (lv_at hl 0 rfl) ?_
    refine xa_get (C := RX0) (T := TX0) (N := 7) cx hG hP 0 rfl rfl uX0 5 (by decide) lf_X0_41 rfl dX0_mostRows_8 ?_
    refine lv_icmp_ge (tgt := 65) hx hb dX0_mostRows_11 (by decide) (fun c1 => ?_) (fun c1 => ?_)
    · have h := itp c1 h
      refine lv_iload_n hx hb dX0_mostRows_65 rfl (lv_at hl 1 rfl) ?_
      exact hret _ _ _ dX0_mostRows_66 (Option.some.inj h)
    · have h := itn c1 h
      refine lv_iload_n hx hb dX0_mostRows_14 rfl (lv_at hl 3 rfl) ?_
      refine lv_if_le (tgt := 45) hx hb dX0_mostRows_15 (by decide) (fun c2 => ?_) (fun c2 => ?_)
      · have h := itp c2 h
        exact w45 _ ih v1 v3 _ (lv_sub hl [0, 1, 3] rfl) h
      · have h := itn c2 h
        refine lv_aload_n hx hb dX0_mostRows_18 rfl (lv_at hl 0 rfl) ?_
        refine xa_get (C := RX0) (T := TX0) (N := 7) cx hG hP 0 rfl rfl uX0 4 (by decide) lf_X0_37 rfl dX0_mostRows_19 ?_
        refine lv_iload_n hx hb dX0_mostRows_22 rfl (lv_at hl 3 rfl) ?_
        refine ro_i (runSN (As := [.int t_pool, .int v3]) (rest := []) hG cx hl.1 (ctX3_typeAt l g t_pool v3 (fX3_typeAt t_pool v3) rfl) kmX3_typeAt ksX3_typeAt nm_57 ⟨rfl, rfl⟩ ⟨Nat.le_of_ble_eq_true rfl, Nat.le_of_ble_eq_true rfl⟩ (roS hG (hP.sub [] rfl)) rfl rfl (Nat.le_of_ble_eq_true rfl) dX0_mostRows_23 ⟨Nat.le_of_ble_eq_true rfl, Nat.le_of_ble_eq_true rfl⟩) ?_
        refine lv_aload_n hx hb dX0_mostRows_26 rfl (lv_at hl 0 rfl) ?_
        refine xa_get (C := RX0) (T := TX0) (N := 7) cx hG hP 0 rfl rfl uX0 4 (by decide) lf_X0_37 rfl dX0_mostRows_27 ?_
        refine lv_iload_n hx hb dX0_mostRows_30 rfl (lv_at hl 3 rfl) ?_
        refine lv_iconst (v := 1) hx hb dX0_mostRows_31 (by decide) ?_
        refine lv_isub hx hb dX0_mostRows_32 ?_
        refine ro_i (runSN (As := [.int t_pool, .int (v3 - 1)]) (rest := [.int (fX3_typeAt t_pool v3)]) hG cx hl.1 (ctX3_typeAt l g t_pool (v3 - 1) (fX3_typeAt t_pool (v3 - 1)) rfl) kmX3_typeAt ksX3_typeAt nm_57 ⟨rfl, rfl⟩ ⟨Nat.le_of_ble_eq_true rfl, Nat.le_of_ble_eq_true rfl⟩ (roS hG (hP.sub [] rfl)) rfl rfl (Nat.le_of_ble_eq_true rfl) dX0_mostRows_33 ⟨Nat.le_of_ble_eq_true rfl, Nat.le_of_ble_eq_true rfl⟩) ?_
        refine lv_icmp_ne (tgt := 45) hx hb dX0_mostRows_36 (by decide) (fun c3 => ?_) (fun c3 => ?_)
        · have h := itn c3 h
          exact w45 _ ih v1 v3 _ (lv_sub hl [0, 1, 3] rfl) h
        · have h := itp c3 h
          refine lv_iload_n hx hb dX0_mostRows_39 rfl (lv_at hl 2 rfl) ?_
          refine lv_iconst (v := 1) hx hb dX0_mostRows_40 (by decide) ?_
          refine lv_iadd hx hb dX0_mostRows_41 ?_
          refine lv_goto (tgt := 46) hx hb dX0_mostRows_42 (by decide) ?_
          exact w46 _ ih v1 v3 (v2 + 1) _ (lv_sub hl [0, 1, 3] rfl) h
  unfold fX0_mostRows at h
  refine lv_iconst (v := 1) hx hb dX0_mostRows_0 (by decide) ?_
  refine lv_istore_n (lv' := [(1, .int (1)), (0, .ref ((a_t 0)))]) hx hb dX0_mostRows_1 rfl hl (by decide) rfl (fun ls hl => ?_)
  refine lv_iconst (v := 0) hx hb dX0_mostRows_2 (by decide) ?_
  refine lv_istore_n (lv' := [(2, .int (0)), (1, .int (1)), (0, .ref ((a_t 0)))]) hx hb dX0_mostRows_3 rfl hl (by decide) rfl (fun ls hl => ?_)
  refine lv_iconst (v := 0) hx hb dX0_mostRows_4 (by decide) ?_
  refine lv_istore_n (lv' := [(3, .int (0)), (2, .int (0)), (1, .int (1)), (0, .ref ((a_t 0)))]) hx hb dX0_mostRows_5 rfl hl (by decide) rfl (fun ls hl => ?_)
  exact w6 FU 1 0 0 _ (lv_sub hl [3, 2, 1, 0] rfl) h
