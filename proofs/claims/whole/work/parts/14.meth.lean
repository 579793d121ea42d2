/-! FrameRaiserModel.standingOf -/
def jn_X8_standingOf_68 (s_13 : Int32) (s_14 : Int32) (v4_12 : Int32) : Option ((Int32 × Int32) ⊕ (Int32)) :=
  bv (s_14 ||| s_13) fun v2_15 =>
  some (.inl (v2_15, v4_12 + (1 : Int32)))
def jn_X8_standingOf_67 (s_11 : Int32) (v4_10 : Int32) : Option ((Int32 × Int32) ⊕ (Int32)) :=
  jn_X8_standingOf_68 (0 : Int32) s_11 v4_10
def jn_X8_standingOf_60 (s_19 : Int32) (v4_18 : Int32) : Option ((Int32 × Int32) ⊕ (Int32)) :=
  jn_X8_standingOf_68 (sl (1 : Int32) v4_18) s_19 v4_18
def bd_X8_standingOf_17 (x1 : Int32) (M : Mem) : (Int32 × Int32) → Option ((Int32 × Int32) ⊕ (Int32)) :=
  u2 fun v2_6 v4_5 =>
  if (M 62 (ix (0 : Int32))) ≤ v4_5 then
    (some (.inr v2_6))
  else
    (if (fn_X8_has x1 v4_5) = 0 then
      (jn_X8_standingOf_67 v2_6 v4_5)
    else
      (if inb v4_5 8 then
      if (M 65 (ix v4_5)) = 0 then
        (if inb v4_5 8 then
        if ((M 64 (ix v4_5)) &&& v2_6) = 0 then
          (jn_X8_standingOf_67 v2_6 v4_5)
        else
          (jn_X8_standingOf_60 v2_6 v4_5)
        else none)
      else
        (jn_X8_standingOf_60 v2_6 v4_5)
      else none))
def bd_X8_standingOf_4 (g : Nat) (x1 : Int32) (M : Mem) : (Int32 × Int32) → Option ((Int32 × Int32) ⊕ (Int32)) :=
  u2 fun v2_2 v3_1 =>
  if (M 62 (ix (0 : Int32))) < v3_1 then
    (some (.inr v2_2))
  else
    ((lpN g (bd_X8_standingOf_17 x1 M) (v2_2, (0 : Int32))).bind (u1 fun v2_7 =>
      some (.inl (v2_7, v3_1 + (1 : Int32)))))
def fn_X8_standingOf (g : Nat) (x1 : Int32) (M : Mem) : Option (Int32) :=
  (lpN g (bd_X8_standingOf_4 g x1 M) ((0 : Int32), (0 : Int32))).bind (u1 fun v2_3 =>
    some v2_3)
theorem dX8_standingOf_0 : decode cX8_standingOf 0 = .ok (.iconst 0, 1) := by decide +kernel
theorem dX8_standingOf_1 : decode cX8_standingOf 1 = .ok (.istore_n 2, 1) := by decide +kernel
theorem dX8_standingOf_2 : decode cX8_standingOf 2 = .ok (.iconst 0, 1) := by decide +kernel
theorem dX8_standingOf_3 : decode cX8_standingOf 3 = .ok (.istore_n 3, 1) := by decide +kernel
theorem dX8_standingOf_4 : decode cX8_standingOf 4 = .ok (.iload_n 3, 1) := by decide +kernel
theorem dX8_standingOf_5 : decode cX8_standingOf 5 = .ok (.aload_n 0, 1) := by decide +kernel
theorem dX8_standingOf_6 : decode cX8_standingOf 6 = .ok (.getfield 7, 3) := by decide +kernel
theorem dX8_standingOf_9 : decode cX8_standingOf 9 = .ok (.iconst 0, 1) := by decide +kernel
theorem dX8_standingOf_10 : decode cX8_standingOf 10 = .ok (.iaload, 1) := by decide +kernel
theorem dX8_standingOf_11 : decode cX8_standingOf 11 = .ok (.if_icmp .gt 71, 3) := by decide +kernel
theorem dX8_standingOf_14 : decode cX8_standingOf 14 = .ok (.iconst 0, 1) := by decide +kernel
theorem dX8_standingOf_15 : decode cX8_standingOf 15 = .ok (.istore 4, 2) := by decide +kernel
theorem dX8_standingOf_17 : decode cX8_standingOf 17 = .ok (.iload 4, 2) := by decide +kernel
theorem dX8_standingOf_19 : decode cX8_standingOf 19 = .ok (.aload_n 0, 1) := by decide +kernel
theorem dX8_standingOf_20 : decode cX8_standingOf 20 = .ok (.getfield 7, 3) := by decide +kernel
theorem dX8_standingOf_23 : decode cX8_standingOf 23 = .ok (.iconst 0, 1) := by decide +kernel
theorem dX8_standingOf_24 : decode cX8_standingOf 24 = .ok (.iaload, 1) := by decide +kernel
theorem dX8_standingOf_25 : decode cX8_standingOf 25 = .ok (.if_icmp .ge 51, 3) := by decide +kernel
theorem dX8_standingOf_28 : decode cX8_standingOf 28 = .ok (.iload_n 2, 1) := by decide +kernel
theorem dX8_standingOf_29 : decode cX8_standingOf 29 = .ok (.iload_n 1, 1) := by decide +kernel
theorem dX8_standingOf_30 : decode cX8_standingOf 30 = .ok (.iload 4, 2) := by decide +kernel
theorem dX8_standingOf_32 : decode cX8_standingOf 32 = .ok (.invokestatic 76, 3) := by decide +kernel
theorem dX8_standingOf_35 : decode cX8_standingOf 35 = .ok (.ifCond .eq 32, 3) := by decide +kernel
theorem dX8_standingOf_38 : decode cX8_standingOf 38 = .ok (.aload_n 0, 1) := by decide +kernel
theorem dX8_standingOf_39 : decode cX8_standingOf 39 = .ok (.getfield 19, 3) := by decide +kernel
theorem dX8_standingOf_42 : decode cX8_standingOf 42 = .ok (.iload 4, 2) := by decide +kernel
theorem dX8_standingOf_44 : decode cX8_standingOf 44 = .ok (.baload, 1) := by decide +kernel
theorem dX8_standingOf_45 : decode cX8_standingOf 45 = .ok (.ifCond .ne 15, 3) := by decide +kernel
theorem dX8_standingOf_48 : decode cX8_standingOf 48 = .ok (.aload_n 0, 1) := by decide +kernel
theorem dX8_standingOf_49 : decode cX8_standingOf 49 = .ok (.getfield 16, 3) := by decide +kernel
theorem dX8_standingOf_52 : decode cX8_standingOf 52 = .ok (.iload 4, 2) := by decide +kernel
theorem dX8_standingOf_54 : decode cX8_standingOf 54 = .ok (.iaload, 1) := by decide +kernel
theorem dX8_standingOf_55 : decode cX8_standingOf 55 = .ok (.iload_n 2, 1) := by decide +kernel
theorem dX8_standingOf_56 : decode cX8_standingOf 56 = .ok (.iand, 1) := by decide +kernel
theorem dX8_standingOf_57 : decode cX8_standingOf 57 = .ok (.ifCond .eq 10, 3) := by decide +kernel
theorem dX8_standingOf_60 : decode cX8_standingOf 60 = .ok (.iconst 1, 1) := by decide +kernel
theorem dX8_standingOf_61 : decode cX8_standingOf 61 = .ok (.iload 4, 2) := by decide +kernel
theorem dX8_standingOf_63 : decode cX8_standingOf 63 = .ok (.ishl, 1) := by decide +kernel
theorem dX8_standingOf_64 : decode cX8_standingOf 64 = .ok (.goto 4, 3) := by decide +kernel
theorem dX8_standingOf_67 : decode cX8_standingOf 67 = .ok (.iconst 0, 1) := by decide +kernel
theorem dX8_standingOf_68 : decode cX8_standingOf 68 = .ok (.ior, 1) := by decide +kernel
theorem dX8_standingOf_69 : decode cX8_standingOf 69 = .ok (.istore_n 2, 1) := by decide +kernel
theorem dX8_standingOf_70 : decode cX8_standingOf 70 = .ok (.iinc 4 1, 3) := by decide +kernel
theorem dX8_standingOf_73 : decode cX8_standingOf 73 = .ok (.goto (-56), 3) := by decide +kernel
theorem dX8_standingOf_76 : decode cX8_standingOf 76 = .ok (.iinc 3 1, 3) := by decide +kernel
theorem dX8_standingOf_79 : decode cX8_standingOf 79 = .ok (.goto (-75), 3) := by decide +kernel
theorem dX8_standingOf_82 : decode cX8_standingOf 82 = .ok (.iload_n 2, 1) := by decide +kernel
theorem dX8_standingOf_83 : decode cX8_standingOf 83 = .ok (.ireturn, 1) := by decide +kernel
set_option maxHeartbeats 4000000 in
set_option maxRecDepth 100000 in
theorem c_X8_standingOf {l : Launch} {X : En} (g : Nat) (x1 : Int32) (M : Mem) (r : Int32) (hf : fn_X8_standingOf g x1 M = some r) : Cn l X yX8_standingOf cX8_standingOf 5 (some .int) 1 21 [.ref (X.ad 61), .int x1] M (Qi X r M) := by
  refine Met.ofW (cc := cX8_standingOf) (maxL := 5) (ret := (some .int)) (by decide) rfl ?_
  intro p e s m args below meth c s₁ B hml hv
  obtain ⟨rfl, hP, hk⟩ := hv
  have hx := B.exec
  have hb := B.bytes
  have hr := B.returns
  have hlocks := B.notSynchronized
  have hts : ∀ w ∈ lw_u, w.before ([.ref (X.ad 61), .int x1] : List Value).toArray s = true := fun w hw => atoms_spec (ws := Cond.code yX8_standingOf cX8_standingOf 5 (some .int) :: lw_u) B.pre w (List.mem_cons_of_mem _ hw)
  have hown : s.vm.findClass RX8 = some m.cls := findClass_of_methodNamed B.named
  have hZ : Fx p c m s ([.ref (X.ad 61), .int x1] : List Value).toArray X cX8_standingOf 5 RX8 := ⟨hx, hb, hml, hts, hown, hk⟩
  have hS : va_S X.A s.heap s.heap [] := va_S.rf
  have hl := lv_entry ([.ref (X.ad 61), .int x1]) (n := 5) (Nat.le_of_ble_eq_true rfl)
  rw [lg_entry_eq]
  generalize (lg_sl ([.ref (X.ad 61), .int x1]) ++ List.replicate (5 - (lg_sl ([.ref (X.ad 61), .int x1])).length) Slot.unset).toArray = ls at hl ⊢
  have hl : lv_has ls 5 [(0, .ref (X.ad 61)), (1, .int x1)] := hl
  show WW p l e 1 21 s m [.ref (X.ad 61), .int x1] below meth c X (Qi X r M) s.heap [] 0 ls []
  have hP : wd X M s.heap := hP
  unfold fn_X8_standingOf at hf
  have key : ∀ (H : Heap) (locs : List Loc), wd X M H → va_S X.A s.heap H locs → WW p l e 1 21 s m [.ref (X.ad 61), .int x1] below meth c X (Qi X r M) H locs 0 ls [] := by
    intro H locs hP hS
    refine lv_iconst (v := (0 : Int32)) hx hb dX8_standingOf_0 (by decide) ?_
    refine lv_istore_n (lv' := [(2, .int (0 : Int32)), (0, .ref (X.ad 61)), (1, .int x1)]) hx hb dX8_standingOf_1 rfl hl (by decide) rfl (fun ls hl => ?_)
    refine lv_iconst (v := (0 : Int32)) hx hb dX8_standingOf_2 (by decide) ?_
    refine lv_istore_n (lv' := [(3, .int (0 : Int32)), (2, .int (0 : Int32)), (0, .ref (X.ad 61)), (1, .int x1)]) hx hb dX8_standingOf_3 rfl hl (by decide) rfl (fun ls hl => ?_)
    obtain ⟨o4, ho4, hf⟩ := b_d hf
    refine lp_rule (b := bd_X8_standingOf_4 g x1 M) (P := fun w : Int32 × Int32 => ∀ (H : Heap) (locs : List Loc) (ls : Array Slot), wd X M H → va_S X.A s.heap H locs → lv_has ls 5 [(3, .int w.2), (2, .int w.1), (0, .ref (X.ad 61)), (1, .int x1)] → WW p l e 1 21 s m [.ref (X.ad 61), .int x1] below meth c X (Qi X r M) H locs 4 ls []) (K := fun o => ∀ (v2_3 : Int32), o = v2_3 → ∀ (H : Heap) (locs : List Loc) (ls : Array Slot), wd X M H → va_S X.A s.heap H locs → lv_has ls 5 [(2, .int v2_3)] → WW p l e 1 21 s m [.ref (X.ad 61), .int x1] below meth c X (Qi X r M) H locs 82 ls []) ?_ g ((0 : Int32), (0 : Int32)) o4 ho4 ?_ H locs ls hP hS (lv_sub hl [0, 1, 2, 3] rfl)
    · rintro ⟨v2_2, v3_1⟩ o hf hkc4 hke4 H locs ls hP hS hl
      have hf := u2_e hf
      refine lv_iload_n hx hb dX8_standingOf_4 rfl (lv_at hl 0 rfl) ?_
      refine lv_aload_n hx hb dX8_standingOf_5 rfl (lv_at hl 2 rfl) ?_
      refine gX8_0 hx hb hts hown hk hP wd_3_192 dX8_standingOf_6 ?_
      refine lv_iconst (v := (0 : Int32)) hx hb dX8_standingOf_9 (by decide) ?_
      refine ald hx hb hk hP (by decide) rfl (show inb _ _ from by decide) dX8_standingOf_10 ?_
      refine lv_icmp_gt (tgt := 82) hx hb dX8_standingOf_11 (by decide) (fun c_4 => ?_) (fun c_4 => ?_)
      · have hf := i_t c_4 hf
        exact hke4 _ (Option.some.inj hf).symm _ rfl H locs ls hP hS (lv_sub hl [1] rfl)
      · have hf := i_f c_4 hf
        refine lv_iconst (v := (0 : Int32)) hx hb dX8_standingOf_14 (by decide) ?_
        refine lv_istore (lv' := [(4, .int (0 : Int32)), (3, .int v3_1), (2, .int v2_2), (0, .ref (X.ad 61)), (1, .int x1)]) hx hb dX8_standingOf_15 hl (by decide) rfl (fun ls hl => ?_)
        obtain ⟨o17, ho17, hf⟩ := b_d hf
        refine lp_rule (b := bd_X8_standingOf_17 x1 M) (P := fun w : Int32 × Int32 => ∀ (H : Heap) (locs : List Loc) (ls : Array Slot), wd X M H → va_S X.A s.heap H locs → lv_has ls 5 [(4, .int w.2), (3, .int v3_1), (2, .int w.1), (0, .ref (X.ad 61)), (1, .int x1)] → WW p l e 1 21 s m [.ref (X.ad 61), .int x1] below meth c X (Qi X r M) H locs 17 ls []) (K := fun o => ∀ (v2_7 : Int32), o = v2_7 → ∀ (H : Heap) (locs : List Loc) (ls : Array Slot), wd X M H → va_S X.A s.heap H locs → lv_has ls 5 [(3, .int v3_1), (2, .int v2_7), (0, .ref (X.ad 61)), (1, .int x1)] → WW p l e 1 21 s m [.ref (X.ad 61), .int x1] below meth c X (Qi X r M) H locs 76 ls []) ?_ g (v2_2, (0 : Int32)) o17 ho17 ?_ H locs ls hP hS (lv_sub hl [0, 1, 2, 3, 4] rfl)
        · rintro ⟨v2_6, v4_5⟩ o hf hkc17 hke17 H locs ls hP hS hl
          have hf := u2_e hf
          have jn68 : ∀ (v4_12 : Int32) (s_13 : Int32) (s_14 : Int32), jn_X8_standingOf_68 s_13 s_14 v4_12 = some o → ∀ (H : Heap) (locs : List Loc) (ls : Array Slot), wd X M H → va_S X.A s.heap H locs → lv_has ls 5 [(0, .ref (X.ad 61)), (1, .int x1), (3, .int v3_1), (4, .int v4_12)] → WW p l e 1 21 s m [.ref (X.ad 61), .int x1] below meth c X (Qi X r M) H locs 68 ls [.int s_13, .int s_14] := by
            intro v4_12 s_13 s_14  hf H locs ls hP hS hl
            unfold jn_X8_standingOf_68 at hf
            refine lv_ior hx hb dX8_standingOf_68 ?_
            refine lv_topi (fun v2_15 e_v2_15 => ?_)
            have hf := b_v hf e_v2_15
            refine lv_istore_n (lv' := [(2, .int v2_15), (0, .ref (X.ad 61)), (1, .int x1), (3, .int v3_1), (4, .int v4_12)]) hx hb dX8_standingOf_69 rfl hl (by decide) rfl (fun ls hl => ?_)
            refine lv_iinc (v := v4_12 + (1 : Int32)) (lv' := [(4, .int (v4_12 + (1 : Int32))), (2, .int v2_15), (0, .ref (X.ad 61)), (1, .int x1), (3, .int v3_1)]) hx hb dX8_standingOf_70 hl (k := 4) rfl rfl (by decide) rfl (fun ls hl => ?_)
            refine lv_goto (tgt := 17) hx hb dX8_standingOf_73 (by decide) ?_
            exact hkc17 _ (Option.some.inj hf).symm H locs ls hP hS (lv_sub hl [0, 4, 1, 2, 3] rfl)
          have jn67 : ∀ (v4_10 : Int32) (s_11 : Int32), jn_X8_standingOf_67 s_11 v4_10 = some o → ∀ (H : Heap) (locs : List Loc) (ls : Array Slot), wd X M H → va_S X.A s.heap H locs → lv_has ls 5 [(0, .ref (X.ad 61)), (1, .int x1), (3, .int v3_1), (4, .int v4_10)] → WW p l e 1 21 s m [.ref (X.ad 61), .int x1] below meth c X (Qi X r M) H locs 67 ls [.int s_11] := by
            intro v4_10 s_11  hf H locs ls hP hS hl
            unfold jn_X8_standingOf_67 at hf
            refine lv_iconst (v := (0 : Int32)) hx hb dX8_standingOf_67 (by decide) ?_
            exact jn68 v4_10 (0 : Int32) s_11 hf H locs ls hP hS (lv_sub hl [0, 1, 2, 3] rfl)
          have jn60 : ∀ (v4_18 : Int32) (s_19 : Int32), jn_X8_standingOf_60 s_19 v4_18 = some o → ∀ (H : Heap) (locs : List Loc) (ls : Array Slot), wd X M H → va_S X.A s.heap H locs → lv_has ls 5 [(0, .ref (X.ad 61)), (1, .int x1), (3, .int v3_1), (4, .int v4_18)] → WW p l e 1 21 s m [.ref (X.ad 61), .int x1] below meth c X (Qi X r M) H locs 60 ls [.int s_19] := by
            intro v4_18 s_19  hf H locs ls hP hS hl
            unfold jn_X8_standingOf_60 at hf
            refine lv_iconst (v := (1 : Int32)) hx hb dX8_standingOf_60 (by decide) ?_
            refine lv_iload hx hb dX8_standingOf_61 (lv_at hl 3 rfl) ?_
            refine rw_ishl hx hb dX8_standingOf_63 ?_
            refine lv_goto (tgt := 68) hx hb dX8_standingOf_64 (by decide) ?_
            exact jn68 v4_18 (sl (1 : Int32) v4_18) s_19 hf H locs ls hP hS (lv_sub hl [0, 1, 2, 3] rfl)
          refine lv_iload hx hb dX8_standingOf_17 (lv_at hl 0 rfl) ?_
          refine lv_aload_n hx hb dX8_standingOf_19 rfl (lv_at hl 3 rfl) ?_
          refine gX8_0 hx hb hts hown hk hP wd_3_192 dX8_standingOf_20 ?_
          refine lv_iconst (v := (0 : Int32)) hx hb dX8_standingOf_23 (by decide) ?_
          refine ald hx hb hk hP (by decide) rfl (show inb _ _ from by decide) dX8_standingOf_24 ?_
          refine lv_icmp_ge (tgt := 76) hx hb dX8_standingOf_25 (by decide) (fun c_8 => ?_) (fun c_8 => ?_)
          · have hf := i_t c_8 hf
            exact hke17 _ (Option.some.inj hf).symm _ rfl H locs ls hP hS (lv_sub hl [1, 2, 3, 4] rfl)
          · have hf := i_f c_8 hf
            refine lv_iload_n hx hb dX8_standingOf_28 rfl (lv_at hl 2 rfl) ?_
            refine lv_iload_n hx hb dX8_standingOf_29 rfl (lv_at hl 4 rfl) ?_
            refine lv_iload hx hb dX8_standingOf_30 (lv_at hl 0 rfl) ?_
            refine k_X8_has hZ hP hS hl.1 wd_4_153 ⟨Nat.le_of_ble_eq_true rfl, Nat.le_of_ble_eq_true rfl⟩ (Nat.le_of_ble_eq_true rfl) dX8_standingOf_32 ⟨Nat.zero_le _, Nat.zero_le _⟩ (fun H locs hP hS => ?_)
            refine lv_if_eq (tgt := 67) hx hb dX8_standingOf_35 (by decide) (fun c_9 => ?_) (fun c_9 => ?_)
            · have hf := i_t c_9 hf
              exact jn67 v4_5 v2_6 hf H locs ls hP hS (lv_sub hl [3, 4, 1, 0] rfl)
            · have hf := i_f c_9 hf
              refine lv_aload_n hx hb dX8_standingOf_38 rfl (lv_at hl 3 rfl) ?_
              refine gX8_4 hx hb hts hown hk hP wd_3_196 dX8_standingOf_39 ?_
              refine lv_iload hx hb dX8_standingOf_42 (lv_at hl 0 rfl) ?_
              obtain ⟨q_16, hf⟩ := g_if hf
              refine zald hx hb hk hP (by decide) rfl q_16 dX8_standingOf_44 ?_
              refine lv_if_ne (tgt := 60) hx hb dX8_standingOf_45 (by decide) (fun c_17 => ?_) (fun c_17 => ?_)
              · have hf := i_f c_17 hf
                exact jn60 v4_5 v2_6 hf H locs ls hP hS (lv_sub hl [3, 4, 1, 0] rfl)
              · have hf := i_t c_17 hf
                refine lv_aload_n hx hb dX8_standingOf_48 rfl (lv_at hl 3 rfl) ?_
                refine gX8_3 hx hb hts hown hk hP wd_3_195 dX8_standingOf_49 ?_
                refine lv_iload hx hb dX8_standingOf_52 (lv_at hl 0 rfl) ?_
                obtain ⟨q_20, hf⟩ := g_if hf
                refine ald hx hb hk hP (by decide) rfl q_20 dX8_standingOf_54 ?_
                refine lv_iload_n hx hb dX8_standingOf_55 rfl (lv_at hl 2 rfl) ?_
                refine lv_iand hx hb dX8_standingOf_56 ?_
                refine lv_if_eq (tgt := 67) hx hb dX8_standingOf_57 (by decide) (fun c_21 => ?_) (fun c_21 => ?_)
                · have hf := i_t c_21 hf
                  exact jn67 v4_5 v2_6 hf H locs ls hP hS (lv_sub hl [3, 4, 1, 0] rfl)
                · have hf := i_f c_21 hf
                  exact jn60 v4_5 v2_6 hf H locs ls hP hS (lv_sub hl [3, 4, 1, 0] rfl)
        · intro v2_7 e H locs ls hP hS hl
          subst o17
          have hf := u1_e hf
          refine lv_iinc (v := v3_1 + (1 : Int32)) (lv' := [(3, .int (v3_1 + (1 : Int32))), (2, .int v2_7), (0, .ref (X.ad 61)), (1, .int x1)]) hx hb dX8_standingOf_76 hl (k := 0) rfl rfl (by decide) rfl (fun ls hl => ?_)
          refine lv_goto (tgt := 4) hx hb dX8_standingOf_79 (by decide) ?_
          exact hkc4 _ (Option.some.inj hf).symm H locs ls hP hS (lv_sub hl [0, 1, 2, 3] rfl)
    · intro v2_3 e H locs ls hP hS hl
      subst o4
      have hf := u1_e hf
      refine lv_iload_n hx hb dX8_standingOf_82 rfl (lv_at hl 0 rfl) ?_
      have hf := Option.some.inj hf
      exact ret_i hx hb hr hlocks hP hS hf dX8_standingOf_83
  exact key s.heap [] hP hS
theorem hd_X8_standingOf : Hd yX8_standingOf 1 := by decide +kernel
theorem k_X8_standingOf {p : Program} {l : Launch} {e : Env} {R : Room} {s : State} {m : MethodId} {args : Array Value} {below : List Frame} {meth : Method} {c : Code} {H : Heap} {locs : List Loc} {cells slots : Nat} {Q : State → Prop} {cc : ByteArray} {nL pc index : Nat} {ls : Array Slot} {rest : List Value} {X : En} {M : Mem} {H0 : Heap} {own : String} {g : Nat} {x1 : Int32} {r : Int32} (hZ : Fx p c m s args X cc nL own) (hP : wd X M H) (hS : va_S X.A H0 H locs) (hsz : ls.size = nL) (hlk : Cond.methodLink own index yX8_standingOf ∈ lw_u) (hR : 1 + 1 ≤ R.frames ∧ 8 + (5 + 11) + 21 ≤ R.locals) (hW : (rest.map fun v => v.category).sum ≤ 8) (hdg : decode cc pc = .ok (.invokevirtual index, 3)) (hcs : cells ≤ R.cells ∧ slots ≤ R.slots) (hf : fn_X8_standingOf g x1 M = some r)
    (kk : ∀ (H1 : Heap) (locs1 : List Loc), wd X M H1 → va_S X.A H0 H1 locs1 → W p l e R s m args below meth c H1 locs1 cells slots Q (F0 m (pc + 3) ls (.int r :: rest))) : W p l e R s m args below meth c H locs cells slots Q (F0 m pc ls (.int x1 :: .ref (X.ad 61) :: rest)) :=
  cal_i (runV (As := [.int x1]) (rest := rest) hZ.1 hZ.2.1 hZ.2.2.1 hZ.2.2.2.1 hZ.2.2.2.2.1 hZ.2.2.2.2.2 hP (c_X8_standingOf g x1 M r hf) wd_4_171 wd_4_170 wd_p_52 wd_1_9 hd_X8_standingOf (by decide) rfl rfl rfl hlk hR hsz rfl hW hdg hcs) hS kk
/-! FrameRaiserModel.contactOf -/
def jn_X8_contactOf_63 (s_16 : Int32) (s_17 : Int32) (v5_15 : Int32) : Option ((Int32 × Int32) ⊕ (Int32)) :=
  bv (s_17 + s_16) fun v3_18 =>
  some (.inl (v3_18, v5_15 + (1 : Int32)))
def jn_X8_contactOf_62 (s_14 : Int32) (v5_13 : Int32) : Option ((Int32 × Int32) ⊕ (Int32)) :=
  jn_X8_contactOf_63 (0 : Int32) s_14 v5_13
def bd_X8_contactOf_16 (v4_1 : Int32) (x1 : Int32) (x2 : Int32) (M : Mem) : (Int32 × Int32) → Option ((Int32 × Int32) ⊕ (Int32)) :=
  u2 fun v3_6 v5_5 =>
  if (6 : Int32) ≤ v5_5 then
    (some (.inr v3_6))
  else
    ((fn_X8_at v4_1 M).bind fun r_9 =>
    if r_9 = x1 then
      (bv (fn_X8_step v4_1 v5_5) fun v6_11 =>
      if v6_11 < 0 then
        (jn_X8_contactOf_62 v3_6 v5_5)
      else
        ((fn_X8_at v6_11 M).bind fun r_19 =>
        if r_19 = x2 then
          (jn_X8_contactOf_63 (1 : Int32) v3_6 v5_5)
        else
          (jn_X8_contactOf_62 v3_6 v5_5)))
    else
      (some (.inr v3_6)))
def bd_X8_contactOf_5 (g : Nat) (x1 : Int32) (x2 : Int32) (M : Mem) : (Int32 × Int32) → Option ((Int32 × Int32) ⊕ (Int32)) :=
  u2 fun v3_2 v4_1 =>
  if (216 : Int32) ≤ v4_1 then
    (some (.inr v3_2))
  else
    ((lpN g (bd_X8_contactOf_16 v4_1 x1 x2 M) (v3_2, (0 : Int32))).bind (u1 fun v3_7 =>
      some (.inl (v3_7, v4_1 + (1 : Int32)))))
def fn_X8_contactOf (g : Nat) (x1 : Int32) (x2 : Int32) (M : Mem) : Option (Int32) :=
  (lpN g (bd_X8_contactOf_5 g x1 x2 M) ((0 : Int32), (0 : Int32))).bind (u1 fun v3_3 =>
    some v3_3)
theorem dX8_contactOf_0 : decode cX8_contactOf 0 = .ok (.iconst 0, 1) := by decide +kernel
theorem dX8_contactOf_1 : decode cX8_contactOf 1 = .ok (.istore_n 3, 1) := by decide +kernel
theorem dX8_contactOf_2 : decode cX8_contactOf 2 = .ok (.iconst 0, 1) := by decide +kernel
theorem dX8_contactOf_3 : decode cX8_contactOf 3 = .ok (.istore 4, 2) := by decide +kernel
theorem dX8_contactOf_5 : decode cX8_contactOf 5 = .ok (.iload 4, 2) := by decide +kernel
theorem dX8_contactOf_7 : decode cX8_contactOf 7 = .ok (.sipush 216, 3) := by decide +kernel
theorem dX8_contactOf_10 : decode cX8_contactOf 10 = .ok (.if_icmp .ge 67, 3) := by decide +kernel
theorem dX8_contactOf_13 : decode cX8_contactOf 13 = .ok (.iconst 0, 1) := by decide +kernel
theorem dX8_contactOf_14 : decode cX8_contactOf 14 = .ok (.istore 5, 2) := by decide +kernel
theorem dX8_contactOf_16 : decode cX8_contactOf 16 = .ok (.iload 5, 2) := by decide +kernel
theorem dX8_contactOf_18 : decode cX8_contactOf 18 = .ok (.bipush 6, 2) := by decide +kernel
theorem dX8_contactOf_20 : decode cX8_contactOf 20 = .ok (.if_icmp .ge 51, 3) := by decide +kernel
theorem dX8_contactOf_23 : decode cX8_contactOf 23 = .ok (.aload_n 0, 1) := by decide +kernel
theorem dX8_contactOf_24 : decode cX8_contactOf 24 = .ok (.iload 4, 2) := by decide +kernel
theorem dX8_contactOf_26 : decode cX8_contactOf 26 = .ok (.invokevirtual 61, 3) := by decide +kernel
theorem dX8_contactOf_29 : decode cX8_contactOf 29 = .ok (.iload_n 1, 1) := by decide +kernel
theorem dX8_contactOf_30 : decode cX8_contactOf 30 = .ok (.if_icmp .ne 41, 3) := by decide +kernel
theorem dX8_contactOf_33 : decode cX8_contactOf 33 = .ok (.iload 4, 2) := by decide +kernel
theorem dX8_contactOf_35 : decode cX8_contactOf 35 = .ok (.iload 5, 2) := by decide +kernel
theorem dX8_contactOf_37 : decode cX8_contactOf 37 = .ok (.invokestatic 69, 3) := by decide +kernel
theorem dX8_contactOf_40 : decode cX8_contactOf 40 = .ok (.istore 6, 2) := by decide +kernel
theorem dX8_contactOf_42 : decode cX8_contactOf 42 = .ok (.iload_n 3, 1) := by decide +kernel
theorem dX8_contactOf_43 : decode cX8_contactOf 43 = .ok (.iload 6, 2) := by decide +kernel
theorem dX8_contactOf_45 : decode cX8_contactOf 45 = .ok (.ifCond .lt 17, 3) := by decide +kernel
theorem dX8_contactOf_48 : decode cX8_contactOf 48 = .ok (.aload_n 0, 1) := by decide +kernel
theorem dX8_contactOf_49 : decode cX8_contactOf 49 = .ok (.iload 6, 2) := by decide +kernel
theorem dX8_contactOf_51 : decode cX8_contactOf 51 = .ok (.invokevirtual 61, 3) := by decide +kernel
theorem dX8_contactOf_54 : decode cX8_contactOf 54 = .ok (.iload_n 2, 1) := by decide +kernel
theorem dX8_contactOf_55 : decode cX8_contactOf 55 = .ok (.if_icmp .ne 7, 3) := by decide +kernel
theorem dX8_contactOf_58 : decode cX8_contactOf 58 = .ok (.iconst 1, 1) := by decide +kernel
theorem dX8_contactOf_59 : decode cX8_contactOf 59 = .ok (.goto 4, 3) := by decide +kernel
theorem dX8_contactOf_62 : decode cX8_contactOf 62 = .ok (.iconst 0, 1) := by decide +kernel
theorem dX8_contactOf_63 : decode cX8_contactOf 63 = .ok (.iadd, 1) := by decide +kernel
theorem dX8_contactOf_64 : decode cX8_contactOf 64 = .ok (.istore_n 3, 1) := by decide +kernel
theorem dX8_contactOf_65 : decode cX8_contactOf 65 = .ok (.iinc 5 1, 3) := by decide +kernel
theorem dX8_contactOf_68 : decode cX8_contactOf 68 = .ok (.goto (-52), 3) := by decide +kernel
theorem dX8_contactOf_71 : decode cX8_contactOf 71 = .ok (.iinc 4 1, 3) := by decide +kernel
theorem dX8_contactOf_74 : decode cX8_contactOf 74 = .ok (.goto (-69), 3) := by decide +kernel
theorem dX8_contactOf_77 : decode cX8_contactOf 77 = .ok (.iload_n 3, 1) := by decide +kernel
theorem dX8_contactOf_78 : decode cX8_contactOf 78 = .ok (.ireturn, 1) := by decide +kernel
set_option maxHeartbeats 4000000 in
set_option maxRecDepth 100000 in
theorem c_X8_contactOf {l : Launch} {X : En} (g : Nat) (x1 : Int32) (x2 : Int32) (M : Mem) (r : Int32) (hf : fn_X8_contactOf g x1 x2 M = some r) : Cn l X yX8_contactOf cX8_contactOf 7 (some .int) 2 46 [.ref (X.ad 61), .int x1, .int x2] M (Qi X r M) := by
  refine Met.ofW (cc := cX8_contactOf) (maxL := 7) (ret := (some .int)) (by decide) rfl ?_
  intro p e s m args below meth c s₁ B hml hv
  obtain ⟨rfl, hP, hk⟩ := hv
  have hx := B.exec
  have hb := B.bytes
  have hr := B.returns
  have hlocks := B.notSynchronized
  have hts : ∀ w ∈ lw_u, w.before ([.ref (X.ad 61), .int x1, .int x2] : List Value).toArray s = true := fun w hw => atoms_spec (ws := Cond.code yX8_contactOf cX8_contactOf 7 (some .int) :: lw_u) B.pre w (List.mem_cons_of_mem _ hw)
  have hown : s.vm.findClass RX8 = some m.cls := findClass_of_methodNamed B.named
  have hZ : Fx p c m s ([.ref (X.ad 61), .int x1, .int x2] : List Value).toArray X cX8_contactOf 7 RX8 := ⟨hx, hb, hml, hts, hown, hk⟩
  have hS : va_S X.A s.heap s.heap [] := va_S.rf
  have hl := lv_entry ([.ref (X.ad 61), .int x1, .int x2]) (n := 7) (Nat.le_of_ble_eq_true rfl)
  rw [lg_entry_eq]
  generalize (lg_sl ([.ref (X.ad 61), .int x1, .int x2]) ++ List.replicate (7 - (lg_sl ([.ref (X.ad 61), .int x1, .int x2])).length) Slot.unset).toArray = ls at hl ⊢
  have hl : lv_has ls 7 [(0, .ref (X.ad 61)), (1, .int x1), (2, .int x2)] := hl
  show WW p l e 2 46 s m [.ref (X.ad 61), .int x1, .int x2] below meth c X (Qi X r M) s.heap [] 0 ls []
  have hP : wd X M s.heap := hP
  unfold fn_X8_contactOf at hf
  have key : ∀ (H : Heap) (locs : List Loc), wd X M H → va_S X.A s.heap H locs → WW p l e 2 46 s m [.ref (X.ad 61), .int x1, .int x2] below meth c X (Qi X r M) H locs 0 ls [] := by
    intro H locs hP hS
    refine lv_iconst (v := (0 : Int32)) hx hb dX8_contactOf_0 (by decide) ?_
    refine lv_istore_n (lv' := [(3, .int (0 : Int32)), (0, .ref (X.ad 61)), (1, .int x1), (2, .int x2)]) hx hb dX8_contactOf_1 rfl hl (by decide) rfl (fun ls hl => ?_)
    refine lv_iconst (v := (0 : Int32)) hx hb dX8_contactOf_2 (by decide) ?_
    refine lv_istore (lv' := [(4, .int (0 : Int32)), (3, .int (0 : Int32)), (0, .ref (X.ad 61)), (1, .int x1), (2, .int x2)]) hx hb dX8_contactOf_3 hl (by decide) rfl (fun ls hl => ?_)
    obtain ⟨o5, ho5, hf⟩ := b_d hf
    refine lp_rule (b := bd_X8_contactOf_5 g x1 x2 M) (P := fun w : Int32 × Int32 => ∀ (H : Heap) (locs : List Loc) (ls : Array Slot), wd X M H → va_S X.A s.heap H locs → lv_has ls 7 [(4, .int w.2), (3, .int w.1), (0, .ref (X.ad 61)), (1, .int x1), (2, .int x2)] → WW p l e 2 46 s m [.ref (X.ad 61), .int x1, .int x2] below meth c X (Qi X r M) H locs 5 ls []) (K := fun o => ∀ (v3_3 : Int32), o = v3_3 → ∀ (H : Heap) (locs : List Loc) (ls : Array Slot), wd X M H → va_S X.A s.heap H locs → lv_has ls 7 [(3, .int v3_3)] → WW p l e 2 46 s m [.ref (X.ad 61), .int x1, .int x2] below meth c X (Qi X r M) H locs 77 ls []) ?_ g ((0 : Int32), (0 : Int32)) o5 ho5 ?_ H locs ls hP hS (lv_sub hl [0, 1, 2, 3, 4] rfl)
    · rintro ⟨v3_2, v4_1⟩ o hf hkc5 hke5 H locs ls hP hS hl
      have hf := u2_e hf
      refine lv_iload hx hb dX8_contactOf_5 (lv_at hl 0 rfl) ?_
      refine lv_sipush (v := (216 : Int32)) hx hb dX8_contactOf_7 (by decide) ?_
      refine lv_icmp_ge (tgt := 77) hx hb dX8_contactOf_10 (by decide) (fun c_4 => ?_) (fun c_4 => ?_)
      · have hf := i_t c_4 hf
        exact hke5 _ (Option.some.inj hf).symm _ rfl H locs ls hP hS (lv_sub hl [1] rfl)
      · have hf := i_f c_4 hf
        refine lv_iconst (v := (0 : Int32)) hx hb dX8_contactOf_13 (by decide) ?_
        refine lv_istore (lv' := [(5, .int (0 : Int32)), (4, .int v4_1), (3, .int v3_2), (0, .ref (X.ad 61)), (1, .int x1), (2, .int x2)]) hx hb dX8_contactOf_14 hl (by decide) rfl (fun ls hl => ?_)
        obtain ⟨o16, ho16, hf⟩ := b_d hf
        refine lp_rule (b := bd_X8_contactOf_16 v4_1 x1 x2 M) (P := fun w : Int32 × Int32 => ∀ (H : Heap) (locs : List Loc) (ls : Array Slot), wd X M H → va_S X.A s.heap H locs → lv_has ls 7 [(5, .int w.2), (4, .int v4_1), (3, .int w.1), (0, .ref (X.ad 61)), (1, .int x1), (2, .int x2)] → WW p l e 2 46 s m [.ref (X.ad 61), .int x1, .int x2] below meth c X (Qi X r M) H locs 16 ls []) (K := fun o => ∀ (v3_7 : Int32), o = v3_7 → ∀ (H : Heap) (locs : List Loc) (ls : Array Slot), wd X M H → va_S X.A s.heap H locs → lv_has ls 7 [(4, .int v4_1), (3, .int v3_7), (0, .ref (X.ad 61)), (1, .int x1), (2, .int x2)] → WW p l e 2 46 s m [.ref (X.ad 61), .int x1, .int x2] below meth c X (Qi X r M) H locs 71 ls []) ?_ g (v3_2, (0 : Int32)) o16 ho16 ?_ H locs ls hP hS (lv_sub hl [0, 1, 2, 3, 4, 5] rfl)
        · rintro ⟨v3_6, v5_5⟩ o hf hkc16 hke16 H locs ls hP hS hl
          have hf := u2_e hf
          have jn63 : ∀ (v5_15 : Int32) (s_16 : Int32) (s_17 : Int32), jn_X8_contactOf_63 s_16 s_17 v5_15 = some o → ∀ (H : Heap) (locs : List Loc) (ls : Array Slot), wd X M H → va_S X.A s.heap H locs → lv_has ls 7 [(0, .ref (X.ad 61)), (1, .int x1), (2, .int x2), (4, .int v4_1), (5, .int v5_15)] → WW p l e 2 46 s m [.ref (X.ad 61), .int x1, .int x2] below meth c X (Qi X r M) H locs 63 ls [.int s_16, .int s_17] := by
            intro v5_15 s_16 s_17  hf H locs ls hP hS hl
            unfold jn_X8_contactOf_63 at hf
            refine lv_iadd hx hb dX8_contactOf_63 ?_
            refine lv_topi (fun v3_18 e_v3_18 => ?_)
            have hf := b_v hf e_v3_18
            refine lv_istore_n (lv' := [(3, .int v3_18), (0, .ref (X.ad 61)), (1, .int x1), (2, .int x2), (4, .int v4_1), (5, .int v5_15)]) hx hb dX8_contactOf_64 rfl hl (by decide) rfl (fun ls hl => ?_)
            refine lv_iinc (v := v5_15 + (1 : Int32)) (lv' := [(5, .int (v5_15 + (1 : Int32))), (3, .int v3_18), (0, .ref (X.ad 61)), (1, .int x1), (2, .int x2), (4, .int v4_1)]) hx hb dX8_contactOf_65 hl (k := 5) rfl rfl (by decide) rfl (fun ls hl => ?_)
            refine lv_goto (tgt := 16) hx hb dX8_contactOf_68 (by decide) ?_
            exact hkc16 _ (Option.some.inj hf).symm H locs ls hP hS (lv_sub hl [0, 5, 1, 2, 3, 4] rfl)
          have jn62 : ∀ (v5_13 : Int32) (s_14 : Int32), jn_X8_contactOf_62 s_14 v5_13 = some o → ∀ (H : Heap) (locs : List Loc) (ls : Array Slot), wd X M H → va_S X.A s.heap H locs → lv_has ls 7 [(0, .ref (X.ad 61)), (1, .int x1), (2, .int x2), (4, .int v4_1), (5, .int v5_13)] → WW p l e 2 46 s m [.ref (X.ad 61), .int x1, .int x2] below meth c X (Qi X r M) H locs 62 ls [.int s_14] := by
            intro v5_13 s_14  hf H locs ls hP hS hl
            unfold jn_X8_contactOf_62 at hf
            refine lv_iconst (v := (0 : Int32)) hx hb dX8_contactOf_62 (by decide) ?_
            exact jn63 v5_13 (0 : Int32) s_14 hf H locs ls hP hS (lv_sub hl [0, 1, 2, 3, 4] rfl)
          refine lv_iload hx hb dX8_contactOf_16 (lv_at hl 0 rfl) ?_
          refine lv_bipush (v := (6 : Int32)) hx hb dX8_contactOf_18 (by decide) ?_
          refine lv_icmp_ge (tgt := 71) hx hb dX8_contactOf_20 (by decide) (fun c_8 => ?_) (fun c_8 => ?_)
          · have hf := i_t c_8 hf
            exact hke16 _ (Option.some.inj hf).symm _ rfl H locs ls hP hS (lv_sub hl [1, 2, 3, 4, 5] rfl)
          · have hf := i_f c_8 hf
            refine lv_aload_n hx hb dX8_contactOf_23 rfl (lv_at hl 3 rfl) ?_
            refine lv_iload hx hb dX8_contactOf_24 (lv_at hl 1 rfl) ?_
            obtain ⟨r_9, h_r_9, hf⟩ := b_d hf
            refine k_X8_at hZ hP hS hl.1 wd_3_175 ⟨Nat.le_of_ble_eq_true rfl, Nat.le_of_ble_eq_true rfl⟩ (Nat.le_of_ble_eq_true rfl) dX8_contactOf_26 ⟨Nat.zero_le _, Nat.zero_le _⟩ h_r_9 (fun H locs hP hS => ?_)
            refine lv_iload_n hx hb dX8_contactOf_29 rfl (lv_at hl 4 rfl) ?_
            refine lv_icmp_ne (tgt := 71) hx hb dX8_contactOf_30 (by decide) (fun c_10 => ?_) (fun c_10 => ?_)
            · have hf := i_f c_10 hf
              exact hke16 _ (Option.some.inj hf).symm _ rfl H locs ls hP hS (lv_sub hl [1, 2, 3, 4, 5] rfl)
            · have hf := i_t c_10 hf
              refine lv_iload hx hb dX8_contactOf_33 (lv_at hl 1 rfl) ?_
              refine lv_iload hx hb dX8_contactOf_35 (lv_at hl 0 rfl) ?_
              refine k_X8_step hZ hP hS hl.1 wd_3_183 ⟨Nat.le_of_ble_eq_true rfl, Nat.le_of_ble_eq_true rfl⟩ (Nat.le_of_ble_eq_true rfl) dX8_contactOf_37 ⟨Nat.zero_le _, Nat.zero_le _⟩ (fun H locs hP hS => ?_)
              refine lv_topi (fun v6_11 e_v6_11 => ?_)
              have hf := b_v hf e_v6_11
              refine lv_istore (lv' := [(6, .int v6_11), (5, .int v5_5), (4, .int v4_1), (3, .int v3_6), (0, .ref (X.ad 61)), (1, .int x1), (2, .int x2)]) hx hb dX8_contactOf_40 hl (by decide) rfl (fun ls hl => ?_)
              refine lv_iload_n hx hb dX8_contactOf_42 rfl (lv_at hl 3 rfl) ?_
              refine lv_iload hx hb dX8_contactOf_43 (lv_at hl 0 rfl) ?_
              refine lv_if_lt (tgt := 62) hx hb dX8_contactOf_45 (by decide) (fun c_12 => ?_) (fun c_12 => ?_)
              · have hf := i_t c_12 hf
                exact jn62 v5_5 v3_6 hf H locs ls hP hS (lv_sub hl [4, 5, 6, 2, 1] rfl)
              · have hf := i_f c_12 hf
                refine lv_aload_n hx hb dX8_contactOf_48 rfl (lv_at hl 4 rfl) ?_
                refine lv_iload hx hb dX8_contactOf_49 (lv_at hl 0 rfl) ?_
                obtain ⟨r_19, h_r_19, hf⟩ := b_d hf
                refine k_X8_at hZ hP hS hl.1 wd_3_175 ⟨Nat.le_of_ble_eq_true rfl, Nat.le_of_ble_eq_true rfl⟩ (Nat.le_of_ble_eq_true rfl) dX8_contactOf_51 ⟨Nat.zero_le _, Nat.zero_le _⟩ h_r_19 (fun H locs hP hS => ?_)
                refine lv_iload_n hx hb dX8_contactOf_54 rfl (lv_at hl 6 rfl) ?_
                refine lv_icmp_ne (tgt := 62) hx hb dX8_contactOf_55 (by decide) (fun c_20 => ?_) (fun c_20 => ?_)
                · have hf := i_f c_20 hf
                  exact jn62 v5_5 v3_6 hf H locs ls hP hS (lv_sub hl [4, 5, 6, 2, 1] rfl)
                · have hf := i_t c_20 hf
                  refine lv_iconst (v := (1 : Int32)) hx hb dX8_contactOf_58 (by decide) ?_
                  refine lv_goto (tgt := 63) hx hb dX8_contactOf_59 (by decide) ?_
                  exact jn63 v5_5 (1 : Int32) v3_6 hf H locs ls hP hS (lv_sub hl [4, 5, 6, 2, 1] rfl)
        · intro v3_7 e H locs ls hP hS hl
          subst o16
          have hf := u1_e hf
          refine lv_iinc (v := v4_1 + (1 : Int32)) (lv' := [(4, .int (v4_1 + (1 : Int32))), (3, .int v3_7), (0, .ref (X.ad 61)), (1, .int x1), (2, .int x2)]) hx hb dX8_contactOf_71 hl (k := 0) rfl rfl (by decide) rfl (fun ls hl => ?_)
          refine lv_goto (tgt := 5) hx hb dX8_contactOf_74 (by decide) ?_
          exact hkc5 _ (Option.some.inj hf).symm H locs ls hP hS (lv_sub hl [0, 1, 2, 3, 4] rfl)
    · intro v3_3 e H locs ls hP hS hl
      subst o5
      have hf := u1_e hf
      refine lv_iload_n hx hb dX8_contactOf_77 rfl (lv_at hl 0 rfl) ?_
      have hf := Option.some.inj hf
      exact ret_i hx hb hr hlocks hP hS hf dX8_contactOf_78
  exact key s.heap [] hP hS
theorem hd_X8_contactOf : Hd yX8_contactOf 2 := by decide +kernel
theorem k_X8_contactOf {p : Program} {l : Launch} {e : Env} {R : Room} {s : State} {m : MethodId} {args : Array Value} {below : List Frame} {meth : Method} {c : Code} {H : Heap} {locs : List Loc} {cells slots : Nat} {Q : State → Prop} {cc : ByteArray} {nL pc index : Nat} {ls : Array Slot} {rest : List Value} {X : En} {M : Mem} {H0 : Heap} {own : String} {g : Nat} {x1 : Int32} {x2 : Int32} {r : Int32} (hZ : Fx p c m s args X cc nL own) (hP : wd X M H) (hS : va_S X.A H0 H locs) (hsz : ls.size = nL) (hlk : Cond.methodLink own index yX8_contactOf ∈ lw_u) (hR : 2 + 1 ≤ R.frames ∧ 8 + (7 + 11) + 46 ≤ R.locals) (hW : (rest.map fun v => v.category).sum ≤ 8) (hdg : decode cc pc = .ok (.invokevirtual index, 3)) (hcs : cells ≤ R.cells ∧ slots ≤ R.slots) (hf : fn_X8_contactOf g x1 x2 M = some r)
    (kk : ∀ (H1 : Heap) (locs1 : List Loc), wd X M H1 → va_S X.A H0 H1 locs1 → W p l e R s m args below meth c H1 locs1 cells slots Q (F0 m (pc + 3) ls (.int r :: rest))) : W p l e R s m args below meth c H locs cells slots Q (F0 m pc ls (.int x2 :: .int x1 :: .ref (X.ad 61) :: rest)) :=
  cal_i (runV (As := [.int x1, .int x2]) (rest := rest) hZ.1 hZ.2.1 hZ.2.2.1 hZ.2.2.2.1 hZ.2.2.2.2.1 hZ.2.2.2.2.2 hP (c_X8_contactOf g x1 x2 M r hf) wd_4_144 wd_4_143 wd_p_49 wd_1_9 hd_X8_contactOf (by decide) rfl rfl rfl hlk hR hsz rfl hW hdg hcs) hS kk
/-! FrameRaiserModel.hangs -/
def jn_X8_hangs_88 (s_19 : Int32) (s_20 : Int32) (v5_18 : Int32) : Option ((Int32 × Int32) ⊕ (Int32)) :=
  bv (s_20 ||| s_19) fun v2_21 =>
  some (.inl (v2_21, v5_18 + (1 : Int32)))
def jn_X8_hangs_87 (s_17 : Int32) (v5_16 : Int32) : Option ((Int32 × Int32) ⊕ (Int32)) :=
  jn_X8_hangs_88 (0 : Int32) s_17 v5_16
def bd_X8_hangs_30 (g : Nat) (v4_6 : Int32) (x1 : Int32) (M : Mem) : (Int32 × Int32) → Option ((Int32 × Int32) ⊕ (Int32)) :=
  u2 fun v2_11 v5_10 =>
  if (M 62 (ix (0 : Int32))) ≤ v5_10 then
    (some (.inr v2_11))
  else
    (if (fn_X8_has v2_11 v4_6) = 0 then
      (some (.inr v2_11))
    else
      (if (fn_X8_has x1 v5_10) = 0 then
        (jn_X8_hangs_87 v2_11 v5_10)
      else
        (if (fn_X8_has v2_11 v5_10) = 0 then
          ((fn_X8_contactOf g v4_6 v5_10 M).bind fun r_23 =>
          if r_23 ≤ 0 then
            (jn_X8_hangs_87 v2_11 v5_10)
          else
            (jn_X8_hangs_88 (sl (1 : Int32) v5_10) v2_11 v5_10))
        else
          (jn_X8_hangs_87 v2_11 v5_10))))
def bd_X8_hangs_16 (g : Nat) (x1 : Int32) (M : Mem) : (Int32 × Int32) → Option ((Int32 × Int32) ⊕ (Int32)) :=
  u2 fun v2_7 v4_6 =>
  if (M 62 (ix (0 : Int32))) ≤ v4_6 then
    (some (.inr v2_7))
  else
    ((lpN g (bd_X8_hangs_30 g v4_6 x1 M) (v2_7, (0 : Int32))).bind (u1 fun v2_12 =>
      some (.inl (v2_12, v4_6 + (1 : Int32)))))
def bd_X8_hangs_7 (g : Nat) (x1 : Int32) (M : Mem) : (Int32 × Int32) → Option ((Int32 × Int32) ⊕ (Int32)) :=
  u2 fun v2_3 v3_2 =>
  if (8 : Int32) ≤ v3_2 then
    (some (.inr v2_3))
  else
    ((lpN g (bd_X8_hangs_16 g x1 M) (v2_3, (0 : Int32))).bind (u1 fun v2_8 =>
      some (.inl (v2_8, v3_2 + (1 : Int32)))))
def fn_X8_hangs (g : Nat) (x1 : Int32) (M : Mem) : Option (Int32) :=
  bv (x1 &&& (-x1)) fun v2_1 =>
  (lpN g (bd_X8_hangs_7 g x1 M) (v2_1, (0 : Int32))).bind (u1 fun v2_4 =>
    if v2_4 = x1 then
      (some (1 : Int32))
    else
      (some (0 : Int32)))
theorem dX8_hangs_0 : decode cX8_hangs 0 = .ok (.iload_n 1, 1) := by decide +kernel
theorem dX8_hangs_1 : decode cX8_hangs 1 = .ok (.iload_n 1, 1) := by decide +kernel
theorem dX8_hangs_2 : decode cX8_hangs 2 = .ok (.ineg, 1) := by decide +kernel
theorem dX8_hangs_3 : decode cX8_hangs 3 = .ok (.iand, 1) := by decide +kernel
theorem dX8_hangs_4 : decode cX8_hangs 4 = .ok (.istore_n 2, 1) := by decide +kernel
theorem dX8_hangs_5 : decode cX8_hangs 5 = .ok (.iconst 0, 1) := by decide +kernel
theorem dX8_hangs_6 : decode cX8_hangs 6 = .ok (.istore_n 3, 1) := by decide +kernel
theorem dX8_hangs_7 : decode cX8_hangs 7 = .ok (.iload_n 3, 1) := by decide +kernel
theorem dX8_hangs_8 : decode cX8_hangs 8 = .ok (.bipush 8, 2) := by decide +kernel
theorem dX8_hangs_10 : decode cX8_hangs 10 = .ok (.if_icmp .ge 98, 3) := by decide +kernel
theorem dX8_hangs_13 : decode cX8_hangs 13 = .ok (.iconst 0, 1) := by decide +kernel
theorem dX8_hangs_14 : decode cX8_hangs 14 = .ok (.istore 4, 2) := by decide +kernel
theorem dX8_hangs_16 : decode cX8_hangs 16 = .ok (.iload 4, 2) := by decide +kernel
theorem dX8_hangs_18 : decode cX8_hangs 18 = .ok (.aload_n 0, 1) := by decide +kernel
theorem dX8_hangs_19 : decode cX8_hangs 19 = .ok (.getfield 7, 3) := by decide +kernel
theorem dX8_hangs_22 : decode cX8_hangs 22 = .ok (.iconst 0, 1) := by decide +kernel
theorem dX8_hangs_23 : decode cX8_hangs 23 = .ok (.iaload, 1) := by decide +kernel
theorem dX8_hangs_24 : decode cX8_hangs 24 = .ok (.if_icmp .ge 78, 3) := by decide +kernel
theorem dX8_hangs_27 : decode cX8_hangs 27 = .ok (.iconst 0, 1) := by decide +kernel
theorem dX8_hangs_28 : decode cX8_hangs 28 = .ok (.istore 5, 2) := by decide +kernel
theorem dX8_hangs_30 : decode cX8_hangs 30 = .ok (.iload 5, 2) := by decide +kernel
theorem dX8_hangs_32 : decode cX8_hangs 32 = .ok (.aload_n 0, 1) := by decide +kernel
theorem dX8_hangs_33 : decode cX8_hangs 33 = .ok (.getfield 7, 3) := by decide +kernel
theorem dX8_hangs_36 : decode cX8_hangs 36 = .ok (.iconst 0, 1) := by decide +kernel
theorem dX8_hangs_37 : decode cX8_hangs 37 = .ok (.iaload, 1) := by decide +kernel
theorem dX8_hangs_38 : decode cX8_hangs 38 = .ok (.if_icmp .ge 58, 3) := by decide +kernel
theorem dX8_hangs_41 : decode cX8_hangs 41 = .ok (.iload_n 2, 1) := by decide +kernel
theorem dX8_hangs_42 : decode cX8_hangs 42 = .ok (.iload 4, 2) := by decide +kernel
theorem dX8_hangs_44 : decode cX8_hangs 44 = .ok (.invokestatic 76, 3) := by decide +kernel
theorem dX8_hangs_47 : decode cX8_hangs 47 = .ok (.ifCond .eq 49, 3) := by decide +kernel
theorem dX8_hangs_50 : decode cX8_hangs 50 = .ok (.iload_n 2, 1) := by decide +kernel
theorem dX8_hangs_51 : decode cX8_hangs 51 = .ok (.iload_n 1, 1) := by decide +kernel
theorem dX8_hangs_52 : decode cX8_hangs 52 = .ok (.iload 5, 2) := by decide +kernel
theorem dX8_hangs_54 : decode cX8_hangs 54 = .ok (.invokestatic 76, 3) := by decide +kernel
theorem dX8_hangs_57 : decode cX8_hangs 57 = .ok (.ifCond .eq 30, 3) := by decide +kernel
theorem dX8_hangs_60 : decode cX8_hangs 60 = .ok (.iload_n 2, 1) := by decide +kernel
theorem dX8_hangs_61 : decode cX8_hangs 61 = .ok (.iload 5, 2) := by decide +kernel
theorem dX8_hangs_63 : decode cX8_hangs 63 = .ok (.invokestatic 76, 3) := by decide +kernel
theorem dX8_hangs_66 : decode cX8_hangs 66 = .ok (.ifCond .ne 21, 3) := by decide +kernel
theorem dX8_hangs_69 : decode cX8_hangs 69 = .ok (.aload_n 0, 1) := by decide +kernel
theorem dX8_hangs_70 : decode cX8_hangs 70 = .ok (.iload 4, 2) := by decide +kernel
theorem dX8_hangs_72 : decode cX8_hangs 72 = .ok (.iload 5, 2) := by decide +kernel
theorem dX8_hangs_74 : decode cX8_hangs 74 = .ok (.invokevirtual 80, 3) := by decide +kernel
theorem dX8_hangs_77 : decode cX8_hangs 77 = .ok (.ifCond .le 10, 3) := by decide +kernel
theorem dX8_hangs_80 : decode cX8_hangs 80 = .ok (.iconst 1, 1) := by decide +kernel
theorem dX8_hangs_81 : decode cX8_hangs 81 = .ok (.iload 5, 2) := by decide +kernel
theorem dX8_hangs_83 : decode cX8_hangs 83 = .ok (.ishl, 1) := by decide +kernel
theorem dX8_hangs_84 : decode cX8_hangs 84 = .ok (.goto 4, 3) := by decide +kernel
theorem dX8_hangs_87 : decode cX8_hangs 87 = .ok (.iconst 0, 1) := by decide +kernel
theorem dX8_hangs_88 : decode cX8_hangs 88 = .ok (.ior, 1) := by decide +kernel
theorem dX8_hangs_89 : decode cX8_hangs 89 = .ok (.istore_n 2, 1) := by decide +kernel
theorem dX8_hangs_90 : decode cX8_hangs 90 = .ok (.iinc 5 1, 3) := by decide +kernel
theorem dX8_hangs_93 : decode cX8_hangs 93 = .ok (.goto (-63), 3) := by decide +kernel
theorem dX8_hangs_96 : decode cX8_hangs 96 = .ok (.iinc 4 1, 3) := by decide +kernel
theorem dX8_hangs_99 : decode cX8_hangs 99 = .ok (.goto (-83), 3) := by decide +kernel
theorem dX8_hangs_102 : decode cX8_hangs 102 = .ok (.iinc 3 1, 3) := by decide +kernel
theorem dX8_hangs_105 : decode cX8_hangs 105 = .ok (.goto (-98), 3) := by decide +kernel
theorem dX8_hangs_108 : decode cX8_hangs 108 = .ok (.iload_n 2, 1) := by decide +kernel
theorem dX8_hangs_109 : decode cX8_hangs 109 = .ok (.iload_n 1, 1) := by decide +kernel
theorem dX8_hangs_110 : decode cX8_hangs 110 = .ok (.if_icmp .ne 7, 3) := by decide +kernel
theorem dX8_hangs_113 : decode cX8_hangs 113 = .ok (.iconst 1, 1) := by decide +kernel
theorem dX8_hangs_114 : decode cX8_hangs 114 = .ok (.goto 4, 3) := by decide +kernel
theorem dX8_hangs_117 : decode cX8_hangs 117 = .ok (.iconst 0, 1) := by decide +kernel
theorem dX8_hangs_118 : decode cX8_hangs 118 = .ok (.ireturn, 1) := by decide +kernel
set_option maxHeartbeats 4000000 in
set_option maxRecDepth 100000 in
theorem c_X8_hangs {l : Launch} {X : En} (g : Nat) (x1 : Int32) (M : Mem) (r : Int32) (hf : fn_X8_hangs g x1 M = some r) : Cn l X yX8_hangs cX8_hangs 6 (some .boolean) 3 72 [.ref (X.ad 61), .int x1] M (Qi X r M) := by
  refine Met.ofW (cc := cX8_hangs) (maxL := 6) (ret := (some .boolean)) (by decide) rfl ?_
  intro p e s m args below meth c s₁ B hml hv
  obtain ⟨rfl, hP, hk⟩ := hv
  have hx := B.exec
  have hb := B.bytes
  have hr := B.returns
  have hlocks := B.notSynchronized
  have hts : ∀ w ∈ lw_u, w.before ([.ref (X.ad 61), .int x1] : List Value).toArray s = true := fun w hw => atoms_spec (ws := Cond.code yX8_hangs cX8_hangs 6 (some .boolean) :: lw_u) B.pre w (List.mem_cons_of_mem _ hw)
  have hown : s.vm.findClass RX8 = some m.cls := findClass_of_methodNamed B.named
  have hZ : Fx p c m s ([.ref (X.ad 61), .int x1] : List Value).toArray X cX8_hangs 6 RX8 := ⟨hx, hb, hml, hts, hown, hk⟩
  have hS : va_S X.A s.heap s.heap [] := va_S.rf
  have hl := lv_entry ([.ref (X.ad 61), .int x1]) (n := 6) (Nat.le_of_ble_eq_true rfl)
  rw [lg_entry_eq]
  generalize (lg_sl ([.ref (X.ad 61), .int x1]) ++ List.replicate (6 - (lg_sl ([.ref (X.ad 61), .int x1])).length) Slot.unset).toArray = ls at hl ⊢
  have hl : lv_has ls 6 [(0, .ref (X.ad 61)), (1, .int x1)] := hl
  show WW p l e 3 72 s m [.ref (X.ad 61), .int x1] below meth c X (Qi X r M) s.heap [] 0 ls []
  have hP : wd X M s.heap := hP
  unfold fn_X8_hangs at hf
  have key : ∀ (H : Heap) (locs : List Loc), wd X M H → va_S X.A s.heap H locs → WW p l e 3 72 s m [.ref (X.ad 61), .int x1] below meth c X (Qi X r M) H locs 0 ls [] := by
    intro H locs hP hS
    refine lv_iload_n hx hb dX8_hangs_0 rfl (lv_at hl 1 rfl) ?_
    refine lv_iload_n hx hb dX8_hangs_1 rfl (lv_at hl 1 rfl) ?_
    refine lv_ineg hx hb dX8_hangs_2 ?_
    refine lv_iand hx hb dX8_hangs_3 ?_
    refine lv_topi (fun v2_1 e_v2_1 => ?_)
    have hf := b_v hf e_v2_1
    refine lv_istore_n (lv' := [(2, .int v2_1), (0, .ref (X.ad 61)), (1, .int x1)]) hx hb dX8_hangs_4 rfl hl (by decide) rfl (fun ls hl => ?_)
    refine lv_iconst (v := (0 : Int32)) hx hb dX8_hangs_5 (by decide) ?_
    refine lv_istore_n (lv' := [(3, .int (0 : Int32)), (2, .int v2_1), (0, .ref (X.ad 61)), (1, .int x1)]) hx hb dX8_hangs_6 rfl hl (by decide) rfl (fun ls hl => ?_)
    obtain ⟨o7, ho7, hf⟩ := b_d hf
    refine lp_rule (b := bd_X8_hangs_7 g x1 M) (P := fun w : Int32 × Int32 => ∀ (H : Heap) (locs : List Loc) (ls : Array Slot), wd X M H → va_S X.A s.heap H locs → lv_has ls 6 [(3, .int w.2), (2, .int w.1), (0, .ref (X.ad 61)), (1, .int x1)] → WW p l e 3 72 s m [.ref (X.ad 61), .int x1] below meth c X (Qi X r M) H locs 7 ls []) (K := fun o => ∀ (v2_4 : Int32), o = v2_4 → ∀ (H : Heap) (locs : List Loc) (ls : Array Slot), wd X M H → va_S X.A s.heap H locs → lv_has ls 6 [(2, .int v2_4), (1, .int x1)] → WW p l e 3 72 s m [.ref (X.ad 61), .int x1] below meth c X (Qi X r M) H locs 108 ls []) ?_ g (v2_1, (0 : Int32)) o7 ho7 ?_ H locs ls hP hS (lv_sub hl [0, 1, 2, 3] rfl)
    · rintro ⟨v2_3, v3_2⟩ o hf hkc7 hke7 H locs ls hP hS hl
      have hf := u2_e hf
      refine lv_iload_n hx hb dX8_hangs_7 rfl (lv_at hl 0 rfl) ?_
      refine lv_bipush (v := (8 : Int32)) hx hb dX8_hangs_8 (by decide) ?_
      refine lv_icmp_ge (tgt := 108) hx hb dX8_hangs_10 (by decide) (fun c_5 => ?_) (fun c_5 => ?_)
      · have hf := i_t c_5 hf
        exact hke7 _ (Option.some.inj hf).symm _ rfl H locs ls hP hS (lv_sub hl [1, 3] rfl)
      · have hf := i_f c_5 hf
        refine lv_iconst (v := (0 : Int32)) hx hb dX8_hangs_13 (by decide) ?_
        refine lv_istore (lv' := [(4, .int (0 : Int32)), (3, .int v3_2), (2, .int v2_3), (0, .ref (X.ad 61)), (1, .int x1)]) hx hb dX8_hangs_14 hl (by decide) rfl (fun ls hl => ?_)
        obtain ⟨o16, ho16, hf⟩ := b_d hf
        refine lp_rule (b := bd_X8_hangs_16 g x1 M) (P := fun w : Int32 × Int32 => ∀ (H : Heap) (locs : List Loc) (ls : Array Slot), wd X M H → va_S X.A s.heap H locs → lv_has ls 6 [(4, .int w.2), (3, .int v3_2), (2, .int w.1), (0, .ref (X.ad 61)), (1, .int x1)] → WW p l e 3 72 s m [.ref (X.ad 61), .int x1] below meth c X (Qi X r M) H locs 16 ls []) (K := fun o => ∀ (v2_8 : Int32), o = v2_8 → ∀ (H : Heap) (locs : List Loc) (ls : Array Slot), wd X M H → va_S X.A s.heap H locs → lv_has ls 6 [(3, .int v3_2), (2, .int v2_8), (0, .ref (X.ad 61)), (1, .int x1)] → WW p l e 3 72 s m [.ref (X.ad 61), .int x1] below meth c X (Qi X r M) H locs 102 ls []) ?_ g (v2_3, (0 : Int32)) o16 ho16 ?_ H locs ls hP hS (lv_sub hl [0, 1, 2, 3, 4] rfl)
        · rintro ⟨v2_7, v4_6⟩ o hf hkc16 hke16 H locs ls hP hS hl
          have hf := u2_e hf
          refine lv_iload hx hb dX8_hangs_16 (lv_at hl 0 rfl) ?_
          refine lv_aload_n hx hb dX8_hangs_18 rfl (lv_at hl 3 rfl) ?_
          refine gX8_0 hx hb hts hown hk hP wd_3_192 dX8_hangs_19 ?_
          refine lv_iconst (v := (0 : Int32)) hx hb dX8_hangs_22 (by decide) ?_
          refine ald hx hb hk hP (by decide) rfl (show inb _ _ from by decide) dX8_hangs_23 ?_
          refine lv_icmp_ge (tgt := 102) hx hb dX8_hangs_24 (by decide) (fun c_9 => ?_) (fun c_9 => ?_)
          · have hf := i_t c_9 hf
            exact hke16 _ (Option.some.inj hf).symm _ rfl H locs ls hP hS (lv_sub hl [1, 2, 3, 4] rfl)
          · have hf := i_f c_9 hf
            refine lv_iconst (v := (0 : Int32)) hx hb dX8_hangs_27 (by decide) ?_
            refine lv_istore (lv' := [(5, .int (0 : Int32)), (4, .int v4_6), (3, .int v3_2), (2, .int v2_7), (0, .ref (X.ad 61)), (1, .int x1)]) hx hb dX8_hangs_28 hl (by decide) rfl (fun ls hl => ?_)
            obtain ⟨o30, ho30, hf⟩ := b_d hf
            refine lp_rule (b := bd_X8_hangs_30 g v4_6 x1 M) (P := fun w : Int32 × Int32 => ∀ (H : Heap) (locs : List Loc) (ls : Array Slot), wd X M H → va_S X.A s.heap H locs → lv_has ls 6 [(5, .int w.2), (4, .int v4_6), (3, .int v3_2), (2, .int w.1), (0, .ref (X.ad 61)), (1, .int x1)] → WW p l e 3 72 s m [.ref (X.ad 61), .int x1] below meth c X (Qi X r M) H locs 30 ls []) (K := fun o => ∀ (v2_12 : Int32), o = v2_12 → ∀ (H : Heap) (locs : List Loc) (ls : Array Slot), wd X M H → va_S X.A s.heap H locs → lv_has ls 6 [(4, .int v4_6), (3, .int v3_2), (2, .int v2_12), (0, .ref (X.ad 61)), (1, .int x1)] → WW p l e 3 72 s m [.ref (X.ad 61), .int x1] below meth c X (Qi X r M) H locs 96 ls []) ?_ g (v2_7, (0 : Int32)) o30 ho30 ?_ H locs ls hP hS (lv_sub hl [0, 1, 2, 3, 4, 5] rfl)
            · rintro ⟨v2_11, v5_10⟩ o hf hkc30 hke30 H locs ls hP hS hl
              have hf := u2_e hf
              have jn88 : ∀ (v5_18 : Int32) (s_19 : Int32) (s_20 : Int32), jn_X8_hangs_88 s_19 s_20 v5_18 = some o → ∀ (H : Heap) (locs : List Loc) (ls : Array Slot), wd X M H → va_S X.A s.heap H locs → lv_has ls 6 [(0, .ref (X.ad 61)), (1, .int x1), (3, .int v3_2), (4, .int v4_6), (5, .int v5_18)] → WW p l e 3 72 s m [.ref (X.ad 61), .int x1] below meth c X (Qi X r M) H locs 88 ls [.int s_19, .int s_20] := by
                intro v5_18 s_19 s_20  hf H locs ls hP hS hl
                unfold jn_X8_hangs_88 at hf
                refine lv_ior hx hb dX8_hangs_88 ?_
                refine lv_topi (fun v2_21 e_v2_21 => ?_)
                have hf := b_v hf e_v2_21
                refine lv_istore_n (lv' := [(2, .int v2_21), (0, .ref (X.ad 61)), (1, .int x1), (3, .int v3_2), (4, .int v4_6), (5, .int v5_18)]) hx hb dX8_hangs_89 rfl hl (by decide) rfl (fun ls hl => ?_)
                refine lv_iinc (v := v5_18 + (1 : Int32)) (lv' := [(5, .int (v5_18 + (1 : Int32))), (2, .int v2_21), (0, .ref (X.ad 61)), (1, .int x1), (3, .int v3_2), (4, .int v4_6)]) hx hb dX8_hangs_90 hl (k := 5) rfl rfl (by decide) rfl (fun ls hl => ?_)
                refine lv_goto (tgt := 30) hx hb dX8_hangs_93 (by decide) ?_
                exact hkc30 _ (Option.some.inj hf).symm H locs ls hP hS (lv_sub hl [0, 5, 4, 1, 2, 3] rfl)
              have jn87 : ∀ (v5_16 : Int32) (s_17 : Int32), jn_X8_hangs_87 s_17 v5_16 = some o → ∀ (H : Heap) (locs : List Loc) (ls : Array Slot), wd X M H → va_S X.A s.heap H locs → lv_has ls 6 [(0, .ref (X.ad 61)), (1, .int x1), (3, .int v3_2), (4, .int v4_6), (5, .int v5_16)] → WW p l e 3 72 s m [.ref (X.ad 61), .int x1] below meth c X (Qi X r M) H locs 87 ls [.int s_17] := by
                intro v5_16 s_17  hf H locs ls hP hS hl
                unfold jn_X8_hangs_87 at hf
                refine lv_iconst (v := (0 : Int32)) hx hb dX8_hangs_87 (by decide) ?_
                exact jn88 v5_16 (0 : Int32) s_17 hf H locs ls hP hS (lv_sub hl [0, 1, 2, 3, 4] rfl)
              refine lv_iload hx hb dX8_hangs_30 (lv_at hl 0 rfl) ?_
              refine lv_aload_n hx hb dX8_hangs_32 rfl (lv_at hl 4 rfl) ?_
              refine gX8_0 hx hb hts hown hk hP wd_3_192 dX8_hangs_33 ?_
              refine lv_iconst (v := (0 : Int32)) hx hb dX8_hangs_36 (by decide) ?_
              refine ald hx hb hk hP (by decide) rfl (show inb _ _ from by decide) dX8_hangs_37 ?_
              refine lv_icmp_ge (tgt := 96) hx hb dX8_hangs_38 (by decide) (fun c_13 => ?_) (fun c_13 => ?_)
              · have hf := i_t c_13 hf
                exact hke30 _ (Option.some.inj hf).symm _ rfl H locs ls hP hS (lv_sub hl [1, 2, 3, 4, 5] rfl)
              · have hf := i_f c_13 hf
                refine lv_iload_n hx hb dX8_hangs_41 rfl (lv_at hl 3 rfl) ?_
                refine lv_iload hx hb dX8_hangs_42 (lv_at hl 1 rfl) ?_
                refine k_X8_has hZ hP hS hl.1 wd_4_153 ⟨Nat.le_of_ble_eq_true rfl, Nat.le_of_ble_eq_true rfl⟩ (Nat.le_of_ble_eq_true rfl) dX8_hangs_44 ⟨Nat.zero_le _, Nat.zero_le _⟩ (fun H locs hP hS => ?_)
                refine lv_if_eq (tgt := 96) hx hb dX8_hangs_47 (by decide) (fun c_14 => ?_) (fun c_14 => ?_)
                · have hf := i_t c_14 hf
                  exact hke30 _ (Option.some.inj hf).symm _ rfl H locs ls hP hS (lv_sub hl [1, 2, 3, 4, 5] rfl)
                · have hf := i_f c_14 hf
                  refine lv_iload_n hx hb dX8_hangs_50 rfl (lv_at hl 3 rfl) ?_
                  refine lv_iload_n hx hb dX8_hangs_51 rfl (lv_at hl 5 rfl) ?_
                  refine lv_iload hx hb dX8_hangs_52 (lv_at hl 0 rfl) ?_
                  refine k_X8_has hZ hP hS hl.1 wd_4_153 ⟨Nat.le_of_ble_eq_true rfl, Nat.le_of_ble_eq_true rfl⟩ (Nat.le_of_ble_eq_true rfl) dX8_hangs_54 ⟨Nat.zero_le _, Nat.zero_le _⟩ (fun H locs hP hS => ?_)
                  refine lv_if_eq (tgt := 87) hx hb dX8_hangs_57 (by decide) (fun c_15 => ?_) (fun c_15 => ?_)
                  · have hf := i_t c_15 hf
                    exact jn87 v5_10 v2_11 hf H locs ls hP hS (lv_sub hl [4, 5, 2, 1, 0] rfl)
                  · have hf := i_f c_15 hf
                    refine lv_iload_n hx hb dX8_hangs_60 rfl (lv_at hl 3 rfl) ?_
                    refine lv_iload hx hb dX8_hangs_61 (lv_at hl 0 rfl) ?_
                    refine k_X8_has hZ hP hS hl.1 wd_4_153 ⟨Nat.le_of_ble_eq_true rfl, Nat.le_of_ble_eq_true rfl⟩ (Nat.le_of_ble_eq_true rfl) dX8_hangs_63 ⟨Nat.zero_le _, Nat.zero_le _⟩ (fun H locs hP hS => ?_)
                    refine lv_if_ne (tgt := 87) hx hb dX8_hangs_66 (by decide) (fun c_22 => ?_) (fun c_22 => ?_)
                    · have hf := i_f c_22 hf
                      exact jn87 v5_10 v2_11 hf H locs ls hP hS (lv_sub hl [4, 5, 2, 1, 0] rfl)
                    · have hf := i_t c_22 hf
                      refine lv_aload_n hx hb dX8_hangs_69 rfl (lv_at hl 4 rfl) ?_
                      refine lv_iload hx hb dX8_hangs_70 (lv_at hl 1 rfl) ?_
                      refine lv_iload hx hb dX8_hangs_72 (lv_at hl 0 rfl) ?_
                      obtain ⟨r_23, h_r_23, hf⟩ := b_d hf
                      refine k_X8_contactOf hZ hP hS hl.1 wd_4_141 ⟨Nat.le_of_ble_eq_true rfl, Nat.le_of_ble_eq_true rfl⟩ (Nat.le_of_ble_eq_true rfl) dX8_hangs_74 ⟨Nat.zero_le _, Nat.zero_le _⟩ h_r_23 (fun H locs hP hS => ?_)
                      refine lv_if_le (tgt := 87) hx hb dX8_hangs_77 (by decide) (fun c_24 => ?_) (fun c_24 => ?_)
                      · have hf := i_t c_24 hf
                        exact jn87 v5_10 v2_11 hf H locs ls hP hS (lv_sub hl [4, 5, 2, 1, 0] rfl)
                      · have hf := i_f c_24 hf
                        refine lv_iconst (v := (1 : Int32)) hx hb dX8_hangs_80 (by decide) ?_
                        refine lv_iload hx hb dX8_hangs_81 (lv_at hl 0 rfl) ?_
                        refine rw_ishl hx hb dX8_hangs_83 ?_
                        refine lv_goto (tgt := 88) hx hb dX8_hangs_84 (by decide) ?_
                        exact jn88 v5_10 (sl (1 : Int32) v5_10) v2_11 hf H locs ls hP hS (lv_sub hl [4, 5, 2, 1, 0] rfl)
            · intro v2_12 e H locs ls hP hS hl
              subst o30
              have hf := u1_e hf
              refine lv_iinc (v := v4_6 + (1 : Int32)) (lv' := [(4, .int (v4_6 + (1 : Int32))), (3, .int v3_2), (2, .int v2_12), (0, .ref (X.ad 61)), (1, .int x1)]) hx hb dX8_hangs_96 hl (k := 0) rfl rfl (by decide) rfl (fun ls hl => ?_)
              refine lv_goto (tgt := 16) hx hb dX8_hangs_99 (by decide) ?_
              exact hkc16 _ (Option.some.inj hf).symm H locs ls hP hS (lv_sub hl [0, 1, 2, 3, 4] rfl)
        · intro v2_8 e H locs ls hP hS hl
          subst o16
          have hf := u1_e hf
          refine lv_iinc (v := v3_2 + (1 : Int32)) (lv' := [(3, .int (v3_2 + (1 : Int32))), (2, .int v2_8), (0, .ref (X.ad 61)), (1, .int x1)]) hx hb dX8_hangs_102 hl (k := 0) rfl rfl (by decide) rfl (fun ls hl => ?_)
          refine lv_goto (tgt := 7) hx hb dX8_hangs_105 (by decide) ?_
          exact hkc7 _ (Option.some.inj hf).symm H locs ls hP hS (lv_sub hl [0, 1, 2, 3] rfl)
    · intro v2_4 e H locs ls hP hS hl
      subst o7
      have hf := u1_e hf
      refine lv_iload_n hx hb dX8_hangs_108 rfl (lv_at hl 0 rfl) ?_
      refine lv_iload_n hx hb dX8_hangs_109 rfl (lv_at hl 1 rfl) ?_
      refine lv_icmp_ne (tgt := 117) hx hb dX8_hangs_110 (by decide) (fun c_25 => ?_) (fun c_25 => ?_)
      · have hf := i_f c_25 hf
        refine lv_iconst (v := (0 : Int32)) hx hb dX8_hangs_117 (by decide) ?_
        have hf := Option.some.inj hf
        exact ret_z hx hb hr hlocks hP hS isZ_0 hf dX8_hangs_118
      · have hf := i_t c_25 hf
        refine lv_iconst (v := (1 : Int32)) hx hb dX8_hangs_113 (by decide) ?_
        refine lv_goto (tgt := 118) hx hb dX8_hangs_114 (by decide) ?_
        have hf := Option.some.inj hf
        exact ret_z hx hb hr hlocks hP hS isZ_1 hf dX8_hangs_118
  exact key s.heap [] hP hS
theorem hd_X8_hangs : Hd yX8_hangs 1 := by decide +kernel
theorem k_X8_hangs {p : Program} {l : Launch} {e : Env} {R : Room} {s : State} {m : MethodId} {args : Array Value} {below : List Frame} {meth : Method} {c : Code} {H : Heap} {locs : List Loc} {cells slots : Nat} {Q : State → Prop} {cc : ByteArray} {nL pc index : Nat} {ls : Array Slot} {rest : List Value} {X : En} {M : Mem} {H0 : Heap} {own : String} {g : Nat} {x1 : Int32} {r : Int32} (hZ : Fx p c m s args X cc nL own) (hP : wd X M H) (hS : va_S X.A H0 H locs) (hsz : ls.size = nL) (hlk : Cond.methodLink own index yX8_hangs ∈ lw_u) (hR : 3 + 1 ≤ R.frames ∧ 8 + (6 + 11) + 72 ≤ R.locals) (hW : (rest.map fun v => v.category).sum ≤ 8) (hdg : decode cc pc = .ok (.invokevirtual index, 3)) (hcs : cells ≤ R.cells ∧ slots ≤ R.slots) (hf : fn_X8_hangs g x1 M = some r)
    (kk : ∀ (H1 : Heap) (locs1 : List Loc), wd X M H1 → va_S X.A H0 H1 locs1 → W p l e R s m args below meth c H1 locs1 cells slots Q (F0 m (pc + 3) ls (.int r :: rest))) : W p l e R s m args below meth c H locs cells slots Q (F0 m pc ls (.int x1 :: .ref (X.ad 61) :: rest)) :=
  cal_i (runV (As := [.int x1]) (rest := rest) hZ.1 hZ.2.1 hZ.2.2.1 hZ.2.2.2.1 hZ.2.2.2.2.1 hZ.2.2.2.2.2 hP (c_X8_hangs g x1 M r hf) wd_4_152 wd_4_151 wd_p_50 wd_1_9 hd_X8_hangs (by decide) rfl rfl rfl hlk hR hsz rfl hW hdg hcs) hS kk
/-! FrameRaiserModel.isWithin -/
def fn_X8_isWithin (x0 : Int32) (x1 : Int32) : Int32 :=
  if (x0 &&& (x1 ^^^ (-1 : Int32))) = 0 then
    ((1 : Int32))
  else
    ((0 : Int32))
theorem dX8_isWithin_0 : decode cX8_isWithin 0 = .ok (.iload_n 0, 1) := by decide +kernel
theorem dX8_isWithin_1 : decode cX8_isWithin 1 = .ok (.iload_n 1, 1) := by decide +kernel
theorem dX8_isWithin_2 : decode cX8_isWithin 2 = .ok (.iconst (-1), 1) := by decide +kernel
theorem dX8_isWithin_3 : decode cX8_isWithin 3 = .ok (.ixor, 1) := by decide +kernel
theorem dX8_isWithin_4 : decode cX8_isWithin 4 = .ok (.iand, 1) := by decide +kernel
theorem dX8_isWithin_5 : decode cX8_isWithin 5 = .ok (.ifCond .ne 7, 3) := by decide +kernel
theorem dX8_isWithin_8 : decode cX8_isWithin 8 = .ok (.iconst 1, 1) := by decide +kernel
theorem dX8_isWithin_9 : decode cX8_isWithin 9 = .ok (.goto 4, 3) := by decide +kernel
theorem dX8_isWithin_12 : decode cX8_isWithin 12 = .ok (.iconst 0, 1) := by decide +kernel
theorem dX8_isWithin_13 : decode cX8_isWithin 13 = .ok (.ireturn, 1) := by decide +kernel
theorem z_X8_isWithin (x0 : Int32) (x1 : Int32) : isZ (fn_X8_isWithin x0 x1) := by
  unfold fn_X8_isWithin
  repeat' (first | exact isZ_0 | exact isZ_1 | exact z_X8_in _ _ _ | split)
set_option maxHeartbeats 4000000 in
set_option maxRecDepth 100000 in
theorem c_X8_isWithin {l : Launch} {X : En} (x0 : Int32) (x1 : Int32) (M : Mem) (r : Int32) (hf : fn_X8_isWithin x0 x1 = r) : Cn l X yX8_isWithin cX8_isWithin 2 (some .boolean) 0 0 [.int x0, .int x1] M (Qi X r M) := by
  refine Met.ofW (cc := cX8_isWithin) (maxL := 2) (ret := (some .boolean)) (by decide) rfl ?_
  intro p e s m args below meth c s₁ B hml hv
  obtain ⟨rfl, hP, hk⟩ := hv
  have hx := B.exec
  have hb := B.bytes
  have hr := B.returns
  have hlocks := B.notSynchronized
  have hts : ∀ w ∈ lw_u, w.before ([.int x0, .int x1] : List Value).toArray s = true := fun w hw => atoms_spec (ws := Cond.code yX8_isWithin cX8_isWithin 2 (some .boolean) :: lw_u) B.pre w (List.mem_cons_of_mem _ hw)
  have hown : s.vm.findClass RX8 = some m.cls := findClass_of_methodNamed B.named
  have hZ : Fx p c m s ([.int x0, .int x1] : List Value).toArray X cX8_isWithin 2 RX8 := ⟨hx, hb, hml, hts, hown, hk⟩
  have hS : va_S X.A s.heap s.heap [] := va_S.rf
  have hl := lv_entry ([.int x0, .int x1]) (n := 2) (Nat.le_of_ble_eq_true rfl)
  rw [lg_entry_eq]
  generalize (lg_sl ([.int x0, .int x1]) ++ List.replicate (2 - (lg_sl ([.int x0, .int x1])).length) Slot.unset).toArray = ls at hl ⊢
  have hl : lv_has ls 2 [(0, .int x0), (1, .int x1)] := hl
  show WW p l e 0 0 s m [.int x0, .int x1] below meth c X (Qi X r M) s.heap [] 0 ls []
  have hP : wd X M s.heap := hP
  unfold fn_X8_isWithin at hf
  have key : ∀ (H : Heap) (locs : List Loc), wd X M H → va_S X.A s.heap H locs → WW p l e 0 0 s m [.int x0, .int x1] below meth c X (Qi X r M) H locs 0 ls [] := by
    intro H locs hP hS
    refine lv_iload_n hx hb dX8_isWithin_0 rfl (lv_at hl 0 rfl) ?_
    refine lv_iload_n hx hb dX8_isWithin_1 rfl (lv_at hl 1 rfl) ?_
    refine lv_iconst (v := (-1 : Int32)) hx hb dX8_isWithin_2 (by decide) ?_
    refine lv_ixor hx hb dX8_isWithin_3 ?_
    refine lv_iand hx hb dX8_isWithin_4 ?_
    refine lv_if_ne (tgt := 12) hx hb dX8_isWithin_5 (by decide) (fun c_1 => ?_) (fun c_1 => ?_)
    · have hf := i_f c_1 hf
      refine lv_iconst (v := (0 : Int32)) hx hb dX8_isWithin_12 (by decide) ?_
      exact ret_z hx hb hr hlocks hP hS isZ_0 hf dX8_isWithin_13
    · have hf := i_t c_1 hf
      refine lv_iconst (v := (1 : Int32)) hx hb dX8_isWithin_8 (by decide) ?_
      refine lv_goto (tgt := 13) hx hb dX8_isWithin_9 (by decide) ?_
      exact ret_z hx hb hr hlocks hP hS isZ_1 hf dX8_isWithin_13
  exact key s.heap [] hP hS
theorem hd_X8_isWithin : Hd yX8_isWithin 2 := by decide +kernel
theorem k_X8_isWithin {p : Program} {l : Launch} {e : Env} {R : Room} {s : State} {m : MethodId} {args : Array Value} {below : List Frame} {meth : Method} {c : Code} {H : Heap} {locs : List Loc} {cells slots : Nat} {Q : State → Prop} {cc : ByteArray} {nL pc index : Nat} {ls : Array Slot} {rest : List Value} {X : En} {M : Mem} {H0 : Heap} {own : String} {x0 : Int32} {x1 : Int32} (hZ : Fx p c m s args X cc nL own) (hP : wd X M H) (hS : va_S X.A H0 H locs) (hsz : ls.size = nL) (hlk : Cond.methodLink own index yX8_isWithin ∈ lw_u) (hR : 0 + 1 ≤ R.frames ∧ 8 + (2 + 11) + 0 ≤ R.locals) (hW : (rest.map fun v => v.category).sum ≤ 8) (hdg : decode cc pc = .ok (.invokestatic index, 3)) (hcs : cells ≤ R.cells ∧ slots ≤ R.slots)
    (kk : ∀ (H1 : Heap) (locs1 : List Loc), wd X M H1 → va_S X.A H0 H1 locs1 → W p l e R s m args below meth c H1 locs1 cells slots Q (F0 m (pc + 3) ls (.int (fn_X8_isWithin x0 x1) :: rest))) : W p l e R s m args below meth c H locs cells slots Q (F0 m pc ls (.int x1 :: .int x0 :: rest)) :=
  cal_i (runS (As := [.int x0, .int x1]) (rest := rest) hZ.1 hZ.2.1 hZ.2.2.1 hZ.2.2.2.1 hZ.2.2.2.2.1 hZ.2.2.2.2.2 hP (c_X8_isWithin x0 x1 M _ rfl) wd_4_182 wd_4_181 wd_1_9 hd_X8_isWithin rfl hlk hR hsz rfl hW hdg hcs) hS kk
/-! FrameRaiserModel.comesLast -/
def jn_X8_comesLast_113 (s_22 : Int32) (s_23 : Int32) (M_24 : Mem) : Option (Mem) :=
  if inb s_23 256 then
  bv (st M_24 67 (ix s_23) s_22) fun M_25 =>
  some M_25
  else none
def jn_X8_comesLast_102 (s_20 : Int32) (v5_19 : Int32) (M_21 : Mem) : Option (Mem) :=
  jn_X8_comesLast_113 v5_19 s_20 M_21
def jn_X8_comesLast_58 (s_11 : Int32) (v3_10 : Int32) (x1 : Int32) (M_12 : Mem) : Option (Mem) :=
  if inb x1 256 then
  if inb v3_10 256 then
  if inb x1 256 then
  bv (st M_12 66 (ix x1) ((M_12 66 (ix x1)) + (M_12 66 (ix v3_10)))) fun M_15 =>
  if inb x1 256 then
  if (M_15 67 (ix x1)) = (-9 : Int32) then
    (jn_X8_comesLast_102 x1 s_11 M_15)
  else
    (if inb x1 256 then
    if (M_15 67 (ix x1)) ≤ s_11 then
      (if inb x1 256 then
      jn_X8_comesLast_113 (M_15 67 (ix x1)) x1 M_15
      else none)
    else
      (jn_X8_comesLast_102 x1 s_11 M_15)
    else none)
  else none
  else none
  else none
  else none
def fn_X8_comesLast (g : Nat) (x1 : Int32) (x2 : Int32) (M : Mem) : Option (Mem) :=
  bv (x1 &&& ((sl (1 : Int32) x2) ^^^ (-1 : Int32))) fun v3_1 =>
  (fn_X8_waysOf g x2 v3_1 M).bind fun r_2 =>
  if r_2 = 0 then
    (some M)
  else
    (if inb v3_1 256 then
    if (M 67 (ix v3_1)) = (-9 : Int32) then
      (some M)
    else
      ((fn_X8_propsOf g x1 M).bind fun r_6 =>
      if inb v3_1 256 then
      if r_6 ≤ (M 67 (ix v3_1)) then
        (if inb v3_1 256 then
        jn_X8_comesLast_58 (M 67 (ix v3_1)) v3_1 x1 M
        else none)
      else
        (jn_X8_comesLast_58 r_6 v3_1 x1 M)
      else none)
    else none)
theorem dX8_comesLast_0 : decode cX8_comesLast 0 = .ok (.iload_n 1, 1) := by decide +kernel
theorem dX8_comesLast_1 : decode cX8_comesLast 1 = .ok (.iconst 1, 1) := by decide +kernel
theorem dX8_comesLast_2 : decode cX8_comesLast 2 = .ok (.iload_n 2, 1) := by decide +kernel
theorem dX8_comesLast_3 : decode cX8_comesLast 3 = .ok (.ishl, 1) := by decide +kernel
theorem dX8_comesLast_4 : decode cX8_comesLast 4 = .ok (.iconst (-1), 1) := by decide +kernel
theorem dX8_comesLast_5 : decode cX8_comesLast 5 = .ok (.ixor, 1) := by decide +kernel
theorem dX8_comesLast_6 : decode cX8_comesLast 6 = .ok (.iand, 1) := by decide +kernel
theorem dX8_comesLast_7 : decode cX8_comesLast 7 = .ok (.istore_n 3, 1) := by decide +kernel
theorem dX8_comesLast_8 : decode cX8_comesLast 8 = .ok (.aload_n 0, 1) := by decide +kernel
theorem dX8_comesLast_9 : decode cX8_comesLast 9 = .ok (.iload_n 2, 1) := by decide +kernel
theorem dX8_comesLast_10 : decode cX8_comesLast 10 = .ok (.iload_n 3, 1) := by decide +kernel
theorem dX8_comesLast_11 : decode cX8_comesLast 11 = .ok (.invokevirtual 89, 3) := by decide +kernel
theorem dX8_comesLast_14 : decode cX8_comesLast 14 = .ok (.ifCond .eq 14, 3) := by decide +kernel
theorem dX8_comesLast_17 : decode cX8_comesLast 17 = .ok (.aload_n 0, 1) := by decide +kernel
theorem dX8_comesLast_18 : decode cX8_comesLast 18 = .ok (.getfield 26, 3) := by decide +kernel
theorem dX8_comesLast_21 : decode cX8_comesLast 21 = .ok (.iload_n 3, 1) := by decide +kernel
theorem dX8_comesLast_22 : decode cX8_comesLast 22 = .ok (.iaload, 1) := by decide +kernel
theorem dX8_comesLast_23 : decode cX8_comesLast 23 = .ok (.bipush (-9), 2) := by decide +kernel
theorem dX8_comesLast_25 : decode cX8_comesLast 25 = .ok (.if_icmp .ne 4, 3) := by decide +kernel
theorem dX8_comesLast_28 : decode cX8_comesLast 28 = .ok (.return_, 1) := by decide +kernel
theorem dX8_comesLast_29 : decode cX8_comesLast 29 = .ok (.aload_n 0, 1) := by decide +kernel
theorem dX8_comesLast_30 : decode cX8_comesLast 30 = .ok (.iload_n 1, 1) := by decide +kernel
theorem dX8_comesLast_31 : decode cX8_comesLast 31 = .ok (.invokevirtual 92, 3) := by decide +kernel
theorem dX8_comesLast_34 : decode cX8_comesLast 34 = .ok (.istore 4, 2) := by decide +kernel
theorem dX8_comesLast_36 : decode cX8_comesLast 36 = .ok (.iload 4, 2) := by decide +kernel
theorem dX8_comesLast_38 : decode cX8_comesLast 38 = .ok (.aload_n 0, 1) := by decide +kernel
theorem dX8_comesLast_39 : decode cX8_comesLast 39 = .ok (.getfield 26, 3) := by decide +kernel
theorem dX8_comesLast_42 : decode cX8_comesLast 42 = .ok (.iload_n 3, 1) := by decide +kernel
theorem dX8_comesLast_43 : decode cX8_comesLast 43 = .ok (.iaload, 1) := by decide +kernel
theorem dX8_comesLast_44 : decode cX8_comesLast 44 = .ok (.if_icmp .le 8, 3) := by decide +kernel
theorem dX8_comesLast_47 : decode cX8_comesLast 47 = .ok (.iload 4, 2) := by decide +kernel
theorem dX8_comesLast_49 : decode cX8_comesLast 49 = .ok (.goto 9, 3) := by decide +kernel
theorem dX8_comesLast_52 : decode cX8_comesLast 52 = .ok (.aload_n 0, 1) := by decide +kernel
theorem dX8_comesLast_53 : decode cX8_comesLast 53 = .ok (.getfield 26, 3) := by decide +kernel
theorem dX8_comesLast_56 : decode cX8_comesLast 56 = .ok (.iload_n 3, 1) := by decide +kernel
theorem dX8_comesLast_57 : decode cX8_comesLast 57 = .ok (.iaload, 1) := by decide +kernel
theorem dX8_comesLast_58 : decode cX8_comesLast 58 = .ok (.istore 5, 2) := by decide +kernel
theorem dX8_comesLast_60 : decode cX8_comesLast 60 = .ok (.aload_n 0, 1) := by decide +kernel
theorem dX8_comesLast_61 : decode cX8_comesLast 61 = .ok (.getfield 23, 3) := by decide +kernel
theorem dX8_comesLast_64 : decode cX8_comesLast 64 = .ok (.iload_n 1, 1) := by decide +kernel
theorem dX8_comesLast_65 : decode cX8_comesLast 65 = .ok (.dup2, 1) := by decide +kernel
theorem dX8_comesLast_66 : decode cX8_comesLast 66 = .ok (.iaload, 1) := by decide +kernel
theorem dX8_comesLast_67 : decode cX8_comesLast 67 = .ok (.aload_n 0, 1) := by decide +kernel
theorem dX8_comesLast_68 : decode cX8_comesLast 68 = .ok (.getfield 23, 3) := by decide +kernel
theorem dX8_comesLast_71 : decode cX8_comesLast 71 = .ok (.iload_n 3, 1) := by decide +kernel
theorem dX8_comesLast_72 : decode cX8_comesLast 72 = .ok (.iaload, 1) := by decide +kernel
theorem dX8_comesLast_73 : decode cX8_comesLast 73 = .ok (.iadd, 1) := by decide +kernel
theorem dX8_comesLast_74 : decode cX8_comesLast 74 = .ok (.iastore, 1) := by decide +kernel
theorem dX8_comesLast_75 : decode cX8_comesLast 75 = .ok (.aload_n 0, 1) := by decide +kernel
theorem dX8_comesLast_76 : decode cX8_comesLast 76 = .ok (.getfield 26, 3) := by decide +kernel
theorem dX8_comesLast_79 : decode cX8_comesLast 79 = .ok (.iload_n 1, 1) := by decide +kernel
theorem dX8_comesLast_80 : decode cX8_comesLast 80 = .ok (.aload_n 0, 1) := by decide +kernel
theorem dX8_comesLast_81 : decode cX8_comesLast 81 = .ok (.getfield 26, 3) := by decide +kernel
theorem dX8_comesLast_84 : decode cX8_comesLast 84 = .ok (.iload_n 1, 1) := by decide +kernel
theorem dX8_comesLast_85 : decode cX8_comesLast 85 = .ok (.iaload, 1) := by decide +kernel
theorem dX8_comesLast_86 : decode cX8_comesLast 86 = .ok (.bipush (-9), 2) := by decide +kernel
theorem dX8_comesLast_88 : decode cX8_comesLast 88 = .ok (.if_icmp .eq 14, 3) := by decide +kernel
theorem dX8_comesLast_91 : decode cX8_comesLast 91 = .ok (.iload 5, 2) := by decide +kernel
theorem dX8_comesLast_93 : decode cX8_comesLast 93 = .ok (.aload_n 0, 1) := by decide +kernel
theorem dX8_comesLast_94 : decode cX8_comesLast 94 = .ok (.getfield 26, 3) := by decide +kernel
theorem dX8_comesLast_97 : decode cX8_comesLast 97 = .ok (.iload_n 1, 1) := by decide +kernel
theorem dX8_comesLast_98 : decode cX8_comesLast 98 = .ok (.iaload, 1) := by decide +kernel
theorem dX8_comesLast_99 : decode cX8_comesLast 99 = .ok (.if_icmp .ge 8, 3) := by decide +kernel
theorem dX8_comesLast_102 : decode cX8_comesLast 102 = .ok (.iload 5, 2) := by decide +kernel
theorem dX8_comesLast_104 : decode cX8_comesLast 104 = .ok (.goto 9, 3) := by decide +kernel
theorem dX8_comesLast_107 : decode cX8_comesLast 107 = .ok (.aload_n 0, 1) := by decide +kernel
theorem dX8_comesLast_108 : decode cX8_comesLast 108 = .ok (.getfield 26, 3) := by decide +kernel
theorem dX8_comesLast_111 : decode cX8_comesLast 111 = .ok (.iload_n 1, 1) := by decide +kernel
theorem dX8_comesLast_112 : decode cX8_comesLast 112 = .ok (.iaload, 1) := by decide +kernel
theorem dX8_comesLast_113 : decode cX8_comesLast 113 = .ok (.iastore, 1) := by decide +kernel
theorem dX8_comesLast_114 : decode cX8_comesLast 114 = .ok (.return_, 1) := by decide +kernel
set_option maxHeartbeats 4000000 in
set_option maxRecDepth 100000 in
theorem c_X8_comesLast {l : Launch} {X : En} (g : Nat) (x1 : Int32) (x2 : Int32) (M : Mem) (M9 : Mem) (hf : fn_X8_comesLast g x1 x2 M = some M9) : Cn l X yX8_comesLast cX8_comesLast 6 none 2 47 [.ref (X.ad 61), .int x1, .int x2] M (Qv X M9) := by
  refine Met.ofW (cc := cX8_comesLast) (maxL := 6) (ret := none) (by decide) rfl ?_
  intro p e s m args below meth c s₁ B hml hv
  obtain ⟨rfl, hP, hk⟩ := hv
  have hx := B.exec
  have hb := B.bytes
  have hr := B.returns
  have hlocks := B.notSynchronized
  have hts : ∀ w ∈ lw_u, w.before ([.ref (X.ad 61), .int x1, .int x2] : List Value).toArray s = true := fun w hw => atoms_spec (ws := Cond.code yX8_comesLast cX8_comesLast 6 none :: lw_u) B.pre w (List.mem_cons_of_mem _ hw)
  have hown : s.vm.findClass RX8 = some m.cls := findClass_of_methodNamed B.named
  have hZ : Fx p c m s ([.ref (X.ad 61), .int x1, .int x2] : List Value).toArray X cX8_comesLast 6 RX8 := ⟨hx, hb, hml, hts, hown, hk⟩
  have hS : va_S X.A s.heap s.heap [] := va_S.rf
  have hl := lv_entry ([.ref (X.ad 61), .int x1, .int x2]) (n := 6) (Nat.le_of_ble_eq_true rfl)
  rw [lg_entry_eq]
  generalize (lg_sl ([.ref (X.ad 61), .int x1, .int x2]) ++ List.replicate (6 - (lg_sl ([.ref (X.ad 61), .int x1, .int x2])).length) Slot.unset).toArray = ls at hl ⊢
  have hl : lv_has ls 6 [(0, .ref (X.ad 61)), (1, .int x1), (2, .int x2)] := hl
  show WW p l e 2 47 s m [.ref (X.ad 61), .int x1, .int x2] below meth c X (Qv X M9) s.heap [] 0 ls []
  have hP : wd X M s.heap := hP
  have jn113 : ∀ (s_22 : Int32) (s_23 : Int32) (M_24 : Mem), jn_X8_comesLast_113 s_22 s_23 M_24 = some M9 → ∀ (H : Heap) (locs : List Loc) (ls : Array Slot), wd X M_24 H → va_S X.A s.heap H locs → lv_has ls 6 [] → WW p l e 2 47 s m [.ref (X.ad 61), .int x1, .int x2] below meth c X (Qv X M9) H locs 113 ls [.int s_22, .int s_23, .ref (X.ad 67)] := by
    intro s_22 s_23 M_24 hf H locs ls hP hS hl
    unfold jn_X8_comesLast_113 at hf
    obtain ⟨q_26, hf⟩ := g_if hf
    refine ast hx hb hk hP hS (by decide) (fun _ => rfl) q_26 dX8_comesLast_113 (fun H locs M_25 e_M_25 hP hS => ?_)
    have hf := b_v hf e_M_25
    have hf := Option.some.inj hf
    rw [hf] at hP
    exact ret_v hx hb hr hlocks hP hS dX8_comesLast_114
  have jn102 : ∀ (v5_19 : Int32) (s_20 : Int32) (M_21 : Mem), jn_X8_comesLast_102 s_20 v5_19 M_21 = some M9 → ∀ (H : Heap) (locs : List Loc) (ls : Array Slot), wd X M_21 H → va_S X.A s.heap H locs → lv_has ls 6 [(5, .int v5_19)] → WW p l e 2 47 s m [.ref (X.ad 61), .int x1, .int x2] below meth c X (Qv X M9) H locs 102 ls [.int s_20, .ref (X.ad 67)] := by
    intro v5_19 s_20 M_21 hf H locs ls hP hS hl
    unfold jn_X8_comesLast_102 at hf
    refine lv_iload hx hb dX8_comesLast_102 (lv_at hl 0 rfl) ?_
    refine lv_goto (tgt := 113) hx hb dX8_comesLast_104 (by decide) ?_
    exact jn113 v5_19 s_20 M_21 hf H locs ls hP hS (lv_sub hl [] rfl)
  have jn58 : ∀ (v3_10 : Int32) (s_11 : Int32) (M_12 : Mem), jn_X8_comesLast_58 s_11 v3_10 x1 M_12 = some M9 → ∀ (H : Heap) (locs : List Loc) (ls : Array Slot), wd X M_12 H → va_S X.A s.heap H locs → lv_has ls 6 [(0, .ref (X.ad 61)), (1, .int x1), (3, .int v3_10)] → WW p l e 2 47 s m [.ref (X.ad 61), .int x1, .int x2] below meth c X (Qv X M9) H locs 58 ls [.int s_11] := by
    intro v3_10 s_11 M_12 hf H locs ls hP hS hl
    unfold jn_X8_comesLast_58 at hf
    refine lv_istore (lv' := [(5, .int s_11), (0, .ref (X.ad 61)), (1, .int x1), (3, .int v3_10)]) hx hb dX8_comesLast_58 hl (by decide) rfl (fun ls hl => ?_)
    refine lv_aload_n hx hb dX8_comesLast_60 rfl (lv_at hl 1 rfl) ?_
    refine gX8_5 hx hb hts hown hk hP wd_3_197 dX8_comesLast_61 ?_
    refine lv_iload_n hx hb dX8_comesLast_64 rfl (lv_at hl 2 rfl) ?_
    refine lv_dup2_11 hx hb dX8_comesLast_65 rfl rfl ?_
    obtain ⟨q_13, hf⟩ := g_if hf
    refine ald hx hb hk hP (by decide) rfl q_13 dX8_comesLast_66 ?_
    refine lv_aload_n hx hb dX8_comesLast_67 rfl (lv_at hl 1 rfl) ?_
    refine gX8_5 hx hb hts hown hk hP wd_3_197 dX8_comesLast_68 ?_
    refine lv_iload_n hx hb dX8_comesLast_71 rfl (lv_at hl 3 rfl) ?_
    obtain ⟨q_14, hf⟩ := g_if hf
    refine ald hx hb hk hP (by decide) rfl q_14 dX8_comesLast_72 ?_
    refine lv_iadd hx hb dX8_comesLast_73 ?_
    obtain ⟨q_16, hf⟩ := g_if hf
    refine ast hx hb hk hP hS (by decide) (fun _ => rfl) q_16 dX8_comesLast_74 (fun H locs M_15 e_M_15 hP hS => ?_)
    have hf := b_v hf e_M_15
    refine lv_aload_n hx hb dX8_comesLast_75 rfl (lv_at hl 1 rfl) ?_
    refine gX8_6 hx hb hts hown hk hP wd_3_198 dX8_comesLast_76 ?_
    refine lv_iload_n hx hb dX8_comesLast_79 rfl (lv_at hl 2 rfl) ?_
    refine lv_aload_n hx hb dX8_comesLast_80 rfl (lv_at hl 1 rfl) ?_
    refine gX8_6 hx hb hts hown hk hP wd_3_198 dX8_comesLast_81 ?_
    refine lv_iload_n hx hb dX8_comesLast_84 rfl (lv_at hl 2 rfl) ?_
    obtain ⟨q_17, hf⟩ := g_if hf
    refine ald hx hb hk hP (by decide) rfl q_17 dX8_comesLast_85 ?_
    refine lv_bipush (v := (-9 : Int32)) hx hb dX8_comesLast_86 (by decide) ?_
    refine lv_icmp_eq (tgt := 102) hx hb dX8_comesLast_88 (by decide) (fun c_18 => ?_) (fun c_18 => ?_)
    · have hf := i_t c_18 hf
      exact jn102 s_11 x1 M_15 hf H locs ls hP hS (lv_sub hl [0] rfl)
    · have hf := i_f c_18 hf
      refine lv_iload hx hb dX8_comesLast_91 (lv_at hl 0 rfl) ?_
      refine lv_aload_n hx hb dX8_comesLast_93 rfl (lv_at hl 1 rfl) ?_
      refine gX8_6 hx hb hts hown hk hP wd_3_198 dX8_comesLast_94 ?_
      refine lv_iload_n hx hb dX8_comesLast_97 rfl (lv_at hl 2 rfl) ?_
      obtain ⟨q_27, hf⟩ := g_if hf
      refine ald hx hb hk hP (by decide) rfl q_27 dX8_comesLast_98 ?_
      refine lv_icmp_ge (tgt := 107) hx hb dX8_comesLast_99 (by decide) (fun c_28 => ?_) (fun c_28 => ?_)
      · have hf := i_t c_28 hf
        refine lv_aload_n hx hb dX8_comesLast_107 rfl (lv_at hl 1 rfl) ?_
        refine gX8_6 hx hb hts hown hk hP wd_3_198 dX8_comesLast_108 ?_
        refine lv_iload_n hx hb dX8_comesLast_111 rfl (lv_at hl 2 rfl) ?_
        obtain ⟨q_29, hf⟩ := g_if hf
        refine ald hx hb hk hP (by decide) rfl q_29 dX8_comesLast_112 ?_
        exact jn113 (M_15 67 (ix x1)) x1 M_15 hf H locs ls hP hS (lv_sub hl [] rfl)
      · have hf := i_f c_28 hf
        exact jn102 s_11 x1 M_15 hf H locs ls hP hS (lv_sub hl [0] rfl)
  unfold fn_X8_comesLast at hf
  have key : ∀ (H : Heap) (locs : List Loc), wd X M H → va_S X.A s.heap H locs → WW p l e 2 47 s m [.ref (X.ad 61), .int x1, .int x2] below meth c X (Qv X M9) H locs 0 ls [] := by
    intro H locs hP hS
    refine lv_iload_n hx hb dX8_comesLast_0 rfl (lv_at hl 1 rfl) ?_
    refine lv_iconst (v := (1 : Int32)) hx hb dX8_comesLast_1 (by decide) ?_
    refine lv_iload_n hx hb dX8_comesLast_2 rfl (lv_at hl 2 rfl) ?_
    refine rw_ishl hx hb dX8_comesLast_3 ?_
    refine lv_iconst (v := (-1 : Int32)) hx hb dX8_comesLast_4 (by decide) ?_
    refine lv_ixor hx hb dX8_comesLast_5 ?_
    refine lv_iand hx hb dX8_comesLast_6 ?_
    refine lv_topi (fun v3_1 e_v3_1 => ?_)
    have hf := b_v hf e_v3_1
    refine lv_istore_n (lv' := [(3, .int v3_1), (0, .ref (X.ad 61)), (1, .int x1), (2, .int x2)]) hx hb dX8_comesLast_7 rfl hl (by decide) rfl (fun ls hl => ?_)
    refine lv_aload_n hx hb dX8_comesLast_8 rfl (lv_at hl 1 rfl) ?_
    refine lv_iload_n hx hb dX8_comesLast_9 rfl (lv_at hl 3 rfl) ?_
    refine lv_iload_n hx hb dX8_comesLast_10 rfl (lv_at hl 0 rfl) ?_
    obtain ⟨r_2, h_r_2, hf⟩ := b_d hf
    refine k_X8_waysOf hZ hP hS hl.1 wd_4_129 ⟨Nat.le_of_ble_eq_true rfl, Nat.le_of_ble_eq_true rfl⟩ (Nat.le_of_ble_eq_true rfl) dX8_comesLast_11 ⟨Nat.zero_le _, Nat.zero_le _⟩ h_r_2 (fun H locs hP hS => ?_)
    refine lv_if_eq (tgt := 28) hx hb dX8_comesLast_14 (by decide) (fun c_3 => ?_) (fun c_3 => ?_)
    · have hf := i_t c_3 hf
      have hf := Option.some.inj hf
      rw [hf] at hP
      exact ret_v hx hb hr hlocks hP hS dX8_comesLast_28
    · have hf := i_f c_3 hf
      refine lv_aload_n hx hb dX8_comesLast_17 rfl (lv_at hl 1 rfl) ?_
      refine gX8_6 hx hb hts hown hk hP wd_3_198 dX8_comesLast_18 ?_
      refine lv_iload_n hx hb dX8_comesLast_21 rfl (lv_at hl 0 rfl) ?_
      obtain ⟨q_4, hf⟩ := g_if hf
      refine ald hx hb hk hP (by decide) rfl q_4 dX8_comesLast_22 ?_
      refine lv_bipush (v := (-9 : Int32)) hx hb dX8_comesLast_23 (by decide) ?_
      refine lv_icmp_ne (tgt := 29) hx hb dX8_comesLast_25 (by decide) (fun c_5 => ?_) (fun c_5 => ?_)
      · have hf := i_f c_5 hf
        refine lv_aload_n hx hb dX8_comesLast_29 rfl (lv_at hl 1 rfl) ?_
        refine lv_iload_n hx hb dX8_comesLast_30 rfl (lv_at hl 2 rfl) ?_
        obtain ⟨r_6, h_r_6, hf⟩ := b_d hf
        refine k_X8_propsOf hZ hP hS hl.1 wd_4_160 ⟨Nat.le_of_ble_eq_true rfl, Nat.le_of_ble_eq_true rfl⟩ (Nat.le_of_ble_eq_true rfl) dX8_comesLast_31 ⟨Nat.zero_le _, Nat.zero_le _⟩ h_r_6 (fun H locs hP hS => ?_)
        refine lv_istore (lv' := [(4, .int r_6), (3, .int v3_1), (0, .ref (X.ad 61)), (1, .int x1), (2, .int x2)]) hx hb dX8_comesLast_34 hl (by decide) rfl (fun ls hl => ?_)
        refine lv_iload hx hb dX8_comesLast_36 (lv_at hl 0 rfl) ?_
        refine lv_aload_n hx hb dX8_comesLast_38 rfl (lv_at hl 2 rfl) ?_
        refine gX8_6 hx hb hts hown hk hP wd_3_198 dX8_comesLast_39 ?_
        refine lv_iload_n hx hb dX8_comesLast_42 rfl (lv_at hl 1 rfl) ?_
        obtain ⟨q_7, hf⟩ := g_if hf
        refine ald hx hb hk hP (by decide) rfl q_7 dX8_comesLast_43 ?_
        refine lv_icmp_le (tgt := 52) hx hb dX8_comesLast_44 (by decide) (fun c_8 => ?_) (fun c_8 => ?_)
        · have hf := i_t c_8 hf
          refine lv_aload_n hx hb dX8_comesLast_52 rfl (lv_at hl 2 rfl) ?_
          refine gX8_6 hx hb hts hown hk hP wd_3_198 dX8_comesLast_53 ?_
          refine lv_iload_n hx hb dX8_comesLast_56 rfl (lv_at hl 1 rfl) ?_
          obtain ⟨q_9, hf⟩ := g_if hf
          refine ald hx hb hk hP (by decide) rfl q_9 dX8_comesLast_57 ?_
          exact jn58 v3_1 (M 67 (ix v3_1)) M hf H locs ls hP hS (lv_sub hl [2, 3, 1] rfl)
        · have hf := i_f c_8 hf
          refine lv_iload hx hb dX8_comesLast_47 (lv_at hl 0 rfl) ?_
          refine lv_goto (tgt := 58) hx hb dX8_comesLast_49 (by decide) ?_
          exact jn58 v3_1 r_6 M hf H locs ls hP hS (lv_sub hl [2, 3, 1] rfl)
      · have hf := i_t c_5 hf
        have hf := Option.some.inj hf
        rw [hf] at hP
        exact ret_v hx hb hr hlocks hP hS dX8_comesLast_28
  exact key s.heap [] hP hS
theorem hd_X8_comesLast : Hd yX8_comesLast 2 := by decide +kernel
theorem k_X8_comesLast {p : Program} {l : Launch} {e : Env} {R : Room} {s : State} {m : MethodId} {args : Array Value} {below : List Frame} {meth : Method} {c : Code} {H : Heap} {locs : List Loc} {cells slots : Nat} {Q : State → Prop} {cc : ByteArray} {nL pc index : Nat} {ls : Array Slot} {rest : List Value} {X : En} {M : Mem} {H0 : Heap} {own : String} {g : Nat} {x1 : Int32} {x2 : Int32} {M9 : Mem} (hZ : Fx p c m s args X cc nL own) (hP : wd X M H) (hS : va_S X.A H0 H locs) (hsz : ls.size = nL) (hlk : Cond.methodLink own index yX8_comesLast ∈ lw_u) (hR : 2 + 1 ≤ R.frames ∧ 8 + (6 + 11) + 47 ≤ R.locals) (hW : (rest.map fun v => v.category).sum ≤ 8) (hdg : decode cc pc = .ok (.invokevirtual index, 3)) (hcs : cells ≤ R.cells ∧ slots ≤ R.slots) (hf : fn_X8_comesLast g x1 x2 M = some M9)
    (kk : ∀ (H1 : Heap) (locs1 : List Loc), wd X M9 H1 → va_S X.A H0 H1 locs1 → W p l e R s m args below meth c H1 locs1 cells slots Q (F0 m (pc + 3) ls rest)) : W p l e R s m args below meth c H locs cells slots Q (F0 m pc ls (.int x2 :: .int x1 :: .ref (X.ad 61) :: rest)) :=
  cal_v (runV (As := [.int x1, .int x2]) (rest := rest) hZ.1 hZ.2.1 hZ.2.2.1 hZ.2.2.2.1 hZ.2.2.2.2.1 hZ.2.2.2.2.2 hP (c_X8_comesLast g x1 x2 M M9 hf) wd_4_186 wd_4_185 wd_p_54 wd_1_9 hd_X8_comesLast (by decide) rfl rfl rfl hlk hR hsz rfl hW hdg hcs) hS kk
/-! FrameRaiserModel.findsOrders -/
def bd_X8_findsOrders_38 (g : Nat) (v2_3 : Int32) (x1 : Int32) : (Int32 × Mem) → Option ((Int32 × Mem) ⊕ (Mem)) :=
  u2 fun v3_11 M_12 =>
  if (M_12 62 (ix (0 : Int32))) ≤ v3_11 then
    (some (.inr M_12))
  else
    (if (fn_X8_isWithin v2_3 x1) = 0 then
      (some (.inr M_12))
    else
      (if (fn_X8_has v2_3 v3_11) = 0 then
        (some (.inl (v3_11 + (1 : Int32), M_12)))
      else
        ((fn_X8_comesLast g v2_3 v3_11 M_12).bind fun M_17 =>
        some (.inl (v3_11 + (1 : Int32), M_17)))))
def bd_X8_findsOrders_16 (g : Nat) (x1 : Int32) : (Int32 × Mem) → Option ((Int32 × Mem) ⊕ (Mem)) :=
  u2 fun v2_3 M_4 =>
  if x1 < v2_3 then
    (some (.inr M_4))
  else
    (if inb v2_3 256 then
    bv (st M_4 66 (ix v2_3) (0 : Int32)) fun M_7 =>
    if inb v2_3 256 then
    bv (st M_7 67 (ix v2_3) (-9 : Int32)) fun M_9 =>
    (lpN g (bd_X8_findsOrders_38 g v2_3 x1) ((0 : Int32), M_9)).bind (u1 fun M_13 =>
      some (.inl (v2_3 + (1 : Int32), M_13)))
    else none
    else none)
def fn_X8_findsOrders (g : Nat) (x1 : Int32) (M : Mem) : Option (Mem) :=
  bv (st M 66 (ix (0 : Int32)) (1 : Int32)) fun M_1 =>
  bv (st M_1 67 (ix (0 : Int32)) (0 : Int32)) fun M_2 =>
  (lpN g (bd_X8_findsOrders_16 g x1) ((1 : Int32), M_2)).bind (u1 fun M_5 =>
    some M_5)
theorem dX8_findsOrders_0 : decode cX8_findsOrders 0 = .ok (.aload_n 0, 1) := by decide +kernel
theorem dX8_findsOrders_1 : decode cX8_findsOrders 1 = .ok (.getfield 23, 3) := by decide +kernel
theorem dX8_findsOrders_4 : decode cX8_findsOrders 4 = .ok (.iconst 0, 1) := by decide +kernel
theorem dX8_findsOrders_5 : decode cX8_findsOrders 5 = .ok (.iconst 1, 1) := by decide +kernel
theorem dX8_findsOrders_6 : decode cX8_findsOrders 6 = .ok (.iastore, 1) := by decide +kernel
theorem dX8_findsOrders_7 : decode cX8_findsOrders 7 = .ok (.aload_n 0, 1) := by decide +kernel
theorem dX8_findsOrders_8 : decode cX8_findsOrders 8 = .ok (.getfield 26, 3) := by decide +kernel
theorem dX8_findsOrders_11 : decode cX8_findsOrders 11 = .ok (.iconst 0, 1) := by decide +kernel
theorem dX8_findsOrders_12 : decode cX8_findsOrders 12 = .ok (.iconst 0, 1) := by decide +kernel
theorem dX8_findsOrders_13 : decode cX8_findsOrders 13 = .ok (.iastore, 1) := by decide +kernel
theorem dX8_findsOrders_14 : decode cX8_findsOrders 14 = .ok (.iconst 1, 1) := by decide +kernel
theorem dX8_findsOrders_15 : decode cX8_findsOrders 15 = .ok (.istore_n 2, 1) := by decide +kernel
theorem dX8_findsOrders_16 : decode cX8_findsOrders 16 = .ok (.iload_n 2, 1) := by decide +kernel
theorem dX8_findsOrders_17 : decode cX8_findsOrders 17 = .ok (.iload_n 1, 1) := by decide +kernel
theorem dX8_findsOrders_18 : decode cX8_findsOrders 18 = .ok (.if_icmp .gt 64, 3) := by decide +kernel
theorem dX8_findsOrders_21 : decode cX8_findsOrders 21 = .ok (.aload_n 0, 1) := by decide +kernel
theorem dX8_findsOrders_22 : decode cX8_findsOrders 22 = .ok (.getfield 23, 3) := by decide +kernel
theorem dX8_findsOrders_25 : decode cX8_findsOrders 25 = .ok (.iload_n 2, 1) := by decide +kernel
theorem dX8_findsOrders_26 : decode cX8_findsOrders 26 = .ok (.iconst 0, 1) := by decide +kernel
theorem dX8_findsOrders_27 : decode cX8_findsOrders 27 = .ok (.iastore, 1) := by decide +kernel
theorem dX8_findsOrders_28 : decode cX8_findsOrders 28 = .ok (.aload_n 0, 1) := by decide +kernel
theorem dX8_findsOrders_29 : decode cX8_findsOrders 29 = .ok (.getfield 26, 3) := by decide +kernel
theorem dX8_findsOrders_32 : decode cX8_findsOrders 32 = .ok (.iload_n 2, 1) := by decide +kernel
theorem dX8_findsOrders_33 : decode cX8_findsOrders 33 = .ok (.bipush (-9), 2) := by decide +kernel
theorem dX8_findsOrders_35 : decode cX8_findsOrders 35 = .ok (.iastore, 1) := by decide +kernel
theorem dX8_findsOrders_36 : decode cX8_findsOrders 36 = .ok (.iconst 0, 1) := by decide +kernel
theorem dX8_findsOrders_37 : decode cX8_findsOrders 37 = .ok (.istore_n 3, 1) := by decide +kernel
theorem dX8_findsOrders_38 : decode cX8_findsOrders 38 = .ok (.iload_n 3, 1) := by decide +kernel
theorem dX8_findsOrders_39 : decode cX8_findsOrders 39 = .ok (.aload_n 0, 1) := by decide +kernel
theorem dX8_findsOrders_40 : decode cX8_findsOrders 40 = .ok (.getfield 7, 3) := by decide +kernel
theorem dX8_findsOrders_43 : decode cX8_findsOrders 43 = .ok (.iconst 0, 1) := by decide +kernel
theorem dX8_findsOrders_44 : decode cX8_findsOrders 44 = .ok (.iaload, 1) := by decide +kernel
theorem dX8_findsOrders_45 : decode cX8_findsOrders 45 = .ok (.if_icmp .ge 31, 3) := by decide +kernel
theorem dX8_findsOrders_48 : decode cX8_findsOrders 48 = .ok (.iload_n 2, 1) := by decide +kernel
theorem dX8_findsOrders_49 : decode cX8_findsOrders 49 = .ok (.iload_n 1, 1) := by decide +kernel
theorem dX8_findsOrders_50 : decode cX8_findsOrders 50 = .ok (.invokestatic 83, 3) := by decide +kernel
theorem dX8_findsOrders_53 : decode cX8_findsOrders 53 = .ok (.ifCond .eq 23, 3) := by decide +kernel
theorem dX8_findsOrders_56 : decode cX8_findsOrders 56 = .ok (.iload_n 2, 1) := by decide +kernel
theorem dX8_findsOrders_57 : decode cX8_findsOrders 57 = .ok (.iload_n 3, 1) := by decide +kernel
theorem dX8_findsOrders_58 : decode cX8_findsOrders 58 = .ok (.invokestatic 76, 3) := by decide +kernel
theorem dX8_findsOrders_61 : decode cX8_findsOrders 61 = .ok (.ifCond .eq 9, 3) := by decide +kernel
theorem dX8_findsOrders_64 : decode cX8_findsOrders 64 = .ok (.aload_n 0, 1) := by decide +kernel
theorem dX8_findsOrders_65 : decode cX8_findsOrders 65 = .ok (.iload_n 2, 1) := by decide +kernel
theorem dX8_findsOrders_66 : decode cX8_findsOrders 66 = .ok (.iload_n 3, 1) := by decide +kernel
theorem dX8_findsOrders_67 : decode cX8_findsOrders 67 = .ok (.invokevirtual 86, 3) := by decide +kernel
theorem dX8_findsOrders_70 : decode cX8_findsOrders 70 = .ok (.iinc 3 1, 3) := by decide +kernel
theorem dX8_findsOrders_73 : decode cX8_findsOrders 73 = .ok (.goto (-35), 3) := by decide +kernel
theorem dX8_findsOrders_76 : decode cX8_findsOrders 76 = .ok (.iinc 2 1, 3) := by decide +kernel
theorem dX8_findsOrders_79 : decode cX8_findsOrders 79 = .ok (.goto (-63), 3) := by decide +kernel
theorem dX8_findsOrders_82 : decode cX8_findsOrders 82 = .ok (.return_, 1) := by decide +kernel
set_option maxHeartbeats 4000000 in
set_option maxRecDepth 100000 in
theorem c_X8_findsOrders {l : Launch} {X : En} (g : Nat) (x1 : Int32) (M : Mem) (M9 : Mem) (hf : fn_X8_findsOrders g x1 M = some M9) : Cn l X yX8_findsOrders cX8_findsOrders 4 none 3 72 [.ref (X.ad 61), .int x1] M (Qv X M9) := by
  refine Met.ofW (cc := cX8_findsOrders) (maxL := 4) (ret := none) (by decide) rfl ?_
  intro p e s m args below meth c s₁ B hml hv
  obtain ⟨rfl, hP, hk⟩ := hv
  have hx := B.exec
  have hb := B.bytes
  have hr := B.returns
  have hlocks := B.notSynchronized
  have hts : ∀ w ∈ lw_u, w.before ([.ref (X.ad 61), .int x1] : List Value).toArray s = true := fun w hw => atoms_spec (ws := Cond.code yX8_findsOrders cX8_findsOrders 4 none :: lw_u) B.pre w (List.mem_cons_of_mem _ hw)
  have hown : s.vm.findClass RX8 = some m.cls := findClass_of_methodNamed B.named
  have hZ : Fx p c m s ([.ref (X.ad 61), .int x1] : List Value).toArray X cX8_findsOrders 4 RX8 := ⟨hx, hb, hml, hts, hown, hk⟩
  have hS : va_S X.A s.heap s.heap [] := va_S.rf
  have hl := lv_entry ([.ref (X.ad 61), .int x1]) (n := 4) (Nat.le_of_ble_eq_true rfl)
  rw [lg_entry_eq]
  generalize (lg_sl ([.ref (X.ad 61), .int x1]) ++ List.replicate (4 - (lg_sl ([.ref (X.ad 61), .int x1])).length) Slot.unset).toArray = ls at hl ⊢
  have hl : lv_has ls 4 [(0, .ref (X.ad 61)), (1, .int x1)] := hl
  show WW p l e 3 72 s m [.ref (X.ad 61), .int x1] below meth c X (Qv X M9) s.heap [] 0 ls []
  have hP : wd X M s.heap := hP
  unfold fn_X8_findsOrders at hf
  have key : ∀ (H : Heap) (locs : List Loc), wd X M H → va_S X.A s.heap H locs → WW p l e 3 72 s m [.ref (X.ad 61), .int x1] below meth c X (Qv X M9) H locs 0 ls [] := by
    intro H locs hP hS
    refine lv_aload_n hx hb dX8_findsOrders_0 rfl (lv_at hl 0 rfl) ?_
    refine gX8_5 hx hb hts hown hk hP wd_3_197 dX8_findsOrders_1 ?_
    refine lv_iconst (v := (0 : Int32)) hx hb dX8_findsOrders_4 (by decide) ?_
    refine lv_iconst (v := (1 : Int32)) hx hb dX8_findsOrders_5 (by decide) ?_
    refine ast hx hb hk hP hS (by decide) (fun _ => rfl) (show inb _ _ from by decide) dX8_findsOrders_6 (fun H locs M_1 e_M_1 hP hS => ?_)
    have hf := b_v hf e_M_1
    refine lv_aload_n hx hb dX8_findsOrders_7 rfl (lv_at hl 0 rfl) ?_
    refine gX8_6 hx hb hts hown hk hP wd_3_198 dX8_findsOrders_8 ?_
    refine lv_iconst (v := (0 : Int32)) hx hb dX8_findsOrders_11 (by decide) ?_
    refine lv_iconst (v := (0 : Int32)) hx hb dX8_findsOrders_12 (by decide) ?_
    refine ast hx hb hk hP hS (by decide) (fun _ => rfl) (show inb _ _ from by decide) dX8_findsOrders_13 (fun H locs M_2 e_M_2 hP hS => ?_)
    have hf := b_v hf e_M_2
    refine lv_iconst (v := (1 : Int32)) hx hb dX8_findsOrders_14 (by decide) ?_
    refine lv_istore_n (lv' := [(2, .int (1 : Int32)), (0, .ref (X.ad 61)), (1, .int x1)]) hx hb dX8_findsOrders_15 rfl hl (by decide) rfl (fun ls hl => ?_)
    obtain ⟨o16, ho16, hf⟩ := b_d hf
    refine lp_rule (b := bd_X8_findsOrders_16 g x1) (P := fun w : Int32 × Mem => ∀ (H : Heap) (locs : List Loc) (ls : Array Slot), wd X w.2 H → va_S X.A s.heap H locs → lv_has ls 4 [(2, .int w.1), (0, .ref (X.ad 61)), (1, .int x1)] → WW p l e 3 72 s m [.ref (X.ad 61), .int x1] below meth c X (Qv X M9) H locs 16 ls []) (K := fun o => ∀ (M_5 : Mem), o = M_5 → ∀ (H : Heap) (locs : List Loc) (ls : Array Slot), wd X M_5 H → va_S X.A s.heap H locs → lv_has ls 4 [] → WW p l e 3 72 s m [.ref (X.ad 61), .int x1] below meth c X (Qv X M9) H locs 82 ls []) ?_ g ((1 : Int32), M_2) o16 ho16 ?_ H locs ls hP hS (lv_sub hl [0, 1, 2] rfl)
    · rintro ⟨v2_3, M_4⟩ o hf hkc16 hke16 H locs ls hP hS hl
      have hf := u2_e hf
      refine lv_iload_n hx hb dX8_findsOrders_16 rfl (lv_at hl 0 rfl) ?_
      refine lv_iload_n hx hb dX8_findsOrders_17 rfl (lv_at hl 2 rfl) ?_
      refine lv_icmp_gt (tgt := 82) hx hb dX8_findsOrders_18 (by decide) (fun c_6 => ?_) (fun c_6 => ?_)
      · have hf := i_t c_6 hf
        exact hke16 _ (Option.some.inj hf).symm _ rfl H locs ls hP hS (lv_sub hl [] rfl)
      · have hf := i_f c_6 hf
        refine lv_aload_n hx hb dX8_findsOrders_21 rfl (lv_at hl 1 rfl) ?_
        refine gX8_5 hx hb hts hown hk hP wd_3_197 dX8_findsOrders_22 ?_
        refine lv_iload_n hx hb dX8_findsOrders_25 rfl (lv_at hl 0 rfl) ?_
        refine lv_iconst (v := (0 : Int32)) hx hb dX8_findsOrders_26 (by decide) ?_
        obtain ⟨q_8, hf⟩ := g_if hf
        refine ast hx hb hk hP hS (by decide) (fun _ => rfl) q_8 dX8_findsOrders_27 (fun H locs M_7 e_M_7 hP hS => ?_)
        have hf := b_v hf e_M_7
        refine lv_aload_n hx hb dX8_findsOrders_28 rfl (lv_at hl 1 rfl) ?_
        refine gX8_6 hx hb hts hown hk hP wd_3_198 dX8_findsOrders_29 ?_
        refine lv_iload_n hx hb dX8_findsOrders_32 rfl (lv_at hl 0 rfl) ?_
        refine lv_bipush (v := (-9 : Int32)) hx hb dX8_findsOrders_33 (by decide) ?_
        obtain ⟨q_10, hf⟩ := g_if hf
        refine ast hx hb hk hP hS (by decide) (fun _ => rfl) q_10 dX8_findsOrders_35 (fun H locs M_9 e_M_9 hP hS => ?_)
        have hf := b_v hf e_M_9
        refine lv_iconst (v := (0 : Int32)) hx hb dX8_findsOrders_36 (by decide) ?_
        refine lv_istore_n (lv' := [(3, .int (0 : Int32)), (2, .int v2_3), (0, .ref (X.ad 61)), (1, .int x1)]) hx hb dX8_findsOrders_37 rfl hl (by decide) rfl (fun ls hl => ?_)
        obtain ⟨o38, ho38, hf⟩ := b_d hf
        refine lp_rule (b := bd_X8_findsOrders_38 g v2_3 x1) (P := fun w : Int32 × Mem => ∀ (H : Heap) (locs : List Loc) (ls : Array Slot), wd X w.2 H → va_S X.A s.heap H locs → lv_has ls 4 [(3, .int w.1), (2, .int v2_3), (0, .ref (X.ad 61)), (1, .int x1)] → WW p l e 3 72 s m [.ref (X.ad 61), .int x1] below meth c X (Qv X M9) H locs 38 ls []) (K := fun o => ∀ (M_13 : Mem), o = M_13 → ∀ (H : Heap) (locs : List Loc) (ls : Array Slot), wd X M_13 H → va_S X.A s.heap H locs → lv_has ls 4 [(2, .int v2_3), (0, .ref (X.ad 61)), (1, .int x1)] → WW p l e 3 72 s m [.ref (X.ad 61), .int x1] below meth c X (Qv X M9) H locs 76 ls []) ?_ g ((0 : Int32), M_9) o38 ho38 ?_ H locs ls hP hS (lv_sub hl [0, 1, 2, 3] rfl)
        · rintro ⟨v3_11, M_12⟩ o hf hkc38 hke38 H locs ls hP hS hl
          have hf := u2_e hf
          refine lv_iload_n hx hb dX8_findsOrders_38 rfl (lv_at hl 0 rfl) ?_
          refine lv_aload_n hx hb dX8_findsOrders_39 rfl (lv_at hl 2 rfl) ?_
          refine gX8_0 hx hb hts hown hk hP wd_3_192 dX8_findsOrders_40 ?_
          refine lv_iconst (v := (0 : Int32)) hx hb dX8_findsOrders_43 (by decide) ?_
          refine ald hx hb hk hP (by decide) rfl (show inb _ _ from by decide) dX8_findsOrders_44 ?_
          refine lv_icmp_ge (tgt := 76) hx hb dX8_findsOrders_45 (by decide) (fun c_14 => ?_) (fun c_14 => ?_)
          · have hf := i_t c_14 hf
            exact hke38 _ (Option.some.inj hf).symm _ rfl H locs ls hP hS (lv_sub hl [1, 2, 3] rfl)
          · have hf := i_f c_14 hf
            refine lv_iload_n hx hb dX8_findsOrders_48 rfl (lv_at hl 1 rfl) ?_
            refine lv_iload_n hx hb dX8_findsOrders_49 rfl (lv_at hl 3 rfl) ?_
            refine k_X8_isWithin hZ hP hS hl.1 wd_4_180 ⟨Nat.le_of_ble_eq_true rfl, Nat.le_of_ble_eq_true rfl⟩ (Nat.le_of_ble_eq_true rfl) dX8_findsOrders_50 ⟨Nat.zero_le _, Nat.zero_le _⟩ (fun H locs hP hS => ?_)
            refine lv_if_eq (tgt := 76) hx hb dX8_findsOrders_53 (by decide) (fun c_15 => ?_) (fun c_15 => ?_)
            · have hf := i_t c_15 hf
              exact hke38 _ (Option.some.inj hf).symm _ rfl H locs ls hP hS (lv_sub hl [1, 2, 3] rfl)
            · have hf := i_f c_15 hf
              refine lv_iload_n hx hb dX8_findsOrders_56 rfl (lv_at hl 1 rfl) ?_
              refine lv_iload_n hx hb dX8_findsOrders_57 rfl (lv_at hl 0 rfl) ?_
              refine k_X8_has hZ hP hS hl.1 wd_4_153 ⟨Nat.le_of_ble_eq_true rfl, Nat.le_of_ble_eq_true rfl⟩ (Nat.le_of_ble_eq_true rfl) dX8_findsOrders_58 ⟨Nat.zero_le _, Nat.zero_le _⟩ (fun H locs hP hS => ?_)
              refine lv_if_eq (tgt := 70) hx hb dX8_findsOrders_61 (by decide) (fun c_16 => ?_) (fun c_16 => ?_)
              · have hf := i_t c_16 hf
                refine lv_iinc (v := v3_11 + (1 : Int32)) (lv' := [(3, .int (v3_11 + (1 : Int32))), (2, .int v2_3), (0, .ref (X.ad 61)), (1, .int x1)]) hx hb dX8_findsOrders_70 hl (k := 0) rfl rfl (by decide) rfl (fun ls hl => ?_)
                refine lv_goto (tgt := 38) hx hb dX8_findsOrders_73 (by decide) ?_
                exact hkc38 _ (Option.some.inj hf).symm H locs ls hP hS (lv_sub hl [0, 1, 2, 3] rfl)
              · have hf := i_f c_16 hf
                refine lv_aload_n hx hb dX8_findsOrders_64 rfl (lv_at hl 2 rfl) ?_
                refine lv_iload_n hx hb dX8_findsOrders_65 rfl (lv_at hl 1 rfl) ?_
                refine lv_iload_n hx hb dX8_findsOrders_66 rfl (lv_at hl 0 rfl) ?_
                obtain ⟨M_17, h_M_17, hf⟩ := b_d hf
                refine k_X8_comesLast hZ hP hS hl.1 wd_4_183 ⟨Nat.le_of_ble_eq_true rfl, Nat.le_of_ble_eq_true rfl⟩ (Nat.le_of_ble_eq_true rfl) dX8_findsOrders_67 ⟨Nat.zero_le _, Nat.zero_le _⟩ h_M_17 (fun H locs hP hS => ?_)
                refine lv_iinc (v := v3_11 + (1 : Int32)) (lv' := [(3, .int (v3_11 + (1 : Int32))), (2, .int v2_3), (0, .ref (X.ad 61)), (1, .int x1)]) hx hb dX8_findsOrders_70 hl (k := 0) rfl rfl (by decide) rfl (fun ls hl => ?_)
                refine lv_goto (tgt := 38) hx hb dX8_findsOrders_73 (by decide) ?_
                exact hkc38 _ (Option.some.inj hf).symm H locs ls hP hS (lv_sub hl [0, 1, 2, 3] rfl)
        · intro M_13 e H locs ls hP hS hl
          subst o38
          have hf := u1_e hf
          refine lv_iinc (v := v2_3 + (1 : Int32)) (lv' := [(2, .int (v2_3 + (1 : Int32))), (0, .ref (X.ad 61)), (1, .int x1)]) hx hb dX8_findsOrders_76 hl (k := 0) rfl rfl (by decide) rfl (fun ls hl => ?_)
          refine lv_goto (tgt := 16) hx hb dX8_findsOrders_79 (by decide) ?_
          exact hkc16 _ (Option.some.inj hf).symm H locs ls hP hS (lv_sub hl [0, 1, 2] rfl)
    · intro M_5 e H locs ls hP hS hl
      subst o16
      have hf := u1_e hf
      have hf := Option.some.inj hf
      rw [hf] at hP
      exact ret_v hx hb hr hlocks hP hS dX8_findsOrders_82
  exact key s.heap [] hP hS
theorem hd_X8_findsOrders : Hd yX8_findsOrders 1 := by decide +kernel
theorem k_X8_findsOrders {p : Program} {l : Launch} {e : Env} {R : Room} {s : State} {m : MethodId} {args : Array Value} {below : List Frame} {meth : Method} {c : Code} {H : Heap} {locs : List Loc} {cells slots : Nat} {Q : State → Prop} {cc : ByteArray} {nL pc index : Nat} {ls : Array Slot} {rest : List Value} {X : En} {M : Mem} {H0 : Heap} {own : String} {g : Nat} {x1 : Int32} {M9 : Mem} (hZ : Fx p c m s args X cc nL own) (hP : wd X M H) (hS : va_S X.A H0 H locs) (hsz : ls.size = nL) (hlk : Cond.methodLink own index yX8_findsOrders ∈ lw_u) (hR : 3 + 1 ≤ R.frames ∧ 8 + (4 + 11) + 72 ≤ R.locals) (hW : (rest.map fun v => v.category).sum ≤ 8) (hdg : decode cc pc = .ok (.invokevirtual index, 3)) (hcs : cells ≤ R.cells ∧ slots ≤ R.slots) (hf : fn_X8_findsOrders g x1 M = some M9)
    (kk : ∀ (H1 : Heap) (locs1 : List Loc), wd X M9 H1 → va_S X.A H0 H1 locs1 → W p l e R s m args below meth c H1 locs1 cells slots Q (F0 m (pc + 3) ls rest)) : W p l e R s m args below meth c H locs cells slots Q (F0 m pc ls (.int x1 :: .ref (X.ad 61) :: rest)) :=
  cal_v (runV (As := [.int x1]) (rest := rest) hZ.1 hZ.2.1 hZ.2.2.1 hZ.2.2.2.1 hZ.2.2.2.2.1 hZ.2.2.2.2.2 hP (c_X8_findsOrders g x1 M M9 hf) wd_4_179 wd_4_178 wd_p_53 wd_1_9 hd_X8_findsOrders (by decide) rfl rfl rfl hlk hR hsz rfl hW hdg hcs) hS kk
/-! FrameRaiserModel.canCome -/
def fn_X8_canCome (g : Nat) (x1 : Int32) (x2 : Int32) (x3 : Int32) (M : Mem) : Option (Int32) :=
  bv (x1 ||| (sl (1 : Int32) x2)) fun v4_1 =>
  (fn_X8_waysOf g x2 x1 M).bind fun r_2 =>
  if r_2 = 0 then
    (some (0 : Int32))
  else
    ((fn_X8_propsOf g v4_1 M).bind fun r_4 =>
    if inb x3 256 then
    if (M 67 (ix x3)) < r_4 then
      (some (0 : Int32))
    else
      (if inb v4_1 256 then
      if (M 68 (ix v4_1)) = 0 then
        (some (0 : Int32))
      else
        (some (1 : Int32))
      else none)
    else none)
theorem dX8_canCome_0 : decode cX8_canCome 0 = .ok (.iload_n 1, 1) := by decide +kernel
theorem dX8_canCome_1 : decode cX8_canCome 1 = .ok (.iconst 1, 1) := by decide +kernel
theorem dX8_canCome_2 : decode cX8_canCome 2 = .ok (.iload_n 2, 1) := by decide +kernel
theorem dX8_canCome_3 : decode cX8_canCome 3 = .ok (.ishl, 1) := by decide +kernel
theorem dX8_canCome_4 : decode cX8_canCome 4 = .ok (.ior, 1) := by decide +kernel
theorem dX8_canCome_5 : decode cX8_canCome 5 = .ok (.istore 4, 2) := by decide +kernel
theorem dX8_canCome_7 : decode cX8_canCome 7 = .ok (.aload_n 0, 1) := by decide +kernel
theorem dX8_canCome_8 : decode cX8_canCome 8 = .ok (.iload_n 2, 1) := by decide +kernel
theorem dX8_canCome_9 : decode cX8_canCome 9 = .ok (.iload_n 1, 1) := by decide +kernel
theorem dX8_canCome_10 : decode cX8_canCome 10 = .ok (.invokevirtual 89, 3) := by decide +kernel
theorem dX8_canCome_13 : decode cX8_canCome 13 = .ok (.ifCond .eq 32, 3) := by decide +kernel
theorem dX8_canCome_16 : decode cX8_canCome 16 = .ok (.aload_n 0, 1) := by decide +kernel
theorem dX8_canCome_17 : decode cX8_canCome 17 = .ok (.iload 4, 2) := by decide +kernel
theorem dX8_canCome_19 : decode cX8_canCome 19 = .ok (.invokevirtual 92, 3) := by decide +kernel
theorem dX8_canCome_22 : decode cX8_canCome 22 = .ok (.aload_n 0, 1) := by decide +kernel
theorem dX8_canCome_23 : decode cX8_canCome 23 = .ok (.getfield 26, 3) := by decide +kernel
theorem dX8_canCome_26 : decode cX8_canCome 26 = .ok (.iload_n 3, 1) := by decide +kernel
theorem dX8_canCome_27 : decode cX8_canCome 27 = .ok (.iaload, 1) := by decide +kernel
theorem dX8_canCome_28 : decode cX8_canCome 28 = .ok (.if_icmp .gt 17, 3) := by decide +kernel
theorem dX8_canCome_31 : decode cX8_canCome 31 = .ok (.aload_n 0, 1) := by decide +kernel
theorem dX8_canCome_32 : decode cX8_canCome 32 = .ok (.getfield 29, 3) := by decide +kernel
theorem dX8_canCome_35 : decode cX8_canCome 35 = .ok (.iload 4, 2) := by decide +kernel
theorem dX8_canCome_37 : decode cX8_canCome 37 = .ok (.baload, 1) := by decide +kernel
theorem dX8_canCome_38 : decode cX8_canCome 38 = .ok (.ifCond .eq 7, 3) := by decide +kernel
theorem dX8_canCome_41 : decode cX8_canCome 41 = .ok (.iconst 1, 1) := by decide +kernel
theorem dX8_canCome_42 : decode cX8_canCome 42 = .ok (.goto 4, 3) := by decide +kernel
theorem dX8_canCome_45 : decode cX8_canCome 45 = .ok (.iconst 0, 1) := by decide +kernel
theorem dX8_canCome_46 : decode cX8_canCome 46 = .ok (.ireturn, 1) := by decide +kernel
set_option maxHeartbeats 4000000 in
set_option maxRecDepth 100000 in
theorem c_X8_canCome {l : Launch} {X : En} (g : Nat) (x1 : Int32) (x2 : Int32) (x3 : Int32) (M : Mem) (r : Int32) (hf : fn_X8_canCome g x1 x2 x3 M = some r) : Cn l X yX8_canCome cX8_canCome 5 (some .boolean) 2 47 [.ref (X.ad 61), .int x1, .int x2, .int x3] M (Qi X r M) := by
  refine Met.ofW (cc := cX8_canCome) (maxL := 5) (ret := (some .boolean)) (by decide) rfl ?_
  intro p e s m args below meth c s₁ B hml hv
  obtain ⟨rfl, hP, hk⟩ := hv
  have hx := B.exec
  have hb := B.bytes
  have hr := B.returns
  have hlocks := B.notSynchronized
  have hts : ∀ w ∈ lw_u, w.before ([.ref (X.ad 61), .int x1, .int x2, .int x3] : List Value).toArray s = true := fun w hw => atoms_spec (ws := Cond.code yX8_canCome cX8_canCome 5 (some .boolean) :: lw_u) B.pre w (List.mem_cons_of_mem _ hw)
  have hown : s.vm.findClass RX8 = some m.cls := findClass_of_methodNamed B.named
  have hZ : Fx p c m s ([.ref (X.ad 61), .int x1, .int x2, .int x3] : List Value).toArray X cX8_canCome 5 RX8 := ⟨hx, hb, hml, hts, hown, hk⟩
  have hS : va_S X.A s.heap s.heap [] := va_S.rf
  have hl := lv_entry ([.ref (X.ad 61), .int x1, .int x2, .int x3]) (n := 5) (Nat.le_of_ble_eq_true rfl)
  rw [lg_entry_eq]
  generalize (lg_sl ([.ref (X.ad 61), .int x1, .int x2, .int x3]) ++ List.replicate (5 - (lg_sl ([.ref (X.ad 61), .int x1, .int x2, .int x3])).length) Slot.unset).toArray = ls at hl ⊢
  have hl : lv_has ls 5 [(0, .ref (X.ad 61)), (1, .int x1), (2, .int x2), (3, .int x3)] := hl
  show WW p l e 2 47 s m [.ref (X.ad 61), .int x1, .int x2, .int x3] below meth c X (Qi X r M) s.heap [] 0 ls []
  have hP : wd X M s.heap := hP
  unfold fn_X8_canCome at hf
  have key : ∀ (H : Heap) (locs : List Loc), wd X M H → va_S X.A s.heap H locs → WW p l e 2 47 s m [.ref (X.ad 61), .int x1, .int x2, .int x3] below meth c X (Qi X r M) H locs 0 ls [] := by
    intro H locs hP hS
    refine lv_iload_n hx hb dX8_canCome_0 rfl (lv_at hl 1 rfl) ?_
    refine lv_iconst (v := (1 : Int32)) hx hb dX8_canCome_1 (by decide) ?_
    refine lv_iload_n hx hb dX8_canCome_2 rfl (lv_at hl 2 rfl) ?_
    refine rw_ishl hx hb dX8_canCome_3 ?_
    refine lv_ior hx hb dX8_canCome_4 ?_
    refine lv_topi (fun v4_1 e_v4_1 => ?_)
    have hf := b_v hf e_v4_1
    refine lv_istore (lv' := [(4, .int v4_1), (0, .ref (X.ad 61)), (1, .int x1), (2, .int x2), (3, .int x3)]) hx hb dX8_canCome_5 hl (by decide) rfl (fun ls hl => ?_)
    refine lv_aload_n hx hb dX8_canCome_7 rfl (lv_at hl 1 rfl) ?_
    refine lv_iload_n hx hb dX8_canCome_8 rfl (lv_at hl 3 rfl) ?_
    refine lv_iload_n hx hb dX8_canCome_9 rfl (lv_at hl 2 rfl) ?_
    obtain ⟨r_2, h_r_2, hf⟩ := b_d hf
    refine k_X8_waysOf hZ hP hS hl.1 wd_4_129 ⟨Nat.le_of_ble_eq_true rfl, Nat.le_of_ble_eq_true rfl⟩ (Nat.le_of_ble_eq_true rfl) dX8_canCome_10 ⟨Nat.zero_le _, Nat.zero_le _⟩ h_r_2 (fun H locs hP hS => ?_)
    refine lv_if_eq (tgt := 45) hx hb dX8_canCome_13 (by decide) (fun c_3 => ?_) (fun c_3 => ?_)
    · have hf := i_t c_3 hf
      refine lv_iconst (v := (0 : Int32)) hx hb dX8_canCome_45 (by decide) ?_
      have hf := Option.some.inj hf
      exact ret_z hx hb hr hlocks hP hS isZ_0 hf dX8_canCome_46
    · have hf := i_f c_3 hf
      refine lv_aload_n hx hb dX8_canCome_16 rfl (lv_at hl 1 rfl) ?_
      refine lv_iload hx hb dX8_canCome_17 (lv_at hl 0 rfl) ?_
      obtain ⟨r_4, h_r_4, hf⟩ := b_d hf
      refine k_X8_propsOf hZ hP hS hl.1 wd_4_160 ⟨Nat.le_of_ble_eq_true rfl, Nat.le_of_ble_eq_true rfl⟩ (Nat.le_of_ble_eq_true rfl) dX8_canCome_19 ⟨Nat.zero_le _, Nat.zero_le _⟩ h_r_4 (fun H locs hP hS => ?_)
      refine lv_aload_n hx hb dX8_canCome_22 rfl (lv_at hl 1 rfl) ?_
      refine gX8_6 hx hb hts hown hk hP wd_3_198 dX8_canCome_23 ?_
      refine lv_iload_n hx hb dX8_canCome_26 rfl (lv_at hl 4 rfl) ?_
      obtain ⟨q_5, hf⟩ := g_if hf
      refine ald hx hb hk hP (by decide) rfl q_5 dX8_canCome_27 ?_
      refine lv_icmp_gt (tgt := 45) hx hb dX8_canCome_28 (by decide) (fun c_6 => ?_) (fun c_6 => ?_)
      · have hf := i_t c_6 hf
        refine lv_iconst (v := (0 : Int32)) hx hb dX8_canCome_45 (by decide) ?_
        have hf := Option.some.inj hf
        exact ret_z hx hb hr hlocks hP hS isZ_0 hf dX8_canCome_46
      · have hf := i_f c_6 hf
        refine lv_aload_n hx hb dX8_canCome_31 rfl (lv_at hl 1 rfl) ?_
        refine gX8_7 hx hb hts hown hk hP wd_3_199 dX8_canCome_32 ?_
        refine lv_iload hx hb dX8_canCome_35 (lv_at hl 0 rfl) ?_
        obtain ⟨q_7, hf⟩ := g_if hf
        refine zald hx hb hk hP (by decide) rfl q_7 dX8_canCome_37 ?_
        refine lv_if_eq (tgt := 45) hx hb dX8_canCome_38 (by decide) (fun c_8 => ?_) (fun c_8 => ?_)
        · have hf := i_t c_8 hf
          refine lv_iconst (v := (0 : Int32)) hx hb dX8_canCome_45 (by decide) ?_
          have hf := Option.some.inj hf
          exact ret_z hx hb hr hlocks hP hS isZ_0 hf dX8_canCome_46
        · have hf := i_f c_8 hf
          refine lv_iconst (v := (1 : Int32)) hx hb dX8_canCome_41 (by decide) ?_
          refine lv_goto (tgt := 46) hx hb dX8_canCome_42 (by decide) ?_
          have hf := Option.some.inj hf
          exact ret_z hx hb hr hlocks hP hS isZ_1 hf dX8_canCome_46
  exact key s.heap [] hP hS
theorem hd_X8_canCome : Hd yX8_canCome 3 := by decide +kernel
theorem k_X8_canCome {p : Program} {l : Launch} {e : Env} {R : Room} {s : State} {m : MethodId} {args : Array Value} {below : List Frame} {meth : Method} {c : Code} {H : Heap} {locs : List Loc} {cells slots : Nat} {Q : State → Prop} {cc : ByteArray} {nL pc index : Nat} {ls : Array Slot} {rest : List Value} {X : En} {M : Mem} {H0 : Heap} {own : String} {g : Nat} {x1 : Int32} {x2 : Int32} {x3 : Int32} {r : Int32} (hZ : Fx p c m s args X cc nL own) (hP : wd X M H) (hS : va_S X.A H0 H locs) (hsz : ls.size = nL) (hlk : Cond.methodLink own index yX8_canCome ∈ lw_u) (hR : 2 + 1 ≤ R.frames ∧ 8 + (5 + 11) + 47 ≤ R.locals) (hW : (rest.map fun v => v.category).sum ≤ 8) (hdg : decode cc pc = .ok (.invokevirtual index, 3)) (hcs : cells ≤ R.cells ∧ slots ≤ R.slots) (hf : fn_X8_canCome g x1 x2 x3 M = some r)
    (kk : ∀ (H1 : Heap) (locs1 : List Loc), wd X M H1 → va_S X.A H0 H1 locs1 → W p l e R s m args below meth c H1 locs1 cells slots Q (F0 m (pc + 3) ls (.int r :: rest))) : W p l e R s m args below meth c H locs cells slots Q (F0 m pc ls (.int x3 :: .int x2 :: .int x1 :: .ref (X.ad 61) :: rest)) :=
  cal_i (runV (As := [.int x1, .int x2, .int x3]) (rest := rest) hZ.1 hZ.2.1 hZ.2.2.1 hZ.2.2.2.1 hZ.2.2.2.2.1 hZ.2.2.2.2.2 hP (c_X8_canCome g x1 x2 x3 M r hf) wd_4_205 wd_4_204 wd_p_56 wd_1_9 hd_X8_canCome (by decide) rfl rfl rfl hlk hR hsz rfl hW hdg hcs) hS kk
/-! FrameRaiserModel.findsLeads -/
def jn_X8_findsLeads_87 (s_24 : Int32) (s_25 : Int32) (v3_23 : Int32) (M_26 : Mem) : Option ((Int32 × Mem) ⊕ (Mem)) :=
  if inb s_25 256 then
  if isZ s_24 then
  bv (st M_26 68 (ix s_25) s_24) fun M_27 =>
  some (.inl (v3_23 + (1 : Int32), M_27))
  else none
  else none
def jn_X8_findsLeads_86 (s_32 : Int32) (v3_31 : Int32) (M_33 : Mem) : Option ((Int32 × Mem) ⊕ (Mem)) :=
  jn_X8_findsLeads_87 (0 : Int32) s_32 v3_31 M_33
def jn_X8_findsLeads_82 (s_21 : Int32) (v3_20 : Int32) (M_22 : Mem) : Option ((Int32 × Mem) ⊕ (Mem)) :=
  jn_X8_findsLeads_87 (1 : Int32) s_21 v3_20 M_22
def bd_X8_findsLeads_24 (g : Nat) (v2_6 : Int32) (x1 : Int32) : (Int32 × Mem) → Option ((Int32 × Mem) ⊕ (Mem)) :=
  u2 fun v3_13 M_14 =>
  if (M_14 62 (ix (0 : Int32))) ≤ v3_13 then
    (some (.inr M_14))
  else
    (if (fn_X8_isWithin v2_6 x1) = 0 then
      (some (.inr M_14))
    else
      (if inb v2_6 256 then
      if (M_14 68 (ix v2_6)) = 0 then
        (if (fn_X8_has x1 v3_13) = 0 then
          (jn_X8_findsLeads_86 v2_6 v3_13 M_14)
        else
          (if (fn_X8_has v2_6 v3_13) = 0 then
            ((fn_X8_canCome g v2_6 v3_13 x1 M_14).bind fun r_35 =>
            if r_35 = 0 then
              (jn_X8_findsLeads_86 v2_6 v3_13 M_14)
            else
              (jn_X8_findsLeads_82 v2_6 v3_13 M_14))
          else
            (jn_X8_findsLeads_86 v2_6 v3_13 M_14)))
      else
        (jn_X8_findsLeads_82 v2_6 v3_13 M_14)
      else none))
def jn_X8_findsLeads_21 (g : Nat) (s_7 : Int32) (s_8 : Int32) (v2_6 : Int32) (x1 : Int32) (M_9 : Mem) : Option ((Int32 × Mem) ⊕ (Mem)) :=
  if inb s_8 256 then
  if isZ s_7 then
  bv (st M_9 68 (ix s_8) s_7) fun M_10 =>
  (lpN g (bd_X8_findsLeads_24 g v2_6 x1) ((0 : Int32), M_10)).bind (u1 fun M_15 =>
    some (.inl (v2_6 + (-1 : Int32), M_15)))
  else none
  else none
def bd_X8_findsLeads_2 (g : Nat) (x1 : Int32) : (Int32 × Mem) → Option ((Int32 × Mem) ⊕ (Mem)) :=
  u2 fun v2_1 M_2 =>
  if v2_1 < 0 then
    (some (.inr M_2))
  else
    (if v2_1 = x1 then
      (jn_X8_findsLeads_21 g (1 : Int32) v2_1 v2_1 x1 M_2)
    else
      (jn_X8_findsLeads_21 g (0 : Int32) v2_1 v2_1 x1 M_2))
def fn_X8_findsLeads (g : Nat) (x1 : Int32) (M : Mem) : Option (Mem) :=
  (lpN g (bd_X8_findsLeads_2 g x1) (x1, M)).bind (u1 fun M_3 =>
    some M_3)
theorem dX8_findsLeads_0 : decode cX8_findsLeads 0 = .ok (.iload_n 1, 1) := by decide +kernel
theorem dX8_findsLeads_1 : decode cX8_findsLeads 1 = .ok (.istore_n 2, 1) := by decide +kernel
theorem dX8_findsLeads_2 : decode cX8_findsLeads 2 = .ok (.iload_n 2, 1) := by decide +kernel
theorem dX8_findsLeads_3 : decode cX8_findsLeads 3 = .ok (.ifCond .lt 97, 3) := by decide +kernel
theorem dX8_findsLeads_6 : decode cX8_findsLeads 6 = .ok (.aload_n 0, 1) := by decide +kernel
theorem dX8_findsLeads_7 : decode cX8_findsLeads 7 = .ok (.getfield 29, 3) := by decide +kernel
theorem dX8_findsLeads_10 : decode cX8_findsLeads 10 = .ok (.iload_n 2, 1) := by decide +kernel
theorem dX8_findsLeads_11 : decode cX8_findsLeads 11 = .ok (.iload_n 2, 1) := by decide +kernel
theorem dX8_findsLeads_12 : decode cX8_findsLeads 12 = .ok (.iload_n 1, 1) := by decide +kernel
theorem dX8_findsLeads_13 : decode cX8_findsLeads 13 = .ok (.if_icmp .ne 7, 3) := by decide +kernel
theorem dX8_findsLeads_16 : decode cX8_findsLeads 16 = .ok (.iconst 1, 1) := by decide +kernel
theorem dX8_findsLeads_17 : decode cX8_findsLeads 17 = .ok (.goto 4, 3) := by decide +kernel
theorem dX8_findsLeads_20 : decode cX8_findsLeads 20 = .ok (.iconst 0, 1) := by decide +kernel
theorem dX8_findsLeads_21 : decode cX8_findsLeads 21 = .ok (.bastore, 1) := by decide +kernel
theorem dX8_findsLeads_22 : decode cX8_findsLeads 22 = .ok (.iconst 0, 1) := by decide +kernel
theorem dX8_findsLeads_23 : decode cX8_findsLeads 23 = .ok (.istore_n 3, 1) := by decide +kernel
theorem dX8_findsLeads_24 : decode cX8_findsLeads 24 = .ok (.iload_n 3, 1) := by decide +kernel
theorem dX8_findsLeads_25 : decode cX8_findsLeads 25 = .ok (.aload_n 0, 1) := by decide +kernel
theorem dX8_findsLeads_26 : decode cX8_findsLeads 26 = .ok (.getfield 7, 3) := by decide +kernel
theorem dX8_findsLeads_29 : decode cX8_findsLeads 29 = .ok (.iconst 0, 1) := by decide +kernel
theorem dX8_findsLeads_30 : decode cX8_findsLeads 30 = .ok (.iaload, 1) := by decide +kernel
theorem dX8_findsLeads_31 : decode cX8_findsLeads 31 = .ok (.if_icmp .ge 63, 3) := by decide +kernel
theorem dX8_findsLeads_34 : decode cX8_findsLeads 34 = .ok (.iload_n 2, 1) := by decide +kernel
theorem dX8_findsLeads_35 : decode cX8_findsLeads 35 = .ok (.iload_n 1, 1) := by decide +kernel
theorem dX8_findsLeads_36 : decode cX8_findsLeads 36 = .ok (.invokestatic 83, 3) := by decide +kernel
theorem dX8_findsLeads_39 : decode cX8_findsLeads 39 = .ok (.ifCond .eq 55, 3) := by decide +kernel
theorem dX8_findsLeads_42 : decode cX8_findsLeads 42 = .ok (.aload_n 0, 1) := by decide +kernel
theorem dX8_findsLeads_43 : decode cX8_findsLeads 43 = .ok (.getfield 29, 3) := by decide +kernel
theorem dX8_findsLeads_46 : decode cX8_findsLeads 46 = .ok (.iload_n 2, 1) := by decide +kernel
theorem dX8_findsLeads_47 : decode cX8_findsLeads 47 = .ok (.aload_n 0, 1) := by decide +kernel
theorem dX8_findsLeads_48 : decode cX8_findsLeads 48 = .ok (.getfield 29, 3) := by decide +kernel
theorem dX8_findsLeads_51 : decode cX8_findsLeads 51 = .ok (.iload_n 2, 1) := by decide +kernel
theorem dX8_findsLeads_52 : decode cX8_findsLeads 52 = .ok (.baload, 1) := by decide +kernel
theorem dX8_findsLeads_53 : decode cX8_findsLeads 53 = .ok (.ifCond .ne 29, 3) := by decide +kernel
theorem dX8_findsLeads_56 : decode cX8_findsLeads 56 = .ok (.iload_n 1, 1) := by decide +kernel
theorem dX8_findsLeads_57 : decode cX8_findsLeads 57 = .ok (.iload_n 3, 1) := by decide +kernel
theorem dX8_findsLeads_58 : decode cX8_findsLeads 58 = .ok (.invokestatic 76, 3) := by decide +kernel
theorem dX8_findsLeads_61 : decode cX8_findsLeads 61 = .ok (.ifCond .eq 25, 3) := by decide +kernel
theorem dX8_findsLeads_64 : decode cX8_findsLeads 64 = .ok (.iload_n 2, 1) := by decide +kernel
theorem dX8_findsLeads_65 : decode cX8_findsLeads 65 = .ok (.iload_n 3, 1) := by decide +kernel
theorem dX8_findsLeads_66 : decode cX8_findsLeads 66 = .ok (.invokestatic 76, 3) := by decide +kernel
theorem dX8_findsLeads_69 : decode cX8_findsLeads 69 = .ok (.ifCond .ne 17, 3) := by decide +kernel
theorem dX8_findsLeads_72 : decode cX8_findsLeads 72 = .ok (.aload_n 0, 1) := by decide +kernel
theorem dX8_findsLeads_73 : decode cX8_findsLeads 73 = .ok (.iload_n 2, 1) := by decide +kernel
theorem dX8_findsLeads_74 : decode cX8_findsLeads 74 = .ok (.iload_n 3, 1) := by decide +kernel
theorem dX8_findsLeads_75 : decode cX8_findsLeads 75 = .ok (.iload_n 1, 1) := by decide +kernel
theorem dX8_findsLeads_76 : decode cX8_findsLeads 76 = .ok (.invokevirtual 95, 3) := by decide +kernel
theorem dX8_findsLeads_79 : decode cX8_findsLeads 79 = .ok (.ifCond .eq 7, 3) := by decide +kernel
theorem dX8_findsLeads_82 : decode cX8_findsLeads 82 = .ok (.iconst 1, 1) := by decide +kernel
theorem dX8_findsLeads_83 : decode cX8_findsLeads 83 = .ok (.goto 4, 3) := by decide +kernel
theorem dX8_findsLeads_86 : decode cX8_findsLeads 86 = .ok (.iconst 0, 1) := by decide +kernel
theorem dX8_findsLeads_87 : decode cX8_findsLeads 87 = .ok (.bastore, 1) := by decide +kernel
theorem dX8_findsLeads_88 : decode cX8_findsLeads 88 = .ok (.iinc 3 1, 3) := by decide +kernel
theorem dX8_findsLeads_91 : decode cX8_findsLeads 91 = .ok (.goto (-67), 3) := by decide +kernel
theorem dX8_findsLeads_94 : decode cX8_findsLeads 94 = .ok (.iinc 2 (-1), 3) := by decide +kernel
theorem dX8_findsLeads_97 : decode cX8_findsLeads 97 = .ok (.goto (-95), 3) := by decide +kernel
theorem dX8_findsLeads_100 : decode cX8_findsLeads 100 = .ok (.return_, 1) := by decide +kernel
set_option maxHeartbeats 4000000 in
set_option maxRecDepth 100000 in
theorem c_X8_findsLeads {l : Launch} {X : En} (g : Nat) (x1 : Int32) (M : Mem) (M9 : Mem) (hf : fn_X8_findsLeads g x1 M = some M9) : Cn l X yX8_findsLeads cX8_findsLeads 4 none 3 71 [.ref (X.ad 61), .int x1] M (Qv X M9) := by
  refine Met.ofW (cc := cX8_findsLeads) (maxL := 4) (ret := none) (by decide) rfl ?_
  intro p e s m args below meth c s₁ B hml hv
  obtain ⟨rfl, hP, hk⟩ := hv
  have hx := B.exec
  have hb := B.bytes
  have hr := B.returns
  have hlocks := B.notSynchronized
  have hts : ∀ w ∈ lw_u, w.before ([.ref (X.ad 61), .int x1] : List Value).toArray s = true := fun w hw => atoms_spec (ws := Cond.code yX8_findsLeads cX8_findsLeads 4 none :: lw_u) B.pre w (List.mem_cons_of_mem _ hw)
  have hown : s.vm.findClass RX8 = some m.cls := findClass_of_methodNamed B.named
  have hZ : Fx p c m s ([.ref (X.ad 61), .int x1] : List Value).toArray X cX8_findsLeads 4 RX8 := ⟨hx, hb, hml, hts, hown, hk⟩
  have hS : va_S X.A s.heap s.heap [] := va_S.rf
  have hl := lv_entry ([.ref (X.ad 61), .int x1]) (n := 4) (Nat.le_of_ble_eq_true rfl)
  rw [lg_entry_eq]
  generalize (lg_sl ([.ref (X.ad 61), .int x1]) ++ List.replicate (4 - (lg_sl ([.ref (X.ad 61), .int x1])).length) Slot.unset).toArray = ls at hl ⊢
  have hl : lv_has ls 4 [(0, .ref (X.ad 61)), (1, .int x1)] := hl
  show WW p l e 3 71 s m [.ref (X.ad 61), .int x1] below meth c X (Qv X M9) s.heap [] 0 ls []
  have hP : wd X M s.heap := hP
  unfold fn_X8_findsLeads at hf
  have key : ∀ (H : Heap) (locs : List Loc), wd X M H → va_S X.A s.heap H locs → WW p l e 3 71 s m [.ref (X.ad 61), .int x1] below meth c X (Qv X M9) H locs 0 ls [] := by
    intro H locs hP hS
    refine lv_iload_n hx hb dX8_findsLeads_0 rfl (lv_at hl 1 rfl) ?_
    refine lv_istore_n (lv' := [(2, .int x1), (0, .ref (X.ad 61)), (1, .int x1)]) hx hb dX8_findsLeads_1 rfl hl (by decide) rfl (fun ls hl => ?_)
    obtain ⟨o2, ho2, hf⟩ := b_d hf
    refine lp_rule (b := bd_X8_findsLeads_2 g x1) (P := fun w : Int32 × Mem => ∀ (H : Heap) (locs : List Loc) (ls : Array Slot), wd X w.2 H → va_S X.A s.heap H locs → lv_has ls 4 [(2, .int w.1), (0, .ref (X.ad 61)), (1, .int x1)] → WW p l e 3 71 s m [.ref (X.ad 61), .int x1] below meth c X (Qv X M9) H locs 2 ls []) (K := fun o => ∀ (M_3 : Mem), o = M_3 → ∀ (H : Heap) (locs : List Loc) (ls : Array Slot), wd X M_3 H → va_S X.A s.heap H locs → lv_has ls 4 [] → WW p l e 3 71 s m [.ref (X.ad 61), .int x1] below meth c X (Qv X M9) H locs 100 ls []) ?_ g (x1, M) o2 ho2 ?_ H locs ls hP hS (lv_sub hl [0, 1, 2] rfl)
    · rintro ⟨v2_1, M_2⟩ o hf hkc2 hke2 H locs ls hP hS hl
      have hf := u2_e hf
      have jn21 : ∀ (v2_6 : Int32) (s_7 : Int32) (s_8 : Int32) (M_9 : Mem), jn_X8_findsLeads_21 g s_7 s_8 v2_6 x1 M_9 = some o → ∀ (H : Heap) (locs : List Loc) (ls : Array Slot), wd X M_9 H → va_S X.A s.heap H locs → lv_has ls 4 [(0, .ref (X.ad 61)), (1, .int x1), (2, .int v2_6)] → WW p l e 3 71 s m [.ref (X.ad 61), .int x1] below meth c X (Qv X M9) H locs 21 ls [.int s_7, .int s_8, .ref (X.ad 68)] := by
        intro v2_6 s_7 s_8 M_9 hf H locs ls hP hS hl
        unfold jn_X8_findsLeads_21 at hf
        obtain ⟨q_11, hf⟩ := g_if hf
        obtain ⟨z_12, hf⟩ := g_if hf
        refine zast hx hb hk hP hS (by decide) (fun _ => rfl) q_11 z_12 dX8_findsLeads_21 (fun H locs M_10 e_M_10 hP hS => ?_)
        have hf := b_v hf e_M_10
        refine lv_iconst (v := (0 : Int32)) hx hb dX8_findsLeads_22 (by decide) ?_
        refine lv_istore_n (lv' := [(3, .int (0 : Int32)), (0, .ref (X.ad 61)), (1, .int x1), (2, .int v2_6)]) hx hb dX8_findsLeads_23 rfl hl (by decide) rfl (fun ls hl => ?_)
        obtain ⟨o24, ho24, hf⟩ := b_d hf
        refine lp_rule (b := bd_X8_findsLeads_24 g v2_6 x1) (P := fun w : Int32 × Mem => ∀ (H : Heap) (locs : List Loc) (ls : Array Slot), wd X w.2 H → va_S X.A s.heap H locs → lv_has ls 4 [(3, .int w.1), (0, .ref (X.ad 61)), (1, .int x1), (2, .int v2_6)] → WW p l e 3 71 s m [.ref (X.ad 61), .int x1] below meth c X (Qv X M9) H locs 24 ls []) (K := fun o => ∀ (M_15 : Mem), o = M_15 → ∀ (H : Heap) (locs : List Loc) (ls : Array Slot), wd X M_15 H → va_S X.A s.heap H locs → lv_has ls 4 [(0, .ref (X.ad 61)), (1, .int x1), (2, .int v2_6)] → WW p l e 3 71 s m [.ref (X.ad 61), .int x1] below meth c X (Qv X M9) H locs 94 ls []) ?_ g ((0 : Int32), M_10) o24 ho24 ?_ H locs ls hP hS (lv_sub hl [0, 1, 2, 3] rfl)
        · rintro ⟨v3_13, M_14⟩ o hf hkc24 hke24 H locs ls hP hS hl
          have hf := u2_e hf
          have jn87 : ∀ (v3_23 : Int32) (s_24 : Int32) (s_25 : Int32) (M_26 : Mem), jn_X8_findsLeads_87 s_24 s_25 v3_23 M_26 = some o → ∀ (H : Heap) (locs : List Loc) (ls : Array Slot), wd X M_26 H → va_S X.A s.heap H locs → lv_has ls 4 [(0, .ref (X.ad 61)), (1, .int x1), (2, .int v2_6), (3, .int v3_23)] → WW p l e 3 71 s m [.ref (X.ad 61), .int x1] below meth c X (Qv X M9) H locs 87 ls [.int s_24, .int s_25, .ref (X.ad 68)] := by
            intro v3_23 s_24 s_25 M_26 hf H locs ls hP hS hl
            unfold jn_X8_findsLeads_87 at hf
            obtain ⟨q_28, hf⟩ := g_if hf
            obtain ⟨z_29, hf⟩ := g_if hf
            refine zast hx hb hk hP hS (by decide) (fun _ => rfl) q_28 z_29 dX8_findsLeads_87 (fun H locs M_27 e_M_27 hP hS => ?_)
            have hf := b_v hf e_M_27
            refine lv_iinc (v := v3_23 + (1 : Int32)) (lv' := [(3, .int (v3_23 + (1 : Int32))), (0, .ref (X.ad 61)), (1, .int x1), (2, .int v2_6)]) hx hb dX8_findsLeads_88 hl (k := 3) rfl rfl (by decide) rfl (fun ls hl => ?_)
            refine lv_goto (tgt := 24) hx hb dX8_findsLeads_91 (by decide) ?_
            exact hkc24 _ (Option.some.inj hf).symm H locs ls hP hS (lv_sub hl [0, 1, 2, 3] rfl)
          have jn82 : ∀ (v3_20 : Int32) (s_21 : Int32) (M_22 : Mem), jn_X8_findsLeads_82 s_21 v3_20 M_22 = some o → ∀ (H : Heap) (locs : List Loc) (ls : Array Slot), wd X M_22 H → va_S X.A s.heap H locs → lv_has ls 4 [(0, .ref (X.ad 61)), (1, .int x1), (2, .int v2_6), (3, .int v3_20)] → WW p l e 3 71 s m [.ref (X.ad 61), .int x1] below meth c X (Qv X M9) H locs 82 ls [.int s_21, .ref (X.ad 68)] := by
            intro v3_20 s_21 M_22 hf H locs ls hP hS hl
            unfold jn_X8_findsLeads_82 at hf
            refine lv_iconst (v := (1 : Int32)) hx hb dX8_findsLeads_82 (by decide) ?_
            refine lv_goto (tgt := 87) hx hb dX8_findsLeads_83 (by decide) ?_
            exact jn87 v3_20 (1 : Int32) s_21 M_22 hf H locs ls hP hS (lv_sub hl [0, 1, 2, 3] rfl)
          have jn86 : ∀ (v3_31 : Int32) (s_32 : Int32) (M_33 : Mem), jn_X8_findsLeads_86 s_32 v3_31 M_33 = some o → ∀ (H : Heap) (locs : List Loc) (ls : Array Slot), wd X M_33 H → va_S X.A s.heap H locs → lv_has ls 4 [(0, .ref (X.ad 61)), (1, .int x1), (2, .int v2_6), (3, .int v3_31)] → WW p l e 3 71 s m [.ref (X.ad 61), .int x1] below meth c X (Qv X M9) H locs 86 ls [.int s_32, .ref (X.ad 68)] := by
            intro v3_31 s_32 M_33 hf H locs ls hP hS hl
            unfold jn_X8_findsLeads_86 at hf
            refine lv_iconst (v := (0 : Int32)) hx hb dX8_findsLeads_86 (by decide) ?_
            exact jn87 v3_31 (0 : Int32) s_32 M_33 hf H locs ls hP hS (lv_sub hl [0, 1, 2, 3] rfl)
          refine lv_iload_n hx hb dX8_findsLeads_24 rfl (lv_at hl 0 rfl) ?_
          refine lv_aload_n hx hb dX8_findsLeads_25 rfl (lv_at hl 1 rfl) ?_
          refine gX8_0 hx hb hts hown hk hP wd_3_192 dX8_findsLeads_26 ?_
          refine lv_iconst (v := (0 : Int32)) hx hb dX8_findsLeads_29 (by decide) ?_
          refine ald hx hb hk hP (by decide) rfl (show inb _ _ from by decide) dX8_findsLeads_30 ?_
          refine lv_icmp_ge (tgt := 94) hx hb dX8_findsLeads_31 (by decide) (fun c_16 => ?_) (fun c_16 => ?_)
          · have hf := i_t c_16 hf
            exact hke24 _ (Option.some.inj hf).symm _ rfl H locs ls hP hS (lv_sub hl [1, 2, 3] rfl)
          · have hf := i_f c_16 hf
            refine lv_iload_n hx hb dX8_findsLeads_34 rfl (lv_at hl 3 rfl) ?_
            refine lv_iload_n hx hb dX8_findsLeads_35 rfl (lv_at hl 2 rfl) ?_
            refine k_X8_isWithin hZ hP hS hl.1 wd_4_180 ⟨Nat.le_of_ble_eq_true rfl, Nat.le_of_ble_eq_true rfl⟩ (Nat.le_of_ble_eq_true rfl) dX8_findsLeads_36 ⟨Nat.zero_le _, Nat.zero_le _⟩ (fun H locs hP hS => ?_)
            refine lv_if_eq (tgt := 94) hx hb dX8_findsLeads_39 (by decide) (fun c_17 => ?_) (fun c_17 => ?_)
            · have hf := i_t c_17 hf
              exact hke24 _ (Option.some.inj hf).symm _ rfl H locs ls hP hS (lv_sub hl [1, 2, 3] rfl)
            · have hf := i_f c_17 hf
              refine lv_aload_n hx hb dX8_findsLeads_42 rfl (lv_at hl 1 rfl) ?_
              refine gX8_7 hx hb hts hown hk hP wd_3_199 dX8_findsLeads_43 ?_
              refine lv_iload_n hx hb dX8_findsLeads_46 rfl (lv_at hl 3 rfl) ?_
              refine lv_aload_n hx hb dX8_findsLeads_47 rfl (lv_at hl 1 rfl) ?_
              refine gX8_7 hx hb hts hown hk hP wd_3_199 dX8_findsLeads_48 ?_
              refine lv_iload_n hx hb dX8_findsLeads_51 rfl (lv_at hl 3 rfl) ?_
              obtain ⟨q_18, hf⟩ := g_if hf
              refine zald hx hb hk hP (by decide) rfl q_18 dX8_findsLeads_52 ?_
              refine lv_if_ne (tgt := 82) hx hb dX8_findsLeads_53 (by decide) (fun c_19 => ?_) (fun c_19 => ?_)
              · have hf := i_f c_19 hf
                exact jn82 v3_13 v2_6 M_14 hf H locs ls hP hS (lv_sub hl [1, 2, 3, 0] rfl)
              · have hf := i_t c_19 hf
                refine lv_iload_n hx hb dX8_findsLeads_56 rfl (lv_at hl 2 rfl) ?_
                refine lv_iload_n hx hb dX8_findsLeads_57 rfl (lv_at hl 0 rfl) ?_
                refine k_X8_has hZ hP hS hl.1 wd_4_153 ⟨Nat.le_of_ble_eq_true rfl, Nat.le_of_ble_eq_true rfl⟩ (Nat.le_of_ble_eq_true rfl) dX8_findsLeads_58 ⟨Nat.zero_le _, Nat.zero_le _⟩ (fun H locs hP hS => ?_)
                refine lv_if_eq (tgt := 86) hx hb dX8_findsLeads_61 (by decide) (fun c_30 => ?_) (fun c_30 => ?_)
                · have hf := i_t c_30 hf
                  exact jn86 v3_13 v2_6 M_14 hf H locs ls hP hS (lv_sub hl [1, 2, 3, 0] rfl)
                · have hf := i_f c_30 hf
                  refine lv_iload_n hx hb dX8_findsLeads_64 rfl (lv_at hl 3 rfl) ?_
                  refine lv_iload_n hx hb dX8_findsLeads_65 rfl (lv_at hl 0 rfl) ?_
                  refine k_X8_has hZ hP hS hl.1 wd_4_153 ⟨Nat.le_of_ble_eq_true rfl, Nat.le_of_ble_eq_true rfl⟩ (Nat.le_of_ble_eq_true rfl) dX8_findsLeads_66 ⟨Nat.zero_le _, Nat.zero_le _⟩ (fun H locs hP hS => ?_)
                  refine lv_if_ne (tgt := 86) hx hb dX8_findsLeads_69 (by decide) (fun c_34 => ?_) (fun c_34 => ?_)
                  · have hf := i_f c_34 hf
                    exact jn86 v3_13 v2_6 M_14 hf H locs ls hP hS (lv_sub hl [1, 2, 3, 0] rfl)
                  · have hf := i_t c_34 hf
                    refine lv_aload_n hx hb dX8_findsLeads_72 rfl (lv_at hl 1 rfl) ?_
                    refine lv_iload_n hx hb dX8_findsLeads_73 rfl (lv_at hl 3 rfl) ?_
                    refine lv_iload_n hx hb dX8_findsLeads_74 rfl (lv_at hl 0 rfl) ?_
                    refine lv_iload_n hx hb dX8_findsLeads_75 rfl (lv_at hl 2 rfl) ?_
                    obtain ⟨r_35, h_r_35, hf⟩ := b_d hf
                    refine k_X8_canCome hZ hP hS hl.1 wd_4_202 ⟨Nat.le_of_ble_eq_true rfl, Nat.le_of_ble_eq_true rfl⟩ (Nat.le_of_ble_eq_true rfl) dX8_findsLeads_76 ⟨Nat.zero_le _, Nat.zero_le _⟩ h_r_35 (fun H locs hP hS => ?_)
                    refine lv_if_eq (tgt := 86) hx hb dX8_findsLeads_79 (by decide) (fun c_36 => ?_) (fun c_36 => ?_)
                    · have hf := i_t c_36 hf
                      exact jn86 v3_13 v2_6 M_14 hf H locs ls hP hS (lv_sub hl [1, 2, 3, 0] rfl)
                    · have hf := i_f c_36 hf
                      exact jn82 v3_13 v2_6 M_14 hf H locs ls hP hS (lv_sub hl [1, 2, 3, 0] rfl)
        · intro M_15 e H locs ls hP hS hl
          subst o24
          have hf := u1_e hf
          refine lv_iinc (v := v2_6 + (-1 : Int32)) (lv' := [(2, .int (v2_6 + (-1 : Int32))), (0, .ref (X.ad 61)), (1, .int x1)]) hx hb dX8_findsLeads_94 hl (k := 2) rfl rfl (by decide) rfl (fun ls hl => ?_)
          refine lv_goto (tgt := 2) hx hb dX8_findsLeads_97 (by decide) ?_
          exact hkc2 _ (Option.some.inj hf).symm H locs ls hP hS (lv_sub hl [0, 1, 2] rfl)
      refine lv_iload_n hx hb dX8_findsLeads_2 rfl (lv_at hl 0 rfl) ?_
      refine lv_if_lt (tgt := 100) hx hb dX8_findsLeads_3 (by decide) (fun c_4 => ?_) (fun c_4 => ?_)
      · have hf := i_t c_4 hf
        exact hke2 _ (Option.some.inj hf).symm _ rfl H locs ls hP hS (lv_sub hl [] rfl)
      · have hf := i_f c_4 hf
        refine lv_aload_n hx hb dX8_findsLeads_6 rfl (lv_at hl 1 rfl) ?_
        refine gX8_7 hx hb hts hown hk hP wd_3_199 dX8_findsLeads_7 ?_
        refine lv_iload_n hx hb dX8_findsLeads_10 rfl (lv_at hl 0 rfl) ?_
        refine lv_iload_n hx hb dX8_findsLeads_11 rfl (lv_at hl 0 rfl) ?_
        refine lv_iload_n hx hb dX8_findsLeads_12 rfl (lv_at hl 2 rfl) ?_
        refine lv_icmp_ne (tgt := 20) hx hb dX8_findsLeads_13 (by decide) (fun c_5 => ?_) (fun c_5 => ?_)
        · have hf := i_f c_5 hf
          refine lv_iconst (v := (0 : Int32)) hx hb dX8_findsLeads_20 (by decide) ?_
          exact jn21 v2_1 (0 : Int32) v2_1 M_2 hf H locs ls hP hS (lv_sub hl [1, 2, 0] rfl)
        · have hf := i_t c_5 hf
          refine lv_iconst (v := (1 : Int32)) hx hb dX8_findsLeads_16 (by decide) ?_
          refine lv_goto (tgt := 21) hx hb dX8_findsLeads_17 (by decide) ?_
          exact jn21 v2_1 (1 : Int32) v2_1 M_2 hf H locs ls hP hS (lv_sub hl [1, 2, 0] rfl)
    · intro M_3 e H locs ls hP hS hl
      subst o2
      have hf := u1_e hf
      have hf := Option.some.inj hf
      rw [hf] at hP
      exact ret_v hx hb hr hlocks hP hS dX8_findsLeads_100
  exact key s.heap [] hP hS
theorem hd_X8_findsLeads : Hd yX8_findsLeads 1 := by decide +kernel
theorem k_X8_findsLeads {p : Program} {l : Launch} {e : Env} {R : Room} {s : State} {m : MethodId} {args : Array Value} {below : List Frame} {meth : Method} {c : Code} {H : Heap} {locs : List Loc} {cells slots : Nat} {Q : State → Prop} {cc : ByteArray} {nL pc index : Nat} {ls : Array Slot} {rest : List Value} {X : En} {M : Mem} {H0 : Heap} {own : String} {g : Nat} {x1 : Int32} {M9 : Mem} (hZ : Fx p c m s args X cc nL own) (hP : wd X M H) (hS : va_S X.A H0 H locs) (hsz : ls.size = nL) (hlk : Cond.methodLink own index yX8_findsLeads ∈ lw_u) (hR : 3 + 1 ≤ R.frames ∧ 8 + (4 + 11) + 71 ≤ R.locals) (hW : (rest.map fun v => v.category).sum ≤ 8) (hdg : decode cc pc = .ok (.invokevirtual index, 3)) (hcs : cells ≤ R.cells ∧ slots ≤ R.slots) (hf : fn_X8_findsLeads g x1 M = some M9)
    (kk : ∀ (H1 : Heap) (locs1 : List Loc), wd X M9 H1 → va_S X.A H0 H1 locs1 → W p l e R s m args below meth c H1 locs1 cells slots Q (F0 m (pc + 3) ls rest)) : W p l e R s m args below meth c H locs cells slots Q (F0 m pc ls (.int x1 :: .ref (X.ad 61) :: rest)) :=
  cal_v (runV (As := [.int x1]) (rest := rest) hZ.1 hZ.2.1 hZ.2.2.1 hZ.2.2.2.1 hZ.2.2.2.2.1 hZ.2.2.2.2.2 hP (c_X8_findsLeads g x1 M M9 hf) wd_4_201 wd_4_200 wd_p_55 wd_1_9 hd_X8_findsLeads (by decide) rfl rfl rfl hlk hR hsz rfl hW hdg hcs) hS kk
/-! FrameRaiserModel.lowest -/
def bd_X8_lowest_2 (x0 : Int32) : (Int32) → Option ((Int32) ⊕ (Int32)) :=
  u1 fun v1_1 =>
  if ((sr x0 v1_1) &&& (1 : Int32)) = 0 then
    (some (.inl (v1_1 + (1 : Int32))))
  else
    (some (.inr v1_1))
def fn_X8_lowest (g : Nat) (x0 : Int32) : Option (Int32) :=
  (lpN g (bd_X8_lowest_2 x0) (0 : Int32)).bind (u1 fun v1_2 =>
    some v1_2)
theorem dX8_lowest_0 : decode cX8_lowest 0 = .ok (.iconst 0, 1) := by decide +kernel
theorem dX8_lowest_1 : decode cX8_lowest 1 = .ok (.istore_n 1, 1) := by decide +kernel
theorem dX8_lowest_2 : decode cX8_lowest 2 = .ok (.iload_n 0, 1) := by decide +kernel
theorem dX8_lowest_3 : decode cX8_lowest 3 = .ok (.iload_n 1, 1) := by decide +kernel
theorem dX8_lowest_4 : decode cX8_lowest 4 = .ok (.ishr, 1) := by decide +kernel
theorem dX8_lowest_5 : decode cX8_lowest 5 = .ok (.iconst 1, 1) := by decide +kernel
theorem dX8_lowest_6 : decode cX8_lowest 6 = .ok (.iand, 1) := by decide +kernel
theorem dX8_lowest_7 : decode cX8_lowest 7 = .ok (.ifCond .ne 9, 3) := by decide +kernel
theorem dX8_lowest_10 : decode cX8_lowest 10 = .ok (.iinc 1 1, 3) := by decide +kernel
theorem dX8_lowest_13 : decode cX8_lowest 13 = .ok (.goto (-11), 3) := by decide +kernel
theorem dX8_lowest_16 : decode cX8_lowest 16 = .ok (.iload_n 1, 1) := by decide +kernel
theorem dX8_lowest_17 : decode cX8_lowest 17 = .ok (.ireturn, 1) := by decide +kernel
set_option maxHeartbeats 4000000 in
set_option maxRecDepth 100000 in
theorem c_X8_lowest {l : Launch} {X : En} (g : Nat) (x0 : Int32) (M : Mem) (r : Int32) (hf : fn_X8_lowest g x0 = some r) : Cn l X yX8_lowest cX8_lowest 2 (some .int) 0 0 [.int x0] M (Qi X r M) := by
  refine Met.ofW (cc := cX8_lowest) (maxL := 2) (ret := (some .int)) (by decide) rfl ?_
  intro p e s m args below meth c s₁ B hml hv
  obtain ⟨rfl, hP, hk⟩ := hv
  have hx := B.exec
  have hb := B.bytes
  have hr := B.returns
  have hlocks := B.notSynchronized
  have hts : ∀ w ∈ lw_u, w.before ([.int x0] : List Value).toArray s = true := fun w hw => atoms_spec (ws := Cond.code yX8_lowest cX8_lowest 2 (some .int) :: lw_u) B.pre w (List.mem_cons_of_mem _ hw)
  have hown : s.vm.findClass RX8 = some m.cls := findClass_of_methodNamed B.named
  have hZ : Fx p c m s ([.int x0] : List Value).toArray X cX8_lowest 2 RX8 := ⟨hx, hb, hml, hts, hown, hk⟩
  have hS : va_S X.A s.heap s.heap [] := va_S.rf
  have hl := lv_entry ([.int x0]) (n := 2) (Nat.le_of_ble_eq_true rfl)
  rw [lg_entry_eq]
  generalize (lg_sl ([.int x0]) ++ List.replicate (2 - (lg_sl ([.int x0])).length) Slot.unset).toArray = ls at hl ⊢
  have hl : lv_has ls 2 [(0, .int x0)] := hl
  show WW p l e 0 0 s m [.int x0] below meth c X (Qi X r M) s.heap [] 0 ls []
  have hP : wd X M s.heap := hP
  unfold fn_X8_lowest at hf
  have key : ∀ (H : Heap) (locs : List Loc), wd X M H → va_S X.A s.heap H locs → WW p l e 0 0 s m [.int x0] below meth c X (Qi X r M) H locs 0 ls [] := by
    intro H locs hP hS
    refine lv_iconst (v := (0 : Int32)) hx hb dX8_lowest_0 (by decide) ?_
    refine lv_istore_n (lv' := [(1, .int (0 : Int32)), (0, .int x0)]) hx hb dX8_lowest_1 rfl hl (by decide) rfl (fun ls hl => ?_)
    obtain ⟨o2, ho2, hf⟩ := b_d hf
    refine lp_rule (b := bd_X8_lowest_2 x0) (P := fun w : Int32 => ∀ (H : Heap) (locs : List Loc) (ls : Array Slot), wd X M H → va_S X.A s.heap H locs → lv_has ls 2 [(1, .int w), (0, .int x0)] → WW p l e 0 0 s m [.int x0] below meth c X (Qi X r M) H locs 2 ls []) (K := fun o => ∀ (v1_2 : Int32), o = v1_2 → ∀ (H : Heap) (locs : List Loc) (ls : Array Slot), wd X M H → va_S X.A s.heap H locs → lv_has ls 2 [(1, .int v1_2)] → WW p l e 0 0 s m [.int x0] below meth c X (Qi X r M) H locs 16 ls []) ?_ g (0 : Int32) o2 ho2 ?_ H locs ls hP hS (lv_sub hl [0, 1] rfl)
    · rintro v1_1 o hf hkc2 hke2 H locs ls hP hS hl
      have hf := u1_e hf
      refine lv_iload_n hx hb dX8_lowest_2 rfl (lv_at hl 1 rfl) ?_
      refine lv_iload_n hx hb dX8_lowest_3 rfl (lv_at hl 0 rfl) ?_
      refine rw_ishr hx hb dX8_lowest_4 ?_
      refine lv_iconst (v := (1 : Int32)) hx hb dX8_lowest_5 (by decide) ?_
      refine lv_iand hx hb dX8_lowest_6 ?_
      refine lv_if_ne (tgt := 16) hx hb dX8_lowest_7 (by decide) (fun c_3 => ?_) (fun c_3 => ?_)
      · have hf := i_f c_3 hf
        exact hke2 _ (Option.some.inj hf).symm _ rfl H locs ls hP hS (lv_sub hl [0] rfl)
      · have hf := i_t c_3 hf
        refine lv_iinc (v := v1_1 + (1 : Int32)) (lv' := [(1, .int (v1_1 + (1 : Int32))), (0, .int x0)]) hx hb dX8_lowest_10 hl (k := 0) rfl rfl (by decide) rfl (fun ls hl => ?_)
        refine lv_goto (tgt := 2) hx hb dX8_lowest_13 (by decide) ?_
        exact hkc2 _ (Option.some.inj hf).symm H locs ls hP hS (lv_sub hl [0, 1] rfl)
    · intro v1_2 e H locs ls hP hS hl
      subst o2
      have hf := u1_e hf
      refine lv_iload_n hx hb dX8_lowest_16 rfl (lv_at hl 0 rfl) ?_
      have hf := Option.some.inj hf
      exact ret_i hx hb hr hlocks hP hS hf dX8_lowest_17
  exact key s.heap [] hP hS
theorem hd_X8_lowest : Hd yX8_lowest 1 := by decide +kernel
theorem k_X8_lowest {p : Program} {l : Launch} {e : Env} {R : Room} {s : State} {m : MethodId} {args : Array Value} {below : List Frame} {meth : Method} {c : Code} {H : Heap} {locs : List Loc} {cells slots : Nat} {Q : State → Prop} {cc : ByteArray} {nL pc index : Nat} {ls : Array Slot} {rest : List Value} {X : En} {M : Mem} {H0 : Heap} {own : String} {g : Nat} {x0 : Int32} {r : Int32} (hZ : Fx p c m s args X cc nL own) (hP : wd X M H) (hS : va_S X.A H0 H locs) (hsz : ls.size = nL) (hlk : Cond.methodLink own index yX8_lowest ∈ lw_u) (hR : 0 + 1 ≤ R.frames ∧ 8 + (2 + 11) + 0 ≤ R.locals) (hW : (rest.map fun v => v.category).sum ≤ 8) (hdg : decode cc pc = .ok (.invokestatic index, 3)) (hcs : cells ≤ R.cells ∧ slots ≤ R.slots) (hf : fn_X8_lowest g x0 = some r)
    (kk : ∀ (H1 : Heap) (locs1 : List Loc), wd X M H1 → va_S X.A H0 H1 locs1 → W p l e R s m args below meth c H1 locs1 cells slots Q (F0 m (pc + 3) ls (.int r :: rest))) : W p l e R s m args below meth c H locs cells slots Q (F0 m pc ls (.int x0 :: rest)) :=
  cal_i (runS (As := [.int x0]) (rest := rest) hZ.1 hZ.2.1 hZ.2.2.1 hZ.2.2.2.1 hZ.2.2.2.2.1 hZ.2.2.2.2.2 hP (c_X8_lowest g x0 M r hf) wd_4_208 wd_4_207 wd_1_9 hd_X8_lowest rfl hlk hR hsz rfl hW hdg hcs) hS kk
/-! FrameRaiserModel.lockedOf -/
def jn_X8_lockedOf_68 (s_21 : Int32) (s_22 : Int32) (v3_19 : Int32) (v4_20 : Int32) : Option ((Int32 × Int32 × Int32) ⊕ (Int32 × Int32)) :=
  bv (s_22 &&& s_21) fun v2_23 =>
  some (.inl (v2_23, v3_19, v4_20 + (1 : Int32)))
def jn_X8_lockedOf_52 (s_17 : Int32) (v2_15 : Int32) (v4_16 : Int32) : Option ((Int32 × Int32 × Int32) ⊕ (Int32 × Int32)) :=
  if s_17 = 0 then
    (jn_X8_lockedOf_68 (-1 : Int32) v2_15 s_17 v4_16)
  else
    (jn_X8_lockedOf_68 ((sl (1 : Int32) v4_16) ^^^ (-1 : Int32)) v2_15 s_17 v4_16)
def jn_X8_lockedOf_51 (v2_13 : Int32) (v4_14 : Int32) : Option ((Int32 × Int32 × Int32) ⊕ (Int32 × Int32)) :=
  jn_X8_lockedOf_52 (0 : Int32) v2_13 v4_14
def bd_X8_lockedOf_13 (g : Nat) (M : Mem) : (Int32 × Int32 × Int32) → Option ((Int32 × Int32 × Int32) ⊕ (Int32 × Int32)) :=
  u3 fun v2_7 v3_6 v4_5 =>
  if (M 62 (ix (0 : Int32))) ≤ v4_5 then
    (some (.inr (v2_7, v3_6)))
  else
    (if v3_6 = 0 then
      (if (fn_X8_has v2_7 v4_5) = 0 then
        (jn_X8_lockedOf_51 v2_7 v4_5)
      else
        ((fn_X8_waysOf g v4_5 v2_7 M).bind fun r_24 =>
        if r_24 = 0 then
          (jn_X8_lockedOf_51 v2_7 v4_5)
        else
          (jn_X8_lockedOf_52 (1 : Int32) v2_7 v4_5)))
    else
      (some (.inr (v2_7, v3_6))))
def bd_X8_lockedOf_4 (g : Nat) (M : Mem) : (Int32 × Int32) → Option ((Int32 × Int32) ⊕ (Int32)) :=
  u2 fun v2_2 v3_1 =>
  if v3_1 = 0 then
    (some (.inr v2_2))
  else
    ((lpN g (bd_X8_lockedOf_13 g M) (v2_2, (0 : Int32), (0 : Int32))).bind (u2 fun v2_9 v3_8 =>
      some (.inl (v2_9, v3_8))))
def fn_X8_lockedOf (g : Nat) (x1 : Int32) (M : Mem) : Option (Int32) :=
  (lpN g (bd_X8_lockedOf_4 g M) (x1, (1 : Int32))).bind (u1 fun v2_3 =>
    some v2_3)
theorem dX8_lockedOf_0 : decode cX8_lockedOf 0 = .ok (.iload_n 1, 1) := by decide +kernel
theorem dX8_lockedOf_1 : decode cX8_lockedOf 1 = .ok (.istore_n 2, 1) := by decide +kernel
theorem dX8_lockedOf_2 : decode cX8_lockedOf 2 = .ok (.iconst 1, 1) := by decide +kernel
theorem dX8_lockedOf_3 : decode cX8_lockedOf 3 = .ok (.istore_n 3, 1) := by decide +kernel
theorem dX8_lockedOf_4 : decode cX8_lockedOf 4 = .ok (.iload_n 3, 1) := by decide +kernel
theorem dX8_lockedOf_5 : decode cX8_lockedOf 5 = .ok (.ifCond .eq 74, 3) := by decide +kernel
theorem dX8_lockedOf_8 : decode cX8_lockedOf 8 = .ok (.iconst 0, 1) := by decide +kernel
theorem dX8_lockedOf_9 : decode cX8_lockedOf 9 = .ok (.istore_n 3, 1) := by decide +kernel
theorem dX8_lockedOf_10 : decode cX8_lockedOf 10 = .ok (.iconst 0, 1) := by decide +kernel
theorem dX8_lockedOf_11 : decode cX8_lockedOf 11 = .ok (.istore 4, 2) := by decide +kernel
theorem dX8_lockedOf_13 : decode cX8_lockedOf 13 = .ok (.iload 4, 2) := by decide +kernel
theorem dX8_lockedOf_15 : decode cX8_lockedOf 15 = .ok (.aload_n 0, 1) := by decide +kernel
theorem dX8_lockedOf_16 : decode cX8_lockedOf 16 = .ok (.getfield 7, 3) := by decide +kernel
theorem dX8_lockedOf_19 : decode cX8_lockedOf 19 = .ok (.iconst 0, 1) := by decide +kernel
theorem dX8_lockedOf_20 : decode cX8_lockedOf 20 = .ok (.iaload, 1) := by decide +kernel
theorem dX8_lockedOf_21 : decode cX8_lockedOf 21 = .ok (.if_icmp .ge 55, 3) := by decide +kernel
theorem dX8_lockedOf_24 : decode cX8_lockedOf 24 = .ok (.iload_n 3, 1) := by decide +kernel
theorem dX8_lockedOf_25 : decode cX8_lockedOf 25 = .ok (.ifCond .ne 51, 3) := by decide +kernel
theorem dX8_lockedOf_28 : decode cX8_lockedOf 28 = .ok (.iload_n 2, 1) := by decide +kernel
theorem dX8_lockedOf_29 : decode cX8_lockedOf 29 = .ok (.iload 4, 2) := by decide +kernel
theorem dX8_lockedOf_31 : decode cX8_lockedOf 31 = .ok (.invokestatic 76, 3) := by decide +kernel
theorem dX8_lockedOf_34 : decode cX8_lockedOf 34 = .ok (.ifCond .eq 17, 3) := by decide +kernel
theorem dX8_lockedOf_37 : decode cX8_lockedOf 37 = .ok (.aload_n 0, 1) := by decide +kernel
theorem dX8_lockedOf_38 : decode cX8_lockedOf 38 = .ok (.iload 4, 2) := by decide +kernel
theorem dX8_lockedOf_40 : decode cX8_lockedOf 40 = .ok (.iload_n 2, 1) := by decide +kernel
theorem dX8_lockedOf_41 : decode cX8_lockedOf 41 = .ok (.invokevirtual 89, 3) := by decide +kernel
theorem dX8_lockedOf_44 : decode cX8_lockedOf 44 = .ok (.ifCond .eq 7, 3) := by decide +kernel
theorem dX8_lockedOf_47 : decode cX8_lockedOf 47 = .ok (.iconst 1, 1) := by decide +kernel
theorem dX8_lockedOf_48 : decode cX8_lockedOf 48 = .ok (.goto 4, 3) := by decide +kernel
theorem dX8_lockedOf_51 : decode cX8_lockedOf 51 = .ok (.iconst 0, 1) := by decide +kernel
theorem dX8_lockedOf_52 : decode cX8_lockedOf 52 = .ok (.istore_n 3, 1) := by decide +kernel
theorem dX8_lockedOf_53 : decode cX8_lockedOf 53 = .ok (.iload_n 2, 1) := by decide +kernel
theorem dX8_lockedOf_54 : decode cX8_lockedOf 54 = .ok (.iload_n 3, 1) := by decide +kernel
theorem dX8_lockedOf_55 : decode cX8_lockedOf 55 = .ok (.ifCond .eq 12, 3) := by decide +kernel
theorem dX8_lockedOf_58 : decode cX8_lockedOf 58 = .ok (.iconst 1, 1) := by decide +kernel
theorem dX8_lockedOf_59 : decode cX8_lockedOf 59 = .ok (.iload 4, 2) := by decide +kernel
theorem dX8_lockedOf_61 : decode cX8_lockedOf 61 = .ok (.ishl, 1) := by decide +kernel
theorem dX8_lockedOf_62 : decode cX8_lockedOf 62 = .ok (.iconst (-1), 1) := by decide +kernel
theorem dX8_lockedOf_63 : decode cX8_lockedOf 63 = .ok (.ixor, 1) := by decide +kernel
theorem dX8_lockedOf_64 : decode cX8_lockedOf 64 = .ok (.goto 4, 3) := by decide +kernel
theorem dX8_lockedOf_67 : decode cX8_lockedOf 67 = .ok (.iconst (-1), 1) := by decide +kernel
theorem dX8_lockedOf_68 : decode cX8_lockedOf 68 = .ok (.iand, 1) := by decide +kernel
theorem dX8_lockedOf_69 : decode cX8_lockedOf 69 = .ok (.istore_n 2, 1) := by decide +kernel
theorem dX8_lockedOf_70 : decode cX8_lockedOf 70 = .ok (.iinc 4 1, 3) := by decide +kernel
theorem dX8_lockedOf_73 : decode cX8_lockedOf 73 = .ok (.goto (-60), 3) := by decide +kernel
theorem dX8_lockedOf_76 : decode cX8_lockedOf 76 = .ok (.goto (-72), 3) := by decide +kernel
theorem dX8_lockedOf_79 : decode cX8_lockedOf 79 = .ok (.iload_n 2, 1) := by decide +kernel
theorem dX8_lockedOf_80 : decode cX8_lockedOf 80 = .ok (.ireturn, 1) := by decide +kernel
set_option maxHeartbeats 4000000 in
set_option maxRecDepth 100000 in
theorem c_X8_lockedOf {l : Launch} {X : En} (g : Nat) (x1 : Int32) (M : Mem) (r : Int32) (hf : fn_X8_lockedOf g x1 M = some r) : Cn l X yX8_lockedOf cX8_lockedOf 5 (some .int) 2 47 [.ref (X.ad 61), .int x1] M (Qi X r M) := by
  refine Met.ofW (cc := cX8_lockedOf) (maxL := 5) (ret := (some .int)) (by decide) rfl ?_
  intro p e s m args below meth c s₁ B hml hv
  obtain ⟨rfl, hP, hk⟩ := hv
  have hx := B.exec
  have hb := B.bytes
  have hr := B.returns
  have hlocks := B.notSynchronized
  have hts : ∀ w ∈ lw_u, w.before ([.ref (X.ad 61), .int x1] : List Value).toArray s = true := fun w hw => atoms_spec (ws := Cond.code yX8_lockedOf cX8_lockedOf 5 (some .int) :: lw_u) B.pre w (List.mem_cons_of_mem _ hw)
  have hown : s.vm.findClass RX8 = some m.cls := findClass_of_methodNamed B.named
  have hZ : Fx p c m s ([.ref (X.ad 61), .int x1] : List Value).toArray X cX8_lockedOf 5 RX8 := ⟨hx, hb, hml, hts, hown, hk⟩
  have hS : va_S X.A s.heap s.heap [] := va_S.rf
  have hl := lv_entry ([.ref (X.ad 61), .int x1]) (n := 5) (Nat.le_of_ble_eq_true rfl)
  rw [lg_entry_eq]
  generalize (lg_sl ([.ref (X.ad 61), .int x1]) ++ List.replicate (5 - (lg_sl ([.ref (X.ad 61), .int x1])).length) Slot.unset).toArray = ls at hl ⊢
  have hl : lv_has ls 5 [(0, .ref (X.ad 61)), (1, .int x1)] := hl
  show WW p l e 2 47 s m [.ref (X.ad 61), .int x1] below meth c X (Qi X r M) s.heap [] 0 ls []
  have hP : wd X M s.heap := hP
  unfold fn_X8_lockedOf at hf
  have key : ∀ (H : Heap) (locs : List Loc), wd X M H → va_S X.A s.heap H locs → WW p l e 2 47 s m [.ref (X.ad 61), .int x1] below meth c X (Qi X r M) H locs 0 ls [] := by
    intro H locs hP hS
    refine lv_iload_n hx hb dX8_lockedOf_0 rfl (lv_at hl 1 rfl) ?_
    refine lv_istore_n (lv' := [(2, .int x1), (0, .ref (X.ad 61)), (1, .int x1)]) hx hb dX8_lockedOf_1 rfl hl (by decide) rfl (fun ls hl => ?_)
    refine lv_iconst (v := (1 : Int32)) hx hb dX8_lockedOf_2 (by decide) ?_
    refine lv_istore_n (lv' := [(3, .int (1 : Int32)), (2, .int x1), (0, .ref (X.ad 61)), (1, .int x1)]) hx hb dX8_lockedOf_3 rfl hl (by decide) rfl (fun ls hl => ?_)
    obtain ⟨o4, ho4, hf⟩ := b_d hf
    refine lp_rule (b := bd_X8_lockedOf_4 g M) (P := fun w : Int32 × Int32 => ∀ (H : Heap) (locs : List Loc) (ls : Array Slot), wd X M H → va_S X.A s.heap H locs → lv_has ls 5 [(3, .int w.2), (2, .int w.1), (0, .ref (X.ad 61))] → WW p l e 2 47 s m [.ref (X.ad 61), .int x1] below meth c X (Qi X r M) H locs 4 ls []) (K := fun o => ∀ (v2_3 : Int32), o = v2_3 → ∀ (H : Heap) (locs : List Loc) (ls : Array Slot), wd X M H → va_S X.A s.heap H locs → lv_has ls 5 [(2, .int v2_3)] → WW p l e 2 47 s m [.ref (X.ad 61), .int x1] below meth c X (Qi X r M) H locs 79 ls []) ?_ g (x1, (1 : Int32)) o4 ho4 ?_ H locs ls hP hS (lv_sub hl [0, 1, 2] rfl)
    · rintro ⟨v2_2, v3_1⟩ o hf hkc4 hke4 H locs ls hP hS hl
      have hf := u2_e hf
      refine lv_iload_n hx hb dX8_lockedOf_4 rfl (lv_at hl 0 rfl) ?_
      refine lv_if_eq (tgt := 79) hx hb dX8_lockedOf_5 (by decide) (fun c_4 => ?_) (fun c_4 => ?_)
      · have hf := i_t c_4 hf
        exact hke4 _ (Option.some.inj hf).symm _ rfl H locs ls hP hS (lv_sub hl [1] rfl)
      · have hf := i_f c_4 hf
        refine lv_iconst (v := (0 : Int32)) hx hb dX8_lockedOf_8 (by decide) ?_
        refine lv_istore_n (lv' := [(3, .int (0 : Int32)), (2, .int v2_2), (0, .ref (X.ad 61))]) hx hb dX8_lockedOf_9 rfl hl (by decide) rfl (fun ls hl => ?_)
        refine lv_iconst (v := (0 : Int32)) hx hb dX8_lockedOf_10 (by decide) ?_
        refine lv_istore (lv' := [(4, .int (0 : Int32)), (3, .int (0 : Int32)), (2, .int v2_2), (0, .ref (X.ad 61))]) hx hb dX8_lockedOf_11 hl (by decide) rfl (fun ls hl => ?_)
        obtain ⟨o13, ho13, hf⟩ := b_d hf
        refine lp_rule (b := bd_X8_lockedOf_13 g M) (P := fun w : Int32 × Int32 × Int32 => ∀ (H : Heap) (locs : List Loc) (ls : Array Slot), wd X M H → va_S X.A s.heap H locs → lv_has ls 5 [(4, .int w.2.2), (3, .int w.2.1), (2, .int w.1), (0, .ref (X.ad 61))] → WW p l e 2 47 s m [.ref (X.ad 61), .int x1] below meth c X (Qi X r M) H locs 13 ls []) (K := fun o => ∀ (v2_9 : Int32) (v3_8 : Int32), o = (v2_9, v3_8) → ∀ (H : Heap) (locs : List Loc) (ls : Array Slot), wd X M H → va_S X.A s.heap H locs → lv_has ls 5 [(3, .int v3_8), (2, .int v2_9), (0, .ref (X.ad 61))] → WW p l e 2 47 s m [.ref (X.ad 61), .int x1] below meth c X (Qi X r M) H locs 76 ls []) ?_ g (v2_2, (0 : Int32), (0 : Int32)) o13 ho13 ?_ H locs ls hP hS (lv_sub hl [0, 1, 2, 3] rfl)
        · rintro ⟨v2_7, v3_6, v4_5⟩ o hf hkc13 hke13 H locs ls hP hS hl
          have hf := u3_e hf
          have jn68 : ∀ (v3_19 : Int32) (v4_20 : Int32) (s_21 : Int32) (s_22 : Int32), jn_X8_lockedOf_68 s_21 s_22 v3_19 v4_20 = some o → ∀ (H : Heap) (locs : List Loc) (ls : Array Slot), wd X M H → va_S X.A s.heap H locs → lv_has ls 5 [(0, .ref (X.ad 61)), (3, .int v3_19), (4, .int v4_20)] → WW p l e 2 47 s m [.ref (X.ad 61), .int x1] below meth c X (Qi X r M) H locs 68 ls [.int s_21, .int s_22] := by
            intro v3_19 v4_20 s_21 s_22  hf H locs ls hP hS hl
            unfold jn_X8_lockedOf_68 at hf
            refine lv_iand hx hb dX8_lockedOf_68 ?_
            refine lv_topi (fun v2_23 e_v2_23 => ?_)
            have hf := b_v hf e_v2_23
            refine lv_istore_n (lv' := [(2, .int v2_23), (0, .ref (X.ad 61)), (3, .int v3_19), (4, .int v4_20)]) hx hb dX8_lockedOf_69 rfl hl (by decide) rfl (fun ls hl => ?_)
            refine lv_iinc (v := v4_20 + (1 : Int32)) (lv' := [(4, .int (v4_20 + (1 : Int32))), (2, .int v2_23), (0, .ref (X.ad 61)), (3, .int v3_19)]) hx hb dX8_lockedOf_70 hl (k := 3) rfl rfl (by decide) rfl (fun ls hl => ?_)
            refine lv_goto (tgt := 13) hx hb dX8_lockedOf_73 (by decide) ?_
            exact hkc13 _ (Option.some.inj hf).symm H locs ls hP hS (lv_sub hl [0, 3, 1, 2] rfl)
          have jn52 : ∀ (v2_15 : Int32) (v4_16 : Int32) (s_17 : Int32), jn_X8_lockedOf_52 s_17 v2_15 v4_16 = some o → ∀ (H : Heap) (locs : List Loc) (ls : Array Slot), wd X M H → va_S X.A s.heap H locs → lv_has ls 5 [(0, .ref (X.ad 61)), (2, .int v2_15), (4, .int v4_16)] → WW p l e 2 47 s m [.ref (X.ad 61), .int x1] below meth c X (Qi X r M) H locs 52 ls [.int s_17] := by
            intro v2_15 v4_16 s_17  hf H locs ls hP hS hl
            unfold jn_X8_lockedOf_52 at hf
            refine lv_istore_n (lv' := [(3, .int s_17), (0, .ref (X.ad 61)), (2, .int v2_15), (4, .int v4_16)]) hx hb dX8_lockedOf_52 rfl hl (by decide) rfl (fun ls hl => ?_)
            refine lv_iload_n hx hb dX8_lockedOf_53 rfl (lv_at hl 2 rfl) ?_
            refine lv_iload_n hx hb dX8_lockedOf_54 rfl (lv_at hl 0 rfl) ?_
            refine lv_if_eq (tgt := 67) hx hb dX8_lockedOf_55 (by decide) (fun c_18 => ?_) (fun c_18 => ?_)
            · have hf := i_t c_18 hf
              refine lv_iconst (v := (-1 : Int32)) hx hb dX8_lockedOf_67 (by decide) ?_
              exact jn68 s_17 v4_16 (-1 : Int32) v2_15 hf H locs ls hP hS (lv_sub hl [1, 0, 3] rfl)
            · have hf := i_f c_18 hf
              refine lv_iconst (v := (1 : Int32)) hx hb dX8_lockedOf_58 (by decide) ?_
              refine lv_iload hx hb dX8_lockedOf_59 (lv_at hl 3 rfl) ?_
              refine rw_ishl hx hb dX8_lockedOf_61 ?_
              refine lv_iconst (v := (-1 : Int32)) hx hb dX8_lockedOf_62 (by decide) ?_
              refine lv_ixor hx hb dX8_lockedOf_63 ?_
              refine lv_goto (tgt := 68) hx hb dX8_lockedOf_64 (by decide) ?_
              exact jn68 s_17 v4_16 ((sl (1 : Int32) v4_16) ^^^ (-1 : Int32)) v2_15 hf H locs ls hP hS (lv_sub hl [1, 0, 3] rfl)
          have jn51 : ∀ (v2_13 : Int32) (v4_14 : Int32), jn_X8_lockedOf_51 v2_13 v4_14 = some o → ∀ (H : Heap) (locs : List Loc) (ls : Array Slot), wd X M H → va_S X.A s.heap H locs → lv_has ls 5 [(0, .ref (X.ad 61)), (2, .int v2_13), (4, .int v4_14)] → WW p l e 2 47 s m [.ref (X.ad 61), .int x1] below meth c X (Qi X r M) H locs 51 ls [] := by
            intro v2_13 v4_14  hf H locs ls hP hS hl
            unfold jn_X8_lockedOf_51 at hf
            refine lv_iconst (v := (0 : Int32)) hx hb dX8_lockedOf_51 (by decide) ?_
            exact jn52 v2_13 v4_14 (0 : Int32) hf H locs ls hP hS (lv_sub hl [0, 1, 2] rfl)
          refine lv_iload hx hb dX8_lockedOf_13 (lv_at hl 0 rfl) ?_
          refine lv_aload_n hx hb dX8_lockedOf_15 rfl (lv_at hl 3 rfl) ?_
          refine gX8_0 hx hb hts hown hk hP wd_3_192 dX8_lockedOf_16 ?_
          refine lv_iconst (v := (0 : Int32)) hx hb dX8_lockedOf_19 (by decide) ?_
          refine ald hx hb hk hP (by decide) rfl (show inb _ _ from by decide) dX8_lockedOf_20 ?_
          refine lv_icmp_ge (tgt := 76) hx hb dX8_lockedOf_21 (by decide) (fun c_10 => ?_) (fun c_10 => ?_)
          · have hf := i_t c_10 hf
            exact hke13 _ (Option.some.inj hf).symm _ _ rfl H locs ls hP hS (lv_sub hl [1, 2, 3] rfl)
          · have hf := i_f c_10 hf
            refine lv_iload_n hx hb dX8_lockedOf_24 rfl (lv_at hl 1 rfl) ?_
            refine lv_if_ne (tgt := 76) hx hb dX8_lockedOf_25 (by decide) (fun c_11 => ?_) (fun c_11 => ?_)
            · have hf := i_f c_11 hf
              exact hke13 _ (Option.some.inj hf).symm _ _ rfl H locs ls hP hS (lv_sub hl [1, 2, 3] rfl)
            · have hf := i_t c_11 hf
              refine lv_iload_n hx hb dX8_lockedOf_28 rfl (lv_at hl 2 rfl) ?_
              refine lv_iload hx hb dX8_lockedOf_29 (lv_at hl 0 rfl) ?_
              refine k_X8_has hZ hP hS hl.1 wd_4_153 ⟨Nat.le_of_ble_eq_true rfl, Nat.le_of_ble_eq_true rfl⟩ (Nat.le_of_ble_eq_true rfl) dX8_lockedOf_31 ⟨Nat.zero_le _, Nat.zero_le _⟩ (fun H locs hP hS => ?_)
              refine lv_if_eq (tgt := 51) hx hb dX8_lockedOf_34 (by decide) (fun c_12 => ?_) (fun c_12 => ?_)
              · have hf := i_t c_12 hf
                exact jn51 v2_7 v4_5 hf H locs ls hP hS (lv_sub hl [3, 2, 0] rfl)
              · have hf := i_f c_12 hf
                refine lv_aload_n hx hb dX8_lockedOf_37 rfl (lv_at hl 3 rfl) ?_
                refine lv_iload hx hb dX8_lockedOf_38 (lv_at hl 0 rfl) ?_
                refine lv_iload_n hx hb dX8_lockedOf_40 rfl (lv_at hl 2 rfl) ?_
                obtain ⟨r_24, h_r_24, hf⟩ := b_d hf
                refine k_X8_waysOf hZ hP hS hl.1 wd_4_129 ⟨Nat.le_of_ble_eq_true rfl, Nat.le_of_ble_eq_true rfl⟩ (Nat.le_of_ble_eq_true rfl) dX8_lockedOf_41 ⟨Nat.zero_le _, Nat.zero_le _⟩ h_r_24 (fun H locs hP hS => ?_)
                refine lv_if_eq (tgt := 51) hx hb dX8_lockedOf_44 (by decide) (fun c_25 => ?_) (fun c_25 => ?_)
                · have hf := i_t c_25 hf
                  exact jn51 v2_7 v4_5 hf H locs ls hP hS (lv_sub hl [3, 2, 0] rfl)
                · have hf := i_f c_25 hf
                  refine lv_iconst (v := (1 : Int32)) hx hb dX8_lockedOf_47 (by decide) ?_
                  refine lv_goto (tgt := 52) hx hb dX8_lockedOf_48 (by decide) ?_
                  exact jn52 v2_7 v4_5 (1 : Int32) hf H locs ls hP hS (lv_sub hl [3, 2, 0] rfl)
        · intro v2_9 v3_8 e H locs ls hP hS hl
          subst o13
          have hf := u2_e hf
          refine lv_goto (tgt := 4) hx hb dX8_lockedOf_76 (by decide) ?_
          exact hkc4 _ (Option.some.inj hf).symm H locs ls hP hS (lv_sub hl [0, 1, 2] rfl)
    · intro v2_3 e H locs ls hP hS hl
      subst o4
      have hf := u1_e hf
      refine lv_iload_n hx hb dX8_lockedOf_79 rfl (lv_at hl 0 rfl) ?_
      have hf := Option.some.inj hf
      exact ret_i hx hb hr hlocks hP hS hf dX8_lockedOf_80
  exact key s.heap [] hP hS
theorem hd_X8_lockedOf : Hd yX8_lockedOf 1 := by decide +kernel
theorem k_X8_lockedOf {p : Program} {l : Launch} {e : Env} {R : Room} {s : State} {m : MethodId} {args : Array Value} {below : List Frame} {meth : Method} {c : Code} {H : Heap} {locs : List Loc} {cells slots : Nat} {Q : State → Prop} {cc : ByteArray} {nL pc index : Nat} {ls : Array Slot} {rest : List Value} {X : En} {M : Mem} {H0 : Heap} {own : String} {g : Nat} {x1 : Int32} {r : Int32} (hZ : Fx p c m s args X cc nL own) (hP : wd X M H) (hS : va_S X.A H0 H locs) (hsz : ls.size = nL) (hlk : Cond.methodLink own index yX8_lockedOf ∈ lw_u) (hR : 2 + 1 ≤ R.frames ∧ 8 + (5 + 11) + 47 ≤ R.locals) (hW : (rest.map fun v => v.category).sum ≤ 8) (hdg : decode cc pc = .ok (.invokevirtual index, 3)) (hcs : cells ≤ R.cells ∧ slots ≤ R.slots) (hf : fn_X8_lockedOf g x1 M = some r)
    (kk : ∀ (H1 : Heap) (locs1 : List Loc), wd X M H1 → va_S X.A H0 H1 locs1 → W p l e R s m args below meth c H1 locs1 cells slots Q (F0 m (pc + 3) ls (.int r :: rest))) : W p l e R s m args below meth c H locs cells slots Q (F0 m pc ls (.int x1 :: .ref (X.ad 61) :: rest)) :=
  cal_i (runV (As := [.int x1]) (rest := rest) hZ.1 hZ.2.1 hZ.2.2.1 hZ.2.2.2.1 hZ.2.2.2.2.1 hZ.2.2.2.2.2 hP (c_X8_lockedOf g x1 M r hf) wd_4_216 wd_4_215 wd_p_57 wd_1_9 hd_X8_lockedOf (by decide) rfl rfl rfl hlk hR hsz rfl hW hdg hcs) hS kk
/-! FrameRaiserModel.commonWays -/
def jn_X8_commonWays_39 (s_7 : Int32) (s_8 : Int32) (v4_6 : Int32) : Option ((Int32 × Int32) ⊕ (Int32)) :=
  bv (s_8 &&& s_7) fun v3_9 =>
  some (.inl (v3_9, v4_6 + (1 : Int32)))
def bd_X8_commonWays_6 (g : Nat) (x1 : Int32) (x2 : Int32) (M : Mem) : (Int32 × Int32) → Option ((Int32 × Int32) ⊕ (Int32)) :=
  u2 fun v3_2 v4_1 =>
  if (M 62 (ix (0 : Int32))) ≤ v4_1 then
    (some (.inr v3_2))
  else
    (if (fn_X8_has x1 v4_1) = 0 then
      (jn_X8_commonWays_39 (63 : Int32) v3_2 v4_1)
    else
      ((fn_X8_waysOf g v4_1 x2 M).bind fun r_10 =>
      jn_X8_commonWays_39 r_10 v3_2 v4_1))
def fn_X8_commonWays (g : Nat) (x1 : Int32) (x2 : Int32) (M : Mem) : Option (Int32) :=
  (lpN g (bd_X8_commonWays_6 g x1 x2 M) ((63 : Int32), (0 : Int32))).bind (u1 fun v3_3 =>
    some v3_3)
theorem dX8_commonWays_0 : decode cX8_commonWays 0 = .ok (.bipush 63, 2) := by decide +kernel
theorem dX8_commonWays_2 : decode cX8_commonWays 2 = .ok (.istore_n 3, 1) := by decide +kernel
theorem dX8_commonWays_3 : decode cX8_commonWays 3 = .ok (.iconst 0, 1) := by decide +kernel
theorem dX8_commonWays_4 : decode cX8_commonWays 4 = .ok (.istore 4, 2) := by decide +kernel
theorem dX8_commonWays_6 : decode cX8_commonWays 6 = .ok (.iload 4, 2) := by decide +kernel
theorem dX8_commonWays_8 : decode cX8_commonWays 8 = .ok (.aload_n 0, 1) := by decide +kernel
theorem dX8_commonWays_9 : decode cX8_commonWays 9 = .ok (.getfield 7, 3) := by decide +kernel
theorem dX8_commonWays_12 : decode cX8_commonWays 12 = .ok (.iconst 0, 1) := by decide +kernel
theorem dX8_commonWays_13 : decode cX8_commonWays 13 = .ok (.iaload, 1) := by decide +kernel
theorem dX8_commonWays_14 : decode cX8_commonWays 14 = .ok (.if_icmp .ge 33, 3) := by decide +kernel
theorem dX8_commonWays_17 : decode cX8_commonWays 17 = .ok (.iload_n 3, 1) := by decide +kernel
theorem dX8_commonWays_18 : decode cX8_commonWays 18 = .ok (.iload_n 1, 1) := by decide +kernel
theorem dX8_commonWays_19 : decode cX8_commonWays 19 = .ok (.iload 4, 2) := by decide +kernel
theorem dX8_commonWays_21 : decode cX8_commonWays 21 = .ok (.invokestatic 76, 3) := by decide +kernel
theorem dX8_commonWays_24 : decode cX8_commonWays 24 = .ok (.ifCond .eq 13, 3) := by decide +kernel
theorem dX8_commonWays_27 : decode cX8_commonWays 27 = .ok (.aload_n 0, 1) := by decide +kernel
theorem dX8_commonWays_28 : decode cX8_commonWays 28 = .ok (.iload 4, 2) := by decide +kernel
theorem dX8_commonWays_30 : decode cX8_commonWays 30 = .ok (.iload_n 2, 1) := by decide +kernel
theorem dX8_commonWays_31 : decode cX8_commonWays 31 = .ok (.invokevirtual 89, 3) := by decide +kernel
theorem dX8_commonWays_34 : decode cX8_commonWays 34 = .ok (.goto 5, 3) := by decide +kernel
theorem dX8_commonWays_37 : decode cX8_commonWays 37 = .ok (.bipush 63, 2) := by decide +kernel
theorem dX8_commonWays_39 : decode cX8_commonWays 39 = .ok (.iand, 1) := by decide +kernel
theorem dX8_commonWays_40 : decode cX8_commonWays 40 = .ok (.istore_n 3, 1) := by decide +kernel
theorem dX8_commonWays_41 : decode cX8_commonWays 41 = .ok (.iinc 4 1, 3) := by decide +kernel
theorem dX8_commonWays_44 : decode cX8_commonWays 44 = .ok (.goto (-38), 3) := by decide +kernel
theorem dX8_commonWays_47 : decode cX8_commonWays 47 = .ok (.iload_n 3, 1) := by decide +kernel
theorem dX8_commonWays_48 : decode cX8_commonWays 48 = .ok (.ireturn, 1) := by decide +kernel
set_option maxHeartbeats 4000000 in
set_option maxRecDepth 100000 in
theorem c_X8_commonWays {l : Launch} {X : En} (g : Nat) (x1 : Int32) (x2 : Int32) (M : Mem) (r : Int32) (hf : fn_X8_commonWays g x1 x2 M = some r) : Cn l X yX8_commonWays cX8_commonWays 5 (some .int) 2 47 [.ref (X.ad 61), .int x1, .int x2] M (Qi X r M) := by
  refine Met.ofW (cc := cX8_commonWays) (maxL := 5) (ret := (some .int)) (by decide) rfl ?_
  intro p e s m args below meth c s₁ B hml hv
  obtain ⟨rfl, hP, hk⟩ := hv
  have hx := B.exec
  have hb := B.bytes
  have hr := B.returns
  have hlocks := B.notSynchronized
  have hts : ∀ w ∈ lw_u, w.before ([.ref (X.ad 61), .int x1, .int x2] : List Value).toArray s = true := fun w hw => atoms_spec (ws := Cond.code yX8_commonWays cX8_commonWays 5 (some .int) :: lw_u) B.pre w (List.mem_cons_of_mem _ hw)
  have hown : s.vm.findClass RX8 = some m.cls := findClass_of_methodNamed B.named
  have hZ : Fx p c m s ([.ref (X.ad 61), .int x1, .int x2] : List Value).toArray X cX8_commonWays 5 RX8 := ⟨hx, hb, hml, hts, hown, hk⟩
  have hS : va_S X.A s.heap s.heap [] := va_S.rf
  have hl := lv_entry ([.ref (X.ad 61), .int x1, .int x2]) (n := 5) (Nat.le_of_ble_eq_true rfl)
  rw [lg_entry_eq]
  generalize (lg_sl ([.ref (X.ad 61), .int x1, .int x2]) ++ List.replicate (5 - (lg_sl ([.ref (X.ad 61), .int x1, .int x2])).length) Slot.unset).toArray = ls at hl ⊢
  have hl : lv_has ls 5 [(0, .ref (X.ad 61)), (1, .int x1), (2, .int x2)] := hl
  show WW p l e 2 47 s m [.ref (X.ad 61), .int x1, .int x2] below meth c X (Qi X r M) s.heap [] 0 ls []
  have hP : wd X M s.heap := hP
  unfold fn_X8_commonWays at hf
  have key : ∀ (H : Heap) (locs : List Loc), wd X M H → va_S X.A s.heap H locs → WW p l e 2 47 s m [.ref (X.ad 61), .int x1, .int x2] below meth c X (Qi X r M) H locs 0 ls [] := by
    intro H locs hP hS
    refine lv_bipush (v := (63 : Int32)) hx hb dX8_commonWays_0 (by decide) ?_
    refine lv_istore_n (lv' := [(3, .int (63 : Int32)), (0, .ref (X.ad 61)), (1, .int x1), (2, .int x2)]) hx hb dX8_commonWays_2 rfl hl (by decide) rfl (fun ls hl => ?_)
    refine lv_iconst (v := (0 : Int32)) hx hb dX8_commonWays_3 (by decide) ?_
    refine lv_istore (lv' := [(4, .int (0 : Int32)), (3, .int (63 : Int32)), (0, .ref (X.ad 61)), (1, .int x1), (2, .int x2)]) hx hb dX8_commonWays_4 hl (by decide) rfl (fun ls hl => ?_)
    obtain ⟨o6, ho6, hf⟩ := b_d hf
    refine lp_rule (b := bd_X8_commonWays_6 g x1 x2 M) (P := fun w : Int32 × Int32 => ∀ (H : Heap) (locs : List Loc) (ls : Array Slot), wd X M H → va_S X.A s.heap H locs → lv_has ls 5 [(4, .int w.2), (3, .int w.1), (0, .ref (X.ad 61)), (1, .int x1), (2, .int x2)] → WW p l e 2 47 s m [.ref (X.ad 61), .int x1, .int x2] below meth c X (Qi X r M) H locs 6 ls []) (K := fun o => ∀ (v3_3 : Int32), o = v3_3 → ∀ (H : Heap) (locs : List Loc) (ls : Array Slot), wd X M H → va_S X.A s.heap H locs → lv_has ls 5 [(3, .int v3_3)] → WW p l e 2 47 s m [.ref (X.ad 61), .int x1, .int x2] below meth c X (Qi X r M) H locs 47 ls []) ?_ g ((63 : Int32), (0 : Int32)) o6 ho6 ?_ H locs ls hP hS (lv_sub hl [0, 1, 2, 3, 4] rfl)
    · rintro ⟨v3_2, v4_1⟩ o hf hkc6 hke6 H locs ls hP hS hl
      have hf := u2_e hf
      have jn39 : ∀ (v4_6 : Int32) (s_7 : Int32) (s_8 : Int32), jn_X8_commonWays_39 s_7 s_8 v4_6 = some o → ∀ (H : Heap) (locs : List Loc) (ls : Array Slot), wd X M H → va_S X.A s.heap H locs → lv_has ls 5 [(0, .ref (X.ad 61)), (1, .int x1), (2, .int x2), (4, .int v4_6)] → WW p l e 2 47 s m [.ref (X.ad 61), .int x1, .int x2] below meth c X (Qi X r M) H locs 39 ls [.int s_7, .int s_8] := by
        intro v4_6 s_7 s_8  hf H locs ls hP hS hl
        unfold jn_X8_commonWays_39 at hf
        refine lv_iand hx hb dX8_commonWays_39 ?_
        refine lv_topi (fun v3_9 e_v3_9 => ?_)
        have hf := b_v hf e_v3_9
        refine lv_istore_n (lv' := [(3, .int v3_9), (0, .ref (X.ad 61)), (1, .int x1), (2, .int x2), (4, .int v4_6)]) hx hb dX8_commonWays_40 rfl hl (by decide) rfl (fun ls hl => ?_)
        refine lv_iinc (v := v4_6 + (1 : Int32)) (lv' := [(4, .int (v4_6 + (1 : Int32))), (3, .int v3_9), (0, .ref (X.ad 61)), (1, .int x1), (2, .int x2)]) hx hb dX8_commonWays_41 hl (k := 4) rfl rfl (by decide) rfl (fun ls hl => ?_)
        refine lv_goto (tgt := 6) hx hb dX8_commonWays_44 (by decide) ?_
        exact hkc6 _ (Option.some.inj hf).symm H locs ls hP hS (lv_sub hl [0, 1, 2, 3, 4] rfl)
      refine lv_iload hx hb dX8_commonWays_6 (lv_at hl 0 rfl) ?_
      refine lv_aload_n hx hb dX8_commonWays_8 rfl (lv_at hl 2 rfl) ?_
      refine gX8_0 hx hb hts hown hk hP wd_3_192 dX8_commonWays_9 ?_
      refine lv_iconst (v := (0 : Int32)) hx hb dX8_commonWays_12 (by decide) ?_
      refine ald hx hb hk hP (by decide) rfl (show inb _ _ from by decide) dX8_commonWays_13 ?_
      refine lv_icmp_ge (tgt := 47) hx hb dX8_commonWays_14 (by decide) (fun c_4 => ?_) (fun c_4 => ?_)
      · have hf := i_t c_4 hf
        exact hke6 _ (Option.some.inj hf).symm _ rfl H locs ls hP hS (lv_sub hl [1] rfl)
      · have hf := i_f c_4 hf
        refine lv_iload_n hx hb dX8_commonWays_17 rfl (lv_at hl 1 rfl) ?_
        refine lv_iload_n hx hb dX8_commonWays_18 rfl (lv_at hl 3 rfl) ?_
        refine lv_iload hx hb dX8_commonWays_19 (lv_at hl 0 rfl) ?_
        refine k_X8_has hZ hP hS hl.1 wd_4_153 ⟨Nat.le_of_ble_eq_true rfl, Nat.le_of_ble_eq_true rfl⟩ (Nat.le_of_ble_eq_true rfl) dX8_commonWays_21 ⟨Nat.zero_le _, Nat.zero_le _⟩ (fun H locs hP hS => ?_)
        refine lv_if_eq (tgt := 37) hx hb dX8_commonWays_24 (by decide) (fun c_5 => ?_) (fun c_5 => ?_)
        · have hf := i_t c_5 hf
          refine lv_bipush (v := (63 : Int32)) hx hb dX8_commonWays_37 (by decide) ?_
          exact jn39 v4_1 (63 : Int32) v3_2 hf H locs ls hP hS (lv_sub hl [2, 3, 4, 0] rfl)
        · have hf := i_f c_5 hf
          refine lv_aload_n hx hb dX8_commonWays_27 rfl (lv_at hl 2 rfl) ?_
          refine lv_iload hx hb dX8_commonWays_28 (lv_at hl 0 rfl) ?_
          refine lv_iload_n hx hb dX8_commonWays_30 rfl (lv_at hl 4 rfl) ?_
          obtain ⟨r_10, h_r_10, hf⟩ := b_d hf
          refine k_X8_waysOf hZ hP hS hl.1 wd_4_129 ⟨Nat.le_of_ble_eq_true rfl, Nat.le_of_ble_eq_true rfl⟩ (Nat.le_of_ble_eq_true rfl) dX8_commonWays_31 ⟨Nat.zero_le _, Nat.zero_le _⟩ h_r_10 (fun H locs hP hS => ?_)
          refine lv_goto (tgt := 39) hx hb dX8_commonWays_34 (by decide) ?_
          exact jn39 v4_1 r_10 v3_2 hf H locs ls hP hS (lv_sub hl [2, 3, 4, 0] rfl)
    · intro v3_3 e H locs ls hP hS hl
      subst o6
      have hf := u1_e hf
      refine lv_iload_n hx hb dX8_commonWays_47 rfl (lv_at hl 0 rfl) ?_
      have hf := Option.some.inj hf
      exact ret_i hx hb hr hlocks hP hS hf dX8_commonWays_48
  exact key s.heap [] hP hS
theorem hd_X8_commonWays : Hd yX8_commonWays 2 := by decide +kernel
theorem k_X8_commonWays {p : Program} {l : Launch} {e : Env} {R : Room} {s : State} {m : MethodId} {args : Array Value} {below : List Frame} {meth : Method} {c : Code} {H : Heap} {locs : List Loc} {cells slots : Nat} {Q : State → Prop} {cc : ByteArray} {nL pc index : Nat} {ls : Array Slot} {rest : List Value} {X : En} {M : Mem} {H0 : Heap} {own : String} {g : Nat} {x1 : Int32} {x2 : Int32} {r : Int32} (hZ : Fx p c m s args X cc nL own) (hP : wd X M H) (hS : va_S X.A H0 H locs) (hsz : ls.size = nL) (hlk : Cond.methodLink own index yX8_commonWays ∈ lw_u) (hR : 2 + 1 ≤ R.frames ∧ 8 + (5 + 11) + 47 ≤ R.locals) (hW : (rest.map fun v => v.category).sum ≤ 8) (hdg : decode cc pc = .ok (.invokevirtual index, 3)) (hcs : cells ≤ R.cells ∧ slots ≤ R.slots) (hf : fn_X8_commonWays g x1 x2 M = some r)
    (kk : ∀ (H1 : Heap) (locs1 : List Loc), wd X M H1 → va_S X.A H0 H1 locs1 → W p l e R s m args below meth c H1 locs1 cells slots Q (F0 m (pc + 3) ls (.int r :: rest))) : W p l e R s m args below meth c H locs cells slots Q (F0 m pc ls (.int x2 :: .int x1 :: .ref (X.ad 61) :: rest)) :=
  cal_i (runV (As := [.int x1, .int x2]) (rest := rest) hZ.1 hZ.2.1 hZ.2.2.1 hZ.2.2.2.1 hZ.2.2.2.2.1 hZ.2.2.2.2.2 hP (c_X8_commonWays g x1 x2 M r hf) wd_4_228 wd_4_227 wd_p_59 wd_1_9 hd_X8_commonWays (by decide) rfl rfl rfl hlk hR hsz rfl hW hdg hcs) hS kk
/-! FrameRaiserModel.groupOf -/
def jn_X8_groupOf_65 (s_15 : Int32) (v3_14 : Int32) : Option ((Int32 × Int32) ⊕ (Int32)) :=
  some (.inl (s_15, v3_14 + (1 : Int32)))
def jn_X8_groupOf_64 (v2_12 : Int32) (v3_13 : Int32) : Option ((Int32 × Int32) ⊕ (Int32)) :=
  jn_X8_groupOf_65 v2_12 v3_13
def jn_X8_groupOf_40 (g : Nat) (s_10 : Int32) (v2_8 : Int32) (v3_9 : Int32) (x1 : Int32) (M : Mem) : Option ((Int32 × Int32) ⊕ (Int32)) :=
  if s_10 = 0 then
    (jn_X8_groupOf_64 v2_8 v3_9)
  else
    ((fn_X8_commonWays g v3_9 (x1 &&& (v3_9 ^^^ (-1 : Int32))) M).bind fun r_16 =>
    if r_16 = 0 then
      (jn_X8_groupOf_64 v2_8 v3_9)
    else
      (jn_X8_groupOf_65 v3_9 v3_9))
def jn_X8_groupOf_39 (g : Nat) (v2_6 : Int32) (v3_7 : Int32) (x1 : Int32) (M : Mem) : Option ((Int32 × Int32) ⊕ (Int32)) :=
  jn_X8_groupOf_40 g (0 : Int32) v2_6 v3_7 x1 M
def jn_X8_groupOf_35 (g : Nat) (v2_19 : Int32) (v3_20 : Int32) (x1 : Int32) (M : Mem) : Option ((Int32 × Int32) ⊕ (Int32)) :=
  jn_X8_groupOf_40 g (1 : Int32) v2_19 v3_20 x1 M
def bd_X8_groupOf_5 (g : Nat) (x1 : Int32) (M : Mem) : (Int32 × Int32) → Option ((Int32 × Int32) ⊕ (Int32)) :=
  u2 fun v2_2 v3_1 =>
  if x1 ≤ v3_1 then
    (some (.inr v2_2))
  else
    (if (fn_X8_isWithin v3_1 x1) = 0 then
      (jn_X8_groupOf_39 g v2_2 v3_1 x1 M)
    else
      (if v2_2 = (-9 : Int32) then
        (jn_X8_groupOf_35 g v2_2 v3_1 x1 M)
      else
        ((fn_X8_bits g v3_1).bind fun r_21 =>
        (fn_X8_bits g v2_2).bind fun r_22 =>
        if r_22 ≤ r_21 then
          (jn_X8_groupOf_39 g v2_2 v3_1 x1 M)
        else
          (jn_X8_groupOf_35 g v2_2 v3_1 x1 M))))
def fn_X8_groupOf (g : Nat) (x1 : Int32) (M : Mem) : Option (Int32) :=
  (lpN g (bd_X8_groupOf_5 g x1 M) ((-9 : Int32), (1 : Int32))).bind (u1 fun v2_3 =>
    some v2_3)
theorem dX8_groupOf_0 : decode cX8_groupOf 0 = .ok (.bipush (-9), 2) := by decide +kernel
theorem dX8_groupOf_2 : decode cX8_groupOf 2 = .ok (.istore_n 2, 1) := by decide +kernel
theorem dX8_groupOf_3 : decode cX8_groupOf 3 = .ok (.iconst 1, 1) := by decide +kernel
theorem dX8_groupOf_4 : decode cX8_groupOf 4 = .ok (.istore_n 3, 1) := by decide +kernel
theorem dX8_groupOf_5 : decode cX8_groupOf 5 = .ok (.iload_n 3, 1) := by decide +kernel
theorem dX8_groupOf_6 : decode cX8_groupOf 6 = .ok (.iload_n 1, 1) := by decide +kernel
theorem dX8_groupOf_7 : decode cX8_groupOf 7 = .ok (.if_icmp .ge 65, 3) := by decide +kernel
theorem dX8_groupOf_10 : decode cX8_groupOf 10 = .ok (.iload_n 3, 1) := by decide +kernel
theorem dX8_groupOf_11 : decode cX8_groupOf 11 = .ok (.iload_n 1, 1) := by decide +kernel
theorem dX8_groupOf_12 : decode cX8_groupOf 12 = .ok (.invokestatic 83, 3) := by decide +kernel
theorem dX8_groupOf_15 : decode cX8_groupOf 15 = .ok (.ifCond .eq 24, 3) := by decide +kernel
theorem dX8_groupOf_18 : decode cX8_groupOf 18 = .ok (.iload_n 2, 1) := by decide +kernel
theorem dX8_groupOf_19 : decode cX8_groupOf 19 = .ok (.bipush (-9), 2) := by decide +kernel
theorem dX8_groupOf_21 : decode cX8_groupOf 21 = .ok (.if_icmp .eq 14, 3) := by decide +kernel
theorem dX8_groupOf_24 : decode cX8_groupOf 24 = .ok (.iload_n 3, 1) := by decide +kernel
theorem dX8_groupOf_25 : decode cX8_groupOf 25 = .ok (.invokestatic 98, 3) := by decide +kernel
theorem dX8_groupOf_28 : decode cX8_groupOf 28 = .ok (.iload_n 2, 1) := by decide +kernel
theorem dX8_groupOf_29 : decode cX8_groupOf 29 = .ok (.invokestatic 98, 3) := by decide +kernel
theorem dX8_groupOf_32 : decode cX8_groupOf 32 = .ok (.if_icmp .ge 7, 3) := by decide +kernel
theorem dX8_groupOf_35 : decode cX8_groupOf 35 = .ok (.iconst 1, 1) := by decide +kernel
theorem dX8_groupOf_36 : decode cX8_groupOf 36 = .ok (.goto 4, 3) := by decide +kernel
theorem dX8_groupOf_39 : decode cX8_groupOf 39 = .ok (.iconst 0, 1) := by decide +kernel
theorem dX8_groupOf_40 : decode cX8_groupOf 40 = .ok (.istore 4, 2) := by decide +kernel
theorem dX8_groupOf_42 : decode cX8_groupOf 42 = .ok (.iload 4, 2) := by decide +kernel
theorem dX8_groupOf_44 : decode cX8_groupOf 44 = .ok (.ifCond .eq 20, 3) := by decide +kernel
theorem dX8_groupOf_47 : decode cX8_groupOf 47 = .ok (.aload_n 0, 1) := by decide +kernel
theorem dX8_groupOf_48 : decode cX8_groupOf 48 = .ok (.iload_n 3, 1) := by decide +kernel
theorem dX8_groupOf_49 : decode cX8_groupOf 49 = .ok (.iload_n 1, 1) := by decide +kernel
theorem dX8_groupOf_50 : decode cX8_groupOf 50 = .ok (.iload_n 3, 1) := by decide +kernel
theorem dX8_groupOf_51 : decode cX8_groupOf 51 = .ok (.iconst (-1), 1) := by decide +kernel
theorem dX8_groupOf_52 : decode cX8_groupOf 52 = .ok (.ixor, 1) := by decide +kernel
theorem dX8_groupOf_53 : decode cX8_groupOf 53 = .ok (.iand, 1) := by decide +kernel
theorem dX8_groupOf_54 : decode cX8_groupOf 54 = .ok (.invokevirtual 101, 3) := by decide +kernel
theorem dX8_groupOf_57 : decode cX8_groupOf 57 = .ok (.ifCond .eq 7, 3) := by decide +kernel
theorem dX8_groupOf_60 : decode cX8_groupOf 60 = .ok (.iload_n 3, 1) := by decide +kernel
theorem dX8_groupOf_61 : decode cX8_groupOf 61 = .ok (.goto 4, 3) := by decide +kernel
theorem dX8_groupOf_64 : decode cX8_groupOf 64 = .ok (.iload_n 2, 1) := by decide +kernel
theorem dX8_groupOf_65 : decode cX8_groupOf 65 = .ok (.istore_n 2, 1) := by decide +kernel
theorem dX8_groupOf_66 : decode cX8_groupOf 66 = .ok (.iinc 3 1, 3) := by decide +kernel
theorem dX8_groupOf_69 : decode cX8_groupOf 69 = .ok (.goto (-64), 3) := by decide +kernel
theorem dX8_groupOf_72 : decode cX8_groupOf 72 = .ok (.iload_n 2, 1) := by decide +kernel
theorem dX8_groupOf_73 : decode cX8_groupOf 73 = .ok (.ireturn, 1) := by decide +kernel
set_option maxHeartbeats 4000000 in
set_option maxRecDepth 100000 in
theorem c_X8_groupOf {l : Launch} {X : En} (g : Nat) (x1 : Int32) (M : Mem) (r : Int32) (hf : fn_X8_groupOf g x1 M = some r) : Cn l X yX8_groupOf cX8_groupOf 5 (some .int) 3 71 [.ref (X.ad 61), .int x1] M (Qi X r M) := by
  refine Met.ofW (cc := cX8_groupOf) (maxL := 5) (ret := (some .int)) (by decide) rfl ?_
  intro p e s m args below meth c s₁ B hml hv
  obtain ⟨rfl, hP, hk⟩ := hv
  have hx := B.exec
  have hb := B.bytes
  have hr := B.returns
  have hlocks := B.notSynchronized
  have hts : ∀ w ∈ lw_u, w.before ([.ref (X.ad 61), .int x1] : List Value).toArray s = true := fun w hw => atoms_spec (ws := Cond.code yX8_groupOf cX8_groupOf 5 (some .int) :: lw_u) B.pre w (List.mem_cons_of_mem _ hw)
  have hown : s.vm.findClass RX8 = some m.cls := findClass_of_methodNamed B.named
  have hZ : Fx p c m s ([.ref (X.ad 61), .int x1] : List Value).toArray X cX8_groupOf 5 RX8 := ⟨hx, hb, hml, hts, hown, hk⟩
  have hS : va_S X.A s.heap s.heap [] := va_S.rf
  have hl := lv_entry ([.ref (X.ad 61), .int x1]) (n := 5) (Nat.le_of_ble_eq_true rfl)
  rw [lg_entry_eq]
  generalize (lg_sl ([.ref (X.ad 61), .int x1]) ++ List.replicate (5 - (lg_sl ([.ref (X.ad 61), .int x1])).length) Slot.unset).toArray = ls at hl ⊢
  have hl : lv_has ls 5 [(0, .ref (X.ad 61)), (1, .int x1)] := hl
  show WW p l e 3 71 s m [.ref (X.ad 61), .int x1] below meth c X (Qi X r M) s.heap [] 0 ls []
  have hP : wd X M s.heap := hP
  unfold fn_X8_groupOf at hf
  have key : ∀ (H : Heap) (locs : List Loc), wd X M H → va_S X.A s.heap H locs → WW p l e 3 71 s m [.ref (X.ad 61), .int x1] below meth c X (Qi X r M) H locs 0 ls [] := by
    intro H locs hP hS
    refine lv_bipush (v := (-9 : Int32)) hx hb dX8_groupOf_0 (by decide) ?_
    refine lv_istore_n (lv' := [(2, .int (-9 : Int32)), (0, .ref (X.ad 61)), (1, .int x1)]) hx hb dX8_groupOf_2 rfl hl (by decide) rfl (fun ls hl => ?_)
    refine lv_iconst (v := (1 : Int32)) hx hb dX8_groupOf_3 (by decide) ?_
    refine lv_istore_n (lv' := [(3, .int (1 : Int32)), (2, .int (-9 : Int32)), (0, .ref (X.ad 61)), (1, .int x1)]) hx hb dX8_groupOf_4 rfl hl (by decide) rfl (fun ls hl => ?_)
    obtain ⟨o5, ho5, hf⟩ := b_d hf
    refine lp_rule (b := bd_X8_groupOf_5 g x1 M) (P := fun w : Int32 × Int32 => ∀ (H : Heap) (locs : List Loc) (ls : Array Slot), wd X M H → va_S X.A s.heap H locs → lv_has ls 5 [(3, .int w.2), (2, .int w.1), (0, .ref (X.ad 61)), (1, .int x1)] → WW p l e 3 71 s m [.ref (X.ad 61), .int x1] below meth c X (Qi X r M) H locs 5 ls []) (K := fun o => ∀ (v2_3 : Int32), o = v2_3 → ∀ (H : Heap) (locs : List Loc) (ls : Array Slot), wd X M H → va_S X.A s.heap H locs → lv_has ls 5 [(2, .int v2_3)] → WW p l e 3 71 s m [.ref (X.ad 61), .int x1] below meth c X (Qi X r M) H locs 72 ls []) ?_ g ((-9 : Int32), (1 : Int32)) o5 ho5 ?_ H locs ls hP hS (lv_sub hl [0, 1, 2, 3] rfl)
    · rintro ⟨v2_2, v3_1⟩ o hf hkc5 hke5 H locs ls hP hS hl
      have hf := u2_e hf
      have jn65 : ∀ (v3_14 : Int32) (s_15 : Int32), jn_X8_groupOf_65 s_15 v3_14 = some o → ∀ (H : Heap) (locs : List Loc) (ls : Array Slot), wd X M H → va_S X.A s.heap H locs → lv_has ls 5 [(0, .ref (X.ad 61)), (1, .int x1), (3, .int v3_14)] → WW p l e 3 71 s m [.ref (X.ad 61), .int x1] below meth c X (Qi X r M) H locs 65 ls [.int s_15] := by
        intro v3_14 s_15  hf H locs ls hP hS hl
        unfold jn_X8_groupOf_65 at hf
        refine lv_istore_n (lv' := [(2, .int s_15), (0, .ref (X.ad 61)), (1, .int x1), (3, .int v3_14)]) hx hb dX8_groupOf_65 rfl hl (by decide) rfl (fun ls hl => ?_)
        refine lv_iinc (v := v3_14 + (1 : Int32)) (lv' := [(3, .int (v3_14 + (1 : Int32))), (2, .int s_15), (0, .ref (X.ad 61)), (1, .int x1)]) hx hb dX8_groupOf_66 hl (k := 3) rfl rfl (by decide) rfl (fun ls hl => ?_)
        refine lv_goto (tgt := 5) hx hb dX8_groupOf_69 (by decide) ?_
        exact hkc5 _ (Option.some.inj hf).symm H locs ls hP hS (lv_sub hl [0, 1, 2, 3] rfl)
      have jn64 : ∀ (v2_12 : Int32) (v3_13 : Int32), jn_X8_groupOf_64 v2_12 v3_13 = some o → ∀ (H : Heap) (locs : List Loc) (ls : Array Slot), wd X M H → va_S X.A s.heap H locs → lv_has ls 5 [(0, .ref (X.ad 61)), (1, .int x1), (2, .int v2_12), (3, .int v3_13)] → WW p l e 3 71 s m [.ref (X.ad 61), .int x1] below meth c X (Qi X r M) H locs 64 ls [] := by
        intro v2_12 v3_13  hf H locs ls hP hS hl
        unfold jn_X8_groupOf_64 at hf
        refine lv_iload_n hx hb dX8_groupOf_64 rfl (lv_at hl 2 rfl) ?_
        exact jn65 v3_13 v2_12 hf H locs ls hP hS (lv_sub hl [0, 1, 3] rfl)
      have jn40 : ∀ (v2_8 : Int32) (v3_9 : Int32) (s_10 : Int32), jn_X8_groupOf_40 g s_10 v2_8 v3_9 x1 M = some o → ∀ (H : Heap) (locs : List Loc) (ls : Array Slot), wd X M H → va_S X.A s.heap H locs → lv_has ls 5 [(0, .ref (X.ad 61)), (1, .int x1), (2, .int v2_8), (3, .int v3_9)] → WW p l e 3 71 s m [.ref (X.ad 61), .int x1] below meth c X (Qi X r M) H locs 40 ls [.int s_10] := by
        intro v2_8 v3_9 s_10  hf H locs ls hP hS hl
        unfold jn_X8_groupOf_40 at hf
        refine lv_istore (lv' := [(4, .int s_10), (0, .ref (X.ad 61)), (1, .int x1), (2, .int v2_8), (3, .int v3_9)]) hx hb dX8_groupOf_40 hl (by decide) rfl (fun ls hl => ?_)
        refine lv_iload hx hb dX8_groupOf_42 (lv_at hl 0 rfl) ?_
        refine lv_if_eq (tgt := 64) hx hb dX8_groupOf_44 (by decide) (fun c_11 => ?_) (fun c_11 => ?_)
        · have hf := i_t c_11 hf
          exact jn64 v2_8 v3_9 hf H locs ls hP hS (lv_sub hl [1, 2, 3, 4] rfl)
        · have hf := i_f c_11 hf
          refine lv_aload_n hx hb dX8_groupOf_47 rfl (lv_at hl 1 rfl) ?_
          refine lv_iload_n hx hb dX8_groupOf_48 rfl (lv_at hl 4 rfl) ?_
          refine lv_iload_n hx hb dX8_groupOf_49 rfl (lv_at hl 2 rfl) ?_
          refine lv_iload_n hx hb dX8_groupOf_50 rfl (lv_at hl 4 rfl) ?_
          refine lv_iconst (v := (-1 : Int32)) hx hb dX8_groupOf_51 (by decide) ?_
          refine lv_ixor hx hb dX8_groupOf_52 ?_
          refine lv_iand hx hb dX8_groupOf_53 ?_
          obtain ⟨r_16, h_r_16, hf⟩ := b_d hf
          refine k_X8_commonWays hZ hP hS hl.1 wd_4_225 ⟨Nat.le_of_ble_eq_true rfl, Nat.le_of_ble_eq_true rfl⟩ (Nat.le_of_ble_eq_true rfl) dX8_groupOf_54 ⟨Nat.zero_le _, Nat.zero_le _⟩ h_r_16 (fun H locs hP hS => ?_)
          refine lv_if_eq (tgt := 64) hx hb dX8_groupOf_57 (by decide) (fun c_17 => ?_) (fun c_17 => ?_)
          · have hf := i_t c_17 hf
            exact jn64 v2_8 v3_9 hf H locs ls hP hS (lv_sub hl [1, 2, 3, 4] rfl)
          · have hf := i_f c_17 hf
            refine lv_iload_n hx hb dX8_groupOf_60 rfl (lv_at hl 4 rfl) ?_
            refine lv_goto (tgt := 65) hx hb dX8_groupOf_61 (by decide) ?_
            exact jn65 v3_9 v3_9 hf H locs ls hP hS (lv_sub hl [1, 2, 4] rfl)
      have jn39 : ∀ (v2_6 : Int32) (v3_7 : Int32), jn_X8_groupOf_39 g v2_6 v3_7 x1 M = some o → ∀ (H : Heap) (locs : List Loc) (ls : Array Slot), wd X M H → va_S X.A s.heap H locs → lv_has ls 5 [(0, .ref (X.ad 61)), (1, .int x1), (2, .int v2_6), (3, .int v3_7)] → WW p l e 3 71 s m [.ref (X.ad 61), .int x1] below meth c X (Qi X r M) H locs 39 ls [] := by
        intro v2_6 v3_7  hf H locs ls hP hS hl
        unfold jn_X8_groupOf_39 at hf
        refine lv_iconst (v := (0 : Int32)) hx hb dX8_groupOf_39 (by decide) ?_
        exact jn40 v2_6 v3_7 (0 : Int32) hf H locs ls hP hS (lv_sub hl [0, 1, 2, 3] rfl)
      have jn35 : ∀ (v2_19 : Int32) (v3_20 : Int32), jn_X8_groupOf_35 g v2_19 v3_20 x1 M = some o → ∀ (H : Heap) (locs : List Loc) (ls : Array Slot), wd X M H → va_S X.A s.heap H locs → lv_has ls 5 [(0, .ref (X.ad 61)), (1, .int x1), (2, .int v2_19), (3, .int v3_20)] → WW p l e 3 71 s m [.ref (X.ad 61), .int x1] below meth c X (Qi X r M) H locs 35 ls [] := by
        intro v2_19 v3_20  hf H locs ls hP hS hl
        unfold jn_X8_groupOf_35 at hf
        refine lv_iconst (v := (1 : Int32)) hx hb dX8_groupOf_35 (by decide) ?_
        refine lv_goto (tgt := 40) hx hb dX8_groupOf_36 (by decide) ?_
        exact jn40 v2_19 v3_20 (1 : Int32) hf H locs ls hP hS (lv_sub hl [0, 1, 2, 3] rfl)
      refine lv_iload_n hx hb dX8_groupOf_5 rfl (lv_at hl 0 rfl) ?_
      refine lv_iload_n hx hb dX8_groupOf_6 rfl (lv_at hl 3 rfl) ?_
      refine lv_icmp_ge (tgt := 72) hx hb dX8_groupOf_7 (by decide) (fun c_4 => ?_) (fun c_4 => ?_)
      · have hf := i_t c_4 hf
        exact hke5 _ (Option.some.inj hf).symm _ rfl H locs ls hP hS (lv_sub hl [1] rfl)
      · have hf := i_f c_4 hf
        refine lv_iload_n hx hb dX8_groupOf_10 rfl (lv_at hl 0 rfl) ?_
        refine lv_iload_n hx hb dX8_groupOf_11 rfl (lv_at hl 3 rfl) ?_
        refine k_X8_isWithin hZ hP hS hl.1 wd_4_180 ⟨Nat.le_of_ble_eq_true rfl, Nat.le_of_ble_eq_true rfl⟩ (Nat.le_of_ble_eq_true rfl) dX8_groupOf_12 ⟨Nat.zero_le _, Nat.zero_le _⟩ (fun H locs hP hS => ?_)
        refine lv_if_eq (tgt := 39) hx hb dX8_groupOf_15 (by decide) (fun c_5 => ?_) (fun c_5 => ?_)
        · have hf := i_t c_5 hf
          exact jn39 v2_2 v3_1 hf H locs ls hP hS (lv_sub hl [2, 3, 1, 0] rfl)
        · have hf := i_f c_5 hf
          refine lv_iload_n hx hb dX8_groupOf_18 rfl (lv_at hl 1 rfl) ?_
          refine lv_bipush (v := (-9 : Int32)) hx hb dX8_groupOf_19 (by decide) ?_
          refine lv_icmp_eq (tgt := 35) hx hb dX8_groupOf_21 (by decide) (fun c_18 => ?_) (fun c_18 => ?_)
          · have hf := i_t c_18 hf
            exact jn35 v2_2 v3_1 hf H locs ls hP hS (lv_sub hl [2, 3, 1, 0] rfl)
          · have hf := i_f c_18 hf
            refine lv_iload_n hx hb dX8_groupOf_24 rfl (lv_at hl 0 rfl) ?_
            obtain ⟨r_21, h_r_21, hf⟩ := b_d hf
            refine k_X8_bits hZ hP hS hl.1 wd_4_195 ⟨Nat.le_of_ble_eq_true rfl, Nat.le_of_ble_eq_true rfl⟩ (Nat.le_of_ble_eq_true rfl) dX8_groupOf_25 ⟨Nat.zero_le _, Nat.zero_le _⟩ h_r_21 (fun H locs hP hS => ?_)
            refine lv_iload_n hx hb dX8_groupOf_28 rfl (lv_at hl 1 rfl) ?_
            obtain ⟨r_22, h_r_22, hf⟩ := b_d hf
            refine k_X8_bits hZ hP hS hl.1 wd_4_195 ⟨Nat.le_of_ble_eq_true rfl, Nat.le_of_ble_eq_true rfl⟩ (Nat.le_of_ble_eq_true rfl) dX8_groupOf_29 ⟨Nat.zero_le _, Nat.zero_le _⟩ h_r_22 (fun H locs hP hS => ?_)
            refine lv_icmp_ge (tgt := 39) hx hb dX8_groupOf_32 (by decide) (fun c_23 => ?_) (fun c_23 => ?_)
            · have hf := i_t c_23 hf
              exact jn39 v2_2 v3_1 hf H locs ls hP hS (lv_sub hl [2, 3, 1, 0] rfl)
            · have hf := i_f c_23 hf
              exact jn35 v2_2 v3_1 hf H locs ls hP hS (lv_sub hl [2, 3, 1, 0] rfl)
    · intro v2_3 e H locs ls hP hS hl
      subst o5
      have hf := u1_e hf
      refine lv_iload_n hx hb dX8_groupOf_72 rfl (lv_at hl 0 rfl) ?_
      have hf := Option.some.inj hf
      exact ret_i hx hb hr hlocks hP hS hf dX8_groupOf_73
  exact key s.heap [] hP hS
theorem hd_X8_groupOf : Hd yX8_groupOf 1 := by decide +kernel
theorem k_X8_groupOf {p : Program} {l : Launch} {e : Env} {R : Room} {s : State} {m : MethodId} {args : Array Value} {below : List Frame} {meth : Method} {c : Code} {H : Heap} {locs : List Loc} {cells slots : Nat} {Q : State → Prop} {cc : ByteArray} {nL pc index : Nat} {ls : Array Slot} {rest : List Value} {X : En} {M : Mem} {H0 : Heap} {own : String} {g : Nat} {x1 : Int32} {r : Int32} (hZ : Fx p c m s args X cc nL own) (hP : wd X M H) (hS : va_S X.A H0 H locs) (hsz : ls.size = nL) (hlk : Cond.methodLink own index yX8_groupOf ∈ lw_u) (hR : 3 + 1 ≤ R.frames ∧ 8 + (5 + 11) + 71 ≤ R.locals) (hW : (rest.map fun v => v.category).sum ≤ 8) (hdg : decode cc pc = .ok (.invokevirtual index, 3)) (hcs : cells ≤ R.cells ∧ slots ≤ R.slots) (hf : fn_X8_groupOf g x1 M = some r)
    (kk : ∀ (H1 : Heap) (locs1 : List Loc), wd X M H1 → va_S X.A H0 H1 locs1 → W p l e R s m args below meth c H1 locs1 cells slots Q (F0 m (pc + 3) ls (.int r :: rest))) : W p l e R s m args below meth c H locs cells slots Q (F0 m pc ls (.int x1 :: .ref (X.ad 61) :: rest)) :=
  cal_i (runV (As := [.int x1]) (rest := rest) hZ.1 hZ.2.1 hZ.2.2.1 hZ.2.2.2.1 hZ.2.2.2.2.1 hZ.2.2.2.2.2 hP (c_X8_groupOf g x1 M r hf) wd_4_224 wd_4_223 wd_p_58 wd_1_9 hd_X8_groupOf (by decide) rfl rfl rfl hlk hR hsz rfl hW hdg hcs) hS kk
/-! FrameRaiserModel.type -/
def fn_X8_type (x1 : Int32) (M : Mem) : Option (Int32 × Mem) :=
  if (fn_X8_in x1 (32 : Int32) (126 : Int32)) = 0 then
    (some ((-1 : Int32), M))
  else
    (if (M 61 9) = (80 : Int32) then
      (some ((-3 : Int32), M))
    else
      (if inb (M 61 9) 80 then
      bv (st M 69 (ix (M 61 9)) x1) fun M_3 =>
      bv (st M_3 61 9 ((M_3 61 9) + (1 : Int32))) fun M_5 =>
      some (M_5 61 9, M_5)
      else none))
theorem dX8_type_0 : decode cX8_type 0 = .ok (.iload_n 1, 1) := by decide +kernel
theorem dX8_type_1 : decode cX8_type 1 = .ok (.bipush 32, 2) := by decide +kernel
theorem dX8_type_3 : decode cX8_type 3 = .ok (.bipush 126, 2) := by decide +kernel
theorem dX8_type_5 : decode cX8_type 5 = .ok (.invokestatic 49, 3) := by decide +kernel
theorem dX8_type_8 : decode cX8_type 8 = .ok (.ifCond .ne 5, 3) := by decide +kernel
theorem dX8_type_11 : decode cX8_type 11 = .ok (.iconst (-1), 1) := by decide +kernel
theorem dX8_type_12 : decode cX8_type 12 = .ok (.ireturn, 1) := by decide +kernel
theorem dX8_type_13 : decode cX8_type 13 = .ok (.aload_n 0, 1) := by decide +kernel
theorem dX8_type_14 : decode cX8_type 14 = .ok (.getfield 104, 3) := by decide +kernel
theorem dX8_type_17 : decode cX8_type 17 = .ok (.bipush 80, 2) := by decide +kernel
theorem dX8_type_19 : decode cX8_type 19 = .ok (.if_icmp .ne 6, 3) := by decide +kernel
theorem dX8_type_22 : decode cX8_type 22 = .ok (.bipush (-3), 2) := by decide +kernel
theorem dX8_type_24 : decode cX8_type 24 = .ok (.ireturn, 1) := by decide +kernel
theorem dX8_type_25 : decode cX8_type 25 = .ok (.aload_n 0, 1) := by decide +kernel
theorem dX8_type_26 : decode cX8_type 26 = .ok (.getfield 32, 3) := by decide +kernel
theorem dX8_type_29 : decode cX8_type 29 = .ok (.aload_n 0, 1) := by decide +kernel
theorem dX8_type_30 : decode cX8_type 30 = .ok (.getfield 104, 3) := by decide +kernel
theorem dX8_type_33 : decode cX8_type 33 = .ok (.iload_n 1, 1) := by decide +kernel
theorem dX8_type_34 : decode cX8_type 34 = .ok (.iastore, 1) := by decide +kernel
theorem dX8_type_35 : decode cX8_type 35 = .ok (.aload_n 0, 1) := by decide +kernel
theorem dX8_type_36 : decode cX8_type 36 = .ok (.dup, 1) := by decide +kernel
theorem dX8_type_37 : decode cX8_type 37 = .ok (.getfield 104, 3) := by decide +kernel
theorem dX8_type_40 : decode cX8_type 40 = .ok (.iconst 1, 1) := by decide +kernel
theorem dX8_type_41 : decode cX8_type 41 = .ok (.iadd, 1) := by decide +kernel
theorem dX8_type_42 : decode cX8_type 42 = .ok (.putfield 104, 3) := by decide +kernel
theorem dX8_type_45 : decode cX8_type 45 = .ok (.aload_n 0, 1) := by decide +kernel
theorem dX8_type_46 : decode cX8_type 46 = .ok (.getfield 104, 3) := by decide +kernel
theorem dX8_type_49 : decode cX8_type 49 = .ok (.ireturn, 1) := by decide +kernel
set_option maxHeartbeats 4000000 in
set_option maxRecDepth 100000 in
theorem c_X8_type {l : Launch} {X : En} (x1 : Int32) (M : Mem) (r : Int32) (M9 : Mem) (hf : fn_X8_type x1 M = some (r, M9)) : Cn l X yX8_type cX8_type 2 (some .int) 1 22 [.ref (X.ad 61), .int x1] M (Qi X r M9) := by
  refine Met.ofW (cc := cX8_type) (maxL := 2) (ret := (some .int)) (by decide) rfl ?_
  intro p e s m args below meth c s₁ B hml hv
  obtain ⟨rfl, hP, hk⟩ := hv
  have hx := B.exec
  have hb := B.bytes
  have hr := B.returns
  have hlocks := B.notSynchronized
  have hts : ∀ w ∈ lw_u, w.before ([.ref (X.ad 61), .int x1] : List Value).toArray s = true := fun w hw => atoms_spec (ws := Cond.code yX8_type cX8_type 2 (some .int) :: lw_u) B.pre w (List.mem_cons_of_mem _ hw)
  have hown : s.vm.findClass RX8 = some m.cls := findClass_of_methodNamed B.named
  have hZ : Fx p c m s ([.ref (X.ad 61), .int x1] : List Value).toArray X cX8_type 2 RX8 := ⟨hx, hb, hml, hts, hown, hk⟩
  have hS : va_S X.A s.heap s.heap [] := va_S.rf
  have hl := lv_entry ([.ref (X.ad 61), .int x1]) (n := 2) (Nat.le_of_ble_eq_true rfl)
  rw [lg_entry_eq]
  generalize (lg_sl ([.ref (X.ad 61), .int x1]) ++ List.replicate (2 - (lg_sl ([.ref (X.ad 61), .int x1])).length) Slot.unset).toArray = ls at hl ⊢
  have hl : lv_has ls 2 [(0, .ref (X.ad 61)), (1, .int x1)] := hl
  show WW p l e 1 22 s m [.ref (X.ad 61), .int x1] below meth c X (Qi X r M9) s.heap [] 0 ls []
  have hP : wd X M s.heap := hP
  unfold fn_X8_type at hf
  have key : ∀ (H : Heap) (locs : List Loc), wd X M H → va_S X.A s.heap H locs → WW p l e 1 22 s m [.ref (X.ad 61), .int x1] below meth c X (Qi X r M9) H locs 0 ls [] := by
    intro H locs hP hS
    refine lv_iload_n hx hb dX8_type_0 rfl (lv_at hl 1 rfl) ?_
    refine lv_bipush (v := (32 : Int32)) hx hb dX8_type_1 (by decide) ?_
    refine lv_bipush (v := (126 : Int32)) hx hb dX8_type_3 (by decide) ?_
    refine k_X8_in hZ hP hS hl.1 wd_3_186 ⟨Nat.le_of_ble_eq_true rfl, Nat.le_of_ble_eq_true rfl⟩ (Nat.le_of_ble_eq_true rfl) dX8_type_5 ⟨Nat.zero_le _, Nat.zero_le _⟩ (fun H locs hP hS => ?_)
    refine lv_if_ne (tgt := 13) hx hb dX8_type_8 (by decide) (fun c_1 => ?_) (fun c_1 => ?_)
    · have hf := i_f c_1 hf
      refine lv_aload_n hx hb dX8_type_13 rfl (lv_at hl 0 rfl) ?_
      refine gX8_9 hx hb hts hown hk hP wd_3_201 dX8_type_14 ?_
      refine lv_bipush (v := (80 : Int32)) hx hb dX8_type_17 (by decide) ?_
      refine lv_icmp_ne (tgt := 25) hx hb dX8_type_19 (by decide) (fun c_2 => ?_) (fun c_2 => ?_)
      · have hf := i_f c_2 hf
        refine lv_aload_n hx hb dX8_type_25 rfl (lv_at hl 0 rfl) ?_
        refine gX8_8 hx hb hts hown hk hP wd_3_200 dX8_type_26 ?_
        refine lv_aload_n hx hb dX8_type_29 rfl (lv_at hl 0 rfl) ?_
        refine gX8_9 hx hb hts hown hk hP wd_3_201 dX8_type_30 ?_
        refine lv_iload_n hx hb dX8_type_33 rfl (lv_at hl 1 rfl) ?_
        obtain ⟨q_4, hf⟩ := g_if hf
        refine ast hx hb hk hP hS (by decide) (fun _ => rfl) q_4 dX8_type_34 (fun H locs M_3 e_M_3 hP hS => ?_)
        have hf := b_v hf e_M_3
        refine lv_aload_n hx hb dX8_type_35 rfl (lv_at hl 0 rfl) ?_
        refine lv_dup hx hb dX8_type_36 rfl ?_
        refine gX8_9 hx hb hts hown hk hP wd_3_201 dX8_type_37 ?_
        refine lv_iconst (v := (1 : Int32)) hx hb dX8_type_40 (by decide) ?_
        refine lv_iadd hx hb dX8_type_41 ?_
        refine pX8_9 hx hb hts hown hk hP hS wd_3_201 dX8_type_42 (fun H locs M_5 e_M_5 hP hS => ?_)
        have hf := b_v hf e_M_5
        refine lv_aload_n hx hb dX8_type_45 rfl (lv_at hl 0 rfl) ?_
        refine gX8_9 hx hb hts hown hk hP wd_3_201 dX8_type_46 ?_
        have hf := Option.some.inj hf
        obtain ⟨e1, e2⟩ := Prod.mk.inj hf
        rw [e2] at hP
        exact ret_i hx hb hr hlocks hP hS e1 dX8_type_49
      · have hf := i_t c_2 hf
        refine lv_bipush (v := (-3 : Int32)) hx hb dX8_type_22 (by decide) ?_
        have hf := Option.some.inj hf
        obtain ⟨e1, e2⟩ := Prod.mk.inj hf
        rw [e2] at hP
        exact ret_i hx hb hr hlocks hP hS e1 dX8_type_24
    · have hf := i_t c_1 hf
      refine lv_iconst (v := (-1 : Int32)) hx hb dX8_type_11 (by decide) ?_
      have hf := Option.some.inj hf
      obtain ⟨e1, e2⟩ := Prod.mk.inj hf
      rw [e2] at hP
      exact ret_i hx hb hr hlocks hP hS e1 dX8_type_12
  exact key s.heap [] hP hS
theorem hd_X8_type : Hd yX8_type 1 := by decide +kernel
theorem k_X8_type {p : Program} {l : Launch} {e : Env} {R : Room} {s : State} {m : MethodId} {args : Array Value} {below : List Frame} {meth : Method} {c : Code} {H : Heap} {locs : List Loc} {cells slots : Nat} {Q : State → Prop} {cc : ByteArray} {nL pc index : Nat} {ls : Array Slot} {rest : List Value} {X : En} {M : Mem} {H0 : Heap} {own : String} {x1 : Int32} {r : Int32} {M9 : Mem} (hZ : Fx p c m s args X cc nL own) (hP : wd X M H) (hS : va_S X.A H0 H locs) (hsz : ls.size = nL) (hlk : Cond.methodLink own index yX8_type ∈ lw_u) (hR : 1 + 1 ≤ R.frames ∧ 8 + (2 + 11) + 22 ≤ R.locals) (hW : (rest.map fun v => v.category).sum ≤ 8) (hdg : decode cc pc = .ok (.invokevirtual index, 3)) (hcs : cells ≤ R.cells ∧ slots ≤ R.slots) (hf : fn_X8_type x1 M = some (r, M9))
    (kk : ∀ (H1 : Heap) (locs1 : List Loc), wd X M9 H1 → va_S X.A H0 H1 locs1 → W p l e R s m args below meth c H1 locs1 cells slots Q (F0 m (pc + 3) ls (.int r :: rest))) : W p l e R s m args below meth c H locs cells slots Q (F0 m pc ls (.int x1 :: .ref (X.ad 61) :: rest)) :=
  cal_i (runV (As := [.int x1]) (rest := rest) hZ.1 hZ.2.1 hZ.2.2.1 hZ.2.2.2.1 hZ.2.2.2.2.1 hZ.2.2.2.2.2 hP (c_X8_type x1 M r M9 hf) wd_4_6 wd_4_4 wd_4_5 wd_1_9 hd_X8_type (by decide) rfl rfl rfl hlk hR hsz rfl hW hdg hcs) hS kk
/-! FrameRaiserModel.clearText -/
def fn_X8_clearText (M : Mem) : Option (Int32 × Mem) :=
  bv (M 61 9) fun v1_1 =>
  bv (st M 61 9 (0 : Int32)) fun M_2 =>
  some (v1_1, M_2)
theorem dX8_clearText_0 : decode cX8_clearText 0 = .ok (.aload_n 0, 1) := by decide +kernel
theorem dX8_clearText_1 : decode cX8_clearText 1 = .ok (.getfield 104, 3) := by decide +kernel
theorem dX8_clearText_4 : decode cX8_clearText 4 = .ok (.istore_n 1, 1) := by decide +kernel
theorem dX8_clearText_5 : decode cX8_clearText 5 = .ok (.aload_n 0, 1) := by decide +kernel
theorem dX8_clearText_6 : decode cX8_clearText 6 = .ok (.iconst 0, 1) := by decide +kernel
theorem dX8_clearText_7 : decode cX8_clearText 7 = .ok (.putfield 104, 3) := by decide +kernel
theorem dX8_clearText_10 : decode cX8_clearText 10 = .ok (.iload_n 1, 1) := by decide +kernel
theorem dX8_clearText_11 : decode cX8_clearText 11 = .ok (.ireturn, 1) := by decide +kernel
set_option maxHeartbeats 4000000 in
set_option maxRecDepth 100000 in
theorem c_X8_clearText {l : Launch} {X : En} (M : Mem) (r : Int32) (M9 : Mem) (hf : fn_X8_clearText M = some (r, M9)) : Cn l X yX8_clearText cX8_clearText 2 (some .int) 0 0 [.ref (X.ad 61)] M (Qi X r M9) := by
  refine Met.ofW (cc := cX8_clearText) (maxL := 2) (ret := (some .int)) (by decide) rfl ?_
  intro p e s m args below meth c s₁ B hml hv
  obtain ⟨rfl, hP, hk⟩ := hv
  have hx := B.exec
  have hb := B.bytes
  have hr := B.returns
  have hlocks := B.notSynchronized
  have hts : ∀ w ∈ lw_u, w.before ([.ref (X.ad 61)] : List Value).toArray s = true := fun w hw => atoms_spec (ws := Cond.code yX8_clearText cX8_clearText 2 (some .int) :: lw_u) B.pre w (List.mem_cons_of_mem _ hw)
  have hown : s.vm.findClass RX8 = some m.cls := findClass_of_methodNamed B.named
  have hZ : Fx p c m s ([.ref (X.ad 61)] : List Value).toArray X cX8_clearText 2 RX8 := ⟨hx, hb, hml, hts, hown, hk⟩
  have hS : va_S X.A s.heap s.heap [] := va_S.rf
  have hl := lv_entry ([.ref (X.ad 61)]) (n := 2) (Nat.le_of_ble_eq_true rfl)
  rw [lg_entry_eq]
  generalize (lg_sl ([.ref (X.ad 61)]) ++ List.replicate (2 - (lg_sl ([.ref (X.ad 61)])).length) Slot.unset).toArray = ls at hl ⊢
  have hl : lv_has ls 2 [(0, .ref (X.ad 61))] := hl
  show WW p l e 0 0 s m [.ref (X.ad 61)] below meth c X (Qi X r M9) s.heap [] 0 ls []
  have hP : wd X M s.heap := hP
  unfold fn_X8_clearText at hf
  have key : ∀ (H : Heap) (locs : List Loc), wd X M H → va_S X.A s.heap H locs → WW p l e 0 0 s m [.ref (X.ad 61)] below meth c X (Qi X r M9) H locs 0 ls [] := by
    intro H locs hP hS
    refine lv_aload_n hx hb dX8_clearText_0 rfl (lv_at hl 0 rfl) ?_
    refine gX8_9 hx hb hts hown hk hP wd_3_201 dX8_clearText_1 ?_
    refine lv_topi (fun v1_1 e_v1_1 => ?_)
    have hf := b_v hf e_v1_1
    refine lv_istore_n (lv' := [(1, .int v1_1), (0, .ref (X.ad 61))]) hx hb dX8_clearText_4 rfl hl (by decide) rfl (fun ls hl => ?_)
    refine lv_aload_n hx hb dX8_clearText_5 rfl (lv_at hl 1 rfl) ?_
    refine lv_iconst (v := (0 : Int32)) hx hb dX8_clearText_6 (by decide) ?_
    refine pX8_9 hx hb hts hown hk hP hS wd_3_201 dX8_clearText_7 (fun H locs M_2 e_M_2 hP hS => ?_)
    have hf := b_v hf e_M_2
    refine lv_iload_n hx hb dX8_clearText_10 rfl (lv_at hl 0 rfl) ?_
    have hf := Option.some.inj hf
    obtain ⟨e1, e2⟩ := Prod.mk.inj hf
    rw [e2] at hP
    exact ret_i hx hb hr hlocks hP hS e1 dX8_clearText_11
  exact key s.heap [] hP hS
theorem hd_X8_clearText : Hd yX8_clearText 0 := by decide +kernel
theorem k_X8_clearText {p : Program} {l : Launch} {e : Env} {R : Room} {s : State} {m : MethodId} {args : Array Value} {below : List Frame} {meth : Method} {c : Code} {H : Heap} {locs : List Loc} {cells slots : Nat} {Q : State → Prop} {cc : ByteArray} {nL pc index : Nat} {ls : Array Slot} {rest : List Value} {X : En} {M : Mem} {H0 : Heap} {own : String} {r : Int32} {M9 : Mem} (hZ : Fx p c m s args X cc nL own) (hP : wd X M H) (hS : va_S X.A H0 H locs) (hsz : ls.size = nL) (hlk : Cond.methodLink own index yX8_clearText ∈ lw_u) (hR : 0 + 1 ≤ R.frames ∧ 8 + (2 + 11) + 0 ≤ R.locals) (hW : (rest.map fun v => v.category).sum ≤ 8) (hdg : decode cc pc = .ok (.invokevirtual index, 3)) (hcs : cells ≤ R.cells ∧ slots ≤ R.slots) (hf : fn_X8_clearText M = some (r, M9))
    (kk : ∀ (H1 : Heap) (locs1 : List Loc), wd X M9 H1 → va_S X.A H0 H1 locs1 → W p l e R s m args below meth c H1 locs1 cells slots Q (F0 m (pc + 3) ls (.int r :: rest))) : W p l e R s m args below meth c H locs cells slots Q (F0 m pc ls (.ref (X.ad 61) :: rest)) :=
  cal_i (runV (As := []) (rest := rest) hZ.1 hZ.2.1 hZ.2.2.1 hZ.2.2.2.1 hZ.2.2.2.2.1 hZ.2.2.2.2.2 hP (c_X8_clearText M r M9 hf) wd_4_10 wd_4_8 wd_4_9 wd_1_9 hd_X8_clearText (by decide) rfl rfl rfl hlk hR hsz rfl hW hdg hcs) hS kk
/-! FrameRaiserModel.spaced -/
def bd_X8_spaced_2 (M : Mem) : (Int32) → Option ((Int32) ⊕ (Int32)) :=
  u1 fun v2_1 =>
  if (M 61 9) ≤ v2_1 then
    (some (.inr v2_1))
  else
    (if inb v2_1 80 then
    if (M 69 (ix v2_1)) = (32 : Int32) then
      (some (.inl (v2_1 + (1 : Int32))))
    else
      (some (.inr v2_1))
    else none)
def fn_X8_spaced (g : Nat) (x1 : Int32) (M : Mem) : Option (Int32) :=
  (lpN g (bd_X8_spaced_2 M) x1).bind (u1 fun v2_2 =>
    some v2_2)
theorem dX8_spaced_0 : decode cX8_spaced 0 = .ok (.iload_n 1, 1) := by decide +kernel
theorem dX8_spaced_1 : decode cX8_spaced 1 = .ok (.istore_n 2, 1) := by decide +kernel
theorem dX8_spaced_2 : decode cX8_spaced 2 = .ok (.iload_n 2, 1) := by decide +kernel
theorem dX8_spaced_3 : decode cX8_spaced 3 = .ok (.aload_n 0, 1) := by decide +kernel
theorem dX8_spaced_4 : decode cX8_spaced 4 = .ok (.getfield 104, 3) := by decide +kernel
theorem dX8_spaced_7 : decode cX8_spaced 7 = .ok (.if_icmp .ge 20, 3) := by decide +kernel
theorem dX8_spaced_10 : decode cX8_spaced 10 = .ok (.aload_n 0, 1) := by decide +kernel
theorem dX8_spaced_11 : decode cX8_spaced 11 = .ok (.getfield 32, 3) := by decide +kernel
theorem dX8_spaced_14 : decode cX8_spaced 14 = .ok (.iload_n 2, 1) := by decide +kernel
theorem dX8_spaced_15 : decode cX8_spaced 15 = .ok (.iaload, 1) := by decide +kernel
theorem dX8_spaced_16 : decode cX8_spaced 16 = .ok (.bipush 32, 2) := by decide +kernel
theorem dX8_spaced_18 : decode cX8_spaced 18 = .ok (.if_icmp .ne 9, 3) := by decide +kernel
theorem dX8_spaced_21 : decode cX8_spaced 21 = .ok (.iinc 2 1, 3) := by decide +kernel
theorem dX8_spaced_24 : decode cX8_spaced 24 = .ok (.goto (-22), 3) := by decide +kernel
theorem dX8_spaced_27 : decode cX8_spaced 27 = .ok (.iload_n 2, 1) := by decide +kernel
theorem dX8_spaced_28 : decode cX8_spaced 28 = .ok (.ireturn, 1) := by decide +kernel
set_option maxHeartbeats 4000000 in
set_option maxRecDepth 100000 in
theorem c_X8_spaced {l : Launch} {X : En} (g : Nat) (x1 : Int32) (M : Mem) (r : Int32) (hf : fn_X8_spaced g x1 M = some r) : Cn l X yX8_spaced cX8_spaced 3 (some .int) 0 0 [.ref (X.ad 61), .int x1] M (Qi X r M) := by
  refine Met.ofW (cc := cX8_spaced) (maxL := 3) (ret := (some .int)) (by decide) rfl ?_
  intro p e s m args below meth c s₁ B hml hv
  obtain ⟨rfl, hP, hk⟩ := hv
  have hx := B.exec
  have hb := B.bytes
  have hr := B.returns
  have hlocks := B.notSynchronized
  have hts : ∀ w ∈ lw_u, w.before ([.ref (X.ad 61), .int x1] : List Value).toArray s = true := fun w hw => atoms_spec (ws := Cond.code yX8_spaced cX8_spaced 3 (some .int) :: lw_u) B.pre w (List.mem_cons_of_mem _ hw)
  have hown : s.vm.findClass RX8 = some m.cls := findClass_of_methodNamed B.named
  have hZ : Fx p c m s ([.ref (X.ad 61), .int x1] : List Value).toArray X cX8_spaced 3 RX8 := ⟨hx, hb, hml, hts, hown, hk⟩
  have hS : va_S X.A s.heap s.heap [] := va_S.rf
  have hl := lv_entry ([.ref (X.ad 61), .int x1]) (n := 3) (Nat.le_of_ble_eq_true rfl)
  rw [lg_entry_eq]
  generalize (lg_sl ([.ref (X.ad 61), .int x1]) ++ List.replicate (3 - (lg_sl ([.ref (X.ad 61), .int x1])).length) Slot.unset).toArray = ls at hl ⊢
  have hl : lv_has ls 3 [(0, .ref (X.ad 61)), (1, .int x1)] := hl
  show WW p l e 0 0 s m [.ref (X.ad 61), .int x1] below meth c X (Qi X r M) s.heap [] 0 ls []
  have hP : wd X M s.heap := hP
  unfold fn_X8_spaced at hf
  have key : ∀ (H : Heap) (locs : List Loc), wd X M H → va_S X.A s.heap H locs → WW p l e 0 0 s m [.ref (X.ad 61), .int x1] below meth c X (Qi X r M) H locs 0 ls [] := by
    intro H locs hP hS
    refine lv_iload_n hx hb dX8_spaced_0 rfl (lv_at hl 1 rfl) ?_
    refine lv_istore_n (lv' := [(2, .int x1), (0, .ref (X.ad 61)), (1, .int x1)]) hx hb dX8_spaced_1 rfl hl (by decide) rfl (fun ls hl => ?_)
    obtain ⟨o2, ho2, hf⟩ := b_d hf
    refine lp_rule (b := bd_X8_spaced_2 M) (P := fun w : Int32 => ∀ (H : Heap) (locs : List Loc) (ls : Array Slot), wd X M H → va_S X.A s.heap H locs → lv_has ls 3 [(2, .int w), (0, .ref (X.ad 61))] → WW p l e 0 0 s m [.ref (X.ad 61), .int x1] below meth c X (Qi X r M) H locs 2 ls []) (K := fun o => ∀ (v2_2 : Int32), o = v2_2 → ∀ (H : Heap) (locs : List Loc) (ls : Array Slot), wd X M H → va_S X.A s.heap H locs → lv_has ls 3 [(2, .int v2_2)] → WW p l e 0 0 s m [.ref (X.ad 61), .int x1] below meth c X (Qi X r M) H locs 27 ls []) ?_ g x1 o2 ho2 ?_ H locs ls hP hS (lv_sub hl [0, 1] rfl)
    · rintro v2_1 o hf hkc2 hke2 H locs ls hP hS hl
      have hf := u1_e hf
      refine lv_iload_n hx hb dX8_spaced_2 rfl (lv_at hl 0 rfl) ?_
      refine lv_aload_n hx hb dX8_spaced_3 rfl (lv_at hl 1 rfl) ?_
      refine gX8_9 hx hb hts hown hk hP wd_3_201 dX8_spaced_4 ?_
      refine lv_icmp_ge (tgt := 27) hx hb dX8_spaced_7 (by decide) (fun c_3 => ?_) (fun c_3 => ?_)
      · have hf := i_t c_3 hf
        exact hke2 _ (Option.some.inj hf).symm _ rfl H locs ls hP hS (lv_sub hl [0] rfl)
      · have hf := i_f c_3 hf
        refine lv_aload_n hx hb dX8_spaced_10 rfl (lv_at hl 1 rfl) ?_
        refine gX8_8 hx hb hts hown hk hP wd_3_200 dX8_spaced_11 ?_
        refine lv_iload_n hx hb dX8_spaced_14 rfl (lv_at hl 0 rfl) ?_
        obtain ⟨q_4, hf⟩ := g_if hf
        refine ald hx hb hk hP (by decide) rfl q_4 dX8_spaced_15 ?_
        refine lv_bipush (v := (32 : Int32)) hx hb dX8_spaced_16 (by decide) ?_
        refine lv_icmp_ne (tgt := 27) hx hb dX8_spaced_18 (by decide) (fun c_5 => ?_) (fun c_5 => ?_)
        · have hf := i_f c_5 hf
          exact hke2 _ (Option.some.inj hf).symm _ rfl H locs ls hP hS (lv_sub hl [0] rfl)
        · have hf := i_t c_5 hf
          refine lv_iinc (v := v2_1 + (1 : Int32)) (lv' := [(2, .int (v2_1 + (1 : Int32))), (0, .ref (X.ad 61))]) hx hb dX8_spaced_21 hl (k := 0) rfl rfl (by decide) rfl (fun ls hl => ?_)
          refine lv_goto (tgt := 2) hx hb dX8_spaced_24 (by decide) ?_
          exact hkc2 _ (Option.some.inj hf).symm H locs ls hP hS (lv_sub hl [0, 1] rfl)
    · intro v2_2 e H locs ls hP hS hl
      subst o2
      have hf := u1_e hf
      refine lv_iload_n hx hb dX8_spaced_27 rfl (lv_at hl 0 rfl) ?_
      have hf := Option.some.inj hf
      exact ret_i hx hb hr hlocks hP hS hf dX8_spaced_28
  exact key s.heap [] hP hS
theorem hd_X8_spaced : Hd yX8_spaced 1 := by decide +kernel
theorem k_X8_spaced {p : Program} {l : Launch} {e : Env} {R : Room} {s : State} {m : MethodId} {args : Array Value} {below : List Frame} {meth : Method} {c : Code} {H : Heap} {locs : List Loc} {cells slots : Nat} {Q : State → Prop} {cc : ByteArray} {nL pc index : Nat} {ls : Array Slot} {rest : List Value} {X : En} {M : Mem} {H0 : Heap} {own : String} {g : Nat} {x1 : Int32} {r : Int32} (hZ : Fx p c m s args X cc nL own) (hP : wd X M H) (hS : va_S X.A H0 H locs) (hsz : ls.size = nL) (hlk : Cond.methodLink own index yX8_spaced ∈ lw_u) (hR : 0 + 1 ≤ R.frames ∧ 8 + (3 + 11) + 0 ≤ R.locals) (hW : (rest.map fun v => v.category).sum ≤ 8) (hdg : decode cc pc = .ok (.invokevirtual index, 3)) (hcs : cells ≤ R.cells ∧ slots ≤ R.slots) (hf : fn_X8_spaced g x1 M = some r)
    (kk : ∀ (H1 : Heap) (locs1 : List Loc), wd X M H1 → va_S X.A H0 H1 locs1 → W p l e R s m args below meth c H1 locs1 cells slots Q (F0 m (pc + 3) ls (.int r :: rest))) : W p l e R s m args below meth c H locs cells slots Q (F0 m pc ls (.int x1 :: .ref (X.ad 61) :: rest)) :=
  cal_i (runV (As := [.int x1]) (rest := rest) hZ.1 hZ.2.1 hZ.2.2.1 hZ.2.2.2.1 hZ.2.2.2.2.1 hZ.2.2.2.2.2 hP (c_X8_spaced g x1 M r hf) wd_4_26 wd_4_25 wd_p_32 wd_1_9 hd_X8_spaced (by decide) rfl rfl rfl hlk hR hsz rfl hW hdg hcs) hS kk
/-! FrameRaiserModel.fails -/
def fn_X8_fails (x1 : Int32) (x2 : Int32) (M : Mem) : Option (Int32 × Mem) :=
  bv (st M 61 10 x1) fun M_1 =>
  bv (st M_1 61 11 x2) fun M_2 =>
  some (M_2 61 9, M_2)
theorem dX8_fails_0 : decode cX8_fails 0 = .ok (.aload_n 0, 1) := by decide +kernel
theorem dX8_fails_1 : decode cX8_fails 1 = .ok (.iload_n 1, 1) := by decide +kernel
theorem dX8_fails_2 : decode cX8_fails 2 = .ok (.putfield 107, 3) := by decide +kernel
theorem dX8_fails_5 : decode cX8_fails 5 = .ok (.aload_n 0, 1) := by decide +kernel
theorem dX8_fails_6 : decode cX8_fails 6 = .ok (.iload_n 2, 1) := by decide +kernel
theorem dX8_fails_7 : decode cX8_fails 7 = .ok (.putfield 110, 3) := by decide +kernel
theorem dX8_fails_10 : decode cX8_fails 10 = .ok (.aload_n 0, 1) := by decide +kernel
theorem dX8_fails_11 : decode cX8_fails 11 = .ok (.getfield 104, 3) := by decide +kernel
theorem dX8_fails_14 : decode cX8_fails 14 = .ok (.ireturn, 1) := by decide +kernel
set_option maxHeartbeats 4000000 in
set_option maxRecDepth 100000 in
theorem c_X8_fails {l : Launch} {X : En} (x1 : Int32) (x2 : Int32) (M : Mem) (r : Int32) (M9 : Mem) (hf : fn_X8_fails x1 x2 M = some (r, M9)) : Cn l X yX8_fails cX8_fails 3 (some .int) 0 0 [.ref (X.ad 61), .int x1, .int x2] M (Qi X r M9) := by
  refine Met.ofW (cc := cX8_fails) (maxL := 3) (ret := (some .int)) (by decide) rfl ?_
  intro p e s m args below meth c s₁ B hml hv
  obtain ⟨rfl, hP, hk⟩ := hv
  have hx := B.exec
  have hb := B.bytes
  have hr := B.returns
  have hlocks := B.notSynchronized
  have hts : ∀ w ∈ lw_u, w.before ([.ref (X.ad 61), .int x1, .int x2] : List Value).toArray s = true := fun w hw => atoms_spec (ws := Cond.code yX8_fails cX8_fails 3 (some .int) :: lw_u) B.pre w (List.mem_cons_of_mem _ hw)
  have hown : s.vm.findClass RX8 = some m.cls := findClass_of_methodNamed B.named
  have hZ : Fx p c m s ([.ref (X.ad 61), .int x1, .int x2] : List Value).toArray X cX8_fails 3 RX8 := ⟨hx, hb, hml, hts, hown, hk⟩
  have hS : va_S X.A s.heap s.heap [] := va_S.rf
  have hl := lv_entry ([.ref (X.ad 61), .int x1, .int x2]) (n := 3) (Nat.le_of_ble_eq_true rfl)
  rw [lg_entry_eq]
  generalize (lg_sl ([.ref (X.ad 61), .int x1, .int x2]) ++ List.replicate (3 - (lg_sl ([.ref (X.ad 61), .int x1, .int x2])).length) Slot.unset).toArray = ls at hl ⊢
  have hl : lv_has ls 3 [(0, .ref (X.ad 61)), (1, .int x1), (2, .int x2)] := hl
  show WW p l e 0 0 s m [.ref (X.ad 61), .int x1, .int x2] below meth c X (Qi X r M9) s.heap [] 0 ls []
  have hP : wd X M s.heap := hP
  unfold fn_X8_fails at hf
  have key : ∀ (H : Heap) (locs : List Loc), wd X M H → va_S X.A s.heap H locs → WW p l e 0 0 s m [.ref (X.ad 61), .int x1, .int x2] below meth c X (Qi X r M9) H locs 0 ls [] := by
    intro H locs hP hS
    refine lv_aload_n hx hb dX8_fails_0 rfl (lv_at hl 0 rfl) ?_
    refine lv_iload_n hx hb dX8_fails_1 rfl (lv_at hl 1 rfl) ?_
    refine pX8_10 hx hb hts hown hk hP hS wd_3_202 dX8_fails_2 (fun H locs M_1 e_M_1 hP hS => ?_)
    have hf := b_v hf e_M_1
    refine lv_aload_n hx hb dX8_fails_5 rfl (lv_at hl 0 rfl) ?_
    refine lv_iload_n hx hb dX8_fails_6 rfl (lv_at hl 2 rfl) ?_
    refine pX8_11 hx hb hts hown hk hP hS wd_3_203 dX8_fails_7 (fun H locs M_2 e_M_2 hP hS => ?_)
    have hf := b_v hf e_M_2
    refine lv_aload_n hx hb dX8_fails_10 rfl (lv_at hl 0 rfl) ?_
    refine gX8_9 hx hb hts hown hk hP wd_3_201 dX8_fails_11 ?_
    have hf := Option.some.inj hf
    obtain ⟨e1, e2⟩ := Prod.mk.inj hf
    rw [e2] at hP
    exact ret_i hx hb hr hlocks hP hS e1 dX8_fails_14
  exact key s.heap [] hP hS
theorem hd_X8_fails : Hd yX8_fails 2 := by decide +kernel
theorem k_X8_fails {p : Program} {l : Launch} {e : Env} {R : Room} {s : State} {m : MethodId} {args : Array Value} {below : List Frame} {meth : Method} {c : Code} {H : Heap} {locs : List Loc} {cells slots : Nat} {Q : State → Prop} {cc : ByteArray} {nL pc index : Nat} {ls : Array Slot} {rest : List Value} {X : En} {M : Mem} {H0 : Heap} {own : String} {x1 : Int32} {x2 : Int32} {r : Int32} {M9 : Mem} (hZ : Fx p c m s args X cc nL own) (hP : wd X M H) (hS : va_S X.A H0 H locs) (hsz : ls.size = nL) (hlk : Cond.methodLink own index yX8_fails ∈ lw_u) (hR : 0 + 1 ≤ R.frames ∧ 8 + (3 + 11) + 0 ≤ R.locals) (hW : (rest.map fun v => v.category).sum ≤ 8) (hdg : decode cc pc = .ok (.invokevirtual index, 3)) (hcs : cells ≤ R.cells ∧ slots ≤ R.slots) (hf : fn_X8_fails x1 x2 M = some (r, M9))
    (kk : ∀ (H1 : Heap) (locs1 : List Loc), wd X M9 H1 → va_S X.A H0 H1 locs1 → W p l e R s m args below meth c H1 locs1 cells slots Q (F0 m (pc + 3) ls (.int r :: rest))) : W p l e R s m args below meth c H locs cells slots Q (F0 m pc ls (.int x2 :: .int x1 :: .ref (X.ad 61) :: rest)) :=
  cal_i (runV (As := [.int x1, .int x2]) (rest := rest) hZ.1 hZ.2.1 hZ.2.2.1 hZ.2.2.2.1 hZ.2.2.2.2.1 hZ.2.2.2.2.2 hP (c_X8_fails x1 x2 M r M9 hf) wd_4_38 wd_4_37 wd_p_35 wd_1_9 hd_X8_fails (by decide) rfl rfl rfl hlk hR hsz rfl hW hdg hcs) hS kk
/-! FrameRaiserModel.digit -/
def fn_X8_digit (x1 : Int32) (M : Mem) : Option (Int32) :=
  if (M 61 9) ≤ x1 then
    (some (-9 : Int32))
  else
    (if inb x1 80 then
    if (fn_X8_in (M 69 (ix x1)) (48 : Int32) (57 : Int32)) = 0 then
      (some (-9 : Int32))
    else
      (if inb x1 80 then
      some ((M 69 (ix x1)) - (48 : Int32))
      else none)
    else none)
theorem dX8_digit_0 : decode cX8_digit 0 = .ok (.iload_n 1, 1) := by decide +kernel
theorem dX8_digit_1 : decode cX8_digit 1 = .ok (.aload_n 0, 1) := by decide +kernel
theorem dX8_digit_2 : decode cX8_digit 2 = .ok (.getfield 104, 3) := by decide +kernel
theorem dX8_digit_5 : decode cX8_digit 5 = .ok (.if_icmp .ge 31, 3) := by decide +kernel
theorem dX8_digit_8 : decode cX8_digit 8 = .ok (.aload_n 0, 1) := by decide +kernel
theorem dX8_digit_9 : decode cX8_digit 9 = .ok (.getfield 32, 3) := by decide +kernel
theorem dX8_digit_12 : decode cX8_digit 12 = .ok (.iload_n 1, 1) := by decide +kernel
theorem dX8_digit_13 : decode cX8_digit 13 = .ok (.iaload, 1) := by decide +kernel
theorem dX8_digit_14 : decode cX8_digit 14 = .ok (.bipush 48, 2) := by decide +kernel
theorem dX8_digit_16 : decode cX8_digit 16 = .ok (.bipush 57, 2) := by decide +kernel
theorem dX8_digit_18 : decode cX8_digit 18 = .ok (.invokestatic 49, 3) := by decide +kernel
theorem dX8_digit_21 : decode cX8_digit 21 = .ok (.ifCond .eq 15, 3) := by decide +kernel
theorem dX8_digit_24 : decode cX8_digit 24 = .ok (.aload_n 0, 1) := by decide +kernel
theorem dX8_digit_25 : decode cX8_digit 25 = .ok (.getfield 32, 3) := by decide +kernel
theorem dX8_digit_28 : decode cX8_digit 28 = .ok (.iload_n 1, 1) := by decide +kernel
theorem dX8_digit_29 : decode cX8_digit 29 = .ok (.iaload, 1) := by decide +kernel
theorem dX8_digit_30 : decode cX8_digit 30 = .ok (.bipush 48, 2) := by decide +kernel
theorem dX8_digit_32 : decode cX8_digit 32 = .ok (.isub, 1) := by decide +kernel
theorem dX8_digit_33 : decode cX8_digit 33 = .ok (.goto 5, 3) := by decide +kernel
theorem dX8_digit_36 : decode cX8_digit 36 = .ok (.bipush (-9), 2) := by decide +kernel
theorem dX8_digit_38 : decode cX8_digit 38 = .ok (.ireturn, 1) := by decide +kernel
set_option maxHeartbeats 4000000 in
set_option maxRecDepth 100000 in
theorem c_X8_digit {l : Launch} {X : En} (x1 : Int32) (M : Mem) (r : Int32) (hf : fn_X8_digit x1 M = some r) : Cn l X yX8_digit cX8_digit 2 (some .int) 1 22 [.ref (X.ad 61), .int x1] M (Qi X r M) := by
  refine Met.ofW (cc := cX8_digit) (maxL := 2) (ret := (some .int)) (by decide) rfl ?_
  intro p e s m args below meth c s₁ B hml hv
  obtain ⟨rfl, hP, hk⟩ := hv
  have hx := B.exec
  have hb := B.bytes
  have hr := B.returns
  have hlocks := B.notSynchronized
  have hts : ∀ w ∈ lw_u, w.before ([.ref (X.ad 61), .int x1] : List Value).toArray s = true := fun w hw => atoms_spec (ws := Cond.code yX8_digit cX8_digit 2 (some .int) :: lw_u) B.pre w (List.mem_cons_of_mem _ hw)
  have hown : s.vm.findClass RX8 = some m.cls := findClass_of_methodNamed B.named
  have hZ : Fx p c m s ([.ref (X.ad 61), .int x1] : List Value).toArray X cX8_digit 2 RX8 := ⟨hx, hb, hml, hts, hown, hk⟩
  have hS : va_S X.A s.heap s.heap [] := va_S.rf
  have hl := lv_entry ([.ref (X.ad 61), .int x1]) (n := 2) (Nat.le_of_ble_eq_true rfl)
  rw [lg_entry_eq]
  generalize (lg_sl ([.ref (X.ad 61), .int x1]) ++ List.replicate (2 - (lg_sl ([.ref (X.ad 61), .int x1])).length) Slot.unset).toArray = ls at hl ⊢
  have hl : lv_has ls 2 [(0, .ref (X.ad 61)), (1, .int x1)] := hl
  show WW p l e 1 22 s m [.ref (X.ad 61), .int x1] below meth c X (Qi X r M) s.heap [] 0 ls []
  have hP : wd X M s.heap := hP
  unfold fn_X8_digit at hf
  have key : ∀ (H : Heap) (locs : List Loc), wd X M H → va_S X.A s.heap H locs → WW p l e 1 22 s m [.ref (X.ad 61), .int x1] below meth c X (Qi X r M) H locs 0 ls [] := by
    intro H locs hP hS
    refine lv_iload_n hx hb dX8_digit_0 rfl (lv_at hl 1 rfl) ?_
    refine lv_aload_n hx hb dX8_digit_1 rfl (lv_at hl 0 rfl) ?_
    refine gX8_9 hx hb hts hown hk hP wd_3_201 dX8_digit_2 ?_
    refine lv_icmp_ge (tgt := 36) hx hb dX8_digit_5 (by decide) (fun c_1 => ?_) (fun c_1 => ?_)
    · have hf := i_t c_1 hf
      refine lv_bipush (v := (-9 : Int32)) hx hb dX8_digit_36 (by decide) ?_
      have hf := Option.some.inj hf
      exact ret_i hx hb hr hlocks hP hS hf dX8_digit_38
    · have hf := i_f c_1 hf
      refine lv_aload_n hx hb dX8_digit_8 rfl (lv_at hl 0 rfl) ?_
      refine gX8_8 hx hb hts hown hk hP wd_3_200 dX8_digit_9 ?_
      refine lv_iload_n hx hb dX8_digit_12 rfl (lv_at hl 1 rfl) ?_
      obtain ⟨q_2, hf⟩ := g_if hf
      refine ald hx hb hk hP (by decide) rfl q_2 dX8_digit_13 ?_
      refine lv_bipush (v := (48 : Int32)) hx hb dX8_digit_14 (by decide) ?_
      refine lv_bipush (v := (57 : Int32)) hx hb dX8_digit_16 (by decide) ?_
      refine k_X8_in hZ hP hS hl.1 wd_3_186 ⟨Nat.le_of_ble_eq_true rfl, Nat.le_of_ble_eq_true rfl⟩ (Nat.le_of_ble_eq_true rfl) dX8_digit_18 ⟨Nat.zero_le _, Nat.zero_le _⟩ (fun H locs hP hS => ?_)
      refine lv_if_eq (tgt := 36) hx hb dX8_digit_21 (by decide) (fun c_3 => ?_) (fun c_3 => ?_)
      · have hf := i_t c_3 hf
        refine lv_bipush (v := (-9 : Int32)) hx hb dX8_digit_36 (by decide) ?_
        have hf := Option.some.inj hf
        exact ret_i hx hb hr hlocks hP hS hf dX8_digit_38
      · have hf := i_f c_3 hf
        refine lv_aload_n hx hb dX8_digit_24 rfl (lv_at hl 0 rfl) ?_
        refine gX8_8 hx hb hts hown hk hP wd_3_200 dX8_digit_25 ?_
        refine lv_iload_n hx hb dX8_digit_28 rfl (lv_at hl 1 rfl) ?_
        obtain ⟨q_4, hf⟩ := g_if hf
        refine ald hx hb hk hP (by decide) rfl q_4 dX8_digit_29 ?_
        refine lv_bipush (v := (48 : Int32)) hx hb dX8_digit_30 (by decide) ?_
        refine lv_isub hx hb dX8_digit_32 ?_
        refine lv_goto (tgt := 38) hx hb dX8_digit_33 (by decide) ?_
        have hf := Option.some.inj hf
        exact ret_i hx hb hr hlocks hP hS hf dX8_digit_38
  exact key s.heap [] hP hS
theorem hd_X8_digit : Hd yX8_digit 1 := by decide +kernel
theorem k_X8_digit {p : Program} {l : Launch} {e : Env} {R : Room} {s : State} {m : MethodId} {args : Array Value} {below : List Frame} {meth : Method} {c : Code} {H : Heap} {locs : List Loc} {cells slots : Nat} {Q : State → Prop} {cc : ByteArray} {nL pc index : Nat} {ls : Array Slot} {rest : List Value} {X : En} {M : Mem} {H0 : Heap} {own : String} {x1 : Int32} {r : Int32} (hZ : Fx p c m s args X cc nL own) (hP : wd X M H) (hS : va_S X.A H0 H locs) (hsz : ls.size = nL) (hlk : Cond.methodLink own index yX8_digit ∈ lw_u) (hR : 1 + 1 ≤ R.frames ∧ 8 + (2 + 11) + 22 ≤ R.locals) (hW : (rest.map fun v => v.category).sum ≤ 8) (hdg : decode cc pc = .ok (.invokevirtual index, 3)) (hcs : cells ≤ R.cells ∧ slots ≤ R.slots) (hf : fn_X8_digit x1 M = some r)
    (kk : ∀ (H1 : Heap) (locs1 : List Loc), wd X M H1 → va_S X.A H0 H1 locs1 → W p l e R s m args below meth c H1 locs1 cells slots Q (F0 m (pc + 3) ls (.int r :: rest))) : W p l e R s m args below meth c H locs cells slots Q (F0 m pc ls (.int x1 :: .ref (X.ad 61) :: rest)) :=
  cal_i (runV (As := [.int x1]) (rest := rest) hZ.1 hZ.2.1 hZ.2.2.1 hZ.2.2.2.1 hZ.2.2.2.2.1 hZ.2.2.2.2.2 hP (c_X8_digit x1 M r hf) wd_4_34 wd_4_33 wd_p_34 wd_1_9 hd_X8_digit (by decide) rfl rfl rfl hlk hR hsz rfl hW hdg hcs) hS kk
/-! FrameRaiserModel.readsBox -/
def jn_X8_readsBox_70 (v3_9 : Int32) (x2 : Int32) (M_10 : Mem) : Option ((Int32 × Mem) ⊕ ((Mem) ⊕ (Int32 × Mem))) :=
  (fn_X8_fails (2 : Int32) (x2 + v3_9) M_10).bind (u2 fun r_11 M_12 =>
  some (.inr (.inr (r_11, M_12))))
def bd_X8_readsBox_2 (x2 : Int32) : (Int32 × Mem) → Option ((Int32 × Mem) ⊕ ((Mem) ⊕ (Int32 × Mem))) :=
  u2 fun v3_1 M_2 =>
  if (6 : Int32) ≤ v3_1 then
    (some (.inr (.inl M_2)))
  else
    ((fn_X8_digit (x2 + v3_1) M_2).bind fun r_5 =>
    if r_5 = (-9 : Int32) then
      ((fn_X8_fails (1 : Int32) (x2 + v3_1) M_2).bind (u2 fun r_16 M_17 =>
      some (.inr (.inr (r_16, M_17)))))
    else
      (if (3 : Int32) ≤ v3_1 then
        (if r_5 < (1 : Int32) then
          (jn_X8_readsBox_70 v3_1 x2 M_2)
        else
          ((fn_X8_digit ((x2 + v3_1) - (3 : Int32)) M_2).bind fun r_13 =>
          if (r_5 + r_13) ≤ (6 : Int32) then
            (some (.inl (v3_1 + (1 : Int32), M_2)))
          else
            (jn_X8_readsBox_70 v3_1 x2 M_2)))
      else
        (if r_5 ≤ (5 : Int32) then
          (some (.inl (v3_1 + (1 : Int32), M_2)))
        else
          (jn_X8_readsBox_70 v3_1 x2 M_2))))
def fn_X8_readsBox (g : Nat) (x1 : Int32) (x2 : Int32) (M : Mem) : Option (Int32 × Mem) :=
  (lpN g (bd_X8_readsBox_2 x2) ((0 : Int32), M)).bind (el (u1 fun M_3 =>
    (fn_X8_digit x2 M_3).bind fun r_18 =>
    (fn_X8_digit (x2 + (1 : Int32)) M_3).bind fun r_19 =>
    (fn_X8_digit (x2 + (2 : Int32)) M_3).bind fun r_20 =>
    (fn_X8_digit (x2 + (3 : Int32)) M_3).bind fun r_21 =>
    (fn_X8_digit (x2 + (4 : Int32)) M_3).bind fun r_22 =>
    (fn_X8_digit (x2 + (5 : Int32)) M_3).bind fun r_23 =>
    (fn_X8_meets g x1 r_18 r_19 r_20 r_21 r_22 r_23 M_3).bind fun r_24 =>
    if r_24 = 0 then
      ((fn_X8_fills g x1 r_18 r_19 r_20 r_21 r_22 r_23 M_3).bind fun M_26 =>
      (fn_X8_spaced g (x2 + (6 : Int32)) M_26).bind fun r_27 =>
      some (r_27, M_26))
    else
      ((fn_X8_fails (3 : Int32) (x2 + (5 : Int32)) M_3).bind (u2 fun r_28 M_29 =>
      some (r_28, M_29)))) (fun rr => some rr))
theorem dX8_readsBox_0 : decode cX8_readsBox 0 = .ok (.iconst 0, 1) := by decide +kernel
theorem dX8_readsBox_1 : decode cX8_readsBox 1 = .ok (.istore_n 3, 1) := by decide +kernel
theorem dX8_readsBox_2 : decode cX8_readsBox 2 = .ok (.iload_n 3, 1) := by decide +kernel
theorem dX8_readsBox_3 : decode cX8_readsBox 3 = .ok (.bipush 6, 2) := by decide +kernel
theorem dX8_readsBox_5 : decode cX8_readsBox 5 = .ok (.if_icmp .ge 80, 3) := by decide +kernel
theorem dX8_readsBox_8 : decode cX8_readsBox 8 = .ok (.aload_n 0, 1) := by decide +kernel
theorem dX8_readsBox_9 : decode cX8_readsBox 9 = .ok (.iload_n 2, 1) := by decide +kernel
theorem dX8_readsBox_10 : decode cX8_readsBox 10 = .ok (.iload_n 3, 1) := by decide +kernel
theorem dX8_readsBox_11 : decode cX8_readsBox 11 = .ok (.iadd, 1) := by decide +kernel
theorem dX8_readsBox_12 : decode cX8_readsBox 12 = .ok (.invokevirtual 113, 3) := by decide +kernel
theorem dX8_readsBox_15 : decode cX8_readsBox 15 = .ok (.istore 4, 2) := by decide +kernel
theorem dX8_readsBox_17 : decode cX8_readsBox 17 = .ok (.iload 4, 2) := by decide +kernel
theorem dX8_readsBox_19 : decode cX8_readsBox 19 = .ok (.bipush (-9), 2) := by decide +kernel
theorem dX8_readsBox_21 : decode cX8_readsBox 21 = .ok (.if_icmp .ne 12, 3) := by decide +kernel
theorem dX8_readsBox_24 : decode cX8_readsBox 24 = .ok (.aload_n 0, 1) := by decide +kernel
theorem dX8_readsBox_25 : decode cX8_readsBox 25 = .ok (.iconst 1, 1) := by decide +kernel
theorem dX8_readsBox_26 : decode cX8_readsBox 26 = .ok (.iload_n 2, 1) := by decide +kernel
theorem dX8_readsBox_27 : decode cX8_readsBox 27 = .ok (.iload_n 3, 1) := by decide +kernel
theorem dX8_readsBox_28 : decode cX8_readsBox 28 = .ok (.iadd, 1) := by decide +kernel
theorem dX8_readsBox_29 : decode cX8_readsBox 29 = .ok (.invokevirtual 116, 3) := by decide +kernel
theorem dX8_readsBox_32 : decode cX8_readsBox 32 = .ok (.ireturn, 1) := by decide +kernel
theorem dX8_readsBox_33 : decode cX8_readsBox 33 = .ok (.iload_n 3, 1) := by decide +kernel
theorem dX8_readsBox_34 : decode cX8_readsBox 34 = .ok (.iconst 3, 1) := by decide +kernel
theorem dX8_readsBox_35 : decode cX8_readsBox 35 = .ok (.if_icmp .ge 12, 3) := by decide +kernel
theorem dX8_readsBox_38 : decode cX8_readsBox 38 = .ok (.iload 4, 2) := by decide +kernel
theorem dX8_readsBox_40 : decode cX8_readsBox 40 = .ok (.iconst 5, 1) := by decide +kernel
theorem dX8_readsBox_41 : decode cX8_readsBox 41 = .ok (.if_icmp .le 38, 3) := by decide +kernel
theorem dX8_readsBox_44 : decode cX8_readsBox 44 = .ok (.goto 26, 3) := by decide +kernel
theorem dX8_readsBox_47 : decode cX8_readsBox 47 = .ok (.iload 4, 2) := by decide +kernel
theorem dX8_readsBox_49 : decode cX8_readsBox 49 = .ok (.iconst 1, 1) := by decide +kernel
theorem dX8_readsBox_50 : decode cX8_readsBox 50 = .ok (.if_icmp .lt 20, 3) := by decide +kernel
theorem dX8_readsBox_53 : decode cX8_readsBox 53 = .ok (.iload 4, 2) := by decide +kernel
theorem dX8_readsBox_55 : decode cX8_readsBox 55 = .ok (.aload_n 0, 1) := by decide +kernel
theorem dX8_readsBox_56 : decode cX8_readsBox 56 = .ok (.iload_n 2, 1) := by decide +kernel
theorem dX8_readsBox_57 : decode cX8_readsBox 57 = .ok (.iload_n 3, 1) := by decide +kernel
theorem dX8_readsBox_58 : decode cX8_readsBox 58 = .ok (.iadd, 1) := by decide +kernel
theorem dX8_readsBox_59 : decode cX8_readsBox 59 = .ok (.iconst 3, 1) := by decide +kernel
theorem dX8_readsBox_60 : decode cX8_readsBox 60 = .ok (.isub, 1) := by decide +kernel
theorem dX8_readsBox_61 : decode cX8_readsBox 61 = .ok (.invokevirtual 113, 3) := by decide +kernel
theorem dX8_readsBox_64 : decode cX8_readsBox 64 = .ok (.iadd, 1) := by decide +kernel
theorem dX8_readsBox_65 : decode cX8_readsBox 65 = .ok (.bipush 6, 2) := by decide +kernel
theorem dX8_readsBox_67 : decode cX8_readsBox 67 = .ok (.if_icmp .le 12, 3) := by decide +kernel
theorem dX8_readsBox_70 : decode cX8_readsBox 70 = .ok (.aload_n 0, 1) := by decide +kernel
theorem dX8_readsBox_71 : decode cX8_readsBox 71 = .ok (.iconst 2, 1) := by decide +kernel
theorem dX8_readsBox_72 : decode cX8_readsBox 72 = .ok (.iload_n 2, 1) := by decide +kernel
theorem dX8_readsBox_73 : decode cX8_readsBox 73 = .ok (.iload_n 3, 1) := by decide +kernel
theorem dX8_readsBox_74 : decode cX8_readsBox 74 = .ok (.iadd, 1) := by decide +kernel
theorem dX8_readsBox_75 : decode cX8_readsBox 75 = .ok (.invokevirtual 116, 3) := by decide +kernel
theorem dX8_readsBox_78 : decode cX8_readsBox 78 = .ok (.ireturn, 1) := by decide +kernel
theorem dX8_readsBox_79 : decode cX8_readsBox 79 = .ok (.iinc 3 1, 3) := by decide +kernel
theorem dX8_readsBox_82 : decode cX8_readsBox 82 = .ok (.goto (-80), 3) := by decide +kernel
theorem dX8_readsBox_85 : decode cX8_readsBox 85 = .ok (.aload_n 0, 1) := by decide +kernel
theorem dX8_readsBox_86 : decode cX8_readsBox 86 = .ok (.iload_n 2, 1) := by decide +kernel
theorem dX8_readsBox_87 : decode cX8_readsBox 87 = .ok (.invokevirtual 113, 3) := by decide +kernel
theorem dX8_readsBox_90 : decode cX8_readsBox 90 = .ok (.istore_n 3, 1) := by decide +kernel
theorem dX8_readsBox_91 : decode cX8_readsBox 91 = .ok (.aload_n 0, 1) := by decide +kernel
theorem dX8_readsBox_92 : decode cX8_readsBox 92 = .ok (.iload_n 2, 1) := by decide +kernel
theorem dX8_readsBox_93 : decode cX8_readsBox 93 = .ok (.iconst 1, 1) := by decide +kernel
theorem dX8_readsBox_94 : decode cX8_readsBox 94 = .ok (.iadd, 1) := by decide +kernel
theorem dX8_readsBox_95 : decode cX8_readsBox 95 = .ok (.invokevirtual 113, 3) := by decide +kernel
theorem dX8_readsBox_98 : decode cX8_readsBox 98 = .ok (.istore 4, 2) := by decide +kernel
theorem dX8_readsBox_100 : decode cX8_readsBox 100 = .ok (.aload_n 0, 1) := by decide +kernel
theorem dX8_readsBox_101 : decode cX8_readsBox 101 = .ok (.iload_n 2, 1) := by decide +kernel
theorem dX8_readsBox_102 : decode cX8_readsBox 102 = .ok (.iconst 2, 1) := by decide +kernel
theorem dX8_readsBox_103 : decode cX8_readsBox 103 = .ok (.iadd, 1) := by decide +kernel
theorem dX8_readsBox_104 : decode cX8_readsBox 104 = .ok (.invokevirtual 113, 3) := by decide +kernel
theorem dX8_readsBox_107 : decode cX8_readsBox 107 = .ok (.istore 5, 2) := by decide +kernel
theorem dX8_readsBox_109 : decode cX8_readsBox 109 = .ok (.aload_n 0, 1) := by decide +kernel
theorem dX8_readsBox_110 : decode cX8_readsBox 110 = .ok (.iload_n 2, 1) := by decide +kernel
theorem dX8_readsBox_111 : decode cX8_readsBox 111 = .ok (.iconst 3, 1) := by decide +kernel
theorem dX8_readsBox_112 : decode cX8_readsBox 112 = .ok (.iadd, 1) := by decide +kernel
theorem dX8_readsBox_113 : decode cX8_readsBox 113 = .ok (.invokevirtual 113, 3) := by decide +kernel
theorem dX8_readsBox_116 : decode cX8_readsBox 116 = .ok (.istore 6, 2) := by decide +kernel
theorem dX8_readsBox_118 : decode cX8_readsBox 118 = .ok (.aload_n 0, 1) := by decide +kernel
theorem dX8_readsBox_119 : decode cX8_readsBox 119 = .ok (.iload_n 2, 1) := by decide +kernel
theorem dX8_readsBox_120 : decode cX8_readsBox 120 = .ok (.iconst 4, 1) := by decide +kernel
theorem dX8_readsBox_121 : decode cX8_readsBox 121 = .ok (.iadd, 1) := by decide +kernel
theorem dX8_readsBox_122 : decode cX8_readsBox 122 = .ok (.invokevirtual 113, 3) := by decide +kernel
theorem dX8_readsBox_125 : decode cX8_readsBox 125 = .ok (.istore 7, 2) := by decide +kernel
theorem dX8_readsBox_127 : decode cX8_readsBox 127 = .ok (.aload_n 0, 1) := by decide +kernel
theorem dX8_readsBox_128 : decode cX8_readsBox 128 = .ok (.iload_n 2, 1) := by decide +kernel
theorem dX8_readsBox_129 : decode cX8_readsBox 129 = .ok (.iconst 5, 1) := by decide +kernel
theorem dX8_readsBox_130 : decode cX8_readsBox 130 = .ok (.iadd, 1) := by decide +kernel
theorem dX8_readsBox_131 : decode cX8_readsBox 131 = .ok (.invokevirtual 113, 3) := by decide +kernel
theorem dX8_readsBox_134 : decode cX8_readsBox 134 = .ok (.istore 8, 2) := by decide +kernel
theorem dX8_readsBox_136 : decode cX8_readsBox 136 = .ok (.aload_n 0, 1) := by decide +kernel
theorem dX8_readsBox_137 : decode cX8_readsBox 137 = .ok (.iload_n 1, 1) := by decide +kernel
theorem dX8_readsBox_138 : decode cX8_readsBox 138 = .ok (.iload_n 3, 1) := by decide +kernel
theorem dX8_readsBox_139 : decode cX8_readsBox 139 = .ok (.iload 4, 2) := by decide +kernel
theorem dX8_readsBox_141 : decode cX8_readsBox 141 = .ok (.iload 5, 2) := by decide +kernel
theorem dX8_readsBox_143 : decode cX8_readsBox 143 = .ok (.iload 6, 2) := by decide +kernel
theorem dX8_readsBox_145 : decode cX8_readsBox 145 = .ok (.iload 7, 2) := by decide +kernel
theorem dX8_readsBox_147 : decode cX8_readsBox 147 = .ok (.iload 8, 2) := by decide +kernel
theorem dX8_readsBox_149 : decode cX8_readsBox 149 = .ok (.invokevirtual 119, 3) := by decide +kernel
theorem dX8_readsBox_152 : decode cX8_readsBox 152 = .ok (.ifCond .eq 12, 3) := by decide +kernel
theorem dX8_readsBox_155 : decode cX8_readsBox 155 = .ok (.aload_n 0, 1) := by decide +kernel
theorem dX8_readsBox_156 : decode cX8_readsBox 156 = .ok (.iconst 3, 1) := by decide +kernel
theorem dX8_readsBox_157 : decode cX8_readsBox 157 = .ok (.iload_n 2, 1) := by decide +kernel
theorem dX8_readsBox_158 : decode cX8_readsBox 158 = .ok (.iconst 5, 1) := by decide +kernel
theorem dX8_readsBox_159 : decode cX8_readsBox 159 = .ok (.iadd, 1) := by decide +kernel
theorem dX8_readsBox_160 : decode cX8_readsBox 160 = .ok (.invokevirtual 116, 3) := by decide +kernel
theorem dX8_readsBox_163 : decode cX8_readsBox 163 = .ok (.ireturn, 1) := by decide +kernel
theorem dX8_readsBox_164 : decode cX8_readsBox 164 = .ok (.aload_n 0, 1) := by decide +kernel
theorem dX8_readsBox_165 : decode cX8_readsBox 165 = .ok (.iload_n 1, 1) := by decide +kernel
theorem dX8_readsBox_166 : decode cX8_readsBox 166 = .ok (.iload_n 3, 1) := by decide +kernel
theorem dX8_readsBox_167 : decode cX8_readsBox 167 = .ok (.iload 4, 2) := by decide +kernel
theorem dX8_readsBox_169 : decode cX8_readsBox 169 = .ok (.iload 5, 2) := by decide +kernel
theorem dX8_readsBox_171 : decode cX8_readsBox 171 = .ok (.iload 6, 2) := by decide +kernel
theorem dX8_readsBox_173 : decode cX8_readsBox 173 = .ok (.iload 7, 2) := by decide +kernel
theorem dX8_readsBox_175 : decode cX8_readsBox 175 = .ok (.iload 8, 2) := by decide +kernel
theorem dX8_readsBox_177 : decode cX8_readsBox 177 = .ok (.invokevirtual 123, 3) := by decide +kernel
theorem dX8_readsBox_180 : decode cX8_readsBox 180 = .ok (.aload_n 0, 1) := by decide +kernel
theorem dX8_readsBox_181 : decode cX8_readsBox 181 = .ok (.iload_n 2, 1) := by decide +kernel
theorem dX8_readsBox_182 : decode cX8_readsBox 182 = .ok (.bipush 6, 2) := by decide +kernel
theorem dX8_readsBox_184 : decode cX8_readsBox 184 = .ok (.iadd, 1) := by decide +kernel
theorem dX8_readsBox_185 : decode cX8_readsBox 185 = .ok (.invokevirtual 127, 3) := by decide +kernel
theorem dX8_readsBox_188 : decode cX8_readsBox 188 = .ok (.ireturn, 1) := by decide +kernel
set_option maxHeartbeats 4000000 in
set_option maxRecDepth 100000 in
theorem c_X8_readsBox {l : Launch} {X : En} (g : Nat) (x1 : Int32) (x2 : Int32) (M : Mem) (r : Int32) (M9 : Mem) (hf : fn_X8_readsBox g x1 x2 M = some (r, M9)) : Cn l X yX8_readsBox cX8_readsBox 9 (some .int) 2 52 [.ref (X.ad 61), .int x1, .int x2] M (Qi X r M9) := by
  refine Met.ofW (cc := cX8_readsBox) (maxL := 9) (ret := (some .int)) (by decide) rfl ?_
  intro p e s m args below meth c s₁ B hml hv
  obtain ⟨rfl, hP, hk⟩ := hv
  have hx := B.exec
  have hb := B.bytes
  have hr := B.returns
  have hlocks := B.notSynchronized
  have hts : ∀ w ∈ lw_u, w.before ([.ref (X.ad 61), .int x1, .int x2] : List Value).toArray s = true := fun w hw => atoms_spec (ws := Cond.code yX8_readsBox cX8_readsBox 9 (some .int) :: lw_u) B.pre w (List.mem_cons_of_mem _ hw)
  have hown : s.vm.findClass RX8 = some m.cls := findClass_of_methodNamed B.named
  have hZ : Fx p c m s ([.ref (X.ad 61), .int x1, .int x2] : List Value).toArray X cX8_readsBox 9 RX8 := ⟨hx, hb, hml, hts, hown, hk⟩
  have hS : va_S X.A s.heap s.heap [] := va_S.rf
  have hl := lv_entry ([.ref (X.ad 61), .int x1, .int x2]) (n := 9) (Nat.le_of_ble_eq_true rfl)
  rw [lg_entry_eq]
  generalize (lg_sl ([.ref (X.ad 61), .int x1, .int x2]) ++ List.replicate (9 - (lg_sl ([.ref (X.ad 61), .int x1, .int x2])).length) Slot.unset).toArray = ls at hl ⊢
  have hl : lv_has ls 9 [(0, .ref (X.ad 61)), (1, .int x1), (2, .int x2)] := hl
  show WW p l e 2 52 s m [.ref (X.ad 61), .int x1, .int x2] below meth c X (Qi X r M9) s.heap [] 0 ls []
  have hP : wd X M s.heap := hP
  unfold fn_X8_readsBox at hf
  have key : ∀ (H : Heap) (locs : List Loc), wd X M H → va_S X.A s.heap H locs → WW p l e 2 52 s m [.ref (X.ad 61), .int x1, .int x2] below meth c X (Qi X r M9) H locs 0 ls [] := by
    intro H locs hP hS
    refine lv_iconst (v := (0 : Int32)) hx hb dX8_readsBox_0 (by decide) ?_
    refine lv_istore_n (lv' := [(3, .int (0 : Int32)), (0, .ref (X.ad 61)), (1, .int x1), (2, .int x2)]) hx hb dX8_readsBox_1 rfl hl (by decide) rfl (fun ls hl => ?_)
    obtain ⟨o2, ho2, hf⟩ := b_d hf
    refine lp_rule (b := bd_X8_readsBox_2 x2) (P := fun w : Int32 × Mem => ∀ (H : Heap) (locs : List Loc) (ls : Array Slot), wd X w.2 H → va_S X.A s.heap H locs → lv_has ls 9 [(3, .int w.1), (0, .ref (X.ad 61)), (1, .int x1), (2, .int x2)] → WW p l e 2 52 s m [.ref (X.ad 61), .int x1, .int x2] below meth c X (Qi X r M9) H locs 2 ls []) (K := fun o => (∀ (M_3 : Mem), o = .inl M_3 → ∀ (H : Heap) (locs : List Loc) (ls : Array Slot), wd X M_3 H → va_S X.A s.heap H locs → lv_has ls 9 [(0, .ref (X.ad 61)), (1, .int x1), (2, .int x2)] → WW p l e 2 52 s m [.ref (X.ad 61), .int x1, .int x2] below meth c X (Qi X r M9) H locs 85 ls []) ∧ (∀ rr : Int32 × Mem, o = .inr rr → rr = (r, M9))) ?_ g ((0 : Int32), M) o2 ho2 ?_ H locs ls hP hS (lv_sub hl [0, 1, 2, 3] rfl)
    · rintro ⟨v3_1, M_2⟩ o hf hkc2 hke2 H locs ls hP hS hl
      have hf := u2_e hf
      have jn70 : ∀ (v3_9 : Int32) (M_10 : Mem), jn_X8_readsBox_70 v3_9 x2 M_10 = some o → ∀ (H : Heap) (locs : List Loc) (ls : Array Slot), wd X M_10 H → va_S X.A s.heap H locs → lv_has ls 9 [(0, .ref (X.ad 61)), (2, .int x2), (3, .int v3_9)] → WW p l e 2 52 s m [.ref (X.ad 61), .int x1, .int x2] below meth c X (Qi X r M9) H locs 70 ls [] := by
        intro v3_9 M_10 hf H locs ls hP hS hl
        unfold jn_X8_readsBox_70 at hf
        refine lv_aload_n hx hb dX8_readsBox_70 rfl (lv_at hl 0 rfl) ?_
        refine lv_iconst (v := (2 : Int32)) hx hb dX8_readsBox_71 (by decide) ?_
        refine lv_iload_n hx hb dX8_readsBox_72 rfl (lv_at hl 1 rfl) ?_
        refine lv_iload_n hx hb dX8_readsBox_73 rfl (lv_at hl 2 rfl) ?_
        refine lv_iadd hx hb dX8_readsBox_74 ?_
        obtain ⟨⟨r_11, M_12⟩, h_r_11, hf⟩ := b_d hf
        have hf := u2_e hf
        refine k_X8_fails hZ hP hS hl.1 wd_4_35 ⟨Nat.le_of_ble_eq_true rfl, Nat.le_of_ble_eq_true rfl⟩ (Nat.le_of_ble_eq_true rfl) dX8_readsBox_75 ⟨Nat.zero_le _, Nat.zero_le _⟩ h_r_11 (fun H locs hP hS => ?_)
        have hf := (hke2 _ (Option.some.inj hf).symm).2 _ rfl
        obtain ⟨e1, e2⟩ := Prod.mk.inj hf
        rw [e2] at hP
        exact ret_i hx hb hr hlocks hP hS e1 dX8_readsBox_78
      refine lv_iload_n hx hb dX8_readsBox_2 rfl (lv_at hl 0 rfl) ?_
      refine lv_bipush (v := (6 : Int32)) hx hb dX8_readsBox_3 (by decide) ?_
      refine lv_icmp_ge (tgt := 85) hx hb dX8_readsBox_5 (by decide) (fun c_4 => ?_) (fun c_4 => ?_)
      · have hf := i_t c_4 hf
        exact (hke2 _ (Option.some.inj hf).symm).1 _ rfl H locs ls hP hS (lv_sub hl [1, 2, 3] rfl)
      · have hf := i_f c_4 hf
        refine lv_aload_n hx hb dX8_readsBox_8 rfl (lv_at hl 1 rfl) ?_
        refine lv_iload_n hx hb dX8_readsBox_9 rfl (lv_at hl 3 rfl) ?_
        refine lv_iload_n hx hb dX8_readsBox_10 rfl (lv_at hl 0 rfl) ?_
        refine lv_iadd hx hb dX8_readsBox_11 ?_
        obtain ⟨r_5, h_r_5, hf⟩ := b_d hf
        refine k_X8_digit hZ hP hS hl.1 wd_4_31 ⟨Nat.le_of_ble_eq_true rfl, Nat.le_of_ble_eq_true rfl⟩ (Nat.le_of_ble_eq_true rfl) dX8_readsBox_12 ⟨Nat.zero_le _, Nat.zero_le _⟩ h_r_5 (fun H locs hP hS => ?_)
        refine lv_istore (lv' := [(4, .int r_5), (3, .int v3_1), (0, .ref (X.ad 61)), (1, .int x1), (2, .int x2)]) hx hb dX8_readsBox_15 hl (by decide) rfl (fun ls hl => ?_)
        refine lv_iload hx hb dX8_readsBox_17 (lv_at hl 0 rfl) ?_
        refine lv_bipush (v := (-9 : Int32)) hx hb dX8_readsBox_19 (by decide) ?_
        refine lv_icmp_ne (tgt := 33) hx hb dX8_readsBox_21 (by decide) (fun c_6 => ?_) (fun c_6 => ?_)
        · have hf := i_f c_6 hf
          refine lv_iload_n hx hb dX8_readsBox_33 rfl (lv_at hl 1 rfl) ?_
          refine lv_iconst (v := (3 : Int32)) hx hb dX8_readsBox_34 (by decide) ?_
          refine lv_icmp_ge (tgt := 47) hx hb dX8_readsBox_35 (by decide) (fun c_7 => ?_) (fun c_7 => ?_)
          · have hf := i_t c_7 hf
            refine lv_iload hx hb dX8_readsBox_47 (lv_at hl 0 rfl) ?_
            refine lv_iconst (v := (1 : Int32)) hx hb dX8_readsBox_49 (by decide) ?_
            refine lv_icmp_lt (tgt := 70) hx hb dX8_readsBox_50 (by decide) (fun c_8 => ?_) (fun c_8 => ?_)
            · have hf := i_t c_8 hf
              exact jn70 v3_1 M_2 hf H locs ls hP hS (lv_sub hl [2, 4, 1] rfl)
            · have hf := i_f c_8 hf
              refine lv_iload hx hb dX8_readsBox_53 (lv_at hl 0 rfl) ?_
              refine lv_aload_n hx hb dX8_readsBox_55 rfl (lv_at hl 2 rfl) ?_
              refine lv_iload_n hx hb dX8_readsBox_56 rfl (lv_at hl 4 rfl) ?_
              refine lv_iload_n hx hb dX8_readsBox_57 rfl (lv_at hl 1 rfl) ?_
              refine lv_iadd hx hb dX8_readsBox_58 ?_
              refine lv_iconst (v := (3 : Int32)) hx hb dX8_readsBox_59 (by decide) ?_
              refine lv_isub hx hb dX8_readsBox_60 ?_
              obtain ⟨r_13, h_r_13, hf⟩ := b_d hf
              refine k_X8_digit hZ hP hS hl.1 wd_4_31 ⟨Nat.le_of_ble_eq_true rfl, Nat.le_of_ble_eq_true rfl⟩ (Nat.le_of_ble_eq_true rfl) dX8_readsBox_61 ⟨Nat.zero_le _, Nat.zero_le _⟩ h_r_13 (fun H locs hP hS => ?_)
              refine lv_iadd hx hb dX8_readsBox_64 ?_
              refine lv_bipush (v := (6 : Int32)) hx hb dX8_readsBox_65 (by decide) ?_
              refine lv_icmp_le (tgt := 79) hx hb dX8_readsBox_67 (by decide) (fun c_14 => ?_) (fun c_14 => ?_)
              · have hf := i_t c_14 hf
                refine lv_iinc (v := v3_1 + (1 : Int32)) (lv' := [(3, .int (v3_1 + (1 : Int32))), (4, .int r_5), (0, .ref (X.ad 61)), (1, .int x1), (2, .int x2)]) hx hb dX8_readsBox_79 hl (k := 1) rfl rfl (by decide) rfl (fun ls hl => ?_)
                refine lv_goto (tgt := 2) hx hb dX8_readsBox_82 (by decide) ?_
                exact hkc2 _ (Option.some.inj hf).symm H locs ls hP hS (lv_sub hl [0, 2, 3, 4] rfl)
              · have hf := i_f c_14 hf
                exact jn70 v3_1 M_2 hf H locs ls hP hS (lv_sub hl [2, 4, 1] rfl)
          · have hf := i_f c_7 hf
            refine lv_iload hx hb dX8_readsBox_38 (lv_at hl 0 rfl) ?_
            refine lv_iconst (v := (5 : Int32)) hx hb dX8_readsBox_40 (by decide) ?_
            refine lv_icmp_le (tgt := 79) hx hb dX8_readsBox_41 (by decide) (fun c_15 => ?_) (fun c_15 => ?_)
            · have hf := i_t c_15 hf
              refine lv_iinc (v := v3_1 + (1 : Int32)) (lv' := [(3, .int (v3_1 + (1 : Int32))), (4, .int r_5), (0, .ref (X.ad 61)), (1, .int x1), (2, .int x2)]) hx hb dX8_readsBox_79 hl (k := 1) rfl rfl (by decide) rfl (fun ls hl => ?_)
              refine lv_goto (tgt := 2) hx hb dX8_readsBox_82 (by decide) ?_
              exact hkc2 _ (Option.some.inj hf).symm H locs ls hP hS (lv_sub hl [0, 2, 3, 4] rfl)
            · have hf := i_f c_15 hf
              refine lv_goto (tgt := 70) hx hb dX8_readsBox_44 (by decide) ?_
              exact jn70 v3_1 M_2 hf H locs ls hP hS (lv_sub hl [2, 4, 1] rfl)
        · have hf := i_t c_6 hf
          refine lv_aload_n hx hb dX8_readsBox_24 rfl (lv_at hl 2 rfl) ?_
          refine lv_iconst (v := (1 : Int32)) hx hb dX8_readsBox_25 (by decide) ?_
          refine lv_iload_n hx hb dX8_readsBox_26 rfl (lv_at hl 4 rfl) ?_
          refine lv_iload_n hx hb dX8_readsBox_27 rfl (lv_at hl 1 rfl) ?_
          refine lv_iadd hx hb dX8_readsBox_28 ?_
          obtain ⟨⟨r_16, M_17⟩, h_r_16, hf⟩ := b_d hf
          have hf := u2_e hf
          refine k_X8_fails hZ hP hS hl.1 wd_4_35 ⟨Nat.le_of_ble_eq_true rfl, Nat.le_of_ble_eq_true rfl⟩ (Nat.le_of_ble_eq_true rfl) dX8_readsBox_29 ⟨Nat.zero_le _, Nat.zero_le _⟩ h_r_16 (fun H locs hP hS => ?_)
          have hf := (hke2 _ (Option.some.inj hf).symm).2 _ rfl
          obtain ⟨e1, e2⟩ := Prod.mk.inj hf
          rw [e2] at hP
          exact ret_i hx hb hr hlocks hP hS e1 dX8_readsBox_32
    · refine ⟨?_, ?_⟩
      · intro M_3 e H locs ls hP hS hl
        subst o2
        have hf := el_l hf
        have hf := u1_e hf
        refine lv_aload_n hx hb dX8_readsBox_85 rfl (lv_at hl 0 rfl) ?_
        refine lv_iload_n hx hb dX8_readsBox_86 rfl (lv_at hl 2 rfl) ?_
        obtain ⟨r_18, h_r_18, hf⟩ := b_d hf
        refine k_X8_digit hZ hP hS hl.1 wd_4_31 ⟨Nat.le_of_ble_eq_true rfl, Nat.le_of_ble_eq_true rfl⟩ (Nat.le_of_ble_eq_true rfl) dX8_readsBox_87 ⟨Nat.zero_le _, Nat.zero_le _⟩ h_r_18 (fun H locs hP hS => ?_)
        refine lv_istore_n (lv' := [(3, .int r_18), (0, .ref (X.ad 61)), (1, .int x1), (2, .int x2)]) hx hb dX8_readsBox_90 rfl hl (by decide) rfl (fun ls hl => ?_)
        refine lv_aload_n hx hb dX8_readsBox_91 rfl (lv_at hl 1 rfl) ?_
        refine lv_iload_n hx hb dX8_readsBox_92 rfl (lv_at hl 3 rfl) ?_
        refine lv_iconst (v := (1 : Int32)) hx hb dX8_readsBox_93 (by decide) ?_
        refine lv_iadd hx hb dX8_readsBox_94 ?_
        obtain ⟨r_19, h_r_19, hf⟩ := b_d hf
        refine k_X8_digit hZ hP hS hl.1 wd_4_31 ⟨Nat.le_of_ble_eq_true rfl, Nat.le_of_ble_eq_true rfl⟩ (Nat.le_of_ble_eq_true rfl) dX8_readsBox_95 ⟨Nat.zero_le _, Nat.zero_le _⟩ h_r_19 (fun H locs hP hS => ?_)
        refine lv_istore (lv' := [(4, .int r_19), (3, .int r_18), (0, .ref (X.ad 61)), (1, .int x1), (2, .int x2)]) hx hb dX8_readsBox_98 hl (by decide) rfl (fun ls hl => ?_)
        refine lv_aload_n hx hb dX8_readsBox_100 rfl (lv_at hl 2 rfl) ?_
        refine lv_iload_n hx hb dX8_readsBox_101 rfl (lv_at hl 4 rfl) ?_
        refine lv_iconst (v := (2 : Int32)) hx hb dX8_readsBox_102 (by decide) ?_
        refine lv_iadd hx hb dX8_readsBox_103 ?_
        obtain ⟨r_20, h_r_20, hf⟩ := b_d hf
        refine k_X8_digit hZ hP hS hl.1 wd_4_31 ⟨Nat.le_of_ble_eq_true rfl, Nat.le_of_ble_eq_true rfl⟩ (Nat.le_of_ble_eq_true rfl) dX8_readsBox_104 ⟨Nat.zero_le _, Nat.zero_le _⟩ h_r_20 (fun H locs hP hS => ?_)
        refine lv_istore (lv' := [(5, .int r_20), (4, .int r_19), (3, .int r_18), (0, .ref (X.ad 61)), (1, .int x1), (2, .int x2)]) hx hb dX8_readsBox_107 hl (by decide) rfl (fun ls hl => ?_)
        refine lv_aload_n hx hb dX8_readsBox_109 rfl (lv_at hl 3 rfl) ?_
        refine lv_iload_n hx hb dX8_readsBox_110 rfl (lv_at hl 5 rfl) ?_
        refine lv_iconst (v := (3 : Int32)) hx hb dX8_readsBox_111 (by decide) ?_
        refine lv_iadd hx hb dX8_readsBox_112 ?_
        obtain ⟨r_21, h_r_21, hf⟩ := b_d hf
        refine k_X8_digit hZ hP hS hl.1 wd_4_31 ⟨Nat.le_of_ble_eq_true rfl, Nat.le_of_ble_eq_true rfl⟩ (Nat.le_of_ble_eq_true rfl) dX8_readsBox_113 ⟨Nat.zero_le _, Nat.zero_le _⟩ h_r_21 (fun H locs hP hS => ?_)
        refine lv_istore (lv' := [(6, .int r_21), (5, .int r_20), (4, .int r_19), (3, .int r_18), (0, .ref (X.ad 61)), (1, .int x1), (2, .int x2)]) hx hb dX8_readsBox_116 hl (by decide) rfl (fun ls hl => ?_)
        refine lv_aload_n hx hb dX8_readsBox_118 rfl (lv_at hl 4 rfl) ?_
        refine lv_iload_n hx hb dX8_readsBox_119 rfl (lv_at hl 6 rfl) ?_
        refine lv_iconst (v := (4 : Int32)) hx hb dX8_readsBox_120 (by decide) ?_
        refine lv_iadd hx hb dX8_readsBox_121 ?_
        obtain ⟨r_22, h_r_22, hf⟩ := b_d hf
        refine k_X8_digit hZ hP hS hl.1 wd_4_31 ⟨Nat.le_of_ble_eq_true rfl, Nat.le_of_ble_eq_true rfl⟩ (Nat.le_of_ble_eq_true rfl) dX8_readsBox_122 ⟨Nat.zero_le _, Nat.zero_le _⟩ h_r_22 (fun H locs hP hS => ?_)
        refine lv_istore (lv' := [(7, .int r_22), (6, .int r_21), (5, .int r_20), (4, .int r_19), (3, .int r_18), (0, .ref (X.ad 61)), (1, .int x1), (2, .int x2)]) hx hb dX8_readsBox_125 hl (by decide) rfl (fun ls hl => ?_)
        refine lv_aload_n hx hb dX8_readsBox_127 rfl (lv_at hl 5 rfl) ?_
        refine lv_iload_n hx hb dX8_readsBox_128 rfl (lv_at hl 7 rfl) ?_
        refine lv_iconst (v := (5 : Int32)) hx hb dX8_readsBox_129 (by decide) ?_
        refine lv_iadd hx hb dX8_readsBox_130 ?_
        obtain ⟨r_23, h_r_23, hf⟩ := b_d hf
        refine k_X8_digit hZ hP hS hl.1 wd_4_31 ⟨Nat.le_of_ble_eq_true rfl, Nat.le_of_ble_eq_true rfl⟩ (Nat.le_of_ble_eq_true rfl) dX8_readsBox_131 ⟨Nat.zero_le _, Nat.zero_le _⟩ h_r_23 (fun H locs hP hS => ?_)
        refine lv_istore (lv' := [(8, .int r_23), (7, .int r_22), (6, .int r_21), (5, .int r_20), (4, .int r_19), (3, .int r_18), (0, .ref (X.ad 61)), (1, .int x1), (2, .int x2)]) hx hb dX8_readsBox_134 hl (by decide) rfl (fun ls hl => ?_)
        refine lv_aload_n hx hb dX8_readsBox_136 rfl (lv_at hl 6 rfl) ?_
        refine lv_iload_n hx hb dX8_readsBox_137 rfl (lv_at hl 7 rfl) ?_
        refine lv_iload_n hx hb dX8_readsBox_138 rfl (lv_at hl 5 rfl) ?_
        refine lv_iload hx hb dX8_readsBox_139 (lv_at hl 4 rfl) ?_
        refine lv_iload hx hb dX8_readsBox_141 (lv_at hl 3 rfl) ?_
        refine lv_iload hx hb dX8_readsBox_143 (lv_at hl 2 rfl) ?_
        refine lv_iload hx hb dX8_readsBox_145 (lv_at hl 1 rfl) ?_
        refine lv_iload hx hb dX8_readsBox_147 (lv_at hl 0 rfl) ?_
        obtain ⟨r_24, h_r_24, hf⟩ := b_d hf
        refine k_X8_meets hZ hP hS hl.1 wd_4_39 ⟨Nat.le_of_ble_eq_true rfl, Nat.le_of_ble_eq_true rfl⟩ (Nat.le_of_ble_eq_true rfl) dX8_readsBox_149 ⟨Nat.zero_le _, Nat.zero_le _⟩ h_r_24 (fun H locs hP hS => ?_)
        refine lv_if_eq (tgt := 164) hx hb dX8_readsBox_152 (by decide) (fun c_25 => ?_) (fun c_25 => ?_)
        · have hf := i_t c_25 hf
          refine lv_aload_n hx hb dX8_readsBox_164 rfl (lv_at hl 6 rfl) ?_
          refine lv_iload_n hx hb dX8_readsBox_165 rfl (lv_at hl 7 rfl) ?_
          refine lv_iload_n hx hb dX8_readsBox_166 rfl (lv_at hl 5 rfl) ?_
          refine lv_iload hx hb dX8_readsBox_167 (lv_at hl 4 rfl) ?_
          refine lv_iload hx hb dX8_readsBox_169 (lv_at hl 3 rfl) ?_
          refine lv_iload hx hb dX8_readsBox_171 (lv_at hl 2 rfl) ?_
          refine lv_iload hx hb dX8_readsBox_173 (lv_at hl 1 rfl) ?_
          refine lv_iload hx hb dX8_readsBox_175 (lv_at hl 0 rfl) ?_
          obtain ⟨M_26, h_M_26, hf⟩ := b_d hf
          refine k_X8_fills hZ hP hS hl.1 wd_4_43 ⟨Nat.le_of_ble_eq_true rfl, Nat.le_of_ble_eq_true rfl⟩ (Nat.le_of_ble_eq_true rfl) dX8_readsBox_177 ⟨Nat.zero_le _, Nat.zero_le _⟩ h_M_26 (fun H locs hP hS => ?_)
          refine lv_aload_n hx hb dX8_readsBox_180 rfl (lv_at hl 6 rfl) ?_
          refine lv_iload_n hx hb dX8_readsBox_181 rfl (lv_at hl 8 rfl) ?_
          refine lv_bipush (v := (6 : Int32)) hx hb dX8_readsBox_182 (by decide) ?_
          refine lv_iadd hx hb dX8_readsBox_184 ?_
          obtain ⟨r_27, h_r_27, hf⟩ := b_d hf
          refine k_X8_spaced hZ hP hS hl.1 wd_4_23 ⟨Nat.le_of_ble_eq_true rfl, Nat.le_of_ble_eq_true rfl⟩ (Nat.le_of_ble_eq_true rfl) dX8_readsBox_185 ⟨Nat.zero_le _, Nat.zero_le _⟩ h_r_27 (fun H locs hP hS => ?_)
          have hf := Option.some.inj hf
          obtain ⟨e1, e2⟩ := Prod.mk.inj hf
          rw [e2] at hP
          exact ret_i hx hb hr hlocks hP hS e1 dX8_readsBox_188
        · have hf := i_f c_25 hf
          refine lv_aload_n hx hb dX8_readsBox_155 rfl (lv_at hl 6 rfl) ?_
          refine lv_iconst (v := (3 : Int32)) hx hb dX8_readsBox_156 (by decide) ?_
          refine lv_iload_n hx hb dX8_readsBox_157 rfl (lv_at hl 8 rfl) ?_
          refine lv_iconst (v := (5 : Int32)) hx hb dX8_readsBox_158 (by decide) ?_
          refine lv_iadd hx hb dX8_readsBox_159 ?_
          obtain ⟨⟨r_28, M_29⟩, h_r_28, hf⟩ := b_d hf
          have hf := u2_e hf
          refine k_X8_fails hZ hP hS hl.1 wd_4_35 ⟨Nat.le_of_ble_eq_true rfl, Nat.le_of_ble_eq_true rfl⟩ (Nat.le_of_ble_eq_true rfl) dX8_readsBox_160 ⟨Nat.zero_le _, Nat.zero_le _⟩ h_r_28 (fun H locs hP hS => ?_)
          have hf := Option.some.inj hf
          obtain ⟨e1, e2⟩ := Prod.mk.inj hf
          rw [e2] at hP
          exact ret_i hx hb hr hlocks hP hS e1 dX8_readsBox_163
      · intro rr e
        subst o2
        have hf := el_r hf
        exact Option.some.inj hf
  exact key s.heap [] hP hS
theorem hd_X8_readsBox : Hd yX8_readsBox 2 := by decide +kernel
theorem k_X8_readsBox {p : Program} {l : Launch} {e : Env} {R : Room} {s : State} {m : MethodId} {args : Array Value} {below : List Frame} {meth : Method} {c : Code} {H : Heap} {locs : List Loc} {cells slots : Nat} {Q : State → Prop} {cc : ByteArray} {nL pc index : Nat} {ls : Array Slot} {rest : List Value} {X : En} {M : Mem} {H0 : Heap} {own : String} {g : Nat} {x1 : Int32} {x2 : Int32} {r : Int32} {M9 : Mem} (hZ : Fx p c m s args X cc nL own) (hP : wd X M H) (hS : va_S X.A H0 H locs) (hsz : ls.size = nL) (hlk : Cond.methodLink own index yX8_readsBox ∈ lw_u) (hR : 2 + 1 ≤ R.frames ∧ 8 + (9 + 11) + 52 ≤ R.locals) (hW : (rest.map fun v => v.category).sum ≤ 8) (hdg : decode cc pc = .ok (.invokevirtual index, 3)) (hcs : cells ≤ R.cells ∧ slots ≤ R.slots) (hf : fn_X8_readsBox g x1 x2 M = some (r, M9))
    (kk : ∀ (H1 : Heap) (locs1 : List Loc), wd X M9 H1 → va_S X.A H0 H1 locs1 → W p l e R s m args below meth c H1 locs1 cells slots Q (F0 m (pc + 3) ls (.int r :: rest))) : W p l e R s m args below meth c H locs cells slots Q (F0 m pc ls (.int x2 :: .int x1 :: .ref (X.ad 61) :: rest)) :=
  cal_i (runV (As := [.int x1, .int x2]) (rest := rest) hZ.1 hZ.2.1 hZ.2.2.1 hZ.2.2.2.1 hZ.2.2.2.2.1 hZ.2.2.2.2.2 hP (c_X8_readsBox g x1 x2 M r M9 hf) wd_4_30 wd_4_29 wd_p_33 wd_1_9 hd_X8_readsBox (by decide) rfl rfl rfl hlk hR hsz rfl hW hdg hcs) hS kk
/-! FrameRaiserModel.reads -/
def jn_X8_reads_97 (g : Nat) (v1_15 : Int32) (v2_16 : Int32) (M_17 : Mem) : Option ((Int32 × Mem) ⊕ (Mem)) :=
  if inb v1_15 80 then
  if (M_17 69 (ix v1_15)) = (59 : Int32) then
    (if (M_17 62 (ix (0 : Int32))) = (8 : Int32) then
      ((fn_X8_fails (4 : Int32) v1_15 M_17).bind (u2 fun r_25 M_26 =>
      some (.inl (v1_15, M_26))))
    else
      (bv (st M_17 62 (ix (0 : Int32)) ((M_17 62 (ix (0 : Int32))) + (1 : Int32))) fun M_21 =>
      (fn_X8_spaced g (v1_15 + (1 : Int32)) M_21).bind fun r_22 =>
      (fn_X8_readsBox g (v2_16 + (1 : Int32)) r_22 M_21).bind (u2 fun r_23 M_24 =>
      some (.inl (r_23, M_24)))))
  else
    ((fn_X8_fails (1 : Int32) v1_15 M_17).bind (u2 fun r_27 M_28 =>
    some (.inl (v1_15, M_28))))
  else none
def bd_X8_reads_34 (g : Nat) : (Int32 × Mem) → Option ((Int32 × Mem) ⊕ (Mem)) :=
  u2 fun v1_7 M_8 =>
  if (M_8 61 9) ≤ v1_7 then
    (some (.inr M_8))
  else
    (if (M_8 61 10) = 0 then
      (bv ((M_8 62 (ix (0 : Int32))) - (1 : Int32)) fun v2_12 =>
      if inb v1_7 80 then
      if (M_8 69 (ix v1_7)) = (43 : Int32) then
        (if inb ((3 : Int32) + v2_12) 2270 then
        if (4 : Int32) ≤ (M_8 62 (ix ((3 : Int32) + v2_12))) then
          (jn_X8_reads_97 g v1_7 v2_12 M_8)
        else
          ((fn_X8_spaced g (v1_7 + (1 : Int32)) M_8).bind fun r_31 =>
          (fn_X8_readsBox g v2_12 r_31 M_8).bind (u2 fun r_32 M_33 =>
          some (.inl (r_32, M_33))))
        else none)
      else
        (jn_X8_reads_97 g v1_7 v2_12 M_8)
      else none)
    else
      (some (.inr M_8)))
def fn_X8_reads (g : Nat) (M : Mem) : Option (Mem) :=
  bv (st M 61 10 (0 : Int32)) fun M_1 =>
  (fn_X8_spaced g (0 : Int32) M_1).bind fun r_2 =>
  if r_2 = (M_1 61 9) then
    (some M_1)
  else
    (bv (st M_1 62 (ix (0 : Int32)) (1 : Int32)) fun M_4 =>
    (fn_X8_readsBox g (0 : Int32) r_2 M_4).bind (u2 fun r_5 M_6 =>
    (lpN g (bd_X8_reads_34 g) (r_5, M_6)).bind (u1 fun M_9 =>
      some M_9)))
theorem dX8_reads_0 : decode cX8_reads 0 = .ok (.aload_n 0, 1) := by decide +kernel
theorem dX8_reads_1 : decode cX8_reads 1 = .ok (.iconst 0, 1) := by decide +kernel
theorem dX8_reads_2 : decode cX8_reads 2 = .ok (.putfield 107, 3) := by decide +kernel
theorem dX8_reads_5 : decode cX8_reads 5 = .ok (.aload_n 0, 1) := by decide +kernel
theorem dX8_reads_6 : decode cX8_reads 6 = .ok (.iconst 0, 1) := by decide +kernel
theorem dX8_reads_7 : decode cX8_reads 7 = .ok (.invokevirtual 127, 3) := by decide +kernel
theorem dX8_reads_10 : decode cX8_reads 10 = .ok (.istore_n 1, 1) := by decide +kernel
theorem dX8_reads_11 : decode cX8_reads 11 = .ok (.iload_n 1, 1) := by decide +kernel
theorem dX8_reads_12 : decode cX8_reads 12 = .ok (.aload_n 0, 1) := by decide +kernel
theorem dX8_reads_13 : decode cX8_reads 13 = .ok (.getfield 104, 3) := by decide +kernel
theorem dX8_reads_16 : decode cX8_reads 16 = .ok (.if_icmp .ne 4, 3) := by decide +kernel
theorem dX8_reads_19 : decode cX8_reads 19 = .ok (.return_, 1) := by decide +kernel
theorem dX8_reads_20 : decode cX8_reads 20 = .ok (.aload_n 0, 1) := by decide +kernel
theorem dX8_reads_21 : decode cX8_reads 21 = .ok (.getfield 7, 3) := by decide +kernel
theorem dX8_reads_24 : decode cX8_reads 24 = .ok (.iconst 0, 1) := by decide +kernel
theorem dX8_reads_25 : decode cX8_reads 25 = .ok (.iconst 1, 1) := by decide +kernel
theorem dX8_reads_26 : decode cX8_reads 26 = .ok (.iastore, 1) := by decide +kernel
theorem dX8_reads_27 : decode cX8_reads 27 = .ok (.aload_n 0, 1) := by decide +kernel
theorem dX8_reads_28 : decode cX8_reads 28 = .ok (.iconst 0, 1) := by decide +kernel
theorem dX8_reads_29 : decode cX8_reads 29 = .ok (.iload_n 1, 1) := by decide +kernel
theorem dX8_reads_30 : decode cX8_reads 30 = .ok (.invokevirtual 130, 3) := by decide +kernel
theorem dX8_reads_33 : decode cX8_reads 33 = .ok (.istore_n 1, 1) := by decide +kernel
theorem dX8_reads_34 : decode cX8_reads 34 = .ok (.iload_n 1, 1) := by decide +kernel
theorem dX8_reads_35 : decode cX8_reads 35 = .ok (.aload_n 0, 1) := by decide +kernel
theorem dX8_reads_36 : decode cX8_reads 36 = .ok (.getfield 104, 3) := by decide +kernel
theorem dX8_reads_39 : decode cX8_reads 39 = .ok (.if_icmp .ge 128, 3) := by decide +kernel
theorem dX8_reads_42 : decode cX8_reads 42 = .ok (.aload_n 0, 1) := by decide +kernel
theorem dX8_reads_43 : decode cX8_reads 43 = .ok (.getfield 107, 3) := by decide +kernel
theorem dX8_reads_46 : decode cX8_reads 46 = .ok (.ifCond .ne 121, 3) := by decide +kernel
theorem dX8_reads_49 : decode cX8_reads 49 = .ok (.aload_n 0, 1) := by decide +kernel
theorem dX8_reads_50 : decode cX8_reads 50 = .ok (.getfield 7, 3) := by decide +kernel
theorem dX8_reads_53 : decode cX8_reads 53 = .ok (.iconst 0, 1) := by decide +kernel
theorem dX8_reads_54 : decode cX8_reads 54 = .ok (.iaload, 1) := by decide +kernel
theorem dX8_reads_55 : decode cX8_reads 55 = .ok (.iconst 1, 1) := by decide +kernel
theorem dX8_reads_56 : decode cX8_reads 56 = .ok (.isub, 1) := by decide +kernel
theorem dX8_reads_57 : decode cX8_reads 57 = .ok (.istore_n 2, 1) := by decide +kernel
theorem dX8_reads_58 : decode cX8_reads 58 = .ok (.aload_n 0, 1) := by decide +kernel
theorem dX8_reads_59 : decode cX8_reads 59 = .ok (.getfield 32, 3) := by decide +kernel
theorem dX8_reads_62 : decode cX8_reads 62 = .ok (.iload_n 1, 1) := by decide +kernel
theorem dX8_reads_63 : decode cX8_reads 63 = .ok (.iaload, 1) := by decide +kernel
theorem dX8_reads_64 : decode cX8_reads 64 = .ok (.bipush 43, 2) := by decide +kernel
theorem dX8_reads_66 : decode cX8_reads 66 = .ok (.if_icmp .ne 31, 3) := by decide +kernel
theorem dX8_reads_69 : decode cX8_reads 69 = .ok (.aload_n 0, 1) := by decide +kernel
theorem dX8_reads_70 : decode cX8_reads 70 = .ok (.getfield 7, 3) := by decide +kernel
theorem dX8_reads_73 : decode cX8_reads 73 = .ok (.iconst 3, 1) := by decide +kernel
theorem dX8_reads_74 : decode cX8_reads 74 = .ok (.iload_n 2, 1) := by decide +kernel
theorem dX8_reads_75 : decode cX8_reads 75 = .ok (.iadd, 1) := by decide +kernel
theorem dX8_reads_76 : decode cX8_reads 76 = .ok (.iaload, 1) := by decide +kernel
theorem dX8_reads_77 : decode cX8_reads 77 = .ok (.iconst 4, 1) := by decide +kernel
theorem dX8_reads_78 : decode cX8_reads 78 = .ok (.if_icmp .ge 19, 3) := by decide +kernel
theorem dX8_reads_81 : decode cX8_reads 81 = .ok (.aload_n 0, 1) := by decide +kernel
theorem dX8_reads_82 : decode cX8_reads 82 = .ok (.iload_n 2, 1) := by decide +kernel
theorem dX8_reads_83 : decode cX8_reads 83 = .ok (.aload_n 0, 1) := by decide +kernel
theorem dX8_reads_84 : decode cX8_reads 84 = .ok (.iload_n 1, 1) := by decide +kernel
theorem dX8_reads_85 : decode cX8_reads 85 = .ok (.iconst 1, 1) := by decide +kernel
theorem dX8_reads_86 : decode cX8_reads 86 = .ok (.iadd, 1) := by decide +kernel
theorem dX8_reads_87 : decode cX8_reads 87 = .ok (.invokevirtual 127, 3) := by decide +kernel
theorem dX8_reads_90 : decode cX8_reads 90 = .ok (.invokevirtual 130, 3) := by decide +kernel
theorem dX8_reads_93 : decode cX8_reads 93 = .ok (.istore_n 1, 1) := by decide +kernel
theorem dX8_reads_94 : decode cX8_reads 94 = .ok (.goto 70, 3) := by decide +kernel
theorem dX8_reads_97 : decode cX8_reads 97 = .ok (.aload_n 0, 1) := by decide +kernel
theorem dX8_reads_98 : decode cX8_reads 98 = .ok (.getfield 32, 3) := by decide +kernel
theorem dX8_reads_101 : decode cX8_reads 101 = .ok (.iload_n 1, 1) := by decide +kernel
theorem dX8_reads_102 : decode cX8_reads 102 = .ok (.iaload, 1) := by decide +kernel
theorem dX8_reads_103 : decode cX8_reads 103 = .ok (.bipush 59, 2) := by decide +kernel
theorem dX8_reads_105 : decode cX8_reads 105 = .ok (.if_icmp .eq 13, 3) := by decide +kernel
theorem dX8_reads_108 : decode cX8_reads 108 = .ok (.aload_n 0, 1) := by decide +kernel
theorem dX8_reads_109 : decode cX8_reads 109 = .ok (.iconst 1, 1) := by decide +kernel
theorem dX8_reads_110 : decode cX8_reads 110 = .ok (.iload_n 1, 1) := by decide +kernel
theorem dX8_reads_111 : decode cX8_reads 111 = .ok (.invokevirtual 116, 3) := by decide +kernel
theorem dX8_reads_114 : decode cX8_reads 114 = .ok (.pop, 1) := by decide +kernel
theorem dX8_reads_115 : decode cX8_reads 115 = .ok (.goto 49, 3) := by decide +kernel
theorem dX8_reads_118 : decode cX8_reads 118 = .ok (.aload_n 0, 1) := by decide +kernel
theorem dX8_reads_119 : decode cX8_reads 119 = .ok (.getfield 7, 3) := by decide +kernel
theorem dX8_reads_122 : decode cX8_reads 122 = .ok (.iconst 0, 1) := by decide +kernel
theorem dX8_reads_123 : decode cX8_reads 123 = .ok (.iaload, 1) := by decide +kernel
theorem dX8_reads_124 : decode cX8_reads 124 = .ok (.bipush 8, 2) := by decide +kernel
theorem dX8_reads_126 : decode cX8_reads 126 = .ok (.if_icmp .ne 13, 3) := by decide +kernel
theorem dX8_reads_129 : decode cX8_reads 129 = .ok (.aload_n 0, 1) := by decide +kernel
theorem dX8_reads_130 : decode cX8_reads 130 = .ok (.iconst 4, 1) := by decide +kernel
theorem dX8_reads_131 : decode cX8_reads 131 = .ok (.iload_n 1, 1) := by decide +kernel
theorem dX8_reads_132 : decode cX8_reads 132 = .ok (.invokevirtual 116, 3) := by decide +kernel
theorem dX8_reads_135 : decode cX8_reads 135 = .ok (.pop, 1) := by decide +kernel
theorem dX8_reads_136 : decode cX8_reads 136 = .ok (.goto 28, 3) := by decide +kernel
theorem dX8_reads_139 : decode cX8_reads 139 = .ok (.aload_n 0, 1) := by decide +kernel
theorem dX8_reads_140 : decode cX8_reads 140 = .ok (.getfield 7, 3) := by decide +kernel
theorem dX8_reads_143 : decode cX8_reads 143 = .ok (.iconst 0, 1) := by decide +kernel
theorem dX8_reads_144 : decode cX8_reads 144 = .ok (.dup2, 1) := by decide +kernel
theorem dX8_reads_145 : decode cX8_reads 145 = .ok (.iaload, 1) := by decide +kernel
theorem dX8_reads_146 : decode cX8_reads 146 = .ok (.iconst 1, 1) := by decide +kernel
theorem dX8_reads_147 : decode cX8_reads 147 = .ok (.iadd, 1) := by decide +kernel
theorem dX8_reads_148 : decode cX8_reads 148 = .ok (.iastore, 1) := by decide +kernel
theorem dX8_reads_149 : decode cX8_reads 149 = .ok (.aload_n 0, 1) := by decide +kernel
theorem dX8_reads_150 : decode cX8_reads 150 = .ok (.iload_n 2, 1) := by decide +kernel
theorem dX8_reads_151 : decode cX8_reads 151 = .ok (.iconst 1, 1) := by decide +kernel
theorem dX8_reads_152 : decode cX8_reads 152 = .ok (.iadd, 1) := by decide +kernel
theorem dX8_reads_153 : decode cX8_reads 153 = .ok (.aload_n 0, 1) := by decide +kernel
theorem dX8_reads_154 : decode cX8_reads 154 = .ok (.iload_n 1, 1) := by decide +kernel
theorem dX8_reads_155 : decode cX8_reads 155 = .ok (.iconst 1, 1) := by decide +kernel
theorem dX8_reads_156 : decode cX8_reads 156 = .ok (.iadd, 1) := by decide +kernel
theorem dX8_reads_157 : decode cX8_reads 157 = .ok (.invokevirtual 127, 3) := by decide +kernel
theorem dX8_reads_160 : decode cX8_reads 160 = .ok (.invokevirtual 130, 3) := by decide +kernel
theorem dX8_reads_163 : decode cX8_reads 163 = .ok (.istore_n 1, 1) := by decide +kernel
theorem dX8_reads_164 : decode cX8_reads 164 = .ok (.goto (-130), 3) := by decide +kernel
theorem dX8_reads_167 : decode cX8_reads 167 = .ok (.return_, 1) := by decide +kernel
set_option maxHeartbeats 4000000 in
set_option maxRecDepth 100000 in
theorem c_X8_reads {l : Launch} {X : En} (g : Nat) (M : Mem) (M9 : Mem) (hf : fn_X8_reads g M = some M9) : Cn l X yX8_reads cX8_reads 3 none 3 80 [.ref (X.ad 61)] M (Qv X M9) := by
  refine Met.ofW (cc := cX8_reads) (maxL := 3) (ret := none) (by decide) rfl ?_
  intro p e s m args below meth c s₁ B hml hv
  obtain ⟨rfl, hP, hk⟩ := hv
  have hx := B.exec
  have hb := B.bytes
  have hr := B.returns
  have hlocks := B.notSynchronized
  have hts : ∀ w ∈ lw_u, w.before ([.ref (X.ad 61)] : List Value).toArray s = true := fun w hw => atoms_spec (ws := Cond.code yX8_reads cX8_reads 3 none :: lw_u) B.pre w (List.mem_cons_of_mem _ hw)
  have hown : s.vm.findClass RX8 = some m.cls := findClass_of_methodNamed B.named
  have hZ : Fx p c m s ([.ref (X.ad 61)] : List Value).toArray X cX8_reads 3 RX8 := ⟨hx, hb, hml, hts, hown, hk⟩
  have hS : va_S X.A s.heap s.heap [] := va_S.rf
  have hl := lv_entry ([.ref (X.ad 61)]) (n := 3) (Nat.le_of_ble_eq_true rfl)
  rw [lg_entry_eq]
  generalize (lg_sl ([.ref (X.ad 61)]) ++ List.replicate (3 - (lg_sl ([.ref (X.ad 61)])).length) Slot.unset).toArray = ls at hl ⊢
  have hl : lv_has ls 3 [(0, .ref (X.ad 61))] := hl
  show WW p l e 3 80 s m [.ref (X.ad 61)] below meth c X (Qv X M9) s.heap [] 0 ls []
  have hP : wd X M s.heap := hP
  unfold fn_X8_reads at hf
  have key : ∀ (H : Heap) (locs : List Loc), wd X M H → va_S X.A s.heap H locs → WW p l e 3 80 s m [.ref (X.ad 61)] below meth c X (Qv X M9) H locs 0 ls [] := by
    intro H locs hP hS
    refine lv_aload_n hx hb dX8_reads_0 rfl (lv_at hl 0 rfl) ?_
    refine lv_iconst (v := (0 : Int32)) hx hb dX8_reads_1 (by decide) ?_
    refine pX8_10 hx hb hts hown hk hP hS wd_3_202 dX8_reads_2 (fun H locs M_1 e_M_1 hP hS => ?_)
    have hf := b_v hf e_M_1
    refine lv_aload_n hx hb dX8_reads_5 rfl (lv_at hl 0 rfl) ?_
    refine lv_iconst (v := (0 : Int32)) hx hb dX8_reads_6 (by decide) ?_
    obtain ⟨r_2, h_r_2, hf⟩ := b_d hf
    refine k_X8_spaced hZ hP hS hl.1 wd_4_23 ⟨Nat.le_of_ble_eq_true rfl, Nat.le_of_ble_eq_true rfl⟩ (Nat.le_of_ble_eq_true rfl) dX8_reads_7 ⟨Nat.zero_le _, Nat.zero_le _⟩ h_r_2 (fun H locs hP hS => ?_)
    refine lv_istore_n (lv' := [(1, .int r_2), (0, .ref (X.ad 61))]) hx hb dX8_reads_10 rfl hl (by decide) rfl (fun ls hl => ?_)
    refine lv_iload_n hx hb dX8_reads_11 rfl (lv_at hl 0 rfl) ?_
    refine lv_aload_n hx hb dX8_reads_12 rfl (lv_at hl 1 rfl) ?_
    refine gX8_9 hx hb hts hown hk hP wd_3_201 dX8_reads_13 ?_
    refine lv_icmp_ne (tgt := 20) hx hb dX8_reads_16 (by decide) (fun c_3 => ?_) (fun c_3 => ?_)
    · have hf := i_f c_3 hf
      refine lv_aload_n hx hb dX8_reads_20 rfl (lv_at hl 1 rfl) ?_
      refine gX8_0 hx hb hts hown hk hP wd_3_192 dX8_reads_21 ?_
      refine lv_iconst (v := (0 : Int32)) hx hb dX8_reads_24 (by decide) ?_
      refine lv_iconst (v := (1 : Int32)) hx hb dX8_reads_25 (by decide) ?_
      refine ast hx hb hk hP hS (by decide) (fun _ => rfl) (show inb _ _ from by decide) dX8_reads_26 (fun H locs M_4 e_M_4 hP hS => ?_)
      have hf := b_v hf e_M_4
      refine lv_aload_n hx hb dX8_reads_27 rfl (lv_at hl 1 rfl) ?_
      refine lv_iconst (v := (0 : Int32)) hx hb dX8_reads_28 (by decide) ?_
      refine lv_iload_n hx hb dX8_reads_29 rfl (lv_at hl 0 rfl) ?_
      obtain ⟨⟨r_5, M_6⟩, h_r_5, hf⟩ := b_d hf
      have hf := u2_e hf
      refine k_X8_readsBox hZ hP hS hl.1 wd_4_27 ⟨Nat.le_of_ble_eq_true rfl, Nat.le_of_ble_eq_true rfl⟩ (Nat.le_of_ble_eq_true rfl) dX8_reads_30 ⟨Nat.zero_le _, Nat.zero_le _⟩ h_r_5 (fun H locs hP hS => ?_)
      refine lv_istore_n (lv' := [(1, .int r_5), (0, .ref (X.ad 61))]) hx hb dX8_reads_33 rfl hl (by decide) rfl (fun ls hl => ?_)
      obtain ⟨o34, ho34, hf⟩ := b_d hf
      refine lp_rule (b := bd_X8_reads_34 g) (P := fun w : Int32 × Mem => ∀ (H : Heap) (locs : List Loc) (ls : Array Slot), wd X w.2 H → va_S X.A s.heap H locs → lv_has ls 3 [(1, .int w.1), (0, .ref (X.ad 61))] → WW p l e 3 80 s m [.ref (X.ad 61)] below meth c X (Qv X M9) H locs 34 ls []) (K := fun o => ∀ (M_9 : Mem), o = M_9 → ∀ (H : Heap) (locs : List Loc) (ls : Array Slot), wd X M_9 H → va_S X.A s.heap H locs → lv_has ls 3 [] → WW p l e 3 80 s m [.ref (X.ad 61)] below meth c X (Qv X M9) H locs 167 ls []) ?_ g (r_5, M_6) o34 ho34 ?_ H locs ls hP hS (lv_sub hl [0, 1] rfl)
      · rintro ⟨v1_7, M_8⟩ o hf hkc34 hke34 H locs ls hP hS hl
        have hf := u2_e hf
        have jn97 : ∀ (v1_15 : Int32) (v2_16 : Int32) (M_17 : Mem), jn_X8_reads_97 g v1_15 v2_16 M_17 = some o → ∀ (H : Heap) (locs : List Loc) (ls : Array Slot), wd X M_17 H → va_S X.A s.heap H locs → lv_has ls 3 [(0, .ref (X.ad 61)), (1, .int v1_15), (2, .int v2_16)] → WW p l e 3 80 s m [.ref (X.ad 61)] below meth c X (Qv X M9) H locs 97 ls [] := by
          intro v1_15 v2_16 M_17 hf H locs ls hP hS hl
          unfold jn_X8_reads_97 at hf
          refine lv_aload_n hx hb dX8_reads_97 rfl (lv_at hl 0 rfl) ?_
          refine gX8_8 hx hb hts hown hk hP wd_3_200 dX8_reads_98 ?_
          refine lv_iload_n hx hb dX8_reads_101 rfl (lv_at hl 1 rfl) ?_
          obtain ⟨q_18, hf⟩ := g_if hf
          refine ald hx hb hk hP (by decide) rfl q_18 dX8_reads_102 ?_
          refine lv_bipush (v := (59 : Int32)) hx hb dX8_reads_103 (by decide) ?_
          refine lv_icmp_eq (tgt := 118) hx hb dX8_reads_105 (by decide) (fun c_19 => ?_) (fun c_19 => ?_)
          · have hf := i_t c_19 hf
            refine lv_aload_n hx hb dX8_reads_118 rfl (lv_at hl 0 rfl) ?_
            refine gX8_0 hx hb hts hown hk hP wd_3_192 dX8_reads_119 ?_
            refine lv_iconst (v := (0 : Int32)) hx hb dX8_reads_122 (by decide) ?_
            refine ald hx hb hk hP (by decide) rfl (show inb _ _ from by decide) dX8_reads_123 ?_
            refine lv_bipush (v := (8 : Int32)) hx hb dX8_reads_124 (by decide) ?_
            refine lv_icmp_ne (tgt := 139) hx hb dX8_reads_126 (by decide) (fun c_20 => ?_) (fun c_20 => ?_)
            · have hf := i_f c_20 hf
              refine lv_aload_n hx hb dX8_reads_139 rfl (lv_at hl 0 rfl) ?_
              refine gX8_0 hx hb hts hown hk hP wd_3_192 dX8_reads_140 ?_
              refine lv_iconst (v := (0 : Int32)) hx hb dX8_reads_143 (by decide) ?_
              refine lv_dup2_11 hx hb dX8_reads_144 rfl rfl ?_
              refine ald hx hb hk hP (by decide) rfl (show inb _ _ from by decide) dX8_reads_145 ?_
              refine lv_iconst (v := (1 : Int32)) hx hb dX8_reads_146 (by decide) ?_
              refine lv_iadd hx hb dX8_reads_147 ?_
              refine ast hx hb hk hP hS (by decide) (fun _ => rfl) (show inb _ _ from by decide) dX8_reads_148 (fun H locs M_21 e_M_21 hP hS => ?_)
              have hf := b_v hf e_M_21
              refine lv_aload_n hx hb dX8_reads_149 rfl (lv_at hl 0 rfl) ?_
              refine lv_iload_n hx hb dX8_reads_150 rfl (lv_at hl 2 rfl) ?_
              refine lv_iconst (v := (1 : Int32)) hx hb dX8_reads_151 (by decide) ?_
              refine lv_iadd hx hb dX8_reads_152 ?_
              refine lv_aload_n hx hb dX8_reads_153 rfl (lv_at hl 0 rfl) ?_
              refine lv_iload_n hx hb dX8_reads_154 rfl (lv_at hl 1 rfl) ?_
              refine lv_iconst (v := (1 : Int32)) hx hb dX8_reads_155 (by decide) ?_
              refine lv_iadd hx hb dX8_reads_156 ?_
              obtain ⟨r_22, h_r_22, hf⟩ := b_d hf
              refine k_X8_spaced hZ hP hS hl.1 wd_4_23 ⟨Nat.le_of_ble_eq_true rfl, Nat.le_of_ble_eq_true rfl⟩ (Nat.le_of_ble_eq_true rfl) dX8_reads_157 ⟨Nat.zero_le _, Nat.zero_le _⟩ h_r_22 (fun H locs hP hS => ?_)
              obtain ⟨⟨r_23, M_24⟩, h_r_23, hf⟩ := b_d hf
              have hf := u2_e hf
              refine k_X8_readsBox hZ hP hS hl.1 wd_4_27 ⟨Nat.le_of_ble_eq_true rfl, Nat.le_of_ble_eq_true rfl⟩ (Nat.le_of_ble_eq_true rfl) dX8_reads_160 ⟨Nat.zero_le _, Nat.zero_le _⟩ h_r_23 (fun H locs hP hS => ?_)
              refine lv_istore_n (lv' := [(1, .int r_23), (0, .ref (X.ad 61)), (2, .int v2_16)]) hx hb dX8_reads_163 rfl hl (by decide) rfl (fun ls hl => ?_)
              refine lv_goto (tgt := 34) hx hb dX8_reads_164 (by decide) ?_
              exact hkc34 _ (Option.some.inj hf).symm H locs ls hP hS (lv_sub hl [0, 1] rfl)
            · have hf := i_t c_20 hf
              refine lv_aload_n hx hb dX8_reads_129 rfl (lv_at hl 0 rfl) ?_
              refine lv_iconst (v := (4 : Int32)) hx hb dX8_reads_130 (by decide) ?_
              refine lv_iload_n hx hb dX8_reads_131 rfl (lv_at hl 1 rfl) ?_
              obtain ⟨⟨r_25, M_26⟩, h_r_25, hf⟩ := b_d hf
              have hf := u2_e hf
              refine k_X8_fails hZ hP hS hl.1 wd_4_35 ⟨Nat.le_of_ble_eq_true rfl, Nat.le_of_ble_eq_true rfl⟩ (Nat.le_of_ble_eq_true rfl) dX8_reads_132 ⟨Nat.zero_le _, Nat.zero_le _⟩ h_r_25 (fun H locs hP hS => ?_)
              refine lv_pop hx hb dX8_reads_135 rfl ?_
              refine lv_goto (tgt := 164) hx hb dX8_reads_136 (by decide) ?_
              refine lv_goto (tgt := 34) hx hb dX8_reads_164 (by decide) ?_
              exact hkc34 _ (Option.some.inj hf).symm H locs ls hP hS (lv_sub hl [1, 0] rfl)
          · have hf := i_f c_19 hf
            refine lv_aload_n hx hb dX8_reads_108 rfl (lv_at hl 0 rfl) ?_
            refine lv_iconst (v := (1 : Int32)) hx hb dX8_reads_109 (by decide) ?_
            refine lv_iload_n hx hb dX8_reads_110 rfl (lv_at hl 1 rfl) ?_
            obtain ⟨⟨r_27, M_28⟩, h_r_27, hf⟩ := b_d hf
            have hf := u2_e hf
            refine k_X8_fails hZ hP hS hl.1 wd_4_35 ⟨Nat.le_of_ble_eq_true rfl, Nat.le_of_ble_eq_true rfl⟩ (Nat.le_of_ble_eq_true rfl) dX8_reads_111 ⟨Nat.zero_le _, Nat.zero_le _⟩ h_r_27 (fun H locs hP hS => ?_)
            refine lv_pop hx hb dX8_reads_114 rfl ?_
            refine lv_goto (tgt := 164) hx hb dX8_reads_115 (by decide) ?_
            refine lv_goto (tgt := 34) hx hb dX8_reads_164 (by decide) ?_
            exact hkc34 _ (Option.some.inj hf).symm H locs ls hP hS (lv_sub hl [1, 0] rfl)
        refine lv_iload_n hx hb dX8_reads_34 rfl (lv_at hl 0 rfl) ?_
        refine lv_aload_n hx hb dX8_reads_35 rfl (lv_at hl 1 rfl) ?_
        refine gX8_9 hx hb hts hown hk hP wd_3_201 dX8_reads_36 ?_
        refine lv_icmp_ge (tgt := 167) hx hb dX8_reads_39 (by decide) (fun c_10 => ?_) (fun c_10 => ?_)
        · have hf := i_t c_10 hf
          exact hke34 _ (Option.some.inj hf).symm _ rfl H locs ls hP hS (lv_sub hl [] rfl)
        · have hf := i_f c_10 hf
          refine lv_aload_n hx hb dX8_reads_42 rfl (lv_at hl 1 rfl) ?_
          refine gX8_10 hx hb hts hown hk hP wd_3_202 dX8_reads_43 ?_
          refine lv_if_ne (tgt := 167) hx hb dX8_reads_46 (by decide) (fun c_11 => ?_) (fun c_11 => ?_)
          · have hf := i_f c_11 hf
            exact hke34 _ (Option.some.inj hf).symm _ rfl H locs ls hP hS (lv_sub hl [] rfl)
          · have hf := i_t c_11 hf
            refine lv_aload_n hx hb dX8_reads_49 rfl (lv_at hl 1 rfl) ?_
            refine gX8_0 hx hb hts hown hk hP wd_3_192 dX8_reads_50 ?_
            refine lv_iconst (v := (0 : Int32)) hx hb dX8_reads_53 (by decide) ?_
            refine ald hx hb hk hP (by decide) rfl (show inb _ _ from by decide) dX8_reads_54 ?_
            refine lv_iconst (v := (1 : Int32)) hx hb dX8_reads_55 (by decide) ?_
            refine lv_isub hx hb dX8_reads_56 ?_
            refine lv_topi (fun v2_12 e_v2_12 => ?_)
            have hf := b_v hf e_v2_12
            refine lv_istore_n (lv' := [(2, .int v2_12), (1, .int v1_7), (0, .ref (X.ad 61))]) hx hb dX8_reads_57 rfl hl (by decide) rfl (fun ls hl => ?_)
            refine lv_aload_n hx hb dX8_reads_58 rfl (lv_at hl 2 rfl) ?_
            refine gX8_8 hx hb hts hown hk hP wd_3_200 dX8_reads_59 ?_
            refine lv_iload_n hx hb dX8_reads_62 rfl (lv_at hl 1 rfl) ?_
            obtain ⟨q_13, hf⟩ := g_if hf
            refine ald hx hb hk hP (by decide) rfl q_13 dX8_reads_63 ?_
            refine lv_bipush (v := (43 : Int32)) hx hb dX8_reads_64 (by decide) ?_
            refine lv_icmp_ne (tgt := 97) hx hb dX8_reads_66 (by decide) (fun c_14 => ?_) (fun c_14 => ?_)
            · have hf := i_f c_14 hf
              exact jn97 v1_7 v2_12 M_8 hf H locs ls hP hS (lv_sub hl [2, 1, 0] rfl)
            · have hf := i_t c_14 hf
              refine lv_aload_n hx hb dX8_reads_69 rfl (lv_at hl 2 rfl) ?_
              refine gX8_0 hx hb hts hown hk hP wd_3_192 dX8_reads_70 ?_
              refine lv_iconst (v := (3 : Int32)) hx hb dX8_reads_73 (by decide) ?_
              refine lv_iload_n hx hb dX8_reads_74 rfl (lv_at hl 0 rfl) ?_
              refine lv_iadd hx hb dX8_reads_75 ?_
              obtain ⟨q_29, hf⟩ := g_if hf
              refine ald hx hb hk hP (by decide) rfl q_29 dX8_reads_76 ?_
              refine lv_iconst (v := (4 : Int32)) hx hb dX8_reads_77 (by decide) ?_
              refine lv_icmp_ge (tgt := 97) hx hb dX8_reads_78 (by decide) (fun c_30 => ?_) (fun c_30 => ?_)
              · have hf := i_t c_30 hf
                exact jn97 v1_7 v2_12 M_8 hf H locs ls hP hS (lv_sub hl [2, 1, 0] rfl)
              · have hf := i_f c_30 hf
                refine lv_aload_n hx hb dX8_reads_81 rfl (lv_at hl 2 rfl) ?_
                refine lv_iload_n hx hb dX8_reads_82 rfl (lv_at hl 0 rfl) ?_
                refine lv_aload_n hx hb dX8_reads_83 rfl (lv_at hl 2 rfl) ?_
                refine lv_iload_n hx hb dX8_reads_84 rfl (lv_at hl 1 rfl) ?_
                refine lv_iconst (v := (1 : Int32)) hx hb dX8_reads_85 (by decide) ?_
                refine lv_iadd hx hb dX8_reads_86 ?_
                obtain ⟨r_31, h_r_31, hf⟩ := b_d hf
                refine k_X8_spaced hZ hP hS hl.1 wd_4_23 ⟨Nat.le_of_ble_eq_true rfl, Nat.le_of_ble_eq_true rfl⟩ (Nat.le_of_ble_eq_true rfl) dX8_reads_87 ⟨Nat.zero_le _, Nat.zero_le _⟩ h_r_31 (fun H locs hP hS => ?_)
                obtain ⟨⟨r_32, M_33⟩, h_r_32, hf⟩ := b_d hf
                have hf := u2_e hf
                refine k_X8_readsBox hZ hP hS hl.1 wd_4_27 ⟨Nat.le_of_ble_eq_true rfl, Nat.le_of_ble_eq_true rfl⟩ (Nat.le_of_ble_eq_true rfl) dX8_reads_90 ⟨Nat.zero_le _, Nat.zero_le _⟩ h_r_32 (fun H locs hP hS => ?_)
                refine lv_istore_n (lv' := [(1, .int r_32), (2, .int v2_12), (0, .ref (X.ad 61))]) hx hb dX8_reads_93 rfl hl (by decide) rfl (fun ls hl => ?_)
                refine lv_goto (tgt := 164) hx hb dX8_reads_94 (by decide) ?_
                refine lv_goto (tgt := 34) hx hb dX8_reads_164 (by decide) ?_
                exact hkc34 _ (Option.some.inj hf).symm H locs ls hP hS (lv_sub hl [0, 2] rfl)
      · intro M_9 e H locs ls hP hS hl
        subst o34
        have hf := u1_e hf
        have hf := Option.some.inj hf
        rw [hf] at hP
        exact ret_v hx hb hr hlocks hP hS dX8_reads_167
    · have hf := i_t c_3 hf
      have hf := Option.some.inj hf
      rw [hf] at hP
      exact ret_v hx hb hr hlocks hP hS dX8_reads_19
  exact key s.heap [] hP hS
theorem hd_X8_reads : Hd yX8_reads 0 := by decide +kernel
theorem k_X8_reads {p : Program} {l : Launch} {e : Env} {R : Room} {s : State} {m : MethodId} {args : Array Value} {below : List Frame} {meth : Method} {c : Code} {H : Heap} {locs : List Loc} {cells slots : Nat} {Q : State → Prop} {cc : ByteArray} {nL pc index : Nat} {ls : Array Slot} {rest : List Value} {X : En} {M : Mem} {H0 : Heap} {own : String} {g : Nat} {M9 : Mem} (hZ : Fx p c m s args X cc nL own) (hP : wd X M H) (hS : va_S X.A H0 H locs) (hsz : ls.size = nL) (hlk : Cond.methodLink own index yX8_reads ∈ lw_u) (hR : 3 + 1 ≤ R.frames ∧ 8 + (3 + 11) + 80 ≤ R.locals) (hW : (rest.map fun v => v.category).sum ≤ 8) (hdg : decode cc pc = .ok (.invokevirtual index, 3)) (hcs : cells ≤ R.cells ∧ slots ≤ R.slots) (hf : fn_X8_reads g M = some M9)
    (kk : ∀ (H1 : Heap) (locs1 : List Loc), wd X M9 H1 → va_S X.A H0 H1 locs1 → W p l e R s m args below meth c H1 locs1 cells slots Q (F0 m (pc + 3) ls rest)) : W p l e R s m args below meth c H locs cells slots Q (F0 m pc ls (.ref (X.ad 61) :: rest)) :=
  cal_v (runV (As := []) (rest := rest) hZ.1 hZ.2.1 hZ.2.2.1 hZ.2.2.2.1 hZ.2.2.2.2.1 hZ.2.2.2.2.2 hP (c_X8_reads g M M9 hf) wd_4_22 wd_4_21 wd_p_31 wd_1_9 hd_X8_reads (by decide) rfl rfl rfl hlk hR hsz rfl hW hdg hcs) hS kk
/-! FrameRaiserModel.empties -/
def bd_X8_empties_2 : (Int32 × Mem) → Option ((Int32 × Mem) ⊕ (Mem)) :=
  u2 fun v1_1 M_2 =>
  if (227 : Int32) ≤ v1_1 then
    (some (.inr M_2))
  else
    (if inb v1_1 2270 then
    bv (st M_2 62 (ix v1_1) (0 : Int32)) fun M_5 =>
    some (.inl (v1_1 + (1 : Int32), M_5))
    else none)
def fn_X8_empties (g : Nat) (M : Mem) : Option (Mem) :=
  (lpN g bd_X8_empties_2 ((0 : Int32), M)).bind (u1 fun M_3 =>
    some M_3)
theorem dX8_empties_0 : decode cX8_empties 0 = .ok (.iconst 0, 1) := by decide +kernel
theorem dX8_empties_1 : decode cX8_empties 1 = .ok (.istore_n 1, 1) := by decide +kernel
theorem dX8_empties_2 : decode cX8_empties 2 = .ok (.iload_n 1, 1) := by decide +kernel
theorem dX8_empties_3 : decode cX8_empties 3 = .ok (.sipush 227, 3) := by decide +kernel
theorem dX8_empties_6 : decode cX8_empties 6 = .ok (.if_icmp .ge 16, 3) := by decide +kernel
theorem dX8_empties_9 : decode cX8_empties 9 = .ok (.aload_n 0, 1) := by decide +kernel
theorem dX8_empties_10 : decode cX8_empties 10 = .ok (.getfield 7, 3) := by decide +kernel
theorem dX8_empties_13 : decode cX8_empties 13 = .ok (.iload_n 1, 1) := by decide +kernel
theorem dX8_empties_14 : decode cX8_empties 14 = .ok (.iconst 0, 1) := by decide +kernel
theorem dX8_empties_15 : decode cX8_empties 15 = .ok (.iastore, 1) := by decide +kernel
theorem dX8_empties_16 : decode cX8_empties 16 = .ok (.iinc 1 1, 3) := by decide +kernel
theorem dX8_empties_19 : decode cX8_empties 19 = .ok (.goto (-17), 3) := by decide +kernel
theorem dX8_empties_22 : decode cX8_empties 22 = .ok (.return_, 1) := by decide +kernel
set_option maxHeartbeats 4000000 in
set_option maxRecDepth 100000 in
theorem c_X8_empties {l : Launch} {X : En} (g : Nat) (M : Mem) (M9 : Mem) (hf : fn_X8_empties g M = some M9) : Cn l X yX8_empties cX8_empties 2 none 0 0 [.ref (X.ad 61)] M (Qv X M9) := by
  refine Met.ofW (cc := cX8_empties) (maxL := 2) (ret := none) (by decide) rfl ?_
  intro p e s m args below meth c s₁ B hml hv
  obtain ⟨rfl, hP, hk⟩ := hv
  have hx := B.exec
  have hb := B.bytes
  have hr := B.returns
  have hlocks := B.notSynchronized
  have hts : ∀ w ∈ lw_u, w.before ([.ref (X.ad 61)] : List Value).toArray s = true := fun w hw => atoms_spec (ws := Cond.code yX8_empties cX8_empties 2 none :: lw_u) B.pre w (List.mem_cons_of_mem _ hw)
  have hown : s.vm.findClass RX8 = some m.cls := findClass_of_methodNamed B.named
  have hZ : Fx p c m s ([.ref (X.ad 61)] : List Value).toArray X cX8_empties 2 RX8 := ⟨hx, hb, hml, hts, hown, hk⟩
  have hS : va_S X.A s.heap s.heap [] := va_S.rf
  have hl := lv_entry ([.ref (X.ad 61)]) (n := 2) (Nat.le_of_ble_eq_true rfl)
  rw [lg_entry_eq]
  generalize (lg_sl ([.ref (X.ad 61)]) ++ List.replicate (2 - (lg_sl ([.ref (X.ad 61)])).length) Slot.unset).toArray = ls at hl ⊢
  have hl : lv_has ls 2 [(0, .ref (X.ad 61))] := hl
  show WW p l e 0 0 s m [.ref (X.ad 61)] below meth c X (Qv X M9) s.heap [] 0 ls []
  have hP : wd X M s.heap := hP
  unfold fn_X8_empties at hf
  have key : ∀ (H : Heap) (locs : List Loc), wd X M H → va_S X.A s.heap H locs → WW p l e 0 0 s m [.ref (X.ad 61)] below meth c X (Qv X M9) H locs 0 ls [] := by
    intro H locs hP hS
    refine lv_iconst (v := (0 : Int32)) hx hb dX8_empties_0 (by decide) ?_
    refine lv_istore_n (lv' := [(1, .int (0 : Int32)), (0, .ref (X.ad 61))]) hx hb dX8_empties_1 rfl hl (by decide) rfl (fun ls hl => ?_)
    obtain ⟨o2, ho2, hf⟩ := b_d hf
    refine lp_rule (b := bd_X8_empties_2) (P := fun w : Int32 × Mem => ∀ (H : Heap) (locs : List Loc) (ls : Array Slot), wd X w.2 H → va_S X.A s.heap H locs → lv_has ls 2 [(1, .int w.1), (0, .ref (X.ad 61))] → WW p l e 0 0 s m [.ref (X.ad 61)] below meth c X (Qv X M9) H locs 2 ls []) (K := fun o => ∀ (M_3 : Mem), o = M_3 → ∀ (H : Heap) (locs : List Loc) (ls : Array Slot), wd X M_3 H → va_S X.A s.heap H locs → lv_has ls 2 [] → WW p l e 0 0 s m [.ref (X.ad 61)] below meth c X (Qv X M9) H locs 22 ls []) ?_ g ((0 : Int32), M) o2 ho2 ?_ H locs ls hP hS (lv_sub hl [0, 1] rfl)
    · rintro ⟨v1_1, M_2⟩ o hf hkc2 hke2 H locs ls hP hS hl
      have hf := u2_e hf
      refine lv_iload_n hx hb dX8_empties_2 rfl (lv_at hl 0 rfl) ?_
      refine lv_sipush (v := (227 : Int32)) hx hb dX8_empties_3 (by decide) ?_
      refine lv_icmp_ge (tgt := 22) hx hb dX8_empties_6 (by decide) (fun c_4 => ?_) (fun c_4 => ?_)
      · have hf := i_t c_4 hf
        exact hke2 _ (Option.some.inj hf).symm _ rfl H locs ls hP hS (lv_sub hl [] rfl)
      · have hf := i_f c_4 hf
        refine lv_aload_n hx hb dX8_empties_9 rfl (lv_at hl 1 rfl) ?_
        refine gX8_0 hx hb hts hown hk hP wd_3_192 dX8_empties_10 ?_
        refine lv_iload_n hx hb dX8_empties_13 rfl (lv_at hl 0 rfl) ?_
        refine lv_iconst (v := (0 : Int32)) hx hb dX8_empties_14 (by decide) ?_
        obtain ⟨q_6, hf⟩ := g_if hf
        refine ast hx hb hk hP hS (by decide) (fun _ => rfl) q_6 dX8_empties_15 (fun H locs M_5 e_M_5 hP hS => ?_)
        have hf := b_v hf e_M_5
        refine lv_iinc (v := v1_1 + (1 : Int32)) (lv' := [(1, .int (v1_1 + (1 : Int32))), (0, .ref (X.ad 61))]) hx hb dX8_empties_16 hl (k := 0) rfl rfl (by decide) rfl (fun ls hl => ?_)
        refine lv_goto (tgt := 2) hx hb dX8_empties_19 (by decide) ?_
        exact hkc2 _ (Option.some.inj hf).symm H locs ls hP hS (lv_sub hl [0, 1] rfl)
    · intro M_3 e H locs ls hP hS hl
      subst o2
      have hf := u1_e hf
      have hf := Option.some.inj hf
      rw [hf] at hP
      exact ret_v hx hb hr hlocks hP hS dX8_empties_22
  exact key s.heap [] hP hS
theorem hd_X8_empties : Hd yX8_empties 0 := by decide +kernel
theorem k_X8_empties {p : Program} {l : Launch} {e : Env} {R : Room} {s : State} {m : MethodId} {args : Array Value} {below : List Frame} {meth : Method} {c : Code} {H : Heap} {locs : List Loc} {cells slots : Nat} {Q : State → Prop} {cc : ByteArray} {nL pc index : Nat} {ls : Array Slot} {rest : List Value} {X : En} {M : Mem} {H0 : Heap} {own : String} {g : Nat} {M9 : Mem} (hZ : Fx p c m s args X cc nL own) (hP : wd X M H) (hS : va_S X.A H0 H locs) (hsz : ls.size = nL) (hlk : Cond.methodLink own index yX8_empties ∈ lw_u) (hR : 0 + 1 ≤ R.frames ∧ 8 + (2 + 11) + 0 ≤ R.locals) (hW : (rest.map fun v => v.category).sum ≤ 8) (hdg : decode cc pc = .ok (.invokevirtual index, 3)) (hcs : cells ≤ R.cells ∧ slots ≤ R.slots) (hf : fn_X8_empties g M = some M9)
    (kk : ∀ (H1 : Heap) (locs1 : List Loc), wd X M9 H1 → va_S X.A H0 H1 locs1 → W p l e R s m args below meth c H1 locs1 cells slots Q (F0 m (pc + 3) ls rest)) : W p l e R s m args below meth c H locs cells slots Q (F0 m pc ls (.ref (X.ad 61) :: rest)) :=
  cal_v (runV (As := []) (rest := rest) hZ.1 hZ.2.1 hZ.2.2.1 hZ.2.2.2.1 hZ.2.2.2.2.1 hZ.2.2.2.2.2 hP (c_X8_empties g M M9 hf) wd_4_18 wd_4_17 wd_p_30 wd_1_9 hd_X8_empties (by decide) rfl rfl rfl hlk hR hsz rfl hW hdg hcs) hS kk
/-! FrameRaiserModel.load -/
def bd_X8_load_39 : (Int32 × Mem) → Option ((Int32 × Mem) ⊕ (Mem)) :=
  u2 fun v1_5 M_6 =>
  if (227 : Int32) ≤ v1_5 then
    (some (.inr M_6))
  else
    (if inb v1_5 2270 then
    bv (M_6 62 (ix v1_5)) fun v2_10 =>
    if inb ((2043 : Int32) + v1_5) 2270 then
    if inb v1_5 2270 then
    bv (st M_6 62 (ix v1_5) (M_6 62 (ix ((2043 : Int32) + v1_5)))) fun M_12 =>
    if inb ((2043 : Int32) + v1_5) 2270 then
    bv (st M_12 62 (ix ((2043 : Int32) + v1_5)) v2_10) fun M_14 =>
    some (.inl (v1_5 + (1 : Int32), M_14))
    else none
    else none
    else none
    else none)
def fn_X8_load (g : Nat) (M : Mem) : Option (Int32 × Mem) :=
  (fn_X8_copies g (0 : Int32) (9 : Int32) M).bind fun M_1 =>
  (fn_X8_empties g M_1).bind fun M_2 =>
  (fn_X8_reads g M_2).bind fun M_3 =>
  if (M_3 61 10) = 0 then
    ((lpN g bd_X8_load_39 ((0 : Int32), M_3)).bind (u1 fun M_7 =>
      (fn_X8_records g M_7).bind fun M_16 =>
      (fn_X8_copies g (9 : Int32) (0 : Int32) M_16).bind fun M_17 =>
      (fn_X8_lays g M_17).bind fun M_18 =>
      some (M_18 62 (ix (0 : Int32)), M_18)))
  else
    ((fn_X8_copies g (9 : Int32) (0 : Int32) M_3).bind fun M_19 =>
    some ((-10 : Int32) - (M_19 61 11), M_19))
theorem dX8_load_0 : decode cX8_load 0 = .ok (.aload_n 0, 1) := by decide +kernel
theorem dX8_load_1 : decode cX8_load 1 = .ok (.iconst 0, 1) := by decide +kernel
theorem dX8_load_2 : decode cX8_load 2 = .ok (.bipush 9, 2) := by decide +kernel
theorem dX8_load_4 : decode cX8_load 4 = .ok (.invokevirtual 45, 3) := by decide +kernel
theorem dX8_load_7 : decode cX8_load 7 = .ok (.aload_n 0, 1) := by decide +kernel
theorem dX8_load_8 : decode cX8_load 8 = .ok (.invokevirtual 133, 3) := by decide +kernel
theorem dX8_load_11 : decode cX8_load 11 = .ok (.aload_n 0, 1) := by decide +kernel
theorem dX8_load_12 : decode cX8_load 12 = .ok (.invokevirtual 136, 3) := by decide +kernel
theorem dX8_load_15 : decode cX8_load 15 = .ok (.aload_n 0, 1) := by decide +kernel
theorem dX8_load_16 : decode cX8_load 16 = .ok (.getfield 107, 3) := by decide +kernel
theorem dX8_load_19 : decode cX8_load 19 = .ok (.ifCond .eq 18, 3) := by decide +kernel
theorem dX8_load_22 : decode cX8_load 22 = .ok (.aload_n 0, 1) := by decide +kernel
theorem dX8_load_23 : decode cX8_load 23 = .ok (.bipush 9, 2) := by decide +kernel
theorem dX8_load_25 : decode cX8_load 25 = .ok (.iconst 0, 1) := by decide +kernel
theorem dX8_load_26 : decode cX8_load 26 = .ok (.invokevirtual 45, 3) := by decide +kernel
theorem dX8_load_29 : decode cX8_load 29 = .ok (.bipush (-10), 2) := by decide +kernel
theorem dX8_load_31 : decode cX8_load 31 = .ok (.aload_n 0, 1) := by decide +kernel
theorem dX8_load_32 : decode cX8_load 32 = .ok (.getfield 110, 3) := by decide +kernel
theorem dX8_load_35 : decode cX8_load 35 = .ok (.isub, 1) := by decide +kernel
theorem dX8_load_36 : decode cX8_load 36 = .ok (.ireturn, 1) := by decide +kernel
theorem dX8_load_37 : decode cX8_load 37 = .ok (.iconst 0, 1) := by decide +kernel
theorem dX8_load_38 : decode cX8_load 38 = .ok (.istore_n 1, 1) := by decide +kernel
theorem dX8_load_39 : decode cX8_load 39 = .ok (.iload_n 1, 1) := by decide +kernel
theorem dX8_load_40 : decode cX8_load 40 = .ok (.sipush 227, 3) := by decide +kernel
theorem dX8_load_43 : decode cX8_load 43 = .ok (.if_icmp .ge 43, 3) := by decide +kernel
theorem dX8_load_46 : decode cX8_load 46 = .ok (.aload_n 0, 1) := by decide +kernel
theorem dX8_load_47 : decode cX8_load 47 = .ok (.getfield 7, 3) := by decide +kernel
theorem dX8_load_50 : decode cX8_load 50 = .ok (.iload_n 1, 1) := by decide +kernel
theorem dX8_load_51 : decode cX8_load 51 = .ok (.iaload, 1) := by decide +kernel
theorem dX8_load_52 : decode cX8_load 52 = .ok (.istore_n 2, 1) := by decide +kernel
theorem dX8_load_53 : decode cX8_load 53 = .ok (.aload_n 0, 1) := by decide +kernel
theorem dX8_load_54 : decode cX8_load 54 = .ok (.getfield 7, 3) := by decide +kernel
theorem dX8_load_57 : decode cX8_load 57 = .ok (.iload_n 1, 1) := by decide +kernel
theorem dX8_load_58 : decode cX8_load 58 = .ok (.aload_n 0, 1) := by decide +kernel
theorem dX8_load_59 : decode cX8_load 59 = .ok (.getfield 7, 3) := by decide +kernel
theorem dX8_load_62 : decode cX8_load 62 = .ok (.sipush 2043, 3) := by decide +kernel
theorem dX8_load_65 : decode cX8_load 65 = .ok (.iload_n 1, 1) := by decide +kernel
theorem dX8_load_66 : decode cX8_load 66 = .ok (.iadd, 1) := by decide +kernel
theorem dX8_load_67 : decode cX8_load 67 = .ok (.iaload, 1) := by decide +kernel
theorem dX8_load_68 : decode cX8_load 68 = .ok (.iastore, 1) := by decide +kernel
theorem dX8_load_69 : decode cX8_load 69 = .ok (.aload_n 0, 1) := by decide +kernel
theorem dX8_load_70 : decode cX8_load 70 = .ok (.getfield 7, 3) := by decide +kernel
theorem dX8_load_73 : decode cX8_load 73 = .ok (.sipush 2043, 3) := by decide +kernel
theorem dX8_load_76 : decode cX8_load 76 = .ok (.iload_n 1, 1) := by decide +kernel
theorem dX8_load_77 : decode cX8_load 77 = .ok (.iadd, 1) := by decide +kernel
theorem dX8_load_78 : decode cX8_load 78 = .ok (.iload_n 2, 1) := by decide +kernel
theorem dX8_load_79 : decode cX8_load 79 = .ok (.iastore, 1) := by decide +kernel
theorem dX8_load_80 : decode cX8_load 80 = .ok (.iinc 1 1, 3) := by decide +kernel
theorem dX8_load_83 : decode cX8_load 83 = .ok (.goto (-44), 3) := by decide +kernel
theorem dX8_load_86 : decode cX8_load 86 = .ok (.aload_n 0, 1) := by decide +kernel
theorem dX8_load_87 : decode cX8_load 87 = .ok (.invokevirtual 139, 3) := by decide +kernel
theorem dX8_load_90 : decode cX8_load 90 = .ok (.aload_n 0, 1) := by decide +kernel
theorem dX8_load_91 : decode cX8_load 91 = .ok (.bipush 9, 2) := by decide +kernel
theorem dX8_load_93 : decode cX8_load 93 = .ok (.iconst 0, 1) := by decide +kernel
theorem dX8_load_94 : decode cX8_load 94 = .ok (.invokevirtual 45, 3) := by decide +kernel
theorem dX8_load_97 : decode cX8_load 97 = .ok (.aload_n 0, 1) := by decide +kernel
theorem dX8_load_98 : decode cX8_load 98 = .ok (.invokevirtual 38, 3) := by decide +kernel
theorem dX8_load_101 : decode cX8_load 101 = .ok (.aload_n 0, 1) := by decide +kernel
theorem dX8_load_102 : decode cX8_load 102 = .ok (.getfield 7, 3) := by decide +kernel
theorem dX8_load_105 : decode cX8_load 105 = .ok (.iconst 0, 1) := by decide +kernel
theorem dX8_load_106 : decode cX8_load 106 = .ok (.iaload, 1) := by decide +kernel
theorem dX8_load_107 : decode cX8_load 107 = .ok (.ireturn, 1) := by decide +kernel
set_option maxHeartbeats 4000000 in
set_option maxRecDepth 100000 in
theorem c_X8_load {l : Launch} {X : En} (g : Nat) (M : Mem) (r : Int32) (M9 : Mem) (hf : fn_X8_load g M = some (r, M9)) : Cn l X yX8_load cX8_load 3 (some .int) 4 102 [.ref (X.ad 61)] M (Qi X r M9) := by
  refine Met.ofW (cc := cX8_load) (maxL := 3) (ret := (some .int)) (by decide) rfl ?_
  intro p e s m args below meth c s₁ B hml hv
  obtain ⟨rfl, hP, hk⟩ := hv
  have hx := B.exec
  have hb := B.bytes
  have hr := B.returns
  have hlocks := B.notSynchronized
  have hts : ∀ w ∈ lw_u, w.before ([.ref (X.ad 61)] : List Value).toArray s = true := fun w hw => atoms_spec (ws := Cond.code yX8_load cX8_load 3 (some .int) :: lw_u) B.pre w (List.mem_cons_of_mem _ hw)
  have hown : s.vm.findClass RX8 = some m.cls := findClass_of_methodNamed B.named
  have hZ : Fx p c m s ([.ref (X.ad 61)] : List Value).toArray X cX8_load 3 RX8 := ⟨hx, hb, hml, hts, hown, hk⟩
  have hS : va_S X.A s.heap s.heap [] := va_S.rf
  have hl := lv_entry ([.ref (X.ad 61)]) (n := 3) (Nat.le_of_ble_eq_true rfl)
  rw [lg_entry_eq]
  generalize (lg_sl ([.ref (X.ad 61)]) ++ List.replicate (3 - (lg_sl ([.ref (X.ad 61)])).length) Slot.unset).toArray = ls at hl ⊢
  have hl : lv_has ls 3 [(0, .ref (X.ad 61))] := hl
  show WW p l e 4 102 s m [.ref (X.ad 61)] below meth c X (Qi X r M9) s.heap [] 0 ls []
  have hP : wd X M s.heap := hP
  unfold fn_X8_load at hf
  have key : ∀ (H : Heap) (locs : List Loc), wd X M H → va_S X.A s.heap H locs → WW p l e 4 102 s m [.ref (X.ad 61)] below meth c X (Qi X r M9) H locs 0 ls [] := by
    intro H locs hP hS
    refine lv_aload_n hx hb dX8_load_0 rfl (lv_at hl 0 rfl) ?_
    refine lv_iconst (v := (0 : Int32)) hx hb dX8_load_1 (by decide) ?_
    refine lv_bipush (v := (9 : Int32)) hx hb dX8_load_2 (by decide) ?_
    obtain ⟨M_1, h_M_1, hf⟩ := b_d hf
    refine k_X8_copies hZ hP hS hl.1 wd_3_239 ⟨Nat.le_of_ble_eq_true rfl, Nat.le_of_ble_eq_true rfl⟩ (Nat.le_of_ble_eq_true rfl) dX8_load_4 ⟨Nat.zero_le _, Nat.zero_le _⟩ h_M_1 (fun H locs hP hS => ?_)
    refine lv_aload_n hx hb dX8_load_7 rfl (lv_at hl 0 rfl) ?_
    obtain ⟨M_2, h_M_2, hf⟩ := b_d hf
    refine k_X8_empties hZ hP hS hl.1 wd_4_15 ⟨Nat.le_of_ble_eq_true rfl, Nat.le_of_ble_eq_true rfl⟩ (Nat.le_of_ble_eq_true rfl) dX8_load_8 ⟨Nat.zero_le _, Nat.zero_le _⟩ h_M_2 (fun H locs hP hS => ?_)
    refine lv_aload_n hx hb dX8_load_11 rfl (lv_at hl 0 rfl) ?_
    obtain ⟨M_3, h_M_3, hf⟩ := b_d hf
    refine k_X8_reads hZ hP hS hl.1 wd_4_19 ⟨Nat.le_of_ble_eq_true rfl, Nat.le_of_ble_eq_true rfl⟩ (Nat.le_of_ble_eq_true rfl) dX8_load_12 ⟨Nat.zero_le _, Nat.zero_le _⟩ h_M_3 (fun H locs hP hS => ?_)
    refine lv_aload_n hx hb dX8_load_15 rfl (lv_at hl 0 rfl) ?_
    refine gX8_10 hx hb hts hown hk hP wd_3_202 dX8_load_16 ?_
    refine lv_if_eq (tgt := 37) hx hb dX8_load_19 (by decide) (fun c_4 => ?_) (fun c_4 => ?_)
    · have hf := i_t c_4 hf
      refine lv_iconst (v := (0 : Int32)) hx hb dX8_load_37 (by decide) ?_
      refine lv_istore_n (lv' := [(1, .int (0 : Int32)), (0, .ref (X.ad 61))]) hx hb dX8_load_38 rfl hl (by decide) rfl (fun ls hl => ?_)
      obtain ⟨o39, ho39, hf⟩ := b_d hf
      refine lp_rule (b := bd_X8_load_39) (P := fun w : Int32 × Mem => ∀ (H : Heap) (locs : List Loc) (ls : Array Slot), wd X w.2 H → va_S X.A s.heap H locs → lv_has ls 3 [(1, .int w.1), (0, .ref (X.ad 61))] → WW p l e 4 102 s m [.ref (X.ad 61)] below meth c X (Qi X r M9) H locs 39 ls []) (K := fun o => ∀ (M_7 : Mem), o = M_7 → ∀ (H : Heap) (locs : List Loc) (ls : Array Slot), wd X M_7 H → va_S X.A s.heap H locs → lv_has ls 3 [(0, .ref (X.ad 61))] → WW p l e 4 102 s m [.ref (X.ad 61)] below meth c X (Qi X r M9) H locs 86 ls []) ?_ g ((0 : Int32), M_3) o39 ho39 ?_ H locs ls hP hS (lv_sub hl [0, 1] rfl)
      · rintro ⟨v1_5, M_6⟩ o hf hkc39 hke39 H locs ls hP hS hl
        have hf := u2_e hf
        refine lv_iload_n hx hb dX8_load_39 rfl (lv_at hl 0 rfl) ?_
        refine lv_sipush (v := (227 : Int32)) hx hb dX8_load_40 (by decide) ?_
        refine lv_icmp_ge (tgt := 86) hx hb dX8_load_43 (by decide) (fun c_8 => ?_) (fun c_8 => ?_)
        · have hf := i_t c_8 hf
          exact hke39 _ (Option.some.inj hf).symm _ rfl H locs ls hP hS (lv_sub hl [1] rfl)
        · have hf := i_f c_8 hf
          refine lv_aload_n hx hb dX8_load_46 rfl (lv_at hl 1 rfl) ?_
          refine gX8_0 hx hb hts hown hk hP wd_3_192 dX8_load_47 ?_
          refine lv_iload_n hx hb dX8_load_50 rfl (lv_at hl 0 rfl) ?_
          obtain ⟨q_9, hf⟩ := g_if hf
          refine ald hx hb hk hP (by decide) rfl q_9 dX8_load_51 ?_
          refine lv_topi (fun v2_10 e_v2_10 => ?_)
          have hf := b_v hf e_v2_10
          refine lv_istore_n (lv' := [(2, .int v2_10), (1, .int v1_5), (0, .ref (X.ad 61))]) hx hb dX8_load_52 rfl hl (by decide) rfl (fun ls hl => ?_)
          refine lv_aload_n hx hb dX8_load_53 rfl (lv_at hl 2 rfl) ?_
          refine gX8_0 hx hb hts hown hk hP wd_3_192 dX8_load_54 ?_
          refine lv_iload_n hx hb dX8_load_57 rfl (lv_at hl 1 rfl) ?_
          refine lv_aload_n hx hb dX8_load_58 rfl (lv_at hl 2 rfl) ?_
          refine gX8_0 hx hb hts hown hk hP wd_3_192 dX8_load_59 ?_
          refine lv_sipush (v := (2043 : Int32)) hx hb dX8_load_62 (by decide) ?_
          refine lv_iload_n hx hb dX8_load_65 rfl (lv_at hl 1 rfl) ?_
          refine lv_iadd hx hb dX8_load_66 ?_
          obtain ⟨q_11, hf⟩ := g_if hf
          refine ald hx hb hk hP (by decide) rfl q_11 dX8_load_67 ?_
          obtain ⟨q_13, hf⟩ := g_if hf
          refine ast hx hb hk hP hS (by decide) (fun _ => rfl) q_13 dX8_load_68 (fun H locs M_12 e_M_12 hP hS => ?_)
          have hf := b_v hf e_M_12
          refine lv_aload_n hx hb dX8_load_69 rfl (lv_at hl 2 rfl) ?_
          refine gX8_0 hx hb hts hown hk hP wd_3_192 dX8_load_70 ?_
          refine lv_sipush (v := (2043 : Int32)) hx hb dX8_load_73 (by decide) ?_
          refine lv_iload_n hx hb dX8_load_76 rfl (lv_at hl 1 rfl) ?_
          refine lv_iadd hx hb dX8_load_77 ?_
          refine lv_iload_n hx hb dX8_load_78 rfl (lv_at hl 0 rfl) ?_
          obtain ⟨q_15, hf⟩ := g_if hf
          refine ast hx hb hk hP hS (by decide) (fun _ => rfl) q_15 dX8_load_79 (fun H locs M_14 e_M_14 hP hS => ?_)
          have hf := b_v hf e_M_14
          refine lv_iinc (v := v1_5 + (1 : Int32)) (lv' := [(1, .int (v1_5 + (1 : Int32))), (2, .int v2_10), (0, .ref (X.ad 61))]) hx hb dX8_load_80 hl (k := 1) rfl rfl (by decide) rfl (fun ls hl => ?_)
          refine lv_goto (tgt := 39) hx hb dX8_load_83 (by decide) ?_
          exact hkc39 _ (Option.some.inj hf).symm H locs ls hP hS (lv_sub hl [0, 2] rfl)
      · intro M_7 e H locs ls hP hS hl
        subst o39
        have hf := u1_e hf
        refine lv_aload_n hx hb dX8_load_86 rfl (lv_at hl 0 rfl) ?_
        obtain ⟨M_16, h_M_16, hf⟩ := b_d hf
        refine k_X8_records hZ hP hS hl.1 wd_4_47 ⟨Nat.le_of_ble_eq_true rfl, Nat.le_of_ble_eq_true rfl⟩ (Nat.le_of_ble_eq_true rfl) dX8_load_87 ⟨Nat.zero_le _, Nat.zero_le _⟩ h_M_16 (fun H locs hP hS => ?_)
        refine lv_aload_n hx hb dX8_load_90 rfl (lv_at hl 0 rfl) ?_
        refine lv_bipush (v := (9 : Int32)) hx hb dX8_load_91 (by decide) ?_
        refine lv_iconst (v := (0 : Int32)) hx hb dX8_load_93 (by decide) ?_
        obtain ⟨M_17, h_M_17, hf⟩ := b_d hf
        refine k_X8_copies hZ hP hS hl.1 wd_3_239 ⟨Nat.le_of_ble_eq_true rfl, Nat.le_of_ble_eq_true rfl⟩ (Nat.le_of_ble_eq_true rfl) dX8_load_94 ⟨Nat.zero_le _, Nat.zero_le _⟩ h_M_17 (fun H locs hP hS => ?_)
        refine lv_aload_n hx hb dX8_load_97 rfl (lv_at hl 0 rfl) ?_
        obtain ⟨M_18, h_M_18, hf⟩ := b_d hf
        refine k_X8_lays hZ hP hS hl.1 wd_3_171 ⟨Nat.le_of_ble_eq_true rfl, Nat.le_of_ble_eq_true rfl⟩ (Nat.le_of_ble_eq_true rfl) dX8_load_98 ⟨Nat.zero_le _, Nat.zero_le _⟩ h_M_18 (fun H locs hP hS => ?_)
        refine lv_aload_n hx hb dX8_load_101 rfl (lv_at hl 0 rfl) ?_
        refine gX8_0 hx hb hts hown hk hP wd_3_192 dX8_load_102 ?_
        refine lv_iconst (v := (0 : Int32)) hx hb dX8_load_105 (by decide) ?_
        refine ald hx hb hk hP (by decide) rfl (show inb _ _ from by decide) dX8_load_106 ?_
        have hf := Option.some.inj hf
        obtain ⟨e1, e2⟩ := Prod.mk.inj hf
        rw [e2] at hP
        exact ret_i hx hb hr hlocks hP hS e1 dX8_load_107
    · have hf := i_f c_4 hf
      refine lv_aload_n hx hb dX8_load_22 rfl (lv_at hl 0 rfl) ?_
      refine lv_bipush (v := (9 : Int32)) hx hb dX8_load_23 (by decide) ?_
      refine lv_iconst (v := (0 : Int32)) hx hb dX8_load_25 (by decide) ?_
      obtain ⟨M_19, h_M_19, hf⟩ := b_d hf
      refine k_X8_copies hZ hP hS hl.1 wd_3_239 ⟨Nat.le_of_ble_eq_true rfl, Nat.le_of_ble_eq_true rfl⟩ (Nat.le_of_ble_eq_true rfl) dX8_load_26 ⟨Nat.zero_le _, Nat.zero_le _⟩ h_M_19 (fun H locs hP hS => ?_)
      refine lv_bipush (v := (-10 : Int32)) hx hb dX8_load_29 (by decide) ?_
      refine lv_aload_n hx hb dX8_load_31 rfl (lv_at hl 0 rfl) ?_
      refine gX8_11 hx hb hts hown hk hP wd_3_203 dX8_load_32 ?_
      refine lv_isub hx hb dX8_load_35 ?_
      have hf := Option.some.inj hf
      obtain ⟨e1, e2⟩ := Prod.mk.inj hf
      rw [e2] at hP
      exact ret_i hx hb hr hlocks hP hS e1 dX8_load_36
  exact key s.heap [] hP hS
theorem hd_X8_load : Hd yX8_load 0 := by decide +kernel
theorem k_X8_load {p : Program} {l : Launch} {e : Env} {R : Room} {s : State} {m : MethodId} {args : Array Value} {below : List Frame} {meth : Method} {c : Code} {H : Heap} {locs : List Loc} {cells slots : Nat} {Q : State → Prop} {cc : ByteArray} {nL pc index : Nat} {ls : Array Slot} {rest : List Value} {X : En} {M : Mem} {H0 : Heap} {own : String} {g : Nat} {r : Int32} {M9 : Mem} (hZ : Fx p c m s args X cc nL own) (hP : wd X M H) (hS : va_S X.A H0 H locs) (hsz : ls.size = nL) (hlk : Cond.methodLink own index yX8_load ∈ lw_u) (hR : 4 + 1 ≤ R.frames ∧ 8 + (3 + 11) + 102 ≤ R.locals) (hW : (rest.map fun v => v.category).sum ≤ 8) (hdg : decode cc pc = .ok (.invokevirtual index, 3)) (hcs : cells ≤ R.cells ∧ slots ≤ R.slots) (hf : fn_X8_load g M = some (r, M9))
    (kk : ∀ (H1 : Heap) (locs1 : List Loc), wd X M9 H1 → va_S X.A H0 H1 locs1 → W p l e R s m args below meth c H1 locs1 cells slots Q (F0 m (pc + 3) ls (.int r :: rest))) : W p l e R s m args below meth c H locs cells slots Q (F0 m pc ls (.ref (X.ad 61) :: rest)) :=
  cal_i (runV (As := []) (rest := rest) hZ.1 hZ.2.1 hZ.2.2.1 hZ.2.2.2.1 hZ.2.2.2.2.1 hZ.2.2.2.2.2 hP (c_X8_load g M r M9 hf) wd_4_14 wd_4_12 wd_4_13 wd_1_9 hd_X8_load (by decide) rfl rfl rfl hlk hR hsz rfl hW hdg hcs) hS kk
/-! FrameRaiserModel.faultKind -/
def fn_X8_faultKind (M : Mem) : Int32 :=
  M 61 10
theorem dX8_faultKind_0 : decode cX8_faultKind 0 = .ok (.aload_n 0, 1) := by decide +kernel
theorem dX8_faultKind_1 : decode cX8_faultKind 1 = .ok (.getfield 107, 3) := by decide +kernel
theorem dX8_faultKind_4 : decode cX8_faultKind 4 = .ok (.ireturn, 1) := by decide +kernel
set_option maxHeartbeats 4000000 in
set_option maxRecDepth 100000 in
theorem c_X8_faultKind {l : Launch} {X : En} (M : Mem) (r : Int32) (hf : fn_X8_faultKind M = r) : Cn l X yX8_faultKind cX8_faultKind 1 (some .int) 0 0 [.ref (X.ad 61)] M (Qi X r M) := by
  refine Met.ofW (cc := cX8_faultKind) (maxL := 1) (ret := (some .int)) (by decide) rfl ?_
  intro p e s m args below meth c s₁ B hml hv
  obtain ⟨rfl, hP, hk⟩ := hv
  have hx := B.exec
  have hb := B.bytes
  have hr := B.returns
  have hlocks := B.notSynchronized
  have hts : ∀ w ∈ lw_u, w.before ([.ref (X.ad 61)] : List Value).toArray s = true := fun w hw => atoms_spec (ws := Cond.code yX8_faultKind cX8_faultKind 1 (some .int) :: lw_u) B.pre w (List.mem_cons_of_mem _ hw)
  have hown : s.vm.findClass RX8 = some m.cls := findClass_of_methodNamed B.named
  have hZ : Fx p c m s ([.ref (X.ad 61)] : List Value).toArray X cX8_faultKind 1 RX8 := ⟨hx, hb, hml, hts, hown, hk⟩
  have hS : va_S X.A s.heap s.heap [] := va_S.rf
  have hl := lv_entry ([.ref (X.ad 61)]) (n := 1) (Nat.le_of_ble_eq_true rfl)
  rw [lg_entry_eq]
  generalize (lg_sl ([.ref (X.ad 61)]) ++ List.replicate (1 - (lg_sl ([.ref (X.ad 61)])).length) Slot.unset).toArray = ls at hl ⊢
  have hl : lv_has ls 1 [(0, .ref (X.ad 61))] := hl
  show WW p l e 0 0 s m [.ref (X.ad 61)] below meth c X (Qi X r M) s.heap [] 0 ls []
  have hP : wd X M s.heap := hP
  unfold fn_X8_faultKind at hf
  have key : ∀ (H : Heap) (locs : List Loc), wd X M H → va_S X.A s.heap H locs → WW p l e 0 0 s m [.ref (X.ad 61)] below meth c X (Qi X r M) H locs 0 ls [] := by
    intro H locs hP hS
    refine lv_aload_n hx hb dX8_faultKind_0 rfl (lv_at hl 0 rfl) ?_
    refine gX8_10 hx hb hts hown hk hP wd_3_202 dX8_faultKind_1 ?_
    exact ret_i hx hb hr hlocks hP hS hf dX8_faultKind_4
  exact key s.heap [] hP hS
theorem hd_X8_faultKind : Hd yX8_faultKind 0 := by decide +kernel
theorem k_X8_faultKind {p : Program} {l : Launch} {e : Env} {R : Room} {s : State} {m : MethodId} {args : Array Value} {below : List Frame} {meth : Method} {c : Code} {H : Heap} {locs : List Loc} {cells slots : Nat} {Q : State → Prop} {cc : ByteArray} {nL pc index : Nat} {ls : Array Slot} {rest : List Value} {X : En} {M : Mem} {H0 : Heap} {own : String} (hZ : Fx p c m s args X cc nL own) (hP : wd X M H) (hS : va_S X.A H0 H locs) (hsz : ls.size = nL) (hlk : Cond.methodLink own index yX8_faultKind ∈ lw_u) (hR : 0 + 1 ≤ R.frames ∧ 8 + (1 + 11) + 0 ≤ R.locals) (hW : (rest.map fun v => v.category).sum ≤ 8) (hdg : decode cc pc = .ok (.invokevirtual index, 3)) (hcs : cells ≤ R.cells ∧ slots ≤ R.slots)
    (kk : ∀ (H1 : Heap) (locs1 : List Loc), wd X M H1 → va_S X.A H0 H1 locs1 → W p l e R s m args below meth c H1 locs1 cells slots Q (F0 m (pc + 3) ls (.int (fn_X8_faultKind M) :: rest))) : W p l e R s m args below meth c H locs cells slots Q (F0 m pc ls (.ref (X.ad 61) :: rest)) :=
  cal_i (runV (As := []) (rest := rest) hZ.1 hZ.2.1 hZ.2.2.1 hZ.2.2.2.1 hZ.2.2.2.2.1 hZ.2.2.2.2.2 hP (c_X8_faultKind M _ rfl) wd_4_54 wd_4_52 wd_4_53 wd_1_9 hd_X8_faultKind (by decide) rfl rfl rfl hlk hR hsz rfl hW hdg hcs) hS kk
/-! FrameRaiserModel.clear -/
def fn_X8_clear (g : Nat) (M : Mem) : Option (Int32 × Mem) :=
  (fn_X8_records g M).bind fun M_1 =>
  bv (M_1 62 (ix (0 : Int32))) fun v1_2 =>
  (fn_X8_empties g M_1).bind fun M_3 =>
  (fn_X8_lays g M_3).bind fun M_4 =>
  some (v1_2, M_4)
theorem dX8_clear_0 : decode cX8_clear 0 = .ok (.aload_n 0, 1) := by decide +kernel
theorem dX8_clear_1 : decode cX8_clear 1 = .ok (.invokevirtual 139, 3) := by decide +kernel
theorem dX8_clear_4 : decode cX8_clear 4 = .ok (.aload_n 0, 1) := by decide +kernel
theorem dX8_clear_5 : decode cX8_clear 5 = .ok (.getfield 7, 3) := by decide +kernel
theorem dX8_clear_8 : decode cX8_clear 8 = .ok (.iconst 0, 1) := by decide +kernel
theorem dX8_clear_9 : decode cX8_clear 9 = .ok (.iaload, 1) := by decide +kernel
theorem dX8_clear_10 : decode cX8_clear 10 = .ok (.istore_n 1, 1) := by decide +kernel
theorem dX8_clear_11 : decode cX8_clear 11 = .ok (.aload_n 0, 1) := by decide +kernel
theorem dX8_clear_12 : decode cX8_clear 12 = .ok (.invokevirtual 133, 3) := by decide +kernel
theorem dX8_clear_15 : decode cX8_clear 15 = .ok (.aload_n 0, 1) := by decide +kernel
theorem dX8_clear_16 : decode cX8_clear 16 = .ok (.invokevirtual 38, 3) := by decide +kernel
theorem dX8_clear_19 : decode cX8_clear 19 = .ok (.iload_n 1, 1) := by decide +kernel
theorem dX8_clear_20 : decode cX8_clear 20 = .ok (.ireturn, 1) := by decide +kernel
set_option maxHeartbeats 4000000 in
set_option maxRecDepth 100000 in
theorem c_X8_clear {l : Launch} {X : En} (g : Nat) (M : Mem) (r : Int32) (M9 : Mem) (hf : fn_X8_clear g M = some (r, M9)) : Cn l X yX8_clear cX8_clear 2 (some .int) 4 95 [.ref (X.ad 61)] M (Qi X r M9) := by
  refine Met.ofW (cc := cX8_clear) (maxL := 2) (ret := (some .int)) (by decide) rfl ?_
  intro p e s m args below meth c s₁ B hml hv
  obtain ⟨rfl, hP, hk⟩ := hv
  have hx := B.exec
  have hb := B.bytes
  have hr := B.returns
  have hlocks := B.notSynchronized
  have hts : ∀ w ∈ lw_u, w.before ([.ref (X.ad 61)] : List Value).toArray s = true := fun w hw => atoms_spec (ws := Cond.code yX8_clear cX8_clear 2 (some .int) :: lw_u) B.pre w (List.mem_cons_of_mem _ hw)
  have hown : s.vm.findClass RX8 = some m.cls := findClass_of_methodNamed B.named
  have hZ : Fx p c m s ([.ref (X.ad 61)] : List Value).toArray X cX8_clear 2 RX8 := ⟨hx, hb, hml, hts, hown, hk⟩
  have hS : va_S X.A s.heap s.heap [] := va_S.rf
  have hl := lv_entry ([.ref (X.ad 61)]) (n := 2) (Nat.le_of_ble_eq_true rfl)
  rw [lg_entry_eq]
  generalize (lg_sl ([.ref (X.ad 61)]) ++ List.replicate (2 - (lg_sl ([.ref (X.ad 61)])).length) Slot.unset).toArray = ls at hl ⊢
  have hl : lv_has ls 2 [(0, .ref (X.ad 61))] := hl
  show WW p l e 4 95 s m [.ref (X.ad 61)] below meth c X (Qi X r M9) s.heap [] 0 ls []
  have hP : wd X M s.heap := hP
  unfold fn_X8_clear at hf
  have key : ∀ (H : Heap) (locs : List Loc), wd X M H → va_S X.A s.heap H locs → WW p l e 4 95 s m [.ref (X.ad 61)] below meth c X (Qi X r M9) H locs 0 ls [] := by
    intro H locs hP hS
    refine lv_aload_n hx hb dX8_clear_0 rfl (lv_at hl 0 rfl) ?_
    obtain ⟨M_1, h_M_1, hf⟩ := b_d hf
    refine k_X8_records hZ hP hS hl.1 wd_4_47 ⟨Nat.le_of_ble_eq_true rfl, Nat.le_of_ble_eq_true rfl⟩ (Nat.le_of_ble_eq_true rfl) dX8_clear_1 ⟨Nat.zero_le _, Nat.zero_le _⟩ h_M_1 (fun H locs hP hS => ?_)
    refine lv_aload_n hx hb dX8_clear_4 rfl (lv_at hl 0 rfl) ?_
    refine gX8_0 hx hb hts hown hk hP wd_3_192 dX8_clear_5 ?_
    refine lv_iconst (v := (0 : Int32)) hx hb dX8_clear_8 (by decide) ?_
    refine ald hx hb hk hP (by decide) rfl (show inb _ _ from by decide) dX8_clear_9 ?_
    refine lv_topi (fun v1_2 e_v1_2 => ?_)
    have hf := b_v hf e_v1_2
    refine lv_istore_n (lv' := [(1, .int v1_2), (0, .ref (X.ad 61))]) hx hb dX8_clear_10 rfl hl (by decide) rfl (fun ls hl => ?_)
    refine lv_aload_n hx hb dX8_clear_11 rfl (lv_at hl 1 rfl) ?_
    obtain ⟨M_3, h_M_3, hf⟩ := b_d hf
    refine k_X8_empties hZ hP hS hl.1 wd_4_15 ⟨Nat.le_of_ble_eq_true rfl, Nat.le_of_ble_eq_true rfl⟩ (Nat.le_of_ble_eq_true rfl) dX8_clear_12 ⟨Nat.zero_le _, Nat.zero_le _⟩ h_M_3 (fun H locs hP hS => ?_)
    refine lv_aload_n hx hb dX8_clear_15 rfl (lv_at hl 1 rfl) ?_
    obtain ⟨M_4, h_M_4, hf⟩ := b_d hf
    refine k_X8_lays hZ hP hS hl.1 wd_3_171 ⟨Nat.le_of_ble_eq_true rfl, Nat.le_of_ble_eq_true rfl⟩ (Nat.le_of_ble_eq_true rfl) dX8_clear_16 ⟨Nat.zero_le _, Nat.zero_le _⟩ h_M_4 (fun H locs hP hS => ?_)
    refine lv_iload_n hx hb dX8_clear_19 rfl (lv_at hl 0 rfl) ?_
    have hf := Option.some.inj hf
    obtain ⟨e1, e2⟩ := Prod.mk.inj hf
    rw [e2] at hP
    exact ret_i hx hb hr hlocks hP hS e1 dX8_clear_20
  exact key s.heap [] hP hS
theorem hd_X8_clear : Hd yX8_clear 0 := by decide +kernel
theorem k_X8_clear {p : Program} {l : Launch} {e : Env} {R : Room} {s : State} {m : MethodId} {args : Array Value} {below : List Frame} {meth : Method} {c : Code} {H : Heap} {locs : List Loc} {cells slots : Nat} {Q : State → Prop} {cc : ByteArray} {nL pc index : Nat} {ls : Array Slot} {rest : List Value} {X : En} {M : Mem} {H0 : Heap} {own : String} {g : Nat} {r : Int32} {M9 : Mem} (hZ : Fx p c m s args X cc nL own) (hP : wd X M H) (hS : va_S X.A H0 H locs) (hsz : ls.size = nL) (hlk : Cond.methodLink own index yX8_clear ∈ lw_u) (hR : 4 + 1 ≤ R.frames ∧ 8 + (2 + 11) + 95 ≤ R.locals) (hW : (rest.map fun v => v.category).sum ≤ 8) (hdg : decode cc pc = .ok (.invokevirtual index, 3)) (hcs : cells ≤ R.cells ∧ slots ≤ R.slots) (hf : fn_X8_clear g M = some (r, M9))
    (kk : ∀ (H1 : Heap) (locs1 : List Loc), wd X M9 H1 → va_S X.A H0 H1 locs1 → W p l e R s m args below meth c H1 locs1 cells slots Q (F0 m (pc + 3) ls (.int r :: rest))) : W p l e R s m args below meth c H locs cells slots Q (F0 m pc ls (.ref (X.ad 61) :: rest)) :=
  cal_i (runV (As := []) (rest := rest) hZ.1 hZ.2.1 hZ.2.2.1 hZ.2.2.2.1 hZ.2.2.2.2.1 hZ.2.2.2.2.2 hP (c_X8_clear g M r M9 hf) wd_4_58 wd_4_56 wd_4_57 wd_1_9 hd_X8_clear (by decide) rfl rfl rfl hlk hR hsz rfl hW hdg hcs) hS kk
/-! FrameRaiserModel.addPiece -/
def fn_X8_addPiece (g : Nat) (x1 : Int32) (x2 : Int32) (x3 : Int32) (x4 : Int32) (x5 : Int32) (x6 : Int32) (M : Mem) : Option (Int32 × Mem) :=
  if (fn_X8_isBox x1 x2 x3 x4 x5 x6) = 0 then
    (some ((-1 : Int32), M))
  else
    ((fn_X8_meets g (-9 : Int32) x1 x2 x3 x4 x5 x6 M).bind fun r_2 =>
    if r_2 = 0 then
      (if (M 62 (ix (0 : Int32))) = (8 : Int32) then
        (some ((-3 : Int32), M))
      else
        ((fn_X8_records g M).bind fun M_5 =>
        bv (M_5 62 (ix (0 : Int32))) fun v7_6 =>
        bv (st M_5 62 (ix (0 : Int32)) ((M_5 62 (ix (0 : Int32))) + (1 : Int32))) fun M_7 =>
        if inb ((3 : Int32) + v7_6) 2270 then
        bv (st M_7 62 (ix ((3 : Int32) + v7_6)) (0 : Int32)) fun M_8 =>
        (fn_X8_fills g v7_6 x1 x2 x3 x4 x5 x6 M_8).bind fun M_10 =>
        (fn_X8_lays g M_10).bind fun M_11 =>
        some (v7_6, M_11)
        else none))
    else
      (some ((-2 : Int32), M)))
theorem dX8_addPiece_0 : decode cX8_addPiece 0 = .ok (.iload_n 1, 1) := by decide +kernel
theorem dX8_addPiece_1 : decode cX8_addPiece 1 = .ok (.iload_n 2, 1) := by decide +kernel
theorem dX8_addPiece_2 : decode cX8_addPiece 2 = .ok (.iload_n 3, 1) := by decide +kernel
theorem dX8_addPiece_3 : decode cX8_addPiece 3 = .ok (.iload 4, 2) := by decide +kernel
theorem dX8_addPiece_5 : decode cX8_addPiece 5 = .ok (.iload 5, 2) := by decide +kernel
theorem dX8_addPiece_7 : decode cX8_addPiece 7 = .ok (.iload 6, 2) := by decide +kernel
theorem dX8_addPiece_9 : decode cX8_addPiece 9 = .ok (.invokestatic 142, 3) := by decide +kernel
theorem dX8_addPiece_12 : decode cX8_addPiece 12 = .ok (.ifCond .ne 5, 3) := by decide +kernel
theorem dX8_addPiece_15 : decode cX8_addPiece 15 = .ok (.iconst (-1), 1) := by decide +kernel
theorem dX8_addPiece_16 : decode cX8_addPiece 16 = .ok (.ireturn, 1) := by decide +kernel
theorem dX8_addPiece_17 : decode cX8_addPiece 17 = .ok (.aload_n 0, 1) := by decide +kernel
theorem dX8_addPiece_18 : decode cX8_addPiece 18 = .ok (.bipush (-9), 2) := by decide +kernel
theorem dX8_addPiece_20 : decode cX8_addPiece 20 = .ok (.iload_n 1, 1) := by decide +kernel
theorem dX8_addPiece_21 : decode cX8_addPiece 21 = .ok (.iload_n 2, 1) := by decide +kernel
theorem dX8_addPiece_22 : decode cX8_addPiece 22 = .ok (.iload_n 3, 1) := by decide +kernel
theorem dX8_addPiece_23 : decode cX8_addPiece 23 = .ok (.iload 4, 2) := by decide +kernel
theorem dX8_addPiece_25 : decode cX8_addPiece 25 = .ok (.iload 5, 2) := by decide +kernel
theorem dX8_addPiece_27 : decode cX8_addPiece 27 = .ok (.iload 6, 2) := by decide +kernel
theorem dX8_addPiece_29 : decode cX8_addPiece 29 = .ok (.invokevirtual 119, 3) := by decide +kernel
theorem dX8_addPiece_32 : decode cX8_addPiece 32 = .ok (.ifCond .eq 6, 3) := by decide +kernel
theorem dX8_addPiece_35 : decode cX8_addPiece 35 = .ok (.bipush (-2), 2) := by decide +kernel
theorem dX8_addPiece_37 : decode cX8_addPiece 37 = .ok (.ireturn, 1) := by decide +kernel
theorem dX8_addPiece_38 : decode cX8_addPiece 38 = .ok (.aload_n 0, 1) := by decide +kernel
theorem dX8_addPiece_39 : decode cX8_addPiece 39 = .ok (.getfield 7, 3) := by decide +kernel
theorem dX8_addPiece_42 : decode cX8_addPiece 42 = .ok (.iconst 0, 1) := by decide +kernel
theorem dX8_addPiece_43 : decode cX8_addPiece 43 = .ok (.iaload, 1) := by decide +kernel
theorem dX8_addPiece_44 : decode cX8_addPiece 44 = .ok (.bipush 8, 2) := by decide +kernel
theorem dX8_addPiece_46 : decode cX8_addPiece 46 = .ok (.if_icmp .ne 6, 3) := by decide +kernel
theorem dX8_addPiece_49 : decode cX8_addPiece 49 = .ok (.bipush (-3), 2) := by decide +kernel
theorem dX8_addPiece_51 : decode cX8_addPiece 51 = .ok (.ireturn, 1) := by decide +kernel
theorem dX8_addPiece_52 : decode cX8_addPiece 52 = .ok (.aload_n 0, 1) := by decide +kernel
theorem dX8_addPiece_53 : decode cX8_addPiece 53 = .ok (.invokevirtual 139, 3) := by decide +kernel
theorem dX8_addPiece_56 : decode cX8_addPiece 56 = .ok (.aload_n 0, 1) := by decide +kernel
theorem dX8_addPiece_57 : decode cX8_addPiece 57 = .ok (.getfield 7, 3) := by decide +kernel
theorem dX8_addPiece_60 : decode cX8_addPiece 60 = .ok (.iconst 0, 1) := by decide +kernel
theorem dX8_addPiece_61 : decode cX8_addPiece 61 = .ok (.iaload, 1) := by decide +kernel
theorem dX8_addPiece_62 : decode cX8_addPiece 62 = .ok (.istore 7, 2) := by decide +kernel
theorem dX8_addPiece_64 : decode cX8_addPiece 64 = .ok (.aload_n 0, 1) := by decide +kernel
theorem dX8_addPiece_65 : decode cX8_addPiece 65 = .ok (.getfield 7, 3) := by decide +kernel
theorem dX8_addPiece_68 : decode cX8_addPiece 68 = .ok (.iconst 0, 1) := by decide +kernel
theorem dX8_addPiece_69 : decode cX8_addPiece 69 = .ok (.dup2, 1) := by decide +kernel
theorem dX8_addPiece_70 : decode cX8_addPiece 70 = .ok (.iaload, 1) := by decide +kernel
theorem dX8_addPiece_71 : decode cX8_addPiece 71 = .ok (.iconst 1, 1) := by decide +kernel
theorem dX8_addPiece_72 : decode cX8_addPiece 72 = .ok (.iadd, 1) := by decide +kernel
theorem dX8_addPiece_73 : decode cX8_addPiece 73 = .ok (.iastore, 1) := by decide +kernel
theorem dX8_addPiece_74 : decode cX8_addPiece 74 = .ok (.aload_n 0, 1) := by decide +kernel
theorem dX8_addPiece_75 : decode cX8_addPiece 75 = .ok (.getfield 7, 3) := by decide +kernel
theorem dX8_addPiece_78 : decode cX8_addPiece 78 = .ok (.iconst 3, 1) := by decide +kernel
theorem dX8_addPiece_79 : decode cX8_addPiece 79 = .ok (.iload 7, 2) := by decide +kernel
theorem dX8_addPiece_81 : decode cX8_addPiece 81 = .ok (.iadd, 1) := by decide +kernel
theorem dX8_addPiece_82 : decode cX8_addPiece 82 = .ok (.iconst 0, 1) := by decide +kernel
theorem dX8_addPiece_83 : decode cX8_addPiece 83 = .ok (.iastore, 1) := by decide +kernel
theorem dX8_addPiece_84 : decode cX8_addPiece 84 = .ok (.aload_n 0, 1) := by decide +kernel
theorem dX8_addPiece_85 : decode cX8_addPiece 85 = .ok (.iload 7, 2) := by decide +kernel
theorem dX8_addPiece_87 : decode cX8_addPiece 87 = .ok (.iload_n 1, 1) := by decide +kernel
theorem dX8_addPiece_88 : decode cX8_addPiece 88 = .ok (.iload_n 2, 1) := by decide +kernel
theorem dX8_addPiece_89 : decode cX8_addPiece 89 = .ok (.iload_n 3, 1) := by decide +kernel
theorem dX8_addPiece_90 : decode cX8_addPiece 90 = .ok (.iload 4, 2) := by decide +kernel
theorem dX8_addPiece_92 : decode cX8_addPiece 92 = .ok (.iload 5, 2) := by decide +kernel
theorem dX8_addPiece_94 : decode cX8_addPiece 94 = .ok (.iload 6, 2) := by decide +kernel
theorem dX8_addPiece_96 : decode cX8_addPiece 96 = .ok (.invokevirtual 123, 3) := by decide +kernel
theorem dX8_addPiece_99 : decode cX8_addPiece 99 = .ok (.aload_n 0, 1) := by decide +kernel
theorem dX8_addPiece_100 : decode cX8_addPiece 100 = .ok (.invokevirtual 38, 3) := by decide +kernel
theorem dX8_addPiece_103 : decode cX8_addPiece 103 = .ok (.iload 7, 2) := by decide +kernel
theorem dX8_addPiece_105 : decode cX8_addPiece 105 = .ok (.ireturn, 1) := by decide +kernel
set_option maxHeartbeats 4000000 in
set_option maxRecDepth 100000 in
theorem c_X8_addPiece {l : Launch} {X : En} (g : Nat) (x1 : Int32) (x2 : Int32) (x3 : Int32) (x4 : Int32) (x5 : Int32) (x6 : Int32) (M : Mem) (r : Int32) (M9 : Mem) (hf : fn_X8_addPiece g x1 x2 x3 x4 x5 x6 M = some (r, M9)) : Cn l X yX8_addPiece cX8_addPiece 8 (some .int) 4 95 [.ref (X.ad 61), .int x1, .int x2, .int x3, .int x4, .int x5, .int x6] M (Qi X r M9) := by
  refine Met.ofW (cc := cX8_addPiece) (maxL := 8) (ret := (some .int)) (by decide) rfl ?_
  intro p e s m args below meth c s₁ B hml hv
  obtain ⟨rfl, hP, hk⟩ := hv
  have hx := B.exec
  have hb := B.bytes
  have hr := B.returns
  have hlocks := B.notSynchronized
  have hts : ∀ w ∈ lw_u, w.before ([.ref (X.ad 61), .int x1, .int x2, .int x3, .int x4, .int x5, .int x6] : List Value).toArray s = true := fun w hw => atoms_spec (ws := Cond.code yX8_addPiece cX8_addPiece 8 (some .int) :: lw_u) B.pre w (List.mem_cons_of_mem _ hw)
  have hown : s.vm.findClass RX8 = some m.cls := findClass_of_methodNamed B.named
  have hZ : Fx p c m s ([.ref (X.ad 61), .int x1, .int x2, .int x3, .int x4, .int x5, .int x6] : List Value).toArray X cX8_addPiece 8 RX8 := ⟨hx, hb, hml, hts, hown, hk⟩
  have hS : va_S X.A s.heap s.heap [] := va_S.rf
  have hl := lv_entry ([.ref (X.ad 61), .int x1, .int x2, .int x3, .int x4, .int x5, .int x6]) (n := 8) (Nat.le_of_ble_eq_true rfl)
  rw [lg_entry_eq]
  generalize (lg_sl ([.ref (X.ad 61), .int x1, .int x2, .int x3, .int x4, .int x5, .int x6]) ++ List.replicate (8 - (lg_sl ([.ref (X.ad 61), .int x1, .int x2, .int x3, .int x4, .int x5, .int x6])).length) Slot.unset).toArray = ls at hl ⊢
  have hl : lv_has ls 8 [(0, .ref (X.ad 61)), (1, .int x1), (2, .int x2), (3, .int x3), (4, .int x4), (5, .int x5), (6, .int x6)] := hl
  show WW p l e 4 95 s m [.ref (X.ad 61), .int x1, .int x2, .int x3, .int x4, .int x5, .int x6] below meth c X (Qi X r M9) s.heap [] 0 ls []
  have hP : wd X M s.heap := hP
  unfold fn_X8_addPiece at hf
  have key : ∀ (H : Heap) (locs : List Loc), wd X M H → va_S X.A s.heap H locs → WW p l e 4 95 s m [.ref (X.ad 61), .int x1, .int x2, .int x3, .int x4, .int x5, .int x6] below meth c X (Qi X r M9) H locs 0 ls [] := by
    intro H locs hP hS
    refine lv_iload_n hx hb dX8_addPiece_0 rfl (lv_at hl 1 rfl) ?_
    refine lv_iload_n hx hb dX8_addPiece_1 rfl (lv_at hl 2 rfl) ?_
    refine lv_iload_n hx hb dX8_addPiece_2 rfl (lv_at hl 3 rfl) ?_
    refine lv_iload hx hb dX8_addPiece_3 (lv_at hl 4 rfl) ?_
    refine lv_iload hx hb dX8_addPiece_5 (lv_at hl 5 rfl) ?_
    refine lv_iload hx hb dX8_addPiece_7 (lv_at hl 6 rfl) ?_
    refine k_X8_isBox hZ hP hS hl.1 wd_4_63 ⟨Nat.le_of_ble_eq_true rfl, Nat.le_of_ble_eq_true rfl⟩ (Nat.le_of_ble_eq_true rfl) dX8_addPiece_9 ⟨Nat.zero_le _, Nat.zero_le _⟩ (fun H locs hP hS => ?_)
    refine lv_if_ne (tgt := 17) hx hb dX8_addPiece_12 (by decide) (fun c_1 => ?_) (fun c_1 => ?_)
    · have hf := i_f c_1 hf
      refine lv_aload_n hx hb dX8_addPiece_17 rfl (lv_at hl 0 rfl) ?_
      refine lv_bipush (v := (-9 : Int32)) hx hb dX8_addPiece_18 (by decide) ?_
      refine lv_iload_n hx hb dX8_addPiece_20 rfl (lv_at hl 1 rfl) ?_
      refine lv_iload_n hx hb dX8_addPiece_21 rfl (lv_at hl 2 rfl) ?_
      refine lv_iload_n hx hb dX8_addPiece_22 rfl (lv_at hl 3 rfl) ?_
      refine lv_iload hx hb dX8_addPiece_23 (lv_at hl 4 rfl) ?_
      refine lv_iload hx hb dX8_addPiece_25 (lv_at hl 5 rfl) ?_
      refine lv_iload hx hb dX8_addPiece_27 (lv_at hl 6 rfl) ?_
      obtain ⟨r_2, h_r_2, hf⟩ := b_d hf
      refine k_X8_meets hZ hP hS hl.1 wd_4_39 ⟨Nat.le_of_ble_eq_true rfl, Nat.le_of_ble_eq_true rfl⟩ (Nat.le_of_ble_eq_true rfl) dX8_addPiece_29 ⟨Nat.zero_le _, Nat.zero_le _⟩ h_r_2 (fun H locs hP hS => ?_)
      refine lv_if_eq (tgt := 38) hx hb dX8_addPiece_32 (by decide) (fun c_3 => ?_) (fun c_3 => ?_)
      · have hf := i_t c_3 hf
        refine lv_aload_n hx hb dX8_addPiece_38 rfl (lv_at hl 0 rfl) ?_
        refine gX8_0 hx hb hts hown hk hP wd_3_192 dX8_addPiece_39 ?_
        refine lv_iconst (v := (0 : Int32)) hx hb dX8_addPiece_42 (by decide) ?_
        refine ald hx hb hk hP (by decide) rfl (show inb _ _ from by decide) dX8_addPiece_43 ?_
        refine lv_bipush (v := (8 : Int32)) hx hb dX8_addPiece_44 (by decide) ?_
        refine lv_icmp_ne (tgt := 52) hx hb dX8_addPiece_46 (by decide) (fun c_4 => ?_) (fun c_4 => ?_)
        · have hf := i_f c_4 hf
          refine lv_aload_n hx hb dX8_addPiece_52 rfl (lv_at hl 0 rfl) ?_
          obtain ⟨M_5, h_M_5, hf⟩ := b_d hf
          refine k_X8_records hZ hP hS hl.1 wd_4_47 ⟨Nat.le_of_ble_eq_true rfl, Nat.le_of_ble_eq_true rfl⟩ (Nat.le_of_ble_eq_true rfl) dX8_addPiece_53 ⟨Nat.zero_le _, Nat.zero_le _⟩ h_M_5 (fun H locs hP hS => ?_)
          refine lv_aload_n hx hb dX8_addPiece_56 rfl (lv_at hl 0 rfl) ?_
          refine gX8_0 hx hb hts hown hk hP wd_3_192 dX8_addPiece_57 ?_
          refine lv_iconst (v := (0 : Int32)) hx hb dX8_addPiece_60 (by decide) ?_
          refine ald hx hb hk hP (by decide) rfl (show inb _ _ from by decide) dX8_addPiece_61 ?_
          refine lv_topi (fun v7_6 e_v7_6 => ?_)
          have hf := b_v hf e_v7_6
          refine lv_istore (lv' := [(7, .int v7_6), (0, .ref (X.ad 61)), (1, .int x1), (2, .int x2), (3, .int x3), (4, .int x4), (5, .int x5), (6, .int x6)]) hx hb dX8_addPiece_62 hl (by decide) rfl (fun ls hl => ?_)
          refine lv_aload_n hx hb dX8_addPiece_64 rfl (lv_at hl 1 rfl) ?_
          refine gX8_0 hx hb hts hown hk hP wd_3_192 dX8_addPiece_65 ?_
          refine lv_iconst (v := (0 : Int32)) hx hb dX8_addPiece_68 (by decide) ?_
          refine lv_dup2_11 hx hb dX8_addPiece_69 rfl rfl ?_
          refine ald hx hb hk hP (by decide) rfl (show inb _ _ from by decide) dX8_addPiece_70 ?_
          refine lv_iconst (v := (1 : Int32)) hx hb dX8_addPiece_71 (by decide) ?_
          refine lv_iadd hx hb dX8_addPiece_72 ?_
          refine ast hx hb hk hP hS (by decide) (fun _ => rfl) (show inb _ _ from by decide) dX8_addPiece_73 (fun H locs M_7 e_M_7 hP hS => ?_)
          have hf := b_v hf e_M_7
          refine lv_aload_n hx hb dX8_addPiece_74 rfl (lv_at hl 1 rfl) ?_
          refine gX8_0 hx hb hts hown hk hP wd_3_192 dX8_addPiece_75 ?_
          refine lv_iconst (v := (3 : Int32)) hx hb dX8_addPiece_78 (by decide) ?_
          refine lv_iload hx hb dX8_addPiece_79 (lv_at hl 0 rfl) ?_
          refine lv_iadd hx hb dX8_addPiece_81 ?_
          refine lv_iconst (v := (0 : Int32)) hx hb dX8_addPiece_82 (by decide) ?_
          obtain ⟨q_9, hf⟩ := g_if hf
          refine ast hx hb hk hP hS (by decide) (fun _ => rfl) q_9 dX8_addPiece_83 (fun H locs M_8 e_M_8 hP hS => ?_)
          have hf := b_v hf e_M_8
          refine lv_aload_n hx hb dX8_addPiece_84 rfl (lv_at hl 1 rfl) ?_
          refine lv_iload hx hb dX8_addPiece_85 (lv_at hl 0 rfl) ?_
          refine lv_iload_n hx hb dX8_addPiece_87 rfl (lv_at hl 2 rfl) ?_
          refine lv_iload_n hx hb dX8_addPiece_88 rfl (lv_at hl 3 rfl) ?_
          refine lv_iload_n hx hb dX8_addPiece_89 rfl (lv_at hl 4 rfl) ?_
          refine lv_iload hx hb dX8_addPiece_90 (lv_at hl 5 rfl) ?_
          refine lv_iload hx hb dX8_addPiece_92 (lv_at hl 6 rfl) ?_
          refine lv_iload hx hb dX8_addPiece_94 (lv_at hl 7 rfl) ?_
          obtain ⟨M_10, h_M_10, hf⟩ := b_d hf
          refine k_X8_fills hZ hP hS hl.1 wd_4_43 ⟨Nat.le_of_ble_eq_true rfl, Nat.le_of_ble_eq_true rfl⟩ (Nat.le_of_ble_eq_true rfl) dX8_addPiece_96 ⟨Nat.zero_le _, Nat.zero_le _⟩ h_M_10 (fun H locs hP hS => ?_)
          refine lv_aload_n hx hb dX8_addPiece_99 rfl (lv_at hl 1 rfl) ?_
          obtain ⟨M_11, h_M_11, hf⟩ := b_d hf
          refine k_X8_lays hZ hP hS hl.1 wd_3_171 ⟨Nat.le_of_ble_eq_true rfl, Nat.le_of_ble_eq_true rfl⟩ (Nat.le_of_ble_eq_true rfl) dX8_addPiece_100 ⟨Nat.zero_le _, Nat.zero_le _⟩ h_M_11 (fun H locs hP hS => ?_)
          refine lv_iload hx hb dX8_addPiece_103 (lv_at hl 0 rfl) ?_
          have hf := Option.some.inj hf
          obtain ⟨e1, e2⟩ := Prod.mk.inj hf
          rw [e2] at hP
          exact ret_i hx hb hr hlocks hP hS e1 dX8_addPiece_105
        · have hf := i_t c_4 hf
          refine lv_bipush (v := (-3 : Int32)) hx hb dX8_addPiece_49 (by decide) ?_
          have hf := Option.some.inj hf
          obtain ⟨e1, e2⟩ := Prod.mk.inj hf
          rw [e2] at hP
          exact ret_i hx hb hr hlocks hP hS e1 dX8_addPiece_51
      · have hf := i_f c_3 hf
        refine lv_bipush (v := (-2 : Int32)) hx hb dX8_addPiece_35 (by decide) ?_
        have hf := Option.some.inj hf
        obtain ⟨e1, e2⟩ := Prod.mk.inj hf
        rw [e2] at hP
        exact ret_i hx hb hr hlocks hP hS e1 dX8_addPiece_37
    · have hf := i_t c_1 hf
      refine lv_iconst (v := (-1 : Int32)) hx hb dX8_addPiece_15 (by decide) ?_
      have hf := Option.some.inj hf
      obtain ⟨e1, e2⟩ := Prod.mk.inj hf
      rw [e2] at hP
      exact ret_i hx hb hr hlocks hP hS e1 dX8_addPiece_16
  exact key s.heap [] hP hS
theorem hd_X8_addPiece : Hd yX8_addPiece 6 := by decide +kernel
theorem k_X8_addPiece {p : Program} {l : Launch} {e : Env} {R : Room} {s : State} {m : MethodId} {args : Array Value} {below : List Frame} {meth : Method} {c : Code} {H : Heap} {locs : List Loc} {cells slots : Nat} {Q : State → Prop} {cc : ByteArray} {nL pc index : Nat} {ls : Array Slot} {rest : List Value} {X : En} {M : Mem} {H0 : Heap} {own : String} {g : Nat} {x1 : Int32} {x2 : Int32} {x3 : Int32} {x4 : Int32} {x5 : Int32} {x6 : Int32} {r : Int32} {M9 : Mem} (hZ : Fx p c m s args X cc nL own) (hP : wd X M H) (hS : va_S X.A H0 H locs) (hsz : ls.size = nL) (hlk : Cond.methodLink own index yX8_addPiece ∈ lw_u) (hR : 4 + 1 ≤ R.frames ∧ 8 + (8 + 11) + 95 ≤ R.locals) (hW : (rest.map fun v => v.category).sum ≤ 8) (hdg : decode cc pc = .ok (.invokevirtual index, 3)) (hcs : cells ≤ R.cells ∧ slots ≤ R.slots) (hf : fn_X8_addPiece g x1 x2 x3 x4 x5 x6 M = some (r, M9))
    (kk : ∀ (H1 : Heap) (locs1 : List Loc), wd X M9 H1 → va_S X.A H0 H1 locs1 → W p l e R s m args below meth c H1 locs1 cells slots Q (F0 m (pc + 3) ls (.int r :: rest))) : W p l e R s m args below meth c H locs cells slots Q (F0 m pc ls (.int x6 :: .int x5 :: .int x4 :: .int x3 :: .int x2 :: .int x1 :: .ref (X.ad 61) :: rest)) :=
  cal_i (runV (As := [.int x1, .int x2, .int x3, .int x4, .int x5, .int x6]) (rest := rest) hZ.1 hZ.2.1 hZ.2.2.1 hZ.2.2.2.1 hZ.2.2.2.2.1 hZ.2.2.2.2.2 hP (c_X8_addPiece g x1 x2 x3 x4 x5 x6 M r M9 hf) wd_4_62 wd_4_60 wd_4_61 wd_1_9 hd_X8_addPiece (by decide) rfl rfl rfl hlk hR hsz rfl hW hdg hcs) hS kk
/-! FrameRaiserModel.cellsOf -/
def jn_X8_cellsOf_26 (s_8 : Int32) (s_9 : Int32) (v3_7 : Int32) : Option ((Int32 × Int32) ⊕ (Int32)) :=
  bv (s_9 + s_8) fun v2_10 =>
  some (.inl (v2_10, v3_7 + (1 : Int32)))
def bd_X8_cellsOf_4 (x1 : Int32) (M : Mem) : (Int32 × Int32) → Option ((Int32 × Int32) ⊕ (Int32)) :=
  u2 fun v2_2 v3_1 =>
  if (216 : Int32) ≤ v3_1 then
    (some (.inr v2_2))
  else
    ((fn_X8_at v3_1 M).bind fun r_5 =>
    if r_5 = x1 then
      (jn_X8_cellsOf_26 (1 : Int32) v2_2 v3_1)
    else
      (jn_X8_cellsOf_26 (0 : Int32) v2_2 v3_1))
def fn_X8_cellsOf (g : Nat) (x1 : Int32) (M : Mem) : Option (Int32) :=
  (lpN g (bd_X8_cellsOf_4 x1 M) ((0 : Int32), (0 : Int32))).bind (u1 fun v2_3 =>
    some v2_3)
theorem dX8_cellsOf_0 : decode cX8_cellsOf 0 = .ok (.iconst 0, 1) := by decide +kernel
theorem dX8_cellsOf_1 : decode cX8_cellsOf 1 = .ok (.istore_n 2, 1) := by decide +kernel
theorem dX8_cellsOf_2 : decode cX8_cellsOf 2 = .ok (.iconst 0, 1) := by decide +kernel
theorem dX8_cellsOf_3 : decode cX8_cellsOf 3 = .ok (.istore_n 3, 1) := by decide +kernel
theorem dX8_cellsOf_4 : decode cX8_cellsOf 4 = .ok (.iload_n 3, 1) := by decide +kernel
theorem dX8_cellsOf_5 : decode cX8_cellsOf 5 = .ok (.sipush 216, 3) := by decide +kernel
theorem dX8_cellsOf_8 : decode cX8_cellsOf 8 = .ok (.if_icmp .ge 26, 3) := by decide +kernel
theorem dX8_cellsOf_11 : decode cX8_cellsOf 11 = .ok (.iload_n 2, 1) := by decide +kernel
theorem dX8_cellsOf_12 : decode cX8_cellsOf 12 = .ok (.aload_n 0, 1) := by decide +kernel
theorem dX8_cellsOf_13 : decode cX8_cellsOf 13 = .ok (.iload_n 3, 1) := by decide +kernel
theorem dX8_cellsOf_14 : decode cX8_cellsOf 14 = .ok (.invokevirtual 61, 3) := by decide +kernel
theorem dX8_cellsOf_17 : decode cX8_cellsOf 17 = .ok (.iload_n 1, 1) := by decide +kernel
theorem dX8_cellsOf_18 : decode cX8_cellsOf 18 = .ok (.if_icmp .ne 7, 3) := by decide +kernel
theorem dX8_cellsOf_21 : decode cX8_cellsOf 21 = .ok (.iconst 1, 1) := by decide +kernel
theorem dX8_cellsOf_22 : decode cX8_cellsOf 22 = .ok (.goto 4, 3) := by decide +kernel
theorem dX8_cellsOf_25 : decode cX8_cellsOf 25 = .ok (.iconst 0, 1) := by decide +kernel
theorem dX8_cellsOf_26 : decode cX8_cellsOf 26 = .ok (.iadd, 1) := by decide +kernel
theorem dX8_cellsOf_27 : decode cX8_cellsOf 27 = .ok (.istore_n 2, 1) := by decide +kernel
theorem dX8_cellsOf_28 : decode cX8_cellsOf 28 = .ok (.iinc 3 1, 3) := by decide +kernel
theorem dX8_cellsOf_31 : decode cX8_cellsOf 31 = .ok (.goto (-27), 3) := by decide +kernel
theorem dX8_cellsOf_34 : decode cX8_cellsOf 34 = .ok (.iload_n 2, 1) := by decide +kernel
theorem dX8_cellsOf_35 : decode cX8_cellsOf 35 = .ok (.ireturn, 1) := by decide +kernel
set_option maxHeartbeats 4000000 in
set_option maxRecDepth 100000 in
theorem c_X8_cellsOf {l : Launch} {X : En} (g : Nat) (x1 : Int32) (M : Mem) (r : Int32) (hf : fn_X8_cellsOf g x1 M = some r) : Cn l X yX8_cellsOf cX8_cellsOf 4 (some .int) 1 21 [.ref (X.ad 61), .int x1] M (Qi X r M) := by
  refine Met.ofW (cc := cX8_cellsOf) (maxL := 4) (ret := (some .int)) (by decide) rfl ?_
  intro p e s m args below meth c s₁ B hml hv
  obtain ⟨rfl, hP, hk⟩ := hv
  have hx := B.exec
  have hb := B.bytes
  have hr := B.returns
  have hlocks := B.notSynchronized
  have hts : ∀ w ∈ lw_u, w.before ([.ref (X.ad 61), .int x1] : List Value).toArray s = true := fun w hw => atoms_spec (ws := Cond.code yX8_cellsOf cX8_cellsOf 4 (some .int) :: lw_u) B.pre w (List.mem_cons_of_mem _ hw)
  have hown : s.vm.findClass RX8 = some m.cls := findClass_of_methodNamed B.named
  have hZ : Fx p c m s ([.ref (X.ad 61), .int x1] : List Value).toArray X cX8_cellsOf 4 RX8 := ⟨hx, hb, hml, hts, hown, hk⟩
  have hS : va_S X.A s.heap s.heap [] := va_S.rf
  have hl := lv_entry ([.ref (X.ad 61), .int x1]) (n := 4) (Nat.le_of_ble_eq_true rfl)
  rw [lg_entry_eq]
  generalize (lg_sl ([.ref (X.ad 61), .int x1]) ++ List.replicate (4 - (lg_sl ([.ref (X.ad 61), .int x1])).length) Slot.unset).toArray = ls at hl ⊢
  have hl : lv_has ls 4 [(0, .ref (X.ad 61)), (1, .int x1)] := hl
  show WW p l e 1 21 s m [.ref (X.ad 61), .int x1] below meth c X (Qi X r M) s.heap [] 0 ls []
  have hP : wd X M s.heap := hP
  unfold fn_X8_cellsOf at hf
  have key : ∀ (H : Heap) (locs : List Loc), wd X M H → va_S X.A s.heap H locs → WW p l e 1 21 s m [.ref (X.ad 61), .int x1] below meth c X (Qi X r M) H locs 0 ls [] := by
    intro H locs hP hS
    refine lv_iconst (v := (0 : Int32)) hx hb dX8_cellsOf_0 (by decide) ?_
    refine lv_istore_n (lv' := [(2, .int (0 : Int32)), (0, .ref (X.ad 61)), (1, .int x1)]) hx hb dX8_cellsOf_1 rfl hl (by decide) rfl (fun ls hl => ?_)
    refine lv_iconst (v := (0 : Int32)) hx hb dX8_cellsOf_2 (by decide) ?_
    refine lv_istore_n (lv' := [(3, .int (0 : Int32)), (2, .int (0 : Int32)), (0, .ref (X.ad 61)), (1, .int x1)]) hx hb dX8_cellsOf_3 rfl hl (by decide) rfl (fun ls hl => ?_)
    obtain ⟨o4, ho4, hf⟩ := b_d hf
    refine lp_rule (b := bd_X8_cellsOf_4 x1 M) (P := fun w : Int32 × Int32 => ∀ (H : Heap) (locs : List Loc) (ls : Array Slot), wd X M H → va_S X.A s.heap H locs → lv_has ls 4 [(3, .int w.2), (2, .int w.1), (0, .ref (X.ad 61)), (1, .int x1)] → WW p l e 1 21 s m [.ref (X.ad 61), .int x1] below meth c X (Qi X r M) H locs 4 ls []) (K := fun o => ∀ (v2_3 : Int32), o = v2_3 → ∀ (H : Heap) (locs : List Loc) (ls : Array Slot), wd X M H → va_S X.A s.heap H locs → lv_has ls 4 [(2, .int v2_3)] → WW p l e 1 21 s m [.ref (X.ad 61), .int x1] below meth c X (Qi X r M) H locs 34 ls []) ?_ g ((0 : Int32), (0 : Int32)) o4 ho4 ?_ H locs ls hP hS (lv_sub hl [0, 1, 2, 3] rfl)
    · rintro ⟨v2_2, v3_1⟩ o hf hkc4 hke4 H locs ls hP hS hl
      have hf := u2_e hf
      have jn26 : ∀ (v3_7 : Int32) (s_8 : Int32) (s_9 : Int32), jn_X8_cellsOf_26 s_8 s_9 v3_7 = some o → ∀ (H : Heap) (locs : List Loc) (ls : Array Slot), wd X M H → va_S X.A s.heap H locs → lv_has ls 4 [(0, .ref (X.ad 61)), (1, .int x1), (3, .int v3_7)] → WW p l e 1 21 s m [.ref (X.ad 61), .int x1] below meth c X (Qi X r M) H locs 26 ls [.int s_8, .int s_9] := by
        intro v3_7 s_8 s_9  hf H locs ls hP hS hl
        unfold jn_X8_cellsOf_26 at hf
        refine lv_iadd hx hb dX8_cellsOf_26 ?_
        refine lv_topi (fun v2_10 e_v2_10 => ?_)
        have hf := b_v hf e_v2_10
        refine lv_istore_n (lv' := [(2, .int v2_10), (0, .ref (X.ad 61)), (1, .int x1), (3, .int v3_7)]) hx hb dX8_cellsOf_27 rfl hl (by decide) rfl (fun ls hl => ?_)
        refine lv_iinc (v := v3_7 + (1 : Int32)) (lv' := [(3, .int (v3_7 + (1 : Int32))), (2, .int v2_10), (0, .ref (X.ad 61)), (1, .int x1)]) hx hb dX8_cellsOf_28 hl (k := 3) rfl rfl (by decide) rfl (fun ls hl => ?_)
        refine lv_goto (tgt := 4) hx hb dX8_cellsOf_31 (by decide) ?_
        exact hkc4 _ (Option.some.inj hf).symm H locs ls hP hS (lv_sub hl [0, 1, 2, 3] rfl)
      refine lv_iload_n hx hb dX8_cellsOf_4 rfl (lv_at hl 0 rfl) ?_
      refine lv_sipush (v := (216 : Int32)) hx hb dX8_cellsOf_5 (by decide) ?_
      refine lv_icmp_ge (tgt := 34) hx hb dX8_cellsOf_8 (by decide) (fun c_4 => ?_) (fun c_4 => ?_)
      · have hf := i_t c_4 hf
        exact hke4 _ (Option.some.inj hf).symm _ rfl H locs ls hP hS (lv_sub hl [1] rfl)
      · have hf := i_f c_4 hf
        refine lv_iload_n hx hb dX8_cellsOf_11 rfl (lv_at hl 1 rfl) ?_
        refine lv_aload_n hx hb dX8_cellsOf_12 rfl (lv_at hl 2 rfl) ?_
        refine lv_iload_n hx hb dX8_cellsOf_13 rfl (lv_at hl 0 rfl) ?_
        obtain ⟨r_5, h_r_5, hf⟩ := b_d hf
        refine k_X8_at hZ hP hS hl.1 wd_3_175 ⟨Nat.le_of_ble_eq_true rfl, Nat.le_of_ble_eq_true rfl⟩ (Nat.le_of_ble_eq_true rfl) dX8_cellsOf_14 ⟨Nat.zero_le _, Nat.zero_le _⟩ h_r_5 (fun H locs hP hS => ?_)
        refine lv_iload_n hx hb dX8_cellsOf_17 rfl (lv_at hl 3 rfl) ?_
        refine lv_icmp_ne (tgt := 25) hx hb dX8_cellsOf_18 (by decide) (fun c_6 => ?_) (fun c_6 => ?_)
        · have hf := i_f c_6 hf
          refine lv_iconst (v := (0 : Int32)) hx hb dX8_cellsOf_25 (by decide) ?_
          exact jn26 v3_1 (0 : Int32) v2_2 hf H locs ls hP hS (lv_sub hl [2, 3, 0] rfl)
        · have hf := i_t c_6 hf
          refine lv_iconst (v := (1 : Int32)) hx hb dX8_cellsOf_21 (by decide) ?_
          refine lv_goto (tgt := 26) hx hb dX8_cellsOf_22 (by decide) ?_
          exact jn26 v3_1 (1 : Int32) v2_2 hf H locs ls hP hS (lv_sub hl [2, 3, 0] rfl)
    · intro v2_3 e H locs ls hP hS hl
      subst o4
      have hf := u1_e hf
      refine lv_iload_n hx hb dX8_cellsOf_34 rfl (lv_at hl 0 rfl) ?_
      have hf := Option.some.inj hf
      exact ret_i hx hb hr hlocks hP hS hf dX8_cellsOf_35
  exact key s.heap [] hP hS
theorem hd_X8_cellsOf : Hd yX8_cellsOf 1 := by decide +kernel
theorem k_X8_cellsOf {p : Program} {l : Launch} {e : Env} {R : Room} {s : State} {m : MethodId} {args : Array Value} {below : List Frame} {meth : Method} {c : Code} {H : Heap} {locs : List Loc} {cells slots : Nat} {Q : State → Prop} {cc : ByteArray} {nL pc index : Nat} {ls : Array Slot} {rest : List Value} {X : En} {M : Mem} {H0 : Heap} {own : String} {g : Nat} {x1 : Int32} {r : Int32} (hZ : Fx p c m s args X cc nL own) (hP : wd X M H) (hS : va_S X.A H0 H locs) (hsz : ls.size = nL) (hlk : Cond.methodLink own index yX8_cellsOf ∈ lw_u) (hR : 1 + 1 ≤ R.frames ∧ 8 + (4 + 11) + 21 ≤ R.locals) (hW : (rest.map fun v => v.category).sum ≤ 8) (hdg : decode cc pc = .ok (.invokevirtual index, 3)) (hcs : cells ≤ R.cells ∧ slots ≤ R.slots) (hf : fn_X8_cellsOf g x1 M = some r)
    (kk : ∀ (H1 : Heap) (locs1 : List Loc), wd X M H1 → va_S X.A H0 H1 locs1 → W p l e R s m args below meth c H1 locs1 cells slots Q (F0 m (pc + 3) ls (.int r :: rest))) : W p l e R s m args below meth c H locs cells slots Q (F0 m pc ls (.int x1 :: .ref (X.ad 61) :: rest)) :=
  cal_i (runV (As := [.int x1]) (rest := rest) hZ.1 hZ.2.1 hZ.2.2.1 hZ.2.2.2.1 hZ.2.2.2.2.1 hZ.2.2.2.2.2 hP (c_X8_cellsOf g x1 M r hf) wd_4_77 wd_4_76 wd_p_40 wd_1_9 hd_X8_cellsOf (by decide) rfl rfl rfl hlk hR hsz rfl hW hdg hcs) hS kk
/-! FrameRaiserModel.extend -/
def fn_X8_extend (g : Nat) (x1 : Int32) (x2 : Int32) (x3 : Int32) (x4 : Int32) (x5 : Int32) (x6 : Int32) (x7 : Int32) (M : Mem) : Option (Int32 × Mem) :=
  if (fn_X8_isPiece x1 M) = 0 then
    (some ((-1 : Int32), M))
  else
    (if (fn_X8_isBox x2 x3 x4 x5 x6 x7) = 0 then
      (some ((-1 : Int32), M))
    else
      ((fn_X8_meets g x1 x2 x3 x4 x5 x6 x7 M).bind fun r_3 =>
      if r_3 = 0 then
        (if inb ((3 : Int32) + x1) 2270 then
        if (M 62 (ix ((3 : Int32) + x1))) = (4 : Int32) then
          (some ((-3 : Int32), M))
        else
          ((fn_X8_records g M).bind fun M_7 =>
          (fn_X8_fills g x1 x2 x3 x4 x5 x6 x7 M_7).bind fun M_8 =>
          (fn_X8_lays g M_8).bind fun M_9 =>
          (fn_X8_cellsOf g x1 M_9).bind fun r_10 =>
          some (r_10, M_9))
        else none)
      else
        (some ((-2 : Int32), M))))
theorem dX8_extend_0 : decode cX8_extend 0 = .ok (.aload_n 0, 1) := by decide +kernel
theorem dX8_extend_1 : decode cX8_extend 1 = .ok (.iload_n 1, 1) := by decide +kernel
theorem dX8_extend_2 : decode cX8_extend 2 = .ok (.invokevirtual 146, 3) := by decide +kernel
theorem dX8_extend_5 : decode cX8_extend 5 = .ok (.ifCond .eq 19, 3) := by decide +kernel
theorem dX8_extend_8 : decode cX8_extend 8 = .ok (.iload_n 2, 1) := by decide +kernel
theorem dX8_extend_9 : decode cX8_extend 9 = .ok (.iload_n 3, 1) := by decide +kernel
theorem dX8_extend_10 : decode cX8_extend 10 = .ok (.iload 4, 2) := by decide +kernel
theorem dX8_extend_12 : decode cX8_extend 12 = .ok (.iload 5, 2) := by decide +kernel
theorem dX8_extend_14 : decode cX8_extend 14 = .ok (.iload 6, 2) := by decide +kernel
theorem dX8_extend_16 : decode cX8_extend 16 = .ok (.iload 7, 2) := by decide +kernel
theorem dX8_extend_18 : decode cX8_extend 18 = .ok (.invokestatic 142, 3) := by decide +kernel
theorem dX8_extend_21 : decode cX8_extend 21 = .ok (.ifCond .ne 5, 3) := by decide +kernel
theorem dX8_extend_24 : decode cX8_extend 24 = .ok (.iconst (-1), 1) := by decide +kernel
theorem dX8_extend_25 : decode cX8_extend 25 = .ok (.ireturn, 1) := by decide +kernel
theorem dX8_extend_26 : decode cX8_extend 26 = .ok (.aload_n 0, 1) := by decide +kernel
theorem dX8_extend_27 : decode cX8_extend 27 = .ok (.iload_n 1, 1) := by decide +kernel
theorem dX8_extend_28 : decode cX8_extend 28 = .ok (.iload_n 2, 1) := by decide +kernel
theorem dX8_extend_29 : decode cX8_extend 29 = .ok (.iload_n 3, 1) := by decide +kernel
theorem dX8_extend_30 : decode cX8_extend 30 = .ok (.iload 4, 2) := by decide +kernel
theorem dX8_extend_32 : decode cX8_extend 32 = .ok (.iload 5, 2) := by decide +kernel
theorem dX8_extend_34 : decode cX8_extend 34 = .ok (.iload 6, 2) := by decide +kernel
theorem dX8_extend_36 : decode cX8_extend 36 = .ok (.iload 7, 2) := by decide +kernel
theorem dX8_extend_38 : decode cX8_extend 38 = .ok (.invokevirtual 119, 3) := by decide +kernel
theorem dX8_extend_41 : decode cX8_extend 41 = .ok (.ifCond .eq 6, 3) := by decide +kernel
theorem dX8_extend_44 : decode cX8_extend 44 = .ok (.bipush (-2), 2) := by decide +kernel
theorem dX8_extend_46 : decode cX8_extend 46 = .ok (.ireturn, 1) := by decide +kernel
theorem dX8_extend_47 : decode cX8_extend 47 = .ok (.aload_n 0, 1) := by decide +kernel
theorem dX8_extend_48 : decode cX8_extend 48 = .ok (.getfield 7, 3) := by decide +kernel
theorem dX8_extend_51 : decode cX8_extend 51 = .ok (.iconst 3, 1) := by decide +kernel
theorem dX8_extend_52 : decode cX8_extend 52 = .ok (.iload_n 1, 1) := by decide +kernel
theorem dX8_extend_53 : decode cX8_extend 53 = .ok (.iadd, 1) := by decide +kernel
theorem dX8_extend_54 : decode cX8_extend 54 = .ok (.iaload, 1) := by decide +kernel
theorem dX8_extend_55 : decode cX8_extend 55 = .ok (.iconst 4, 1) := by decide +kernel
theorem dX8_extend_56 : decode cX8_extend 56 = .ok (.if_icmp .ne 6, 3) := by decide +kernel
theorem dX8_extend_59 : decode cX8_extend 59 = .ok (.bipush (-3), 2) := by decide +kernel
theorem dX8_extend_61 : decode cX8_extend 61 = .ok (.ireturn, 1) := by decide +kernel
theorem dX8_extend_62 : decode cX8_extend 62 = .ok (.aload_n 0, 1) := by decide +kernel
theorem dX8_extend_63 : decode cX8_extend 63 = .ok (.invokevirtual 139, 3) := by decide +kernel
theorem dX8_extend_66 : decode cX8_extend 66 = .ok (.aload_n 0, 1) := by decide +kernel
theorem dX8_extend_67 : decode cX8_extend 67 = .ok (.iload_n 1, 1) := by decide +kernel
theorem dX8_extend_68 : decode cX8_extend 68 = .ok (.iload_n 2, 1) := by decide +kernel
theorem dX8_extend_69 : decode cX8_extend 69 = .ok (.iload_n 3, 1) := by decide +kernel
theorem dX8_extend_70 : decode cX8_extend 70 = .ok (.iload 4, 2) := by decide +kernel
theorem dX8_extend_72 : decode cX8_extend 72 = .ok (.iload 5, 2) := by decide +kernel
theorem dX8_extend_74 : decode cX8_extend 74 = .ok (.iload 6, 2) := by decide +kernel
theorem dX8_extend_76 : decode cX8_extend 76 = .ok (.iload 7, 2) := by decide +kernel
theorem dX8_extend_78 : decode cX8_extend 78 = .ok (.invokevirtual 123, 3) := by decide +kernel
theorem dX8_extend_81 : decode cX8_extend 81 = .ok (.aload_n 0, 1) := by decide +kernel
theorem dX8_extend_82 : decode cX8_extend 82 = .ok (.invokevirtual 38, 3) := by decide +kernel
theorem dX8_extend_85 : decode cX8_extend 85 = .ok (.aload_n 0, 1) := by decide +kernel
theorem dX8_extend_86 : decode cX8_extend 86 = .ok (.iload_n 1, 1) := by decide +kernel
theorem dX8_extend_87 : decode cX8_extend 87 = .ok (.invokevirtual 150, 3) := by decide +kernel
theorem dX8_extend_90 : decode cX8_extend 90 = .ok (.ireturn, 1) := by decide +kernel
set_option maxHeartbeats 4000000 in
set_option maxRecDepth 100000 in
theorem c_X8_extend {l : Launch} {X : En} (g : Nat) (x1 : Int32) (x2 : Int32) (x3 : Int32) (x4 : Int32) (x5 : Int32) (x6 : Int32) (x7 : Int32) (M : Mem) (r : Int32) (M9 : Mem) (hf : fn_X8_extend g x1 x2 x3 x4 x5 x6 x7 M = some (r, M9)) : Cn l X yX8_extend cX8_extend 8 (some .int) 4 95 [.ref (X.ad 61), .int x1, .int x2, .int x3, .int x4, .int x5, .int x6, .int x7] M (Qi X r M9) := by
  refine Met.ofW (cc := cX8_extend) (maxL := 8) (ret := (some .int)) (by decide) rfl ?_
  intro p e s m args below meth c s₁ B hml hv
  obtain ⟨rfl, hP, hk⟩ := hv
  have hx := B.exec
  have hb := B.bytes
  have hr := B.returns
  have hlocks := B.notSynchronized
  have hts : ∀ w ∈ lw_u, w.before ([.ref (X.ad 61), .int x1, .int x2, .int x3, .int x4, .int x5, .int x6, .int x7] : List Value).toArray s = true := fun w hw => atoms_spec (ws := Cond.code yX8_extend cX8_extend 8 (some .int) :: lw_u) B.pre w (List.mem_cons_of_mem _ hw)
  have hown : s.vm.findClass RX8 = some m.cls := findClass_of_methodNamed B.named
  have hZ : Fx p c m s ([.ref (X.ad 61), .int x1, .int x2, .int x3, .int x4, .int x5, .int x6, .int x7] : List Value).toArray X cX8_extend 8 RX8 := ⟨hx, hb, hml, hts, hown, hk⟩
  have hS : va_S X.A s.heap s.heap [] := va_S.rf
  have hl := lv_entry ([.ref (X.ad 61), .int x1, .int x2, .int x3, .int x4, .int x5, .int x6, .int x7]) (n := 8) (Nat.le_of_ble_eq_true rfl)
  rw [lg_entry_eq]
  generalize (lg_sl ([.ref (X.ad 61), .int x1, .int x2, .int x3, .int x4, .int x5, .int x6, .int x7]) ++ List.replicate (8 - (lg_sl ([.ref (X.ad 61), .int x1, .int x2, .int x3, .int x4, .int x5, .int x6, .int x7])).length) Slot.unset).toArray = ls at hl ⊢
  have hl : lv_has ls 8 [(0, .ref (X.ad 61)), (1, .int x1), (2, .int x2), (3, .int x3), (4, .int x4), (5, .int x5), (6, .int x6), (7, .int x7)] := hl
  show WW p l e 4 95 s m [.ref (X.ad 61), .int x1, .int x2, .int x3, .int x4, .int x5, .int x6, .int x7] below meth c X (Qi X r M9) s.heap [] 0 ls []
  have hP : wd X M s.heap := hP
  unfold fn_X8_extend at hf
  have key : ∀ (H : Heap) (locs : List Loc), wd X M H → va_S X.A s.heap H locs → WW p l e 4 95 s m [.ref (X.ad 61), .int x1, .int x2, .int x3, .int x4, .int x5, .int x6, .int x7] below meth c X (Qi X r M9) H locs 0 ls [] := by
    intro H locs hP hS
    refine lv_aload_n hx hb dX8_extend_0 rfl (lv_at hl 0 rfl) ?_
    refine lv_iload_n hx hb dX8_extend_1 rfl (lv_at hl 1 rfl) ?_
    refine k_X8_isPiece hZ hP hS hl.1 wd_4_70 ⟨Nat.le_of_ble_eq_true rfl, Nat.le_of_ble_eq_true rfl⟩ (Nat.le_of_ble_eq_true rfl) dX8_extend_2 ⟨Nat.zero_le _, Nat.zero_le _⟩ (fun H locs hP hS => ?_)
    refine lv_if_eq (tgt := 24) hx hb dX8_extend_5 (by decide) (fun c_1 => ?_) (fun c_1 => ?_)
    · have hf := i_t c_1 hf
      refine lv_iconst (v := (-1 : Int32)) hx hb dX8_extend_24 (by decide) ?_
      have hf := Option.some.inj hf
      obtain ⟨e1, e2⟩ := Prod.mk.inj hf
      rw [e2] at hP
      exact ret_i hx hb hr hlocks hP hS e1 dX8_extend_25
    · have hf := i_f c_1 hf
      refine lv_iload_n hx hb dX8_extend_8 rfl (lv_at hl 2 rfl) ?_
      refine lv_iload_n hx hb dX8_extend_9 rfl (lv_at hl 3 rfl) ?_
      refine lv_iload hx hb dX8_extend_10 (lv_at hl 4 rfl) ?_
      refine lv_iload hx hb dX8_extend_12 (lv_at hl 5 rfl) ?_
      refine lv_iload hx hb dX8_extend_14 (lv_at hl 6 rfl) ?_
      refine lv_iload hx hb dX8_extend_16 (lv_at hl 7 rfl) ?_
      refine k_X8_isBox hZ hP hS hl.1 wd_4_63 ⟨Nat.le_of_ble_eq_true rfl, Nat.le_of_ble_eq_true rfl⟩ (Nat.le_of_ble_eq_true rfl) dX8_extend_18 ⟨Nat.zero_le _, Nat.zero_le _⟩ (fun H locs hP hS => ?_)
      refine lv_if_ne (tgt := 26) hx hb dX8_extend_21 (by decide) (fun c_2 => ?_) (fun c_2 => ?_)
      · have hf := i_f c_2 hf
        refine lv_aload_n hx hb dX8_extend_26 rfl (lv_at hl 0 rfl) ?_
        refine lv_iload_n hx hb dX8_extend_27 rfl (lv_at hl 1 rfl) ?_
        refine lv_iload_n hx hb dX8_extend_28 rfl (lv_at hl 2 rfl) ?_
        refine lv_iload_n hx hb dX8_extend_29 rfl (lv_at hl 3 rfl) ?_
        refine lv_iload hx hb dX8_extend_30 (lv_at hl 4 rfl) ?_
        refine lv_iload hx hb dX8_extend_32 (lv_at hl 5 rfl) ?_
        refine lv_iload hx hb dX8_extend_34 (lv_at hl 6 rfl) ?_
        refine lv_iload hx hb dX8_extend_36 (lv_at hl 7 rfl) ?_
        obtain ⟨r_3, h_r_3, hf⟩ := b_d hf
        refine k_X8_meets hZ hP hS hl.1 wd_4_39 ⟨Nat.le_of_ble_eq_true rfl, Nat.le_of_ble_eq_true rfl⟩ (Nat.le_of_ble_eq_true rfl) dX8_extend_38 ⟨Nat.zero_le _, Nat.zero_le _⟩ h_r_3 (fun H locs hP hS => ?_)
        refine lv_if_eq (tgt := 47) hx hb dX8_extend_41 (by decide) (fun c_4 => ?_) (fun c_4 => ?_)
        · have hf := i_t c_4 hf
          refine lv_aload_n hx hb dX8_extend_47 rfl (lv_at hl 0 rfl) ?_
          refine gX8_0 hx hb hts hown hk hP wd_3_192 dX8_extend_48 ?_
          refine lv_iconst (v := (3 : Int32)) hx hb dX8_extend_51 (by decide) ?_
          refine lv_iload_n hx hb dX8_extend_52 rfl (lv_at hl 1 rfl) ?_
          refine lv_iadd hx hb dX8_extend_53 ?_
          obtain ⟨q_5, hf⟩ := g_if hf
          refine ald hx hb hk hP (by decide) rfl q_5 dX8_extend_54 ?_
          refine lv_iconst (v := (4 : Int32)) hx hb dX8_extend_55 (by decide) ?_
          refine lv_icmp_ne (tgt := 62) hx hb dX8_extend_56 (by decide) (fun c_6 => ?_) (fun c_6 => ?_)
          · have hf := i_f c_6 hf
            refine lv_aload_n hx hb dX8_extend_62 rfl (lv_at hl 0 rfl) ?_
            obtain ⟨M_7, h_M_7, hf⟩ := b_d hf
            refine k_X8_records hZ hP hS hl.1 wd_4_47 ⟨Nat.le_of_ble_eq_true rfl, Nat.le_of_ble_eq_true rfl⟩ (Nat.le_of_ble_eq_true rfl) dX8_extend_63 ⟨Nat.zero_le _, Nat.zero_le _⟩ h_M_7 (fun H locs hP hS => ?_)
            refine lv_aload_n hx hb dX8_extend_66 rfl (lv_at hl 0 rfl) ?_
            refine lv_iload_n hx hb dX8_extend_67 rfl (lv_at hl 1 rfl) ?_
            refine lv_iload_n hx hb dX8_extend_68 rfl (lv_at hl 2 rfl) ?_
            refine lv_iload_n hx hb dX8_extend_69 rfl (lv_at hl 3 rfl) ?_
            refine lv_iload hx hb dX8_extend_70 (lv_at hl 4 rfl) ?_
            refine lv_iload hx hb dX8_extend_72 (lv_at hl 5 rfl) ?_
            refine lv_iload hx hb dX8_extend_74 (lv_at hl 6 rfl) ?_
            refine lv_iload hx hb dX8_extend_76 (lv_at hl 7 rfl) ?_
            obtain ⟨M_8, h_M_8, hf⟩ := b_d hf
            refine k_X8_fills hZ hP hS hl.1 wd_4_43 ⟨Nat.le_of_ble_eq_true rfl, Nat.le_of_ble_eq_true rfl⟩ (Nat.le_of_ble_eq_true rfl) dX8_extend_78 ⟨Nat.zero_le _, Nat.zero_le _⟩ h_M_8 (fun H locs hP hS => ?_)
            refine lv_aload_n hx hb dX8_extend_81 rfl (lv_at hl 0 rfl) ?_
            obtain ⟨M_9, h_M_9, hf⟩ := b_d hf
            refine k_X8_lays hZ hP hS hl.1 wd_3_171 ⟨Nat.le_of_ble_eq_true rfl, Nat.le_of_ble_eq_true rfl⟩ (Nat.le_of_ble_eq_true rfl) dX8_extend_82 ⟨Nat.zero_le _, Nat.zero_le _⟩ h_M_9 (fun H locs hP hS => ?_)
            refine lv_aload_n hx hb dX8_extend_85 rfl (lv_at hl 0 rfl) ?_
            refine lv_iload_n hx hb dX8_extend_86 rfl (lv_at hl 1 rfl) ?_
            obtain ⟨r_10, h_r_10, hf⟩ := b_d hf
            refine k_X8_cellsOf hZ hP hS hl.1 wd_4_74 ⟨Nat.le_of_ble_eq_true rfl, Nat.le_of_ble_eq_true rfl⟩ (Nat.le_of_ble_eq_true rfl) dX8_extend_87 ⟨Nat.zero_le _, Nat.zero_le _⟩ h_r_10 (fun H locs hP hS => ?_)
            have hf := Option.some.inj hf
            obtain ⟨e1, e2⟩ := Prod.mk.inj hf
            rw [e2] at hP
            exact ret_i hx hb hr hlocks hP hS e1 dX8_extend_90
          · have hf := i_t c_6 hf
            refine lv_bipush (v := (-3 : Int32)) hx hb dX8_extend_59 (by decide) ?_
            have hf := Option.some.inj hf
            obtain ⟨e1, e2⟩ := Prod.mk.inj hf
            rw [e2] at hP
            exact ret_i hx hb hr hlocks hP hS e1 dX8_extend_61
        · have hf := i_f c_4 hf
          refine lv_bipush (v := (-2 : Int32)) hx hb dX8_extend_44 (by decide) ?_
          have hf := Option.some.inj hf
          obtain ⟨e1, e2⟩ := Prod.mk.inj hf
          rw [e2] at hP
          exact ret_i hx hb hr hlocks hP hS e1 dX8_extend_46
      · have hf := i_t c_2 hf
        refine lv_iconst (v := (-1 : Int32)) hx hb dX8_extend_24 (by decide) ?_
        have hf := Option.some.inj hf
        obtain ⟨e1, e2⟩ := Prod.mk.inj hf
        rw [e2] at hP
        exact ret_i hx hb hr hlocks hP hS e1 dX8_extend_25
  exact key s.heap [] hP hS
theorem hd_X8_extend : Hd yX8_extend 7 := by decide +kernel
theorem k_X8_extend {p : Program} {l : Launch} {e : Env} {R : Room} {s : State} {m : MethodId} {args : Array Value} {below : List Frame} {meth : Method} {c : Code} {H : Heap} {locs : List Loc} {cells slots : Nat} {Q : State → Prop} {cc : ByteArray} {nL pc index : Nat} {ls : Array Slot} {rest : List Value} {X : En} {M : Mem} {H0 : Heap} {own : String} {g : Nat} {x1 : Int32} {x2 : Int32} {x3 : Int32} {x4 : Int32} {x5 : Int32} {x6 : Int32} {x7 : Int32} {r : Int32} {M9 : Mem} (hZ : Fx p c m s args X cc nL own) (hP : wd X M H) (hS : va_S X.A H0 H locs) (hsz : ls.size = nL) (hlk : Cond.methodLink own index yX8_extend ∈ lw_u) (hR : 4 + 1 ≤ R.frames ∧ 8 + (8 + 11) + 95 ≤ R.locals) (hW : (rest.map fun v => v.category).sum ≤ 8) (hdg : decode cc pc = .ok (.invokevirtual index, 3)) (hcs : cells ≤ R.cells ∧ slots ≤ R.slots) (hf : fn_X8_extend g x1 x2 x3 x4 x5 x6 x7 M = some (r, M9))
    (kk : ∀ (H1 : Heap) (locs1 : List Loc), wd X M9 H1 → va_S X.A H0 H1 locs1 → W p l e R s m args below meth c H1 locs1 cells slots Q (F0 m (pc + 3) ls (.int r :: rest))) : W p l e R s m args below meth c H locs cells slots Q (F0 m pc ls (.int x7 :: .int x6 :: .int x5 :: .int x4 :: .int x3 :: .int x2 :: .int x1 :: .ref (X.ad 61) :: rest)) :=
  cal_i (runV (As := [.int x1, .int x2, .int x3, .int x4, .int x5, .int x6, .int x7]) (rest := rest) hZ.1 hZ.2.1 hZ.2.2.1 hZ.2.2.2.1 hZ.2.2.2.2.1 hZ.2.2.2.2.2 hP (c_X8_extend g x1 x2 x3 x4 x5 x6 x7 M r M9 hf) wd_4_69 wd_4_67 wd_4_68 wd_1_9 hd_X8_extend (by decide) rfl rfl rfl hlk hR hsz rfl hW hdg hcs) hS kk
/-! FrameRaiserModel.drop -/
def jn_X8_drop_58 (s_11 : Int32) (s_12 : Int32) (v2_10 : Int32) (M_13 : Mem) : Option ((Int32 × Mem) ⊕ (Mem)) :=
  if inb s_12 2270 then
  bv (st M_13 62 (ix s_12) s_11) fun M_14 =>
  some (.inl (v2_10 + (1 : Int32), M_14))
  else none
def bd_X8_drop_16 (x1 : Int32) : (Int32 × Mem) → Option ((Int32 × Mem) ⊕ (Mem)) :=
  u2 fun v2_3 M_4 =>
  if (216 : Int32) ≤ v2_3 then
    (some (.inr M_4))
  else
    ((fn_X8_at v2_3 M_4).bind fun r_7 =>
    if r_7 = x1 then
      (jn_X8_drop_58 (0 : Int32) ((11 : Int32) + v2_3) v2_3 M_4)
    else
      (if r_7 ≤ x1 then
        (jn_X8_drop_58 (r_7 + (1 : Int32)) ((11 : Int32) + v2_3) v2_3 M_4)
      else
        (jn_X8_drop_58 r_7 ((11 : Int32) + v2_3) v2_3 M_4)))
def bd_X8_drop_67 : (Int32 × Mem) → Option ((Int32 × Mem) ⊕ (Mem)) :=
  u2 fun v2_16 M_17 =>
  if (8 : Int32) ≤ (v2_16 + (1 : Int32)) then
    (some (.inr M_17))
  else
    (if inb (((3 : Int32) + v2_16) + (1 : Int32)) 2270 then
    if inb ((3 : Int32) + v2_16) 2270 then
    bv (st M_17 62 (ix ((3 : Int32) + v2_16)) (M_17 62 (ix (((3 : Int32) + v2_16) + (1 : Int32))))) fun M_21 =>
    some (.inl (v2_16 + (1 : Int32), M_21))
    else none
    else none)
def fn_X8_drop (g : Nat) (x1 : Int32) (M : Mem) : Option (Int32 × Mem) :=
  if (fn_X8_isPiece x1 M) = 0 then
    (some ((-1 : Int32), M))
  else
    ((fn_X8_records g M).bind fun M_2 =>
    (lpN g (bd_X8_drop_16 x1) ((0 : Int32), M_2)).bind (u1 fun M_5 =>
      (lpN g bd_X8_drop_67 (x1, M_5)).bind (u1 fun M_18 =>
        bv (st M_18 62 (ix (10 : Int32)) (0 : Int32)) fun M_23 =>
        bv ((sl (1 : Int32) x1) - (1 : Int32)) fun v2_24 =>
        bv (st M_23 62 (ix (1 : Int32)) (((M_23 62 (ix (1 : Int32))) &&& v2_24) ||| ((sr (M_23 62 (ix (1 : Int32))) (1 : Int32)) &&& (v2_24 ^^^ (-1 : Int32))))) fun M_25 =>
        bv (st M_25 62 (ix (0 : Int32)) ((M_25 62 (ix (0 : Int32))) - (1 : Int32))) fun M_26 =>
        (fn_X8_lays g M_26).bind fun M_27 =>
        some (M_27 62 (ix (0 : Int32)), M_27))))
theorem dX8_drop_0 : decode cX8_drop 0 = .ok (.aload_n 0, 1) := by decide +kernel
theorem dX8_drop_1 : decode cX8_drop 1 = .ok (.iload_n 1, 1) := by decide +kernel
theorem dX8_drop_2 : decode cX8_drop 2 = .ok (.invokevirtual 146, 3) := by decide +kernel
theorem dX8_drop_5 : decode cX8_drop 5 = .ok (.ifCond .ne 5, 3) := by decide +kernel
theorem dX8_drop_8 : decode cX8_drop 8 = .ok (.iconst (-1), 1) := by decide +kernel
theorem dX8_drop_9 : decode cX8_drop 9 = .ok (.ireturn, 1) := by decide +kernel
theorem dX8_drop_10 : decode cX8_drop 10 = .ok (.aload_n 0, 1) := by decide +kernel
theorem dX8_drop_11 : decode cX8_drop 11 = .ok (.invokevirtual 139, 3) := by decide +kernel
theorem dX8_drop_14 : decode cX8_drop 14 = .ok (.iconst 0, 1) := by decide +kernel
theorem dX8_drop_15 : decode cX8_drop 15 = .ok (.istore_n 2, 1) := by decide +kernel
theorem dX8_drop_16 : decode cX8_drop 16 = .ok (.iload_n 2, 1) := by decide +kernel
theorem dX8_drop_17 : decode cX8_drop 17 = .ok (.sipush 216, 3) := by decide +kernel
theorem dX8_drop_20 : decode cX8_drop 20 = .ok (.if_icmp .ge 45, 3) := by decide +kernel
theorem dX8_drop_23 : decode cX8_drop 23 = .ok (.aload_n 0, 1) := by decide +kernel
theorem dX8_drop_24 : decode cX8_drop 24 = .ok (.iload_n 2, 1) := by decide +kernel
theorem dX8_drop_25 : decode cX8_drop 25 = .ok (.invokevirtual 61, 3) := by decide +kernel
theorem dX8_drop_28 : decode cX8_drop 28 = .ok (.istore_n 3, 1) := by decide +kernel
theorem dX8_drop_29 : decode cX8_drop 29 = .ok (.aload_n 0, 1) := by decide +kernel
theorem dX8_drop_30 : decode cX8_drop 30 = .ok (.getfield 7, 3) := by decide +kernel
theorem dX8_drop_33 : decode cX8_drop 33 = .ok (.bipush 11, 2) := by decide +kernel
theorem dX8_drop_35 : decode cX8_drop 35 = .ok (.iload_n 2, 1) := by decide +kernel
theorem dX8_drop_36 : decode cX8_drop 36 = .ok (.iadd, 1) := by decide +kernel
theorem dX8_drop_37 : decode cX8_drop 37 = .ok (.iload_n 3, 1) := by decide +kernel
theorem dX8_drop_38 : decode cX8_drop 38 = .ok (.iload_n 1, 1) := by decide +kernel
theorem dX8_drop_39 : decode cX8_drop 39 = .ok (.if_icmp .ne 7, 3) := by decide +kernel
theorem dX8_drop_42 : decode cX8_drop 42 = .ok (.iconst 0, 1) := by decide +kernel
theorem dX8_drop_43 : decode cX8_drop 43 = .ok (.goto 15, 3) := by decide +kernel
theorem dX8_drop_46 : decode cX8_drop 46 = .ok (.iload_n 3, 1) := by decide +kernel
theorem dX8_drop_47 : decode cX8_drop 47 = .ok (.iload_n 1, 1) := by decide +kernel
theorem dX8_drop_48 : decode cX8_drop 48 = .ok (.if_icmp .le 7, 3) := by decide +kernel
theorem dX8_drop_51 : decode cX8_drop 51 = .ok (.iload_n 3, 1) := by decide +kernel
theorem dX8_drop_52 : decode cX8_drop 52 = .ok (.goto 6, 3) := by decide +kernel
theorem dX8_drop_55 : decode cX8_drop 55 = .ok (.iload_n 3, 1) := by decide +kernel
theorem dX8_drop_56 : decode cX8_drop 56 = .ok (.iconst 1, 1) := by decide +kernel
theorem dX8_drop_57 : decode cX8_drop 57 = .ok (.iadd, 1) := by decide +kernel
theorem dX8_drop_58 : decode cX8_drop 58 = .ok (.iastore, 1) := by decide +kernel
theorem dX8_drop_59 : decode cX8_drop 59 = .ok (.iinc 2 1, 3) := by decide +kernel
theorem dX8_drop_62 : decode cX8_drop 62 = .ok (.goto (-46), 3) := by decide +kernel
theorem dX8_drop_65 : decode cX8_drop 65 = .ok (.iload_n 1, 1) := by decide +kernel
theorem dX8_drop_66 : decode cX8_drop 66 = .ok (.istore_n 2, 1) := by decide +kernel
theorem dX8_drop_67 : decode cX8_drop 67 = .ok (.iload_n 2, 1) := by decide +kernel
theorem dX8_drop_68 : decode cX8_drop 68 = .ok (.iconst 1, 1) := by decide +kernel
theorem dX8_drop_69 : decode cX8_drop 69 = .ok (.iadd, 1) := by decide +kernel
theorem dX8_drop_70 : decode cX8_drop 70 = .ok (.bipush 8, 2) := by decide +kernel
theorem dX8_drop_72 : decode cX8_drop 72 = .ok (.if_icmp .ge 27, 3) := by decide +kernel
theorem dX8_drop_75 : decode cX8_drop 75 = .ok (.aload_n 0, 1) := by decide +kernel
theorem dX8_drop_76 : decode cX8_drop 76 = .ok (.getfield 7, 3) := by decide +kernel
theorem dX8_drop_79 : decode cX8_drop 79 = .ok (.iconst 3, 1) := by decide +kernel
theorem dX8_drop_80 : decode cX8_drop 80 = .ok (.iload_n 2, 1) := by decide +kernel
theorem dX8_drop_81 : decode cX8_drop 81 = .ok (.iadd, 1) := by decide +kernel
theorem dX8_drop_82 : decode cX8_drop 82 = .ok (.aload_n 0, 1) := by decide +kernel
theorem dX8_drop_83 : decode cX8_drop 83 = .ok (.getfield 7, 3) := by decide +kernel
theorem dX8_drop_86 : decode cX8_drop 86 = .ok (.iconst 3, 1) := by decide +kernel
theorem dX8_drop_87 : decode cX8_drop 87 = .ok (.iload_n 2, 1) := by decide +kernel
theorem dX8_drop_88 : decode cX8_drop 88 = .ok (.iadd, 1) := by decide +kernel
theorem dX8_drop_89 : decode cX8_drop 89 = .ok (.iconst 1, 1) := by decide +kernel
theorem dX8_drop_90 : decode cX8_drop 90 = .ok (.iadd, 1) := by decide +kernel
theorem dX8_drop_91 : decode cX8_drop 91 = .ok (.iaload, 1) := by decide +kernel
theorem dX8_drop_92 : decode cX8_drop 92 = .ok (.iastore, 1) := by decide +kernel
theorem dX8_drop_93 : decode cX8_drop 93 = .ok (.iinc 2 1, 3) := by decide +kernel
theorem dX8_drop_96 : decode cX8_drop 96 = .ok (.goto (-29), 3) := by decide +kernel
theorem dX8_drop_99 : decode cX8_drop 99 = .ok (.aload_n 0, 1) := by decide +kernel
theorem dX8_drop_100 : decode cX8_drop 100 = .ok (.getfield 7, 3) := by decide +kernel
theorem dX8_drop_103 : decode cX8_drop 103 = .ok (.bipush 10, 2) := by decide +kernel
theorem dX8_drop_105 : decode cX8_drop 105 = .ok (.iconst 0, 1) := by decide +kernel
theorem dX8_drop_106 : decode cX8_drop 106 = .ok (.iastore, 1) := by decide +kernel
theorem dX8_drop_107 : decode cX8_drop 107 = .ok (.iconst 1, 1) := by decide +kernel
theorem dX8_drop_108 : decode cX8_drop 108 = .ok (.iload_n 1, 1) := by decide +kernel
theorem dX8_drop_109 : decode cX8_drop 109 = .ok (.ishl, 1) := by decide +kernel
theorem dX8_drop_110 : decode cX8_drop 110 = .ok (.iconst 1, 1) := by decide +kernel
theorem dX8_drop_111 : decode cX8_drop 111 = .ok (.isub, 1) := by decide +kernel
theorem dX8_drop_112 : decode cX8_drop 112 = .ok (.istore_n 2, 1) := by decide +kernel
theorem dX8_drop_113 : decode cX8_drop 113 = .ok (.aload_n 0, 1) := by decide +kernel
theorem dX8_drop_114 : decode cX8_drop 114 = .ok (.getfield 7, 3) := by decide +kernel
theorem dX8_drop_117 : decode cX8_drop 117 = .ok (.iconst 1, 1) := by decide +kernel
theorem dX8_drop_118 : decode cX8_drop 118 = .ok (.aload_n 0, 1) := by decide +kernel
theorem dX8_drop_119 : decode cX8_drop 119 = .ok (.getfield 7, 3) := by decide +kernel
theorem dX8_drop_122 : decode cX8_drop 122 = .ok (.iconst 1, 1) := by decide +kernel
theorem dX8_drop_123 : decode cX8_drop 123 = .ok (.iaload, 1) := by decide +kernel
theorem dX8_drop_124 : decode cX8_drop 124 = .ok (.iload_n 2, 1) := by decide +kernel
theorem dX8_drop_125 : decode cX8_drop 125 = .ok (.iand, 1) := by decide +kernel
theorem dX8_drop_126 : decode cX8_drop 126 = .ok (.aload_n 0, 1) := by decide +kernel
theorem dX8_drop_127 : decode cX8_drop 127 = .ok (.getfield 7, 3) := by decide +kernel
theorem dX8_drop_130 : decode cX8_drop 130 = .ok (.iconst 1, 1) := by decide +kernel
theorem dX8_drop_131 : decode cX8_drop 131 = .ok (.iaload, 1) := by decide +kernel
theorem dX8_drop_132 : decode cX8_drop 132 = .ok (.iconst 1, 1) := by decide +kernel
theorem dX8_drop_133 : decode cX8_drop 133 = .ok (.ishr, 1) := by decide +kernel
theorem dX8_drop_134 : decode cX8_drop 134 = .ok (.iload_n 2, 1) := by decide +kernel
theorem dX8_drop_135 : decode cX8_drop 135 = .ok (.iconst (-1), 1) := by decide +kernel
theorem dX8_drop_136 : decode cX8_drop 136 = .ok (.ixor, 1) := by decide +kernel
theorem dX8_drop_137 : decode cX8_drop 137 = .ok (.iand, 1) := by decide +kernel
theorem dX8_drop_138 : decode cX8_drop 138 = .ok (.ior, 1) := by decide +kernel
theorem dX8_drop_139 : decode cX8_drop 139 = .ok (.iastore, 1) := by decide +kernel
theorem dX8_drop_140 : decode cX8_drop 140 = .ok (.aload_n 0, 1) := by decide +kernel
theorem dX8_drop_141 : decode cX8_drop 141 = .ok (.getfield 7, 3) := by decide +kernel
theorem dX8_drop_144 : decode cX8_drop 144 = .ok (.iconst 0, 1) := by decide +kernel
theorem dX8_drop_145 : decode cX8_drop 145 = .ok (.dup2, 1) := by decide +kernel
theorem dX8_drop_146 : decode cX8_drop 146 = .ok (.iaload, 1) := by decide +kernel
theorem dX8_drop_147 : decode cX8_drop 147 = .ok (.iconst 1, 1) := by decide +kernel
theorem dX8_drop_148 : decode cX8_drop 148 = .ok (.isub, 1) := by decide +kernel
theorem dX8_drop_149 : decode cX8_drop 149 = .ok (.iastore, 1) := by decide +kernel
theorem dX8_drop_150 : decode cX8_drop 150 = .ok (.aload_n 0, 1) := by decide +kernel
theorem dX8_drop_151 : decode cX8_drop 151 = .ok (.invokevirtual 38, 3) := by decide +kernel
theorem dX8_drop_154 : decode cX8_drop 154 = .ok (.aload_n 0, 1) := by decide +kernel
theorem dX8_drop_155 : decode cX8_drop 155 = .ok (.getfield 7, 3) := by decide +kernel
theorem dX8_drop_158 : decode cX8_drop 158 = .ok (.iconst 0, 1) := by decide +kernel
theorem dX8_drop_159 : decode cX8_drop 159 = .ok (.iaload, 1) := by decide +kernel
theorem dX8_drop_160 : decode cX8_drop 160 = .ok (.ireturn, 1) := by decide +kernel
set_option maxHeartbeats 4000000 in
set_option maxRecDepth 100000 in
theorem c_X8_drop {l : Launch} {X : En} (g : Nat) (x1 : Int32) (M : Mem) (r : Int32) (M9 : Mem) (hf : fn_X8_drop g x1 M = some (r, M9)) : Cn l X yX8_drop cX8_drop 4 (some .int) 4 95 [.ref (X.ad 61), .int x1] M (Qi X r M9) := by
  refine Met.ofW (cc := cX8_drop) (maxL := 4) (ret := (some .int)) (by decide) rfl ?_
  intro p e s m args below meth c s₁ B hml hv
  obtain ⟨rfl, hP, hk⟩ := hv
  have hx := B.exec
  have hb := B.bytes
  have hr := B.returns
  have hlocks := B.notSynchronized
  have hts : ∀ w ∈ lw_u, w.before ([.ref (X.ad 61), .int x1] : List Value).toArray s = true := fun w hw => atoms_spec (ws := Cond.code yX8_drop cX8_drop 4 (some .int) :: lw_u) B.pre w (List.mem_cons_of_mem _ hw)
  have hown : s.vm.findClass RX8 = some m.cls := findClass_of_methodNamed B.named
  have hZ : Fx p c m s ([.ref (X.ad 61), .int x1] : List Value).toArray X cX8_drop 4 RX8 := ⟨hx, hb, hml, hts, hown, hk⟩
  have hS : va_S X.A s.heap s.heap [] := va_S.rf
  have hl := lv_entry ([.ref (X.ad 61), .int x1]) (n := 4) (Nat.le_of_ble_eq_true rfl)
  rw [lg_entry_eq]
  generalize (lg_sl ([.ref (X.ad 61), .int x1]) ++ List.replicate (4 - (lg_sl ([.ref (X.ad 61), .int x1])).length) Slot.unset).toArray = ls at hl ⊢
  have hl : lv_has ls 4 [(0, .ref (X.ad 61)), (1, .int x1)] := hl
  show WW p l e 4 95 s m [.ref (X.ad 61), .int x1] below meth c X (Qi X r M9) s.heap [] 0 ls []
  have hP : wd X M s.heap := hP
  unfold fn_X8_drop at hf
  have key : ∀ (H : Heap) (locs : List Loc), wd X M H → va_S X.A s.heap H locs → WW p l e 4 95 s m [.ref (X.ad 61), .int x1] below meth c X (Qi X r M9) H locs 0 ls [] := by
    intro H locs hP hS
    refine lv_aload_n hx hb dX8_drop_0 rfl (lv_at hl 0 rfl) ?_
    refine lv_iload_n hx hb dX8_drop_1 rfl (lv_at hl 1 rfl) ?_
    refine k_X8_isPiece hZ hP hS hl.1 wd_4_70 ⟨Nat.le_of_ble_eq_true rfl, Nat.le_of_ble_eq_true rfl⟩ (Nat.le_of_ble_eq_true rfl) dX8_drop_2 ⟨Nat.zero_le _, Nat.zero_le _⟩ (fun H locs hP hS => ?_)
    refine lv_if_ne (tgt := 10) hx hb dX8_drop_5 (by decide) (fun c_1 => ?_) (fun c_1 => ?_)
    · have hf := i_f c_1 hf
      refine lv_aload_n hx hb dX8_drop_10 rfl (lv_at hl 0 rfl) ?_
      obtain ⟨M_2, h_M_2, hf⟩ := b_d hf
      refine k_X8_records hZ hP hS hl.1 wd_4_47 ⟨Nat.le_of_ble_eq_true rfl, Nat.le_of_ble_eq_true rfl⟩ (Nat.le_of_ble_eq_true rfl) dX8_drop_11 ⟨Nat.zero_le _, Nat.zero_le _⟩ h_M_2 (fun H locs hP hS => ?_)
      refine lv_iconst (v := (0 : Int32)) hx hb dX8_drop_14 (by decide) ?_
      refine lv_istore_n (lv' := [(2, .int (0 : Int32)), (0, .ref (X.ad 61)), (1, .int x1)]) hx hb dX8_drop_15 rfl hl (by decide) rfl (fun ls hl => ?_)
      obtain ⟨o16, ho16, hf⟩ := b_d hf
      refine lp_rule (b := bd_X8_drop_16 x1) (P := fun w : Int32 × Mem => ∀ (H : Heap) (locs : List Loc) (ls : Array Slot), wd X w.2 H → va_S X.A s.heap H locs → lv_has ls 4 [(2, .int w.1), (0, .ref (X.ad 61)), (1, .int x1)] → WW p l e 4 95 s m [.ref (X.ad 61), .int x1] below meth c X (Qi X r M9) H locs 16 ls []) (K := fun o => ∀ (M_5 : Mem), o = M_5 → ∀ (H : Heap) (locs : List Loc) (ls : Array Slot), wd X M_5 H → va_S X.A s.heap H locs → lv_has ls 4 [(0, .ref (X.ad 61)), (1, .int x1)] → WW p l e 4 95 s m [.ref (X.ad 61), .int x1] below meth c X (Qi X r M9) H locs 65 ls []) ?_ g ((0 : Int32), M_2) o16 ho16 ?_ H locs ls hP hS (lv_sub hl [0, 1, 2] rfl)
      · rintro ⟨v2_3, M_4⟩ o hf hkc16 hke16 H locs ls hP hS hl
        have hf := u2_e hf
        have jn58 : ∀ (v2_10 : Int32) (s_11 : Int32) (s_12 : Int32) (M_13 : Mem), jn_X8_drop_58 s_11 s_12 v2_10 M_13 = some o → ∀ (H : Heap) (locs : List Loc) (ls : Array Slot), wd X M_13 H → va_S X.A s.heap H locs → lv_has ls 4 [(0, .ref (X.ad 61)), (1, .int x1), (2, .int v2_10)] → WW p l e 4 95 s m [.ref (X.ad 61), .int x1] below meth c X (Qi X r M9) H locs 58 ls [.int s_11, .int s_12, .ref (X.ad 62)] := by
          intro v2_10 s_11 s_12 M_13 hf H locs ls hP hS hl
          unfold jn_X8_drop_58 at hf
          obtain ⟨q_15, hf⟩ := g_if hf
          refine ast hx hb hk hP hS (by decide) (fun _ => rfl) q_15 dX8_drop_58 (fun H locs M_14 e_M_14 hP hS => ?_)
          have hf := b_v hf e_M_14
          refine lv_iinc (v := v2_10 + (1 : Int32)) (lv' := [(2, .int (v2_10 + (1 : Int32))), (0, .ref (X.ad 61)), (1, .int x1)]) hx hb dX8_drop_59 hl (k := 2) rfl rfl (by decide) rfl (fun ls hl => ?_)
          refine lv_goto (tgt := 16) hx hb dX8_drop_62 (by decide) ?_
          exact hkc16 _ (Option.some.inj hf).symm H locs ls hP hS (lv_sub hl [0, 1, 2] rfl)
        refine lv_iload_n hx hb dX8_drop_16 rfl (lv_at hl 0 rfl) ?_
        refine lv_sipush (v := (216 : Int32)) hx hb dX8_drop_17 (by decide) ?_
        refine lv_icmp_ge (tgt := 65) hx hb dX8_drop_20 (by decide) (fun c_6 => ?_) (fun c_6 => ?_)
        · have hf := i_t c_6 hf
          exact hke16 _ (Option.some.inj hf).symm _ rfl H locs ls hP hS (lv_sub hl [1, 2] rfl)
        · have hf := i_f c_6 hf
          refine lv_aload_n hx hb dX8_drop_23 rfl (lv_at hl 1 rfl) ?_
          refine lv_iload_n hx hb dX8_drop_24 rfl (lv_at hl 0 rfl) ?_
          obtain ⟨r_7, h_r_7, hf⟩ := b_d hf
          refine k_X8_at hZ hP hS hl.1 wd_3_175 ⟨Nat.le_of_ble_eq_true rfl, Nat.le_of_ble_eq_true rfl⟩ (Nat.le_of_ble_eq_true rfl) dX8_drop_25 ⟨Nat.zero_le _, Nat.zero_le _⟩ h_r_7 (fun H locs hP hS => ?_)
          refine lv_istore_n (lv' := [(3, .int r_7), (2, .int v2_3), (0, .ref (X.ad 61)), (1, .int x1)]) hx hb dX8_drop_28 rfl hl (by decide) rfl (fun ls hl => ?_)
          refine lv_aload_n hx hb dX8_drop_29 rfl (lv_at hl 2 rfl) ?_
          refine gX8_0 hx hb hts hown hk hP wd_3_192 dX8_drop_30 ?_
          refine lv_bipush (v := (11 : Int32)) hx hb dX8_drop_33 (by decide) ?_
          refine lv_iload_n hx hb dX8_drop_35 rfl (lv_at hl 1 rfl) ?_
          refine lv_iadd hx hb dX8_drop_36 ?_
          refine lv_iload_n hx hb dX8_drop_37 rfl (lv_at hl 0 rfl) ?_
          refine lv_iload_n hx hb dX8_drop_38 rfl (lv_at hl 3 rfl) ?_
          refine lv_icmp_ne (tgt := 46) hx hb dX8_drop_39 (by decide) (fun c_8 => ?_) (fun c_8 => ?_)
          · have hf := i_f c_8 hf
            refine lv_iload_n hx hb dX8_drop_46 rfl (lv_at hl 0 rfl) ?_
            refine lv_iload_n hx hb dX8_drop_47 rfl (lv_at hl 3 rfl) ?_
            refine lv_icmp_le (tgt := 55) hx hb dX8_drop_48 (by decide) (fun c_9 => ?_) (fun c_9 => ?_)
            · have hf := i_t c_9 hf
              refine lv_iload_n hx hb dX8_drop_55 rfl (lv_at hl 0 rfl) ?_
              refine lv_iconst (v := (1 : Int32)) hx hb dX8_drop_56 (by decide) ?_
              refine lv_iadd hx hb dX8_drop_57 ?_
              exact jn58 v2_3 (r_7 + (1 : Int32)) ((11 : Int32) + v2_3) M_4 hf H locs ls hP hS (lv_sub hl [2, 3, 1] rfl)
            · have hf := i_f c_9 hf
              refine lv_iload_n hx hb dX8_drop_51 rfl (lv_at hl 0 rfl) ?_
              refine lv_goto (tgt := 58) hx hb dX8_drop_52 (by decide) ?_
              exact jn58 v2_3 r_7 ((11 : Int32) + v2_3) M_4 hf H locs ls hP hS (lv_sub hl [2, 3, 1] rfl)
          · have hf := i_t c_8 hf
            refine lv_iconst (v := (0 : Int32)) hx hb dX8_drop_42 (by decide) ?_
            refine lv_goto (tgt := 58) hx hb dX8_drop_43 (by decide) ?_
            exact jn58 v2_3 (0 : Int32) ((11 : Int32) + v2_3) M_4 hf H locs ls hP hS (lv_sub hl [2, 3, 1] rfl)
      · intro M_5 e H locs ls hP hS hl
        subst o16
        have hf := u1_e hf
        refine lv_iload_n hx hb dX8_drop_65 rfl (lv_at hl 1 rfl) ?_
        refine lv_istore_n (lv' := [(2, .int x1), (0, .ref (X.ad 61)), (1, .int x1)]) hx hb dX8_drop_66 rfl hl (by decide) rfl (fun ls hl => ?_)
        obtain ⟨o67, ho67, hf⟩ := b_d hf
        refine lp_rule (b := bd_X8_drop_67) (P := fun w : Int32 × Mem => ∀ (H : Heap) (locs : List Loc) (ls : Array Slot), wd X w.2 H → va_S X.A s.heap H locs → lv_has ls 4 [(2, .int w.1), (0, .ref (X.ad 61)), (1, .int x1)] → WW p l e 4 95 s m [.ref (X.ad 61), .int x1] below meth c X (Qi X r M9) H locs 67 ls []) (K := fun o => ∀ (M_18 : Mem), o = M_18 → ∀ (H : Heap) (locs : List Loc) (ls : Array Slot), wd X M_18 H → va_S X.A s.heap H locs → lv_has ls 4 [(0, .ref (X.ad 61)), (1, .int x1)] → WW p l e 4 95 s m [.ref (X.ad 61), .int x1] below meth c X (Qi X r M9) H locs 99 ls []) ?_ g (x1, M_5) o67 ho67 ?_ H locs ls hP hS (lv_sub hl [0, 1, 2] rfl)
        · rintro ⟨v2_16, M_17⟩ o hf hkc67 hke67 H locs ls hP hS hl
          have hf := u2_e hf
          refine lv_iload_n hx hb dX8_drop_67 rfl (lv_at hl 0 rfl) ?_
          refine lv_iconst (v := (1 : Int32)) hx hb dX8_drop_68 (by decide) ?_
          refine lv_iadd hx hb dX8_drop_69 ?_
          refine lv_bipush (v := (8 : Int32)) hx hb dX8_drop_70 (by decide) ?_
          refine lv_icmp_ge (tgt := 99) hx hb dX8_drop_72 (by decide) (fun c_19 => ?_) (fun c_19 => ?_)
          · have hf := i_t c_19 hf
            exact hke67 _ (Option.some.inj hf).symm _ rfl H locs ls hP hS (lv_sub hl [1, 2] rfl)
          · have hf := i_f c_19 hf
            refine lv_aload_n hx hb dX8_drop_75 rfl (lv_at hl 1 rfl) ?_
            refine gX8_0 hx hb hts hown hk hP wd_3_192 dX8_drop_76 ?_
            refine lv_iconst (v := (3 : Int32)) hx hb dX8_drop_79 (by decide) ?_
            refine lv_iload_n hx hb dX8_drop_80 rfl (lv_at hl 0 rfl) ?_
            refine lv_iadd hx hb dX8_drop_81 ?_
            refine lv_aload_n hx hb dX8_drop_82 rfl (lv_at hl 1 rfl) ?_
            refine gX8_0 hx hb hts hown hk hP wd_3_192 dX8_drop_83 ?_
            refine lv_iconst (v := (3 : Int32)) hx hb dX8_drop_86 (by decide) ?_
            refine lv_iload_n hx hb dX8_drop_87 rfl (lv_at hl 0 rfl) ?_
            refine lv_iadd hx hb dX8_drop_88 ?_
            refine lv_iconst (v := (1 : Int32)) hx hb dX8_drop_89 (by decide) ?_
            refine lv_iadd hx hb dX8_drop_90 ?_
            obtain ⟨q_20, hf⟩ := g_if hf
            refine ald hx hb hk hP (by decide) rfl q_20 dX8_drop_91 ?_
            obtain ⟨q_22, hf⟩ := g_if hf
            refine ast hx hb hk hP hS (by decide) (fun _ => rfl) q_22 dX8_drop_92 (fun H locs M_21 e_M_21 hP hS => ?_)
            have hf := b_v hf e_M_21
            refine lv_iinc (v := v2_16 + (1 : Int32)) (lv' := [(2, .int (v2_16 + (1 : Int32))), (0, .ref (X.ad 61)), (1, .int x1)]) hx hb dX8_drop_93 hl (k := 0) rfl rfl (by decide) rfl (fun ls hl => ?_)
            refine lv_goto (tgt := 67) hx hb dX8_drop_96 (by decide) ?_
            exact hkc67 _ (Option.some.inj hf).symm H locs ls hP hS (lv_sub hl [0, 1, 2] rfl)
        · intro M_18 e H locs ls hP hS hl
          subst o67
          have hf := u1_e hf
          refine lv_aload_n hx hb dX8_drop_99 rfl (lv_at hl 0 rfl) ?_
          refine gX8_0 hx hb hts hown hk hP wd_3_192 dX8_drop_100 ?_
          refine lv_bipush (v := (10 : Int32)) hx hb dX8_drop_103 (by decide) ?_
          refine lv_iconst (v := (0 : Int32)) hx hb dX8_drop_105 (by decide) ?_
          refine ast hx hb hk hP hS (by decide) (fun _ => rfl) (show inb _ _ from by decide) dX8_drop_106 (fun H locs M_23 e_M_23 hP hS => ?_)
          have hf := b_v hf e_M_23
          refine lv_iconst (v := (1 : Int32)) hx hb dX8_drop_107 (by decide) ?_
          refine lv_iload_n hx hb dX8_drop_108 rfl (lv_at hl 1 rfl) ?_
          refine rw_ishl hx hb dX8_drop_109 ?_
          refine lv_iconst (v := (1 : Int32)) hx hb dX8_drop_110 (by decide) ?_
          refine lv_isub hx hb dX8_drop_111 ?_
          refine lv_topi (fun v2_24 e_v2_24 => ?_)
          have hf := b_v hf e_v2_24
          refine lv_istore_n (lv' := [(2, .int v2_24), (0, .ref (X.ad 61)), (1, .int x1)]) hx hb dX8_drop_112 rfl hl (by decide) rfl (fun ls hl => ?_)
          refine lv_aload_n hx hb dX8_drop_113 rfl (lv_at hl 1 rfl) ?_
          refine gX8_0 hx hb hts hown hk hP wd_3_192 dX8_drop_114 ?_
          refine lv_iconst (v := (1 : Int32)) hx hb dX8_drop_117 (by decide) ?_
          refine lv_aload_n hx hb dX8_drop_118 rfl (lv_at hl 1 rfl) ?_
          refine gX8_0 hx hb hts hown hk hP wd_3_192 dX8_drop_119 ?_
          refine lv_iconst (v := (1 : Int32)) hx hb dX8_drop_122 (by decide) ?_
          refine ald hx hb hk hP (by decide) rfl (show inb _ _ from by decide) dX8_drop_123 ?_
          refine lv_iload_n hx hb dX8_drop_124 rfl (lv_at hl 0 rfl) ?_
          refine lv_iand hx hb dX8_drop_125 ?_
          refine lv_aload_n hx hb dX8_drop_126 rfl (lv_at hl 1 rfl) ?_
          refine gX8_0 hx hb hts hown hk hP wd_3_192 dX8_drop_127 ?_
          refine lv_iconst (v := (1 : Int32)) hx hb dX8_drop_130 (by decide) ?_
          refine ald hx hb hk hP (by decide) rfl (show inb _ _ from by decide) dX8_drop_131 ?_
          refine lv_iconst (v := (1 : Int32)) hx hb dX8_drop_132 (by decide) ?_
          refine rw_ishr hx hb dX8_drop_133 ?_
          refine lv_iload_n hx hb dX8_drop_134 rfl (lv_at hl 0 rfl) ?_
          refine lv_iconst (v := (-1 : Int32)) hx hb dX8_drop_135 (by decide) ?_
          refine lv_ixor hx hb dX8_drop_136 ?_
          refine lv_iand hx hb dX8_drop_137 ?_
          refine lv_ior hx hb dX8_drop_138 ?_
          refine ast hx hb hk hP hS (by decide) (fun _ => rfl) (show inb _ _ from by decide) dX8_drop_139 (fun H locs M_25 e_M_25 hP hS => ?_)
          have hf := b_v hf e_M_25
          refine lv_aload_n hx hb dX8_drop_140 rfl (lv_at hl 1 rfl) ?_
          refine gX8_0 hx hb hts hown hk hP wd_3_192 dX8_drop_141 ?_
          refine lv_iconst (v := (0 : Int32)) hx hb dX8_drop_144 (by decide) ?_
          refine lv_dup2_11 hx hb dX8_drop_145 rfl rfl ?_
          refine ald hx hb hk hP (by decide) rfl (show inb _ _ from by decide) dX8_drop_146 ?_
          refine lv_iconst (v := (1 : Int32)) hx hb dX8_drop_147 (by decide) ?_
          refine lv_isub hx hb dX8_drop_148 ?_
          refine ast hx hb hk hP hS (by decide) (fun _ => rfl) (show inb _ _ from by decide) dX8_drop_149 (fun H locs M_26 e_M_26 hP hS => ?_)
          have hf := b_v hf e_M_26
          refine lv_aload_n hx hb dX8_drop_150 rfl (lv_at hl 1 rfl) ?_
          obtain ⟨M_27, h_M_27, hf⟩ := b_d hf
          refine k_X8_lays hZ hP hS hl.1 wd_3_171 ⟨Nat.le_of_ble_eq_true rfl, Nat.le_of_ble_eq_true rfl⟩ (Nat.le_of_ble_eq_true rfl) dX8_drop_151 ⟨Nat.zero_le _, Nat.zero_le _⟩ h_M_27 (fun H locs hP hS => ?_)
          refine lv_aload_n hx hb dX8_drop_154 rfl (lv_at hl 1 rfl) ?_
          refine gX8_0 hx hb hts hown hk hP wd_3_192 dX8_drop_155 ?_
          refine lv_iconst (v := (0 : Int32)) hx hb dX8_drop_158 (by decide) ?_
          refine ald hx hb hk hP (by decide) rfl (show inb _ _ from by decide) dX8_drop_159 ?_
          have hf := Option.some.inj hf
          obtain ⟨e1, e2⟩ := Prod.mk.inj hf
          rw [e2] at hP
          exact ret_i hx hb hr hlocks hP hS e1 dX8_drop_160
    · have hf := i_t c_1 hf
      refine lv_iconst (v := (-1 : Int32)) hx hb dX8_drop_8 (by decide) ?_
      have hf := Option.some.inj hf
      obtain ⟨e1, e2⟩ := Prod.mk.inj hf
      rw [e2] at hP
      exact ret_i hx hb hr hlocks hP hS e1 dX8_drop_9
  exact key s.heap [] hP hS
theorem hd_X8_drop : Hd yX8_drop 1 := by decide +kernel
theorem k_X8_drop {p : Program} {l : Launch} {e : Env} {R : Room} {s : State} {m : MethodId} {args : Array Value} {below : List Frame} {meth : Method} {c : Code} {H : Heap} {locs : List Loc} {cells slots : Nat} {Q : State → Prop} {cc : ByteArray} {nL pc index : Nat} {ls : Array Slot} {rest : List Value} {X : En} {M : Mem} {H0 : Heap} {own : String} {g : Nat} {x1 : Int32} {r : Int32} {M9 : Mem} (hZ : Fx p c m s args X cc nL own) (hP : wd X M H) (hS : va_S X.A H0 H locs) (hsz : ls.size = nL) (hlk : Cond.methodLink own index yX8_drop ∈ lw_u) (hR : 4 + 1 ≤ R.frames ∧ 8 + (4 + 11) + 95 ≤ R.locals) (hW : (rest.map fun v => v.category).sum ≤ 8) (hdg : decode cc pc = .ok (.invokevirtual index, 3)) (hcs : cells ≤ R.cells ∧ slots ≤ R.slots) (hf : fn_X8_drop g x1 M = some (r, M9))
    (kk : ∀ (H1 : Heap) (locs1 : List Loc), wd X M9 H1 → va_S X.A H0 H1 locs1 → W p l e R s m args below meth c H1 locs1 cells slots Q (F0 m (pc + 3) ls (.int r :: rest))) : W p l e R s m args below meth c H locs cells slots Q (F0 m pc ls (.int x1 :: .ref (X.ad 61) :: rest)) :=
  cal_i (runV (As := [.int x1]) (rest := rest) hZ.1 hZ.2.1 hZ.2.2.1 hZ.2.2.2.1 hZ.2.2.2.2.1 hZ.2.2.2.2.2 hP (c_X8_drop g x1 M r M9 hf) wd_4_81 wd_4_79 wd_4_80 wd_1_9 hd_X8_drop (by decide) rfl rfl rfl hlk hR hsz rfl hW hdg hcs) hS kk
/-! FrameRaiserModel.wrongShift -/
def jn_X8_wrongShift_81 (s_11 : Int32) (v4_10 : Int32) : Option ((Int32 × Int32) ⊕ (Int32)) :=
  some (.inl (s_11, v4_10 + (1 : Int32)))
def jn_X8_wrongShift_80 (v4_9 : Int32) : Option ((Int32 × Int32) ⊕ (Int32)) :=
  jn_X8_wrongShift_81 (0 : Int32) v4_9
def jn_X8_wrongShift_76 (v4_14 : Int32) : Option ((Int32 × Int32) ⊕ (Int32)) :=
  jn_X8_wrongShift_81 (1 : Int32) v4_14
def bd_X8_wrongShift_22 (x1 : Int32) (x2 : Int32) (M : Mem) : (Int32 × Int32) → Option ((Int32 × Int32) ⊕ (Int32)) :=
  u2 fun v3_4 v4_3 =>
  if (216 : Int32) ≤ v4_3 then
    (some (.inr v3_4))
  else
    (bv (fn_X8_step v4_3 x2) fun v5_7 =>
    if v3_4 = 0 then
      (jn_X8_wrongShift_80 v4_3)
    else
      ((fn_X8_at v4_3 M).bind fun r_12 =>
      if r_12 = x1 then
        (if v5_7 < 0 then
          (jn_X8_wrongShift_80 v4_3)
        else
          ((fn_X8_at v5_7 M).bind fun r_16 =>
          if r_16 < 0 then
            (jn_X8_wrongShift_76 v4_3)
          else
            ((fn_X8_at v5_7 M).bind fun r_18 =>
            if r_18 = x1 then
              (jn_X8_wrongShift_76 v4_3)
            else
              (jn_X8_wrongShift_80 v4_3))))
      else
        (jn_X8_wrongShift_76 v4_3)))
def fn_X8_wrongShift (g : Nat) (x1 : Int32) (x2 : Int32) (M : Mem) : Option (Int32) :=
  if (fn_X8_isPiece x1 M) = 0 then
    (some (-1 : Int32))
  else
    (if (fn_X8_isDirection x2) = 0 then
      (some (-1 : Int32))
    else
      ((lpN g (bd_X8_wrongShift_22 x1 x2 M) ((1 : Int32), (0 : Int32))).bind (u1 fun v3_5 =>
        if v3_5 = 0 then
          (some (-2 : Int32))
        else
          (some (0 : Int32)))))
theorem dX8_wrongShift_0 : decode cX8_wrongShift 0 = .ok (.aload_n 0, 1) := by decide +kernel
theorem dX8_wrongShift_1 : decode cX8_wrongShift 1 = .ok (.iload_n 1, 1) := by decide +kernel
theorem dX8_wrongShift_2 : decode cX8_wrongShift 2 = .ok (.invokevirtual 146, 3) := by decide +kernel
theorem dX8_wrongShift_5 : decode cX8_wrongShift 5 = .ok (.ifCond .eq 10, 3) := by decide +kernel
theorem dX8_wrongShift_8 : decode cX8_wrongShift 8 = .ok (.iload_n 2, 1) := by decide +kernel
theorem dX8_wrongShift_9 : decode cX8_wrongShift 9 = .ok (.invokestatic 153, 3) := by decide +kernel
theorem dX8_wrongShift_12 : decode cX8_wrongShift 12 = .ok (.ifCond .ne 5, 3) := by decide +kernel
theorem dX8_wrongShift_15 : decode cX8_wrongShift 15 = .ok (.iconst (-1), 1) := by decide +kernel
theorem dX8_wrongShift_16 : decode cX8_wrongShift 16 = .ok (.ireturn, 1) := by decide +kernel
theorem dX8_wrongShift_17 : decode cX8_wrongShift 17 = .ok (.iconst 1, 1) := by decide +kernel
theorem dX8_wrongShift_18 : decode cX8_wrongShift 18 = .ok (.istore_n 3, 1) := by decide +kernel
theorem dX8_wrongShift_19 : decode cX8_wrongShift 19 = .ok (.iconst 0, 1) := by decide +kernel
theorem dX8_wrongShift_20 : decode cX8_wrongShift 20 = .ok (.istore 4, 2) := by decide +kernel
theorem dX8_wrongShift_22 : decode cX8_wrongShift 22 = .ok (.iload 4, 2) := by decide +kernel
theorem dX8_wrongShift_24 : decode cX8_wrongShift 24 = .ok (.sipush 216, 3) := by decide +kernel
theorem dX8_wrongShift_27 : decode cX8_wrongShift 27 = .ok (.if_icmp .ge 61, 3) := by decide +kernel
theorem dX8_wrongShift_30 : decode cX8_wrongShift 30 = .ok (.iload 4, 2) := by decide +kernel
theorem dX8_wrongShift_32 : decode cX8_wrongShift 32 = .ok (.iload_n 2, 1) := by decide +kernel
theorem dX8_wrongShift_33 : decode cX8_wrongShift 33 = .ok (.invokestatic 69, 3) := by decide +kernel
theorem dX8_wrongShift_36 : decode cX8_wrongShift 36 = .ok (.istore 5, 2) := by decide +kernel
theorem dX8_wrongShift_38 : decode cX8_wrongShift 38 = .ok (.iload_n 3, 1) := by decide +kernel
theorem dX8_wrongShift_39 : decode cX8_wrongShift 39 = .ok (.ifCond .eq 41, 3) := by decide +kernel
theorem dX8_wrongShift_42 : decode cX8_wrongShift 42 = .ok (.aload_n 0, 1) := by decide +kernel
theorem dX8_wrongShift_43 : decode cX8_wrongShift 43 = .ok (.iload 4, 2) := by decide +kernel
theorem dX8_wrongShift_45 : decode cX8_wrongShift 45 = .ok (.invokevirtual 61, 3) := by decide +kernel
theorem dX8_wrongShift_48 : decode cX8_wrongShift 48 = .ok (.iload_n 1, 1) := by decide +kernel
theorem dX8_wrongShift_49 : decode cX8_wrongShift 49 = .ok (.if_icmp .ne 27, 3) := by decide +kernel
theorem dX8_wrongShift_52 : decode cX8_wrongShift 52 = .ok (.iload 5, 2) := by decide +kernel
theorem dX8_wrongShift_54 : decode cX8_wrongShift 54 = .ok (.ifCond .lt 26, 3) := by decide +kernel
theorem dX8_wrongShift_57 : decode cX8_wrongShift 57 = .ok (.aload_n 0, 1) := by decide +kernel
theorem dX8_wrongShift_58 : decode cX8_wrongShift 58 = .ok (.iload 5, 2) := by decide +kernel
theorem dX8_wrongShift_60 : decode cX8_wrongShift 60 = .ok (.invokevirtual 61, 3) := by decide +kernel
theorem dX8_wrongShift_63 : decode cX8_wrongShift 63 = .ok (.ifCond .lt 13, 3) := by decide +kernel
theorem dX8_wrongShift_66 : decode cX8_wrongShift 66 = .ok (.aload_n 0, 1) := by decide +kernel
theorem dX8_wrongShift_67 : decode cX8_wrongShift 67 = .ok (.iload 5, 2) := by decide +kernel
theorem dX8_wrongShift_69 : decode cX8_wrongShift 69 = .ok (.invokevirtual 61, 3) := by decide +kernel
theorem dX8_wrongShift_72 : decode cX8_wrongShift 72 = .ok (.iload_n 1, 1) := by decide +kernel
theorem dX8_wrongShift_73 : decode cX8_wrongShift 73 = .ok (.if_icmp .ne 7, 3) := by decide +kernel
theorem dX8_wrongShift_76 : decode cX8_wrongShift 76 = .ok (.iconst 1, 1) := by decide +kernel
theorem dX8_wrongShift_77 : decode cX8_wrongShift 77 = .ok (.goto 4, 3) := by decide +kernel
theorem dX8_wrongShift_80 : decode cX8_wrongShift 80 = .ok (.iconst 0, 1) := by decide +kernel
theorem dX8_wrongShift_81 : decode cX8_wrongShift 81 = .ok (.istore_n 3, 1) := by decide +kernel
theorem dX8_wrongShift_82 : decode cX8_wrongShift 82 = .ok (.iinc 4 1, 3) := by decide +kernel
theorem dX8_wrongShift_85 : decode cX8_wrongShift 85 = .ok (.goto (-63), 3) := by decide +kernel
theorem dX8_wrongShift_88 : decode cX8_wrongShift 88 = .ok (.iload_n 3, 1) := by decide +kernel
theorem dX8_wrongShift_89 : decode cX8_wrongShift 89 = .ok (.ifCond .eq 7, 3) := by decide +kernel
theorem dX8_wrongShift_92 : decode cX8_wrongShift 92 = .ok (.iconst 0, 1) := by decide +kernel
theorem dX8_wrongShift_93 : decode cX8_wrongShift 93 = .ok (.goto 5, 3) := by decide +kernel
theorem dX8_wrongShift_96 : decode cX8_wrongShift 96 = .ok (.bipush (-2), 2) := by decide +kernel
theorem dX8_wrongShift_98 : decode cX8_wrongShift 98 = .ok (.ireturn, 1) := by decide +kernel
set_option maxHeartbeats 4000000 in
set_option maxRecDepth 100000 in
theorem c_X8_wrongShift {l : Launch} {X : En} (g : Nat) (x1 : Int32) (x2 : Int32) (M : Mem) (r : Int32) (hf : fn_X8_wrongShift g x1 x2 M = some r) : Cn l X yX8_wrongShift cX8_wrongShift 6 (some .int) 2 46 [.ref (X.ad 61), .int x1, .int x2] M (Qi X r M) := by
  refine Met.ofW (cc := cX8_wrongShift) (maxL := 6) (ret := (some .int)) (by decide) rfl ?_
  intro p e s m args below meth c s₁ B hml hv
  obtain ⟨rfl, hP, hk⟩ := hv
  have hx := B.exec
  have hb := B.bytes
  have hr := B.returns
  have hlocks := B.notSynchronized
  have hts : ∀ w ∈ lw_u, w.before ([.ref (X.ad 61), .int x1, .int x2] : List Value).toArray s = true := fun w hw => atoms_spec (ws := Cond.code yX8_wrongShift cX8_wrongShift 6 (some .int) :: lw_u) B.pre w (List.mem_cons_of_mem _ hw)
  have hown : s.vm.findClass RX8 = some m.cls := findClass_of_methodNamed B.named
  have hZ : Fx p c m s ([.ref (X.ad 61), .int x1, .int x2] : List Value).toArray X cX8_wrongShift 6 RX8 := ⟨hx, hb, hml, hts, hown, hk⟩
  have hS : va_S X.A s.heap s.heap [] := va_S.rf
  have hl := lv_entry ([.ref (X.ad 61), .int x1, .int x2]) (n := 6) (Nat.le_of_ble_eq_true rfl)
  rw [lg_entry_eq]
  generalize (lg_sl ([.ref (X.ad 61), .int x1, .int x2]) ++ List.replicate (6 - (lg_sl ([.ref (X.ad 61), .int x1, .int x2])).length) Slot.unset).toArray = ls at hl ⊢
  have hl : lv_has ls 6 [(0, .ref (X.ad 61)), (1, .int x1), (2, .int x2)] := hl
  show WW p l e 2 46 s m [.ref (X.ad 61), .int x1, .int x2] below meth c X (Qi X r M) s.heap [] 0 ls []
  have hP : wd X M s.heap := hP
  unfold fn_X8_wrongShift at hf
  have key : ∀ (H : Heap) (locs : List Loc), wd X M H → va_S X.A s.heap H locs → WW p l e 2 46 s m [.ref (X.ad 61), .int x1, .int x2] below meth c X (Qi X r M) H locs 0 ls [] := by
    intro H locs hP hS
    refine lv_aload_n hx hb dX8_wrongShift_0 rfl (lv_at hl 0 rfl) ?_
    refine lv_iload_n hx hb dX8_wrongShift_1 rfl (lv_at hl 1 rfl) ?_
    refine k_X8_isPiece hZ hP hS hl.1 wd_4_70 ⟨Nat.le_of_ble_eq_true rfl, Nat.le_of_ble_eq_true rfl⟩ (Nat.le_of_ble_eq_true rfl) dX8_wrongShift_2 ⟨Nat.zero_le _, Nat.zero_le _⟩ (fun H locs hP hS => ?_)
    refine lv_if_eq (tgt := 15) hx hb dX8_wrongShift_5 (by decide) (fun c_1 => ?_) (fun c_1 => ?_)
    · have hf := i_t c_1 hf
      refine lv_iconst (v := (-1 : Int32)) hx hb dX8_wrongShift_15 (by decide) ?_
      have hf := Option.some.inj hf
      exact ret_i hx hb hr hlocks hP hS hf dX8_wrongShift_16
    · have hf := i_f c_1 hf
      refine lv_iload_n hx hb dX8_wrongShift_8 rfl (lv_at hl 2 rfl) ?_
      refine k_X8_isDirection hZ hP hS hl.1 wd_4_90 ⟨Nat.le_of_ble_eq_true rfl, Nat.le_of_ble_eq_true rfl⟩ (Nat.le_of_ble_eq_true rfl) dX8_wrongShift_9 ⟨Nat.zero_le _, Nat.zero_le _⟩ (fun H locs hP hS => ?_)
      refine lv_if_ne (tgt := 17) hx hb dX8_wrongShift_12 (by decide) (fun c_2 => ?_) (fun c_2 => ?_)
      · have hf := i_f c_2 hf
        refine lv_iconst (v := (1 : Int32)) hx hb dX8_wrongShift_17 (by decide) ?_
        refine lv_istore_n (lv' := [(3, .int (1 : Int32)), (0, .ref (X.ad 61)), (1, .int x1), (2, .int x2)]) hx hb dX8_wrongShift_18 rfl hl (by decide) rfl (fun ls hl => ?_)
        refine lv_iconst (v := (0 : Int32)) hx hb dX8_wrongShift_19 (by decide) ?_
        refine lv_istore (lv' := [(4, .int (0 : Int32)), (3, .int (1 : Int32)), (0, .ref (X.ad 61)), (1, .int x1), (2, .int x2)]) hx hb dX8_wrongShift_20 hl (by decide) rfl (fun ls hl => ?_)
        obtain ⟨o22, ho22, hf⟩ := b_d hf
        refine lp_rule (b := bd_X8_wrongShift_22 x1 x2 M) (P := fun w : Int32 × Int32 => ∀ (H : Heap) (locs : List Loc) (ls : Array Slot), wd X M H → va_S X.A s.heap H locs → lv_has ls 6 [(4, .int w.2), (3, .int w.1), (0, .ref (X.ad 61)), (1, .int x1), (2, .int x2)] → WW p l e 2 46 s m [.ref (X.ad 61), .int x1, .int x2] below meth c X (Qi X r M) H locs 22 ls []) (K := fun o => ∀ (v3_5 : Int32), o = v3_5 → ∀ (H : Heap) (locs : List Loc) (ls : Array Slot), wd X M H → va_S X.A s.heap H locs → lv_has ls 6 [(3, .int v3_5)] → WW p l e 2 46 s m [.ref (X.ad 61), .int x1, .int x2] below meth c X (Qi X r M) H locs 88 ls []) ?_ g ((1 : Int32), (0 : Int32)) o22 ho22 ?_ H locs ls hP hS (lv_sub hl [0, 1, 2, 3, 4] rfl)
        · rintro ⟨v3_4, v4_3⟩ o hf hkc22 hke22 H locs ls hP hS hl
          have hf := u2_e hf
          have jn81 : ∀ (v4_10 : Int32) (s_11 : Int32), jn_X8_wrongShift_81 s_11 v4_10 = some o → ∀ (H : Heap) (locs : List Loc) (ls : Array Slot), wd X M H → va_S X.A s.heap H locs → lv_has ls 6 [(0, .ref (X.ad 61)), (1, .int x1), (2, .int x2), (4, .int v4_10)] → WW p l e 2 46 s m [.ref (X.ad 61), .int x1, .int x2] below meth c X (Qi X r M) H locs 81 ls [.int s_11] := by
            intro v4_10 s_11  hf H locs ls hP hS hl
            unfold jn_X8_wrongShift_81 at hf
            refine lv_istore_n (lv' := [(3, .int s_11), (0, .ref (X.ad 61)), (1, .int x1), (2, .int x2), (4, .int v4_10)]) hx hb dX8_wrongShift_81 rfl hl (by decide) rfl (fun ls hl => ?_)
            refine lv_iinc (v := v4_10 + (1 : Int32)) (lv' := [(4, .int (v4_10 + (1 : Int32))), (3, .int s_11), (0, .ref (X.ad 61)), (1, .int x1), (2, .int x2)]) hx hb dX8_wrongShift_82 hl (k := 4) rfl rfl (by decide) rfl (fun ls hl => ?_)
            refine lv_goto (tgt := 22) hx hb dX8_wrongShift_85 (by decide) ?_
            exact hkc22 _ (Option.some.inj hf).symm H locs ls hP hS (lv_sub hl [0, 1, 2, 3, 4] rfl)
          have jn80 : ∀ (v4_9 : Int32), jn_X8_wrongShift_80 v4_9 = some o → ∀ (H : Heap) (locs : List Loc) (ls : Array Slot), wd X M H → va_S X.A s.heap H locs → lv_has ls 6 [(0, .ref (X.ad 61)), (1, .int x1), (2, .int x2), (4, .int v4_9)] → WW p l e 2 46 s m [.ref (X.ad 61), .int x1, .int x2] below meth c X (Qi X r M) H locs 80 ls [] := by
            intro v4_9  hf H locs ls hP hS hl
            unfold jn_X8_wrongShift_80 at hf
            refine lv_iconst (v := (0 : Int32)) hx hb dX8_wrongShift_80 (by decide) ?_
            exact jn81 v4_9 (0 : Int32) hf H locs ls hP hS (lv_sub hl [0, 1, 2, 3] rfl)
          have jn76 : ∀ (v4_14 : Int32), jn_X8_wrongShift_76 v4_14 = some o → ∀ (H : Heap) (locs : List Loc) (ls : Array Slot), wd X M H → va_S X.A s.heap H locs → lv_has ls 6 [(0, .ref (X.ad 61)), (1, .int x1), (2, .int x2), (4, .int v4_14)] → WW p l e 2 46 s m [.ref (X.ad 61), .int x1, .int x2] below meth c X (Qi X r M) H locs 76 ls [] := by
            intro v4_14  hf H locs ls hP hS hl
            unfold jn_X8_wrongShift_76 at hf
            refine lv_iconst (v := (1 : Int32)) hx hb dX8_wrongShift_76 (by decide) ?_
            refine lv_goto (tgt := 81) hx hb dX8_wrongShift_77 (by decide) ?_
            exact jn81 v4_14 (1 : Int32) hf H locs ls hP hS (lv_sub hl [0, 1, 2, 3] rfl)
          refine lv_iload hx hb dX8_wrongShift_22 (lv_at hl 0 rfl) ?_
          refine lv_sipush (v := (216 : Int32)) hx hb dX8_wrongShift_24 (by decide) ?_
          refine lv_icmp_ge (tgt := 88) hx hb dX8_wrongShift_27 (by decide) (fun c_6 => ?_) (fun c_6 => ?_)
          · have hf := i_t c_6 hf
            exact hke22 _ (Option.some.inj hf).symm _ rfl H locs ls hP hS (lv_sub hl [1] rfl)
          · have hf := i_f c_6 hf
            refine lv_iload hx hb dX8_wrongShift_30 (lv_at hl 0 rfl) ?_
            refine lv_iload_n hx hb dX8_wrongShift_32 rfl (lv_at hl 4 rfl) ?_
            refine k_X8_step hZ hP hS hl.1 wd_3_183 ⟨Nat.le_of_ble_eq_true rfl, Nat.le_of_ble_eq_true rfl⟩ (Nat.le_of_ble_eq_true rfl) dX8_wrongShift_33 ⟨Nat.zero_le _, Nat.zero_le _⟩ (fun H locs hP hS => ?_)
            refine lv_topi (fun v5_7 e_v5_7 => ?_)
            have hf := b_v hf e_v5_7
            refine lv_istore (lv' := [(5, .int v5_7), (4, .int v4_3), (3, .int v3_4), (0, .ref (X.ad 61)), (1, .int x1), (2, .int x2)]) hx hb dX8_wrongShift_36 hl (by decide) rfl (fun ls hl => ?_)
            refine lv_iload_n hx hb dX8_wrongShift_38 rfl (lv_at hl 2 rfl) ?_
            refine lv_if_eq (tgt := 80) hx hb dX8_wrongShift_39 (by decide) (fun c_8 => ?_) (fun c_8 => ?_)
            · have hf := i_t c_8 hf
              exact jn80 v4_3 hf H locs ls hP hS (lv_sub hl [3, 4, 5, 1] rfl)
            · have hf := i_f c_8 hf
              refine lv_aload_n hx hb dX8_wrongShift_42 rfl (lv_at hl 3 rfl) ?_
              refine lv_iload hx hb dX8_wrongShift_43 (lv_at hl 1 rfl) ?_
              obtain ⟨r_12, h_r_12, hf⟩ := b_d hf
              refine k_X8_at hZ hP hS hl.1 wd_3_175 ⟨Nat.le_of_ble_eq_true rfl, Nat.le_of_ble_eq_true rfl⟩ (Nat.le_of_ble_eq_true rfl) dX8_wrongShift_45 ⟨Nat.zero_le _, Nat.zero_le _⟩ h_r_12 (fun H locs hP hS => ?_)
              refine lv_iload_n hx hb dX8_wrongShift_48 rfl (lv_at hl 4 rfl) ?_
              refine lv_icmp_ne (tgt := 76) hx hb dX8_wrongShift_49 (by decide) (fun c_13 => ?_) (fun c_13 => ?_)
              · have hf := i_f c_13 hf
                exact jn76 v4_3 hf H locs ls hP hS (lv_sub hl [3, 4, 5, 1] rfl)
              · have hf := i_t c_13 hf
                refine lv_iload hx hb dX8_wrongShift_52 (lv_at hl 0 rfl) ?_
                refine lv_if_lt (tgt := 80) hx hb dX8_wrongShift_54 (by decide) (fun c_15 => ?_) (fun c_15 => ?_)
                · have hf := i_t c_15 hf
                  exact jn80 v4_3 hf H locs ls hP hS (lv_sub hl [3, 4, 5, 1] rfl)
                · have hf := i_f c_15 hf
                  refine lv_aload_n hx hb dX8_wrongShift_57 rfl (lv_at hl 3 rfl) ?_
                  refine lv_iload hx hb dX8_wrongShift_58 (lv_at hl 0 rfl) ?_
                  obtain ⟨r_16, h_r_16, hf⟩ := b_d hf
                  refine k_X8_at hZ hP hS hl.1 wd_3_175 ⟨Nat.le_of_ble_eq_true rfl, Nat.le_of_ble_eq_true rfl⟩ (Nat.le_of_ble_eq_true rfl) dX8_wrongShift_60 ⟨Nat.zero_le _, Nat.zero_le _⟩ h_r_16 (fun H locs hP hS => ?_)
                  refine lv_if_lt (tgt := 76) hx hb dX8_wrongShift_63 (by decide) (fun c_17 => ?_) (fun c_17 => ?_)
                  · have hf := i_t c_17 hf
                    exact jn76 v4_3 hf H locs ls hP hS (lv_sub hl [3, 4, 5, 1] rfl)
                  · have hf := i_f c_17 hf
                    refine lv_aload_n hx hb dX8_wrongShift_66 rfl (lv_at hl 3 rfl) ?_
                    refine lv_iload hx hb dX8_wrongShift_67 (lv_at hl 0 rfl) ?_
                    obtain ⟨r_18, h_r_18, hf⟩ := b_d hf
                    refine k_X8_at hZ hP hS hl.1 wd_3_175 ⟨Nat.le_of_ble_eq_true rfl, Nat.le_of_ble_eq_true rfl⟩ (Nat.le_of_ble_eq_true rfl) dX8_wrongShift_69 ⟨Nat.zero_le _, Nat.zero_le _⟩ h_r_18 (fun H locs hP hS => ?_)
                    refine lv_iload_n hx hb dX8_wrongShift_72 rfl (lv_at hl 4 rfl) ?_
                    refine lv_icmp_ne (tgt := 80) hx hb dX8_wrongShift_73 (by decide) (fun c_19 => ?_) (fun c_19 => ?_)
                    · have hf := i_f c_19 hf
                      exact jn80 v4_3 hf H locs ls hP hS (lv_sub hl [3, 4, 5, 1] rfl)
                    · have hf := i_t c_19 hf
                      exact jn76 v4_3 hf H locs ls hP hS (lv_sub hl [3, 4, 5, 1] rfl)
        · intro v3_5 e H locs ls hP hS hl
          subst o22
          have hf := u1_e hf
          refine lv_iload_n hx hb dX8_wrongShift_88 rfl (lv_at hl 0 rfl) ?_
          refine lv_if_eq (tgt := 96) hx hb dX8_wrongShift_89 (by decide) (fun c_20 => ?_) (fun c_20 => ?_)
          · have hf := i_t c_20 hf
            refine lv_bipush (v := (-2 : Int32)) hx hb dX8_wrongShift_96 (by decide) ?_
            have hf := Option.some.inj hf
            exact ret_i hx hb hr hlocks hP hS hf dX8_wrongShift_98
          · have hf := i_f c_20 hf
            refine lv_iconst (v := (0 : Int32)) hx hb dX8_wrongShift_92 (by decide) ?_
            refine lv_goto (tgt := 98) hx hb dX8_wrongShift_93 (by decide) ?_
            have hf := Option.some.inj hf
            exact ret_i hx hb hr hlocks hP hS hf dX8_wrongShift_98
      · have hf := i_t c_2 hf
        refine lv_iconst (v := (-1 : Int32)) hx hb dX8_wrongShift_15 (by decide) ?_
        have hf := Option.some.inj hf
        exact ret_i hx hb hr hlocks hP hS hf dX8_wrongShift_16
  exact key s.heap [] hP hS
theorem hd_X8_wrongShift : Hd yX8_wrongShift 2 := by decide +kernel
theorem k_X8_wrongShift {p : Program} {l : Launch} {e : Env} {R : Room} {s : State} {m : MethodId} {args : Array Value} {below : List Frame} {meth : Method} {c : Code} {H : Heap} {locs : List Loc} {cells slots : Nat} {Q : State → Prop} {cc : ByteArray} {nL pc index : Nat} {ls : Array Slot} {rest : List Value} {X : En} {M : Mem} {H0 : Heap} {own : String} {g : Nat} {x1 : Int32} {x2 : Int32} {r : Int32} (hZ : Fx p c m s args X cc nL own) (hP : wd X M H) (hS : va_S X.A H0 H locs) (hsz : ls.size = nL) (hlk : Cond.methodLink own index yX8_wrongShift ∈ lw_u) (hR : 2 + 1 ≤ R.frames ∧ 8 + (6 + 11) + 46 ≤ R.locals) (hW : (rest.map fun v => v.category).sum ≤ 8) (hdg : decode cc pc = .ok (.invokevirtual index, 3)) (hcs : cells ≤ R.cells ∧ slots ≤ R.slots) (hf : fn_X8_wrongShift g x1 x2 M = some r)
    (kk : ∀ (H1 : Heap) (locs1 : List Loc), wd X M H1 → va_S X.A H0 H1 locs1 → W p l e R s m args below meth c H1 locs1 cells slots Q (F0 m (pc + 3) ls (.int r :: rest))) : W p l e R s m args below meth c H locs cells slots Q (F0 m pc ls (.int x2 :: .int x1 :: .ref (X.ad 61) :: rest)) :=
  cal_i (runV (As := [.int x1, .int x2]) (rest := rest) hZ.1 hZ.2.1 hZ.2.2.1 hZ.2.2.2.1 hZ.2.2.2.2.1 hZ.2.2.2.2.2 hP (c_X8_wrongShift g x1 x2 M r hf) wd_4_89 wd_4_88 wd_p_41 wd_1_9 hd_X8_wrongShift (by decide) rfl rfl rfl hlk hR hsz rfl hW hdg hcs) hS kk
