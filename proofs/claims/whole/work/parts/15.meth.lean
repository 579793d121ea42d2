/-! FrameRaiserModel.moves -/
def jn_X8_moves_59 (s_18 : Int32) (s_19 : Int32) (v3_17 : Int32) (M_20 : Mem) : Option ((Int32 × Mem) ⊕ (Mem)) :=
  if inb s_19 2270 then
  bv (st M_20 62 (ix s_19) s_18) fun M_21 =>
  some (.inl (v3_17 + (1 : Int32), M_21))
  else none
def jn_X8_moves_28 (s_8 : Int32) (s_9 : Int32) (v3_7 : Int32) (M_10 : Mem) : Option ((Int32 × Mem) ⊕ (Mem)) :=
  if inb s_9 216 then
  if isZ s_8 then
  bv (st M_10 70 (ix s_9) s_8) fun M_11 =>
  if inb v3_7 216 then
  if (M_11 70 (ix v3_7)) = 0 then
    (if inb ((11 : Int32) + v3_7) 2270 then
    jn_X8_moves_59 (M_11 62 (ix ((11 : Int32) + v3_7))) ((11 : Int32) + v3_7) v3_7 M_11
    else none)
  else
    (jn_X8_moves_59 (0 : Int32) ((11 : Int32) + v3_7) v3_7 M_11)
  else none
  else none
  else none
def bd_X8_moves_2 (x1 : Int32) : (Int32 × Mem) → Option ((Int32 × Mem) ⊕ (Mem)) :=
  u2 fun v3_1 M_2 =>
  if (216 : Int32) ≤ v3_1 then
    (some (.inr M_2))
  else
    ((fn_X8_at v3_1 M_2).bind fun r_5 =>
    if r_5 = x1 then
      (jn_X8_moves_28 (1 : Int32) v3_1 v3_1 M_2)
    else
      (jn_X8_moves_28 (0 : Int32) v3_1 v3_1 M_2))
def bd_X8_moves_68 (x1 : Int32) (x2 : Int32) : (Int32 × Mem) → Option ((Int32 × Mem) ⊕ (Mem)) :=
  u2 fun v3_23 M_24 =>
  if (216 : Int32) ≤ v3_23 then
    (some (.inr M_24))
  else
    (if inb v3_23 216 then
    if (M_24 70 (ix v3_23)) = 0 then
      (some (.inl (v3_23 + (1 : Int32), M_24)))
    else
      (if inb ((11 : Int32) + (fn_X8_step v3_23 x2)) 2270 then
      bv (st M_24 62 (ix ((11 : Int32) + (fn_X8_step v3_23 x2))) (x1 + (1 : Int32))) fun M_29 =>
      some (.inl (v3_23 + (1 : Int32), M_29))
      else none)
    else none)
def fn_X8_moves (g : Nat) (x1 : Int32) (x2 : Int32) (M : Mem) : Option (Mem) :=
  (lpN g (bd_X8_moves_2 x1) ((0 : Int32), M)).bind (u1 fun M_3 =>
    (lpN g (bd_X8_moves_68 x1 x2) ((0 : Int32), M_3)).bind (u1 fun M_25 =>
      (fn_X8_lays g M_25).bind fun M_31 =>
      some M_31))
theorem dX8_moves_0 : decode cX8_moves 0 = .ok (.iconst 0, 1) := by decide +kernel
theorem dX8_moves_1 : decode cX8_moves 1 = .ok (.istore_n 3, 1) := by decide +kernel
theorem dX8_moves_2 : decode cX8_moves 2 = .ok (.iload_n 3, 1) := by decide +kernel
theorem dX8_moves_3 : decode cX8_moves 3 = .ok (.sipush 216, 3) := by decide +kernel
theorem dX8_moves_6 : decode cX8_moves 6 = .ok (.if_icmp .ge 60, 3) := by decide +kernel
theorem dX8_moves_9 : decode cX8_moves 9 = .ok (.aload_n 0, 1) := by decide +kernel
theorem dX8_moves_10 : decode cX8_moves 10 = .ok (.getfield 35, 3) := by decide +kernel
theorem dX8_moves_13 : decode cX8_moves 13 = .ok (.iload_n 3, 1) := by decide +kernel
theorem dX8_moves_14 : decode cX8_moves 14 = .ok (.aload_n 0, 1) := by decide +kernel
theorem dX8_moves_15 : decode cX8_moves 15 = .ok (.iload_n 3, 1) := by decide +kernel
theorem dX8_moves_16 : decode cX8_moves 16 = .ok (.invokevirtual 61, 3) := by decide +kernel
theorem dX8_moves_19 : decode cX8_moves 19 = .ok (.iload_n 1, 1) := by decide +kernel
theorem dX8_moves_20 : decode cX8_moves 20 = .ok (.if_icmp .ne 7, 3) := by decide +kernel
theorem dX8_moves_23 : decode cX8_moves 23 = .ok (.iconst 1, 1) := by decide +kernel
theorem dX8_moves_24 : decode cX8_moves 24 = .ok (.goto 4, 3) := by decide +kernel
theorem dX8_moves_27 : decode cX8_moves 27 = .ok (.iconst 0, 1) := by decide +kernel
theorem dX8_moves_28 : decode cX8_moves 28 = .ok (.bastore, 1) := by decide +kernel
theorem dX8_moves_29 : decode cX8_moves 29 = .ok (.aload_n 0, 1) := by decide +kernel
theorem dX8_moves_30 : decode cX8_moves 30 = .ok (.getfield 7, 3) := by decide +kernel
theorem dX8_moves_33 : decode cX8_moves 33 = .ok (.bipush 11, 2) := by decide +kernel
theorem dX8_moves_35 : decode cX8_moves 35 = .ok (.iload_n 3, 1) := by decide +kernel
theorem dX8_moves_36 : decode cX8_moves 36 = .ok (.iadd, 1) := by decide +kernel
theorem dX8_moves_37 : decode cX8_moves 37 = .ok (.aload_n 0, 1) := by decide +kernel
theorem dX8_moves_38 : decode cX8_moves 38 = .ok (.getfield 35, 3) := by decide +kernel
theorem dX8_moves_41 : decode cX8_moves 41 = .ok (.iload_n 3, 1) := by decide +kernel
theorem dX8_moves_42 : decode cX8_moves 42 = .ok (.baload, 1) := by decide +kernel
theorem dX8_moves_43 : decode cX8_moves 43 = .ok (.ifCond .eq 7, 3) := by decide +kernel
theorem dX8_moves_46 : decode cX8_moves 46 = .ok (.iconst 0, 1) := by decide +kernel
theorem dX8_moves_47 : decode cX8_moves 47 = .ok (.goto 12, 3) := by decide +kernel
theorem dX8_moves_50 : decode cX8_moves 50 = .ok (.aload_n 0, 1) := by decide +kernel
theorem dX8_moves_51 : decode cX8_moves 51 = .ok (.getfield 7, 3) := by decide +kernel
theorem dX8_moves_54 : decode cX8_moves 54 = .ok (.bipush 11, 2) := by decide +kernel
theorem dX8_moves_56 : decode cX8_moves 56 = .ok (.iload_n 3, 1) := by decide +kernel
theorem dX8_moves_57 : decode cX8_moves 57 = .ok (.iadd, 1) := by decide +kernel
theorem dX8_moves_58 : decode cX8_moves 58 = .ok (.iaload, 1) := by decide +kernel
theorem dX8_moves_59 : decode cX8_moves 59 = .ok (.iastore, 1) := by decide +kernel
theorem dX8_moves_60 : decode cX8_moves 60 = .ok (.iinc 3 1, 3) := by decide +kernel
theorem dX8_moves_63 : decode cX8_moves 63 = .ok (.goto (-61), 3) := by decide +kernel
theorem dX8_moves_66 : decode cX8_moves 66 = .ok (.iconst 0, 1) := by decide +kernel
theorem dX8_moves_67 : decode cX8_moves 67 = .ok (.istore_n 3, 1) := by decide +kernel
theorem dX8_moves_68 : decode cX8_moves 68 = .ok (.iload_n 3, 1) := by decide +kernel
theorem dX8_moves_69 : decode cX8_moves 69 = .ok (.sipush 216, 3) := by decide +kernel
theorem dX8_moves_72 : decode cX8_moves 72 = .ok (.if_icmp .ge 34, 3) := by decide +kernel
theorem dX8_moves_75 : decode cX8_moves 75 = .ok (.aload_n 0, 1) := by decide +kernel
theorem dX8_moves_76 : decode cX8_moves 76 = .ok (.getfield 35, 3) := by decide +kernel
theorem dX8_moves_79 : decode cX8_moves 79 = .ok (.iload_n 3, 1) := by decide +kernel
theorem dX8_moves_80 : decode cX8_moves 80 = .ok (.baload, 1) := by decide +kernel
theorem dX8_moves_81 : decode cX8_moves 81 = .ok (.ifCond .eq 19, 3) := by decide +kernel
theorem dX8_moves_84 : decode cX8_moves 84 = .ok (.aload_n 0, 1) := by decide +kernel
theorem dX8_moves_85 : decode cX8_moves 85 = .ok (.getfield 7, 3) := by decide +kernel
theorem dX8_moves_88 : decode cX8_moves 88 = .ok (.bipush 11, 2) := by decide +kernel
theorem dX8_moves_90 : decode cX8_moves 90 = .ok (.iload_n 3, 1) := by decide +kernel
theorem dX8_moves_91 : decode cX8_moves 91 = .ok (.iload_n 2, 1) := by decide +kernel
theorem dX8_moves_92 : decode cX8_moves 92 = .ok (.invokestatic 69, 3) := by decide +kernel
theorem dX8_moves_95 : decode cX8_moves 95 = .ok (.iadd, 1) := by decide +kernel
theorem dX8_moves_96 : decode cX8_moves 96 = .ok (.iload_n 1, 1) := by decide +kernel
theorem dX8_moves_97 : decode cX8_moves 97 = .ok (.iconst 1, 1) := by decide +kernel
theorem dX8_moves_98 : decode cX8_moves 98 = .ok (.iadd, 1) := by decide +kernel
theorem dX8_moves_99 : decode cX8_moves 99 = .ok (.iastore, 1) := by decide +kernel
theorem dX8_moves_100 : decode cX8_moves 100 = .ok (.iinc 3 1, 3) := by decide +kernel
theorem dX8_moves_103 : decode cX8_moves 103 = .ok (.goto (-35), 3) := by decide +kernel
theorem dX8_moves_106 : decode cX8_moves 106 = .ok (.aload_n 0, 1) := by decide +kernel
theorem dX8_moves_107 : decode cX8_moves 107 = .ok (.invokevirtual 38, 3) := by decide +kernel
theorem dX8_moves_110 : decode cX8_moves 110 = .ok (.return_, 1) := by decide +kernel
set_option maxHeartbeats 4000000 in
set_option maxRecDepth 100000 in
theorem c_X8_moves {l : Launch} {X : En} (g : Nat) (x1 : Int32) (x2 : Int32) (M : Mem) (M9 : Mem) (hf : fn_X8_moves g x1 x2 M = some M9) : Cn l X yX8_moves cX8_moves 4 none 4 95 [.ref (X.ad 61), .int x1, .int x2] M (Qv X M9) := by
  refine Met.ofW (cc := cX8_moves) (maxL := 4) (ret := none) (by decide) rfl ?_
  intro p e s m args below meth c s₁ B hml hv
  obtain ⟨rfl, hP, hk⟩ := hv
  have hx := B.exec
  have hb := B.bytes
  have hr := B.returns
  have hlocks := B.notSynchronized
  have hts : ∀ w ∈ lw_u, w.before ([.ref (X.ad 61), .int x1, .int x2] : List Value).toArray s = true := fun w hw => atoms_spec (ws := Cond.code yX8_moves cX8_moves 4 none :: lw_u) B.pre w (List.mem_cons_of_mem _ hw)
  have hown : s.vm.findClass RX8 = some m.cls := findClass_of_methodNamed B.named
  have hZ : Fx p c m s ([.ref (X.ad 61), .int x1, .int x2] : List Value).toArray X cX8_moves 4 RX8 := ⟨hx, hb, hml, hts, hown, hk⟩
  have hS : va_S X.A s.heap s.heap [] := va_S.rf
  have hl := lv_entry ([.ref (X.ad 61), .int x1, .int x2]) (n := 4) (Nat.le_of_ble_eq_true rfl)
  rw [lg_entry_eq]
  generalize (lg_sl ([.ref (X.ad 61), .int x1, .int x2]) ++ List.replicate (4 - (lg_sl ([.ref (X.ad 61), .int x1, .int x2])).length) Slot.unset).toArray = ls at hl ⊢
  have hl : lv_has ls 4 [(0, .ref (X.ad 61)), (1, .int x1), (2, .int x2)] := hl
  show WW p l e 4 95 s m [.ref (X.ad 61), .int x1, .int x2] below meth c X (Qv X M9) s.heap [] 0 ls []
  have hP : wd X M s.heap := hP
  unfold fn_X8_moves at hf
  have key : ∀ (H : Heap) (locs : List Loc), wd X M H → va_S X.A s.heap H locs → WW p l e 4 95 s m [.ref (X.ad 61), .int x1, .int x2] below meth c X (Qv X M9) H locs 0 ls [] := by
    intro H locs hP hS
    refine lv_iconst (v := (0 : Int32)) hx hb dX8_moves_0 (by decide) ?_
    refine lv_istore_n (lv' := [(3, .int (0 : Int32)), (0, .ref (X.ad 61)), (1, .int x1), (2, .int x2)]) hx hb dX8_moves_1 rfl hl (by decide) rfl (fun ls hl => ?_)
    obtain ⟨o2, ho2, hf⟩ := b_d hf
    refine lp_rule (b := bd_X8_moves_2 x1) (P := fun w : Int32 × Mem => ∀ (H : Heap) (locs : List Loc) (ls : Array Slot), wd X w.2 H → va_S X.A s.heap H locs → lv_has ls 4 [(3, .int w.1), (0, .ref (X.ad 61)), (1, .int x1), (2, .int x2)] → WW p l e 4 95 s m [.ref (X.ad 61), .int x1, .int x2] below meth c X (Qv X M9) H locs 2 ls []) (K := fun o => ∀ (M_3 : Mem), o = M_3 → ∀ (H : Heap) (locs : List Loc) (ls : Array Slot), wd X M_3 H → va_S X.A s.heap H locs → lv_has ls 4 [(0, .ref (X.ad 61)), (1, .int x1), (2, .int x2)] → WW p l e 4 95 s m [.ref (X.ad 61), .int x1, .int x2] below meth c X (Qv X M9) H locs 66 ls []) ?_ g ((0 : Int32), M) o2 ho2 ?_ H locs ls hP hS (lv_sub hl [0, 1, 2, 3] rfl)
    · rintro ⟨v3_1, M_2⟩ o hf hkc2 hke2 H locs ls hP hS hl
      have hf := u2_e hf
      have jn59 : ∀ (v3_17 : Int32) (s_18 : Int32) (s_19 : Int32) (M_20 : Mem), jn_X8_moves_59 s_18 s_19 v3_17 M_20 = some o → ∀ (H : Heap) (locs : List Loc) (ls : Array Slot), wd X M_20 H → va_S X.A s.heap H locs → lv_has ls 4 [(0, .ref (X.ad 61)), (1, .int x1), (2, .int x2), (3, .int v3_17)] → WW p l e 4 95 s m [.ref (X.ad 61), .int x1, .int x2] below meth c X (Qv X M9) H locs 59 ls [.int s_18, .int s_19, .ref (X.ad 62)] := by
        intro v3_17 s_18 s_19 M_20 hf H locs ls hP hS hl
        unfold jn_X8_moves_59 at hf
        obtain ⟨q_22, hf⟩ := g_if hf
        refine ast hx hb hk hP hS (by decide) (fun _ => rfl) q_22 dX8_moves_59 (fun H locs M_21 e_M_21 hP hS => ?_)
        have hf := b_v hf e_M_21
        refine lv_iinc (v := v3_17 + (1 : Int32)) (lv' := [(3, .int (v3_17 + (1 : Int32))), (0, .ref (X.ad 61)), (1, .int x1), (2, .int x2)]) hx hb dX8_moves_60 hl (k := 3) rfl rfl (by decide) rfl (fun ls hl => ?_)
        refine lv_goto (tgt := 2) hx hb dX8_moves_63 (by decide) ?_
        exact hkc2 _ (Option.some.inj hf).symm H locs ls hP hS (lv_sub hl [0, 1, 2, 3] rfl)
      have jn28 : ∀ (v3_7 : Int32) (s_8 : Int32) (s_9 : Int32) (M_10 : Mem), jn_X8_moves_28 s_8 s_9 v3_7 M_10 = some o → ∀ (H : Heap) (locs : List Loc) (ls : Array Slot), wd X M_10 H → va_S X.A s.heap H locs → lv_has ls 4 [(0, .ref (X.ad 61)), (1, .int x1), (2, .int x2), (3, .int v3_7)] → WW p l e 4 95 s m [.ref (X.ad 61), .int x1, .int x2] below meth c X (Qv X M9) H locs 28 ls [.int s_8, .int s_9, .ref (X.ad 70)] := by
        intro v3_7 s_8 s_9 M_10 hf H locs ls hP hS hl
        unfold jn_X8_moves_28 at hf
        obtain ⟨q_12, hf⟩ := g_if hf
        obtain ⟨z_13, hf⟩ := g_if hf
        refine zast hx hb hk hP hS (by decide) (fun _ => rfl) q_12 z_13 dX8_moves_28 (fun H locs M_11 e_M_11 hP hS => ?_)
        have hf := b_v hf e_M_11
        refine lv_aload_n hx hb dX8_moves_29 rfl (lv_at hl 0 rfl) ?_
        refine gX8_0 hx hb hts hown hk hP wd_3_192 dX8_moves_30 ?_
        refine lv_bipush (v := (11 : Int32)) hx hb dX8_moves_33 (by decide) ?_
        refine lv_iload_n hx hb dX8_moves_35 rfl (lv_at hl 3 rfl) ?_
        refine lv_iadd hx hb dX8_moves_36 ?_
        refine lv_aload_n hx hb dX8_moves_37 rfl (lv_at hl 0 rfl) ?_
        refine gX8_12 hx hb hts hown hk hP wd_3_204 dX8_moves_38 ?_
        refine lv_iload_n hx hb dX8_moves_41 rfl (lv_at hl 3 rfl) ?_
        obtain ⟨q_14, hf⟩ := g_if hf
        refine zald hx hb hk hP (by decide) rfl q_14 dX8_moves_42 ?_
        refine lv_if_eq (tgt := 50) hx hb dX8_moves_43 (by decide) (fun c_15 => ?_) (fun c_15 => ?_)
        · have hf := i_t c_15 hf
          refine lv_aload_n hx hb dX8_moves_50 rfl (lv_at hl 0 rfl) ?_
          refine gX8_0 hx hb hts hown hk hP wd_3_192 dX8_moves_51 ?_
          refine lv_bipush (v := (11 : Int32)) hx hb dX8_moves_54 (by decide) ?_
          refine lv_iload_n hx hb dX8_moves_56 rfl (lv_at hl 3 rfl) ?_
          refine lv_iadd hx hb dX8_moves_57 ?_
          obtain ⟨q_16, hf⟩ := g_if hf
          refine ald hx hb hk hP (by decide) rfl q_16 dX8_moves_58 ?_
          exact jn59 v3_7 (M_11 62 (ix ((11 : Int32) + v3_7))) ((11 : Int32) + v3_7) M_11 hf H locs ls hP hS (lv_sub hl [0, 1, 2, 3] rfl)
        · have hf := i_f c_15 hf
          refine lv_iconst (v := (0 : Int32)) hx hb dX8_moves_46 (by decide) ?_
          refine lv_goto (tgt := 59) hx hb dX8_moves_47 (by decide) ?_
          exact jn59 v3_7 (0 : Int32) ((11 : Int32) + v3_7) M_11 hf H locs ls hP hS (lv_sub hl [0, 1, 2, 3] rfl)
      refine lv_iload_n hx hb dX8_moves_2 rfl (lv_at hl 0 rfl) ?_
      refine lv_sipush (v := (216 : Int32)) hx hb dX8_moves_3 (by decide) ?_
      refine lv_icmp_ge (tgt := 66) hx hb dX8_moves_6 (by decide) (fun c_4 => ?_) (fun c_4 => ?_)
      · have hf := i_t c_4 hf
        exact hke2 _ (Option.some.inj hf).symm _ rfl H locs ls hP hS (lv_sub hl [1, 2, 3] rfl)
      · have hf := i_f c_4 hf
        refine lv_aload_n hx hb dX8_moves_9 rfl (lv_at hl 1 rfl) ?_
        refine gX8_12 hx hb hts hown hk hP wd_3_204 dX8_moves_10 ?_
        refine lv_iload_n hx hb dX8_moves_13 rfl (lv_at hl 0 rfl) ?_
        refine lv_aload_n hx hb dX8_moves_14 rfl (lv_at hl 1 rfl) ?_
        refine lv_iload_n hx hb dX8_moves_15 rfl (lv_at hl 0 rfl) ?_
        obtain ⟨r_5, h_r_5, hf⟩ := b_d hf
        refine k_X8_at hZ hP hS hl.1 wd_3_175 ⟨Nat.le_of_ble_eq_true rfl, Nat.le_of_ble_eq_true rfl⟩ (Nat.le_of_ble_eq_true rfl) dX8_moves_16 ⟨Nat.zero_le _, Nat.zero_le _⟩ h_r_5 (fun H locs hP hS => ?_)
        refine lv_iload_n hx hb dX8_moves_19 rfl (lv_at hl 2 rfl) ?_
        refine lv_icmp_ne (tgt := 27) hx hb dX8_moves_20 (by decide) (fun c_6 => ?_) (fun c_6 => ?_)
        · have hf := i_f c_6 hf
          refine lv_iconst (v := (0 : Int32)) hx hb dX8_moves_27 (by decide) ?_
          exact jn28 v3_1 (0 : Int32) v3_1 M_2 hf H locs ls hP hS (lv_sub hl [1, 2, 3, 0] rfl)
        · have hf := i_t c_6 hf
          refine lv_iconst (v := (1 : Int32)) hx hb dX8_moves_23 (by decide) ?_
          refine lv_goto (tgt := 28) hx hb dX8_moves_24 (by decide) ?_
          exact jn28 v3_1 (1 : Int32) v3_1 M_2 hf H locs ls hP hS (lv_sub hl [1, 2, 3, 0] rfl)
    · intro M_3 e H locs ls hP hS hl
      subst o2
      have hf := u1_e hf
      refine lv_iconst (v := (0 : Int32)) hx hb dX8_moves_66 (by decide) ?_
      refine lv_istore_n (lv' := [(3, .int (0 : Int32)), (0, .ref (X.ad 61)), (1, .int x1), (2, .int x2)]) hx hb dX8_moves_67 rfl hl (by decide) rfl (fun ls hl => ?_)
      obtain ⟨o68, ho68, hf⟩ := b_d hf
      refine lp_rule (b := bd_X8_moves_68 x1 x2) (P := fun w : Int32 × Mem => ∀ (H : Heap) (locs : List Loc) (ls : Array Slot), wd X w.2 H → va_S X.A s.heap H locs → lv_has ls 4 [(3, .int w.1), (0, .ref (X.ad 61)), (1, .int x1), (2, .int x2)] → WW p l e 4 95 s m [.ref (X.ad 61), .int x1, .int x2] below meth c X (Qv X M9) H locs 68 ls []) (K := fun o => ∀ (M_25 : Mem), o = M_25 → ∀ (H : Heap) (locs : List Loc) (ls : Array Slot), wd X M_25 H → va_S X.A s.heap H locs → lv_has ls 4 [(0, .ref (X.ad 61))] → WW p l e 4 95 s m [.ref (X.ad 61), .int x1, .int x2] below meth c X (Qv X M9) H locs 106 ls []) ?_ g ((0 : Int32), M_3) o68 ho68 ?_ H locs ls hP hS (lv_sub hl [0, 1, 2, 3] rfl)
      · rintro ⟨v3_23, M_24⟩ o hf hkc68 hke68 H locs ls hP hS hl
        have hf := u2_e hf
        refine lv_iload_n hx hb dX8_moves_68 rfl (lv_at hl 0 rfl) ?_
        refine lv_sipush (v := (216 : Int32)) hx hb dX8_moves_69 (by decide) ?_
        refine lv_icmp_ge (tgt := 106) hx hb dX8_moves_72 (by decide) (fun c_26 => ?_) (fun c_26 => ?_)
        · have hf := i_t c_26 hf
          exact hke68 _ (Option.some.inj hf).symm _ rfl H locs ls hP hS (lv_sub hl [1] rfl)
        · have hf := i_f c_26 hf
          refine lv_aload_n hx hb dX8_moves_75 rfl (lv_at hl 1 rfl) ?_
          refine gX8_12 hx hb hts hown hk hP wd_3_204 dX8_moves_76 ?_
          refine lv_iload_n hx hb dX8_moves_79 rfl (lv_at hl 0 rfl) ?_
          obtain ⟨q_27, hf⟩ := g_if hf
          refine zald hx hb hk hP (by decide) rfl q_27 dX8_moves_80 ?_
          refine lv_if_eq (tgt := 100) hx hb dX8_moves_81 (by decide) (fun c_28 => ?_) (fun c_28 => ?_)
          · have hf := i_t c_28 hf
            refine lv_iinc (v := v3_23 + (1 : Int32)) (lv' := [(3, .int (v3_23 + (1 : Int32))), (0, .ref (X.ad 61)), (1, .int x1), (2, .int x2)]) hx hb dX8_moves_100 hl (k := 0) rfl rfl (by decide) rfl (fun ls hl => ?_)
            refine lv_goto (tgt := 68) hx hb dX8_moves_103 (by decide) ?_
            exact hkc68 _ (Option.some.inj hf).symm H locs ls hP hS (lv_sub hl [0, 1, 2, 3] rfl)
          · have hf := i_f c_28 hf
            refine lv_aload_n hx hb dX8_moves_84 rfl (lv_at hl 1 rfl) ?_
            refine gX8_0 hx hb hts hown hk hP wd_3_192 dX8_moves_85 ?_
            refine lv_bipush (v := (11 : Int32)) hx hb dX8_moves_88 (by decide) ?_
            refine lv_iload_n hx hb dX8_moves_90 rfl (lv_at hl 0 rfl) ?_
            refine lv_iload_n hx hb dX8_moves_91 rfl (lv_at hl 3 rfl) ?_
            refine k_X8_step hZ hP hS hl.1 wd_3_183 ⟨Nat.le_of_ble_eq_true rfl, Nat.le_of_ble_eq_true rfl⟩ (Nat.le_of_ble_eq_true rfl) dX8_moves_92 ⟨Nat.zero_le _, Nat.zero_le _⟩ (fun H locs hP hS => ?_)
            refine lv_iadd hx hb dX8_moves_95 ?_
            refine lv_iload_n hx hb dX8_moves_96 rfl (lv_at hl 2 rfl) ?_
            refine lv_iconst (v := (1 : Int32)) hx hb dX8_moves_97 (by decide) ?_
            refine lv_iadd hx hb dX8_moves_98 ?_
            obtain ⟨q_30, hf⟩ := g_if hf
            refine ast hx hb hk hP hS (by decide) (fun _ => rfl) q_30 dX8_moves_99 (fun H locs M_29 e_M_29 hP hS => ?_)
            have hf := b_v hf e_M_29
            refine lv_iinc (v := v3_23 + (1 : Int32)) (lv' := [(3, .int (v3_23 + (1 : Int32))), (0, .ref (X.ad 61)), (1, .int x1), (2, .int x2)]) hx hb dX8_moves_100 hl (k := 0) rfl rfl (by decide) rfl (fun ls hl => ?_)
            refine lv_goto (tgt := 68) hx hb dX8_moves_103 (by decide) ?_
            exact hkc68 _ (Option.some.inj hf).symm H locs ls hP hS (lv_sub hl [0, 1, 2, 3] rfl)
      · intro M_25 e H locs ls hP hS hl
        subst o68
        have hf := u1_e hf
        refine lv_aload_n hx hb dX8_moves_106 rfl (lv_at hl 0 rfl) ?_
        obtain ⟨M_31, h_M_31, hf⟩ := b_d hf
        refine k_X8_lays hZ hP hS hl.1 wd_3_171 ⟨Nat.le_of_ble_eq_true rfl, Nat.le_of_ble_eq_true rfl⟩ (Nat.le_of_ble_eq_true rfl) dX8_moves_107 ⟨Nat.zero_le _, Nat.zero_le _⟩ h_M_31 (fun H locs hP hS => ?_)
        have hf := Option.some.inj hf
        rw [hf] at hP
        exact ret_v hx hb hr hlocks hP hS dX8_moves_110
  exact key s.heap [] hP hS
theorem hd_X8_moves : Hd yX8_moves 2 := by decide +kernel
theorem k_X8_moves {p : Program} {l : Launch} {e : Env} {R : Room} {s : State} {m : MethodId} {args : Array Value} {below : List Frame} {meth : Method} {c : Code} {H : Heap} {locs : List Loc} {cells slots : Nat} {Q : State → Prop} {cc : ByteArray} {nL pc index : Nat} {ls : Array Slot} {rest : List Value} {X : En} {M : Mem} {H0 : Heap} {own : String} {g : Nat} {x1 : Int32} {x2 : Int32} {M9 : Mem} (hZ : Fx p c m s args X cc nL own) (hP : wd X M H) (hS : va_S X.A H0 H locs) (hsz : ls.size = nL) (hlk : Cond.methodLink own index yX8_moves ∈ lw_u) (hR : 4 + 1 ≤ R.frames ∧ 8 + (4 + 11) + 95 ≤ R.locals) (hW : (rest.map fun v => v.category).sum ≤ 8) (hdg : decode cc pc = .ok (.invokevirtual index, 3)) (hcs : cells ≤ R.cells ∧ slots ≤ R.slots) (hf : fn_X8_moves g x1 x2 M = some M9)
    (kk : ∀ (H1 : Heap) (locs1 : List Loc), wd X M9 H1 → va_S X.A H0 H1 locs1 → W p l e R s m args below meth c H1 locs1 cells slots Q (F0 m (pc + 3) ls rest)) : W p l e R s m args below meth c H locs cells slots Q (F0 m pc ls (.int x2 :: .int x1 :: .ref (X.ad 61) :: rest)) :=
  cal_v (runV (As := [.int x1, .int x2]) (rest := rest) hZ.1 hZ.2.1 hZ.2.2.1 hZ.2.2.2.1 hZ.2.2.2.2.1 hZ.2.2.2.2.2 hP (c_X8_moves g x1 x2 M M9 hf) wd_4_96 wd_4_95 wd_p_42 wd_1_9 hd_X8_moves (by decide) rfl rfl rfl hlk hR hsz rfl hW hdg hcs) hS kk
/-! FrameRaiserModel.shift -/
def fn_X8_shift (g : Nat) (x1 : Int32) (x2 : Int32) (M : Mem) : Option (Int32 × Mem) :=
  (fn_X8_wrongShift g x1 x2 M).bind fun r_1 =>
  if r_1 = 0 then
    ((fn_X8_records g M).bind fun M_3 =>
    (fn_X8_moves g x1 x2 M_3).bind fun M_4 =>
    some ((1 : Int32), M_4))
  else
    (some (r_1, M))
theorem dX8_shift_0 : decode cX8_shift 0 = .ok (.aload_n 0, 1) := by decide +kernel
theorem dX8_shift_1 : decode cX8_shift 1 = .ok (.iload_n 1, 1) := by decide +kernel
theorem dX8_shift_2 : decode cX8_shift 2 = .ok (.iload_n 2, 1) := by decide +kernel
theorem dX8_shift_3 : decode cX8_shift 3 = .ok (.invokevirtual 156, 3) := by decide +kernel
theorem dX8_shift_6 : decode cX8_shift 6 = .ok (.istore_n 3, 1) := by decide +kernel
theorem dX8_shift_7 : decode cX8_shift 7 = .ok (.iload_n 3, 1) := by decide +kernel
theorem dX8_shift_8 : decode cX8_shift 8 = .ok (.ifCond .eq 5, 3) := by decide +kernel
theorem dX8_shift_11 : decode cX8_shift 11 = .ok (.iload_n 3, 1) := by decide +kernel
theorem dX8_shift_12 : decode cX8_shift 12 = .ok (.ireturn, 1) := by decide +kernel
theorem dX8_shift_13 : decode cX8_shift 13 = .ok (.aload_n 0, 1) := by decide +kernel
theorem dX8_shift_14 : decode cX8_shift 14 = .ok (.invokevirtual 139, 3) := by decide +kernel
theorem dX8_shift_17 : decode cX8_shift 17 = .ok (.aload_n 0, 1) := by decide +kernel
theorem dX8_shift_18 : decode cX8_shift 18 = .ok (.iload_n 1, 1) := by decide +kernel
theorem dX8_shift_19 : decode cX8_shift 19 = .ok (.iload_n 2, 1) := by decide +kernel
theorem dX8_shift_20 : decode cX8_shift 20 = .ok (.invokevirtual 159, 3) := by decide +kernel
theorem dX8_shift_23 : decode cX8_shift 23 = .ok (.iconst 1, 1) := by decide +kernel
theorem dX8_shift_24 : decode cX8_shift 24 = .ok (.ireturn, 1) := by decide +kernel
set_option maxHeartbeats 4000000 in
set_option maxRecDepth 100000 in
theorem c_X8_shift {l : Launch} {X : En} (g : Nat) (x1 : Int32) (x2 : Int32) (M : Mem) (r : Int32) (M9 : Mem) (hf : fn_X8_shift g x1 x2 M = some (r, M9)) : Cn l X yX8_shift cX8_shift 4 (some .int) 5 118 [.ref (X.ad 61), .int x1, .int x2] M (Qi X r M9) := by
  refine Met.ofW (cc := cX8_shift) (maxL := 4) (ret := (some .int)) (by decide) rfl ?_
  intro p e s m args below meth c s₁ B hml hv
  obtain ⟨rfl, hP, hk⟩ := hv
  have hx := B.exec
  have hb := B.bytes
  have hr := B.returns
  have hlocks := B.notSynchronized
  have hts : ∀ w ∈ lw_u, w.before ([.ref (X.ad 61), .int x1, .int x2] : List Value).toArray s = true := fun w hw => atoms_spec (ws := Cond.code yX8_shift cX8_shift 4 (some .int) :: lw_u) B.pre w (List.mem_cons_of_mem _ hw)
  have hown : s.vm.findClass RX8 = some m.cls := findClass_of_methodNamed B.named
  have hZ : Fx p c m s ([.ref (X.ad 61), .int x1, .int x2] : List Value).toArray X cX8_shift 4 RX8 := ⟨hx, hb, hml, hts, hown, hk⟩
  have hS : va_S X.A s.heap s.heap [] := va_S.rf
  have hl := lv_entry ([.ref (X.ad 61), .int x1, .int x2]) (n := 4) (Nat.le_of_ble_eq_true rfl)
  rw [lg_entry_eq]
  generalize (lg_sl ([.ref (X.ad 61), .int x1, .int x2]) ++ List.replicate (4 - (lg_sl ([.ref (X.ad 61), .int x1, .int x2])).length) Slot.unset).toArray = ls at hl ⊢
  have hl : lv_has ls 4 [(0, .ref (X.ad 61)), (1, .int x1), (2, .int x2)] := hl
  show WW p l e 5 118 s m [.ref (X.ad 61), .int x1, .int x2] below meth c X (Qi X r M9) s.heap [] 0 ls []
  have hP : wd X M s.heap := hP
  unfold fn_X8_shift at hf
  have key : ∀ (H : Heap) (locs : List Loc), wd X M H → va_S X.A s.heap H locs → WW p l e 5 118 s m [.ref (X.ad 61), .int x1, .int x2] below meth c X (Qi X r M9) H locs 0 ls [] := by
    intro H locs hP hS
    refine lv_aload_n hx hb dX8_shift_0 rfl (lv_at hl 0 rfl) ?_
    refine lv_iload_n hx hb dX8_shift_1 rfl (lv_at hl 1 rfl) ?_
    refine lv_iload_n hx hb dX8_shift_2 rfl (lv_at hl 2 rfl) ?_
    obtain ⟨r_1, h_r_1, hf⟩ := b_d hf
    refine k_X8_wrongShift hZ hP hS hl.1 wd_4_86 ⟨Nat.le_of_ble_eq_true rfl, Nat.le_of_ble_eq_true rfl⟩ (Nat.le_of_ble_eq_true rfl) dX8_shift_3 ⟨Nat.zero_le _, Nat.zero_le _⟩ h_r_1 (fun H locs hP hS => ?_)
    refine lv_istore_n (lv' := [(3, .int r_1), (0, .ref (X.ad 61)), (1, .int x1), (2, .int x2)]) hx hb dX8_shift_6 rfl hl (by decide) rfl (fun ls hl => ?_)
    refine lv_iload_n hx hb dX8_shift_7 rfl (lv_at hl 0 rfl) ?_
    refine lv_if_eq (tgt := 13) hx hb dX8_shift_8 (by decide) (fun c_2 => ?_) (fun c_2 => ?_)
    · have hf := i_t c_2 hf
      refine lv_aload_n hx hb dX8_shift_13 rfl (lv_at hl 1 rfl) ?_
      obtain ⟨M_3, h_M_3, hf⟩ := b_d hf
      refine k_X8_records hZ hP hS hl.1 wd_4_47 ⟨Nat.le_of_ble_eq_true rfl, Nat.le_of_ble_eq_true rfl⟩ (Nat.le_of_ble_eq_true rfl) dX8_shift_14 ⟨Nat.zero_le _, Nat.zero_le _⟩ h_M_3 (fun H locs hP hS => ?_)
      refine lv_aload_n hx hb dX8_shift_17 rfl (lv_at hl 1 rfl) ?_
      refine lv_iload_n hx hb dX8_shift_18 rfl (lv_at hl 2 rfl) ?_
      refine lv_iload_n hx hb dX8_shift_19 rfl (lv_at hl 3 rfl) ?_
      obtain ⟨M_4, h_M_4, hf⟩ := b_d hf
      refine k_X8_moves hZ hP hS hl.1 wd_4_93 ⟨Nat.le_of_ble_eq_true rfl, Nat.le_of_ble_eq_true rfl⟩ (Nat.le_of_ble_eq_true rfl) dX8_shift_20 ⟨Nat.zero_le _, Nat.zero_le _⟩ h_M_4 (fun H locs hP hS => ?_)
      refine lv_iconst (v := (1 : Int32)) hx hb dX8_shift_23 (by decide) ?_
      have hf := Option.some.inj hf
      obtain ⟨e1, e2⟩ := Prod.mk.inj hf
      rw [e2] at hP
      exact ret_i hx hb hr hlocks hP hS e1 dX8_shift_24
    · have hf := i_f c_2 hf
      refine lv_iload_n hx hb dX8_shift_11 rfl (lv_at hl 0 rfl) ?_
      have hf := Option.some.inj hf
      obtain ⟨e1, e2⟩ := Prod.mk.inj hf
      rw [e2] at hP
      exact ret_i hx hb hr hlocks hP hS e1 dX8_shift_12
  exact key s.heap [] hP hS
theorem hd_X8_shift : Hd yX8_shift 2 := by decide +kernel
theorem k_X8_shift {p : Program} {l : Launch} {e : Env} {R : Room} {s : State} {m : MethodId} {args : Array Value} {below : List Frame} {meth : Method} {c : Code} {H : Heap} {locs : List Loc} {cells slots : Nat} {Q : State → Prop} {cc : ByteArray} {nL pc index : Nat} {ls : Array Slot} {rest : List Value} {X : En} {M : Mem} {H0 : Heap} {own : String} {g : Nat} {x1 : Int32} {x2 : Int32} {r : Int32} {M9 : Mem} (hZ : Fx p c m s args X cc nL own) (hP : wd X M H) (hS : va_S X.A H0 H locs) (hsz : ls.size = nL) (hlk : Cond.methodLink own index yX8_shift ∈ lw_u) (hR : 5 + 1 ≤ R.frames ∧ 8 + (4 + 11) + 118 ≤ R.locals) (hW : (rest.map fun v => v.category).sum ≤ 8) (hdg : decode cc pc = .ok (.invokevirtual index, 3)) (hcs : cells ≤ R.cells ∧ slots ≤ R.slots) (hf : fn_X8_shift g x1 x2 M = some (r, M9))
    (kk : ∀ (H1 : Heap) (locs1 : List Loc), wd X M9 H1 → va_S X.A H0 H1 locs1 → W p l e R s m args below meth c H1 locs1 cells slots Q (F0 m (pc + 3) ls (.int r :: rest))) : W p l e R s m args below meth c H locs cells slots Q (F0 m pc ls (.int x2 :: .int x1 :: .ref (X.ad 61) :: rest)) :=
  cal_i (runV (As := [.int x1, .int x2]) (rest := rest) hZ.1 hZ.2.1 hZ.2.2.1 hZ.2.2.2.1 hZ.2.2.2.2.1 hZ.2.2.2.2.2 hP (c_X8_shift g x1 x2 M r M9 hf) wd_4_85 wd_4_83 wd_4_84 wd_1_9 hd_X8_shift (by decide) rfl rfl rfl hlk hR hsz rfl hW hdg hcs) hS kk
/-! FrameRaiserModel.pieceAt -/
def fn_X8_pieceAt (x1 : Int32) (x2 : Int32) (x3 : Int32) (M : Mem) : Option (Int32) :=
  if (fn_X8_in x1 (0 : Int32) (5 : Int32)) = 0 then
    (some (-1 : Int32))
  else
    (if (fn_X8_in x2 (0 : Int32) (5 : Int32)) = 0 then
      (some (-1 : Int32))
    else
      (if (fn_X8_in x3 (0 : Int32) (5 : Int32)) = 0 then
        (some (-1 : Int32))
      else
        ((fn_X8_at (fn_X8_place x1 x2 x3) M).bind fun r_4 =>
        if 0 ≤ r_4 then
          (some r_4)
        else
          (some (-9 : Int32)))))
theorem dX8_pieceAt_0 : decode cX8_pieceAt 0 = .ok (.iload_n 1, 1) := by decide +kernel
theorem dX8_pieceAt_1 : decode cX8_pieceAt 1 = .ok (.iconst 0, 1) := by decide +kernel
theorem dX8_pieceAt_2 : decode cX8_pieceAt 2 = .ok (.iconst 5, 1) := by decide +kernel
theorem dX8_pieceAt_3 : decode cX8_pieceAt 3 = .ok (.invokestatic 49, 3) := by decide +kernel
theorem dX8_pieceAt_6 : decode cX8_pieceAt 6 = .ok (.ifCond .eq 21, 3) := by decide +kernel
theorem dX8_pieceAt_9 : decode cX8_pieceAt 9 = .ok (.iload_n 2, 1) := by decide +kernel
theorem dX8_pieceAt_10 : decode cX8_pieceAt 10 = .ok (.iconst 0, 1) := by decide +kernel
theorem dX8_pieceAt_11 : decode cX8_pieceAt 11 = .ok (.iconst 5, 1) := by decide +kernel
theorem dX8_pieceAt_12 : decode cX8_pieceAt 12 = .ok (.invokestatic 49, 3) := by decide +kernel
theorem dX8_pieceAt_15 : decode cX8_pieceAt 15 = .ok (.ifCond .eq 12, 3) := by decide +kernel
theorem dX8_pieceAt_18 : decode cX8_pieceAt 18 = .ok (.iload_n 3, 1) := by decide +kernel
theorem dX8_pieceAt_19 : decode cX8_pieceAt 19 = .ok (.iconst 0, 1) := by decide +kernel
theorem dX8_pieceAt_20 : decode cX8_pieceAt 20 = .ok (.iconst 5, 1) := by decide +kernel
theorem dX8_pieceAt_21 : decode cX8_pieceAt 21 = .ok (.invokestatic 49, 3) := by decide +kernel
theorem dX8_pieceAt_24 : decode cX8_pieceAt 24 = .ok (.ifCond .ne 5, 3) := by decide +kernel
theorem dX8_pieceAt_27 : decode cX8_pieceAt 27 = .ok (.iconst (-1), 1) := by decide +kernel
theorem dX8_pieceAt_28 : decode cX8_pieceAt 28 = .ok (.ireturn, 1) := by decide +kernel
theorem dX8_pieceAt_29 : decode cX8_pieceAt 29 = .ok (.aload_n 0, 1) := by decide +kernel
theorem dX8_pieceAt_30 : decode cX8_pieceAt 30 = .ok (.iload_n 1, 1) := by decide +kernel
theorem dX8_pieceAt_31 : decode cX8_pieceAt 31 = .ok (.iload_n 2, 1) := by decide +kernel
theorem dX8_pieceAt_32 : decode cX8_pieceAt 32 = .ok (.iload_n 3, 1) := by decide +kernel
theorem dX8_pieceAt_33 : decode cX8_pieceAt 33 = .ok (.invokestatic 53, 3) := by decide +kernel
theorem dX8_pieceAt_36 : decode cX8_pieceAt 36 = .ok (.invokevirtual 61, 3) := by decide +kernel
theorem dX8_pieceAt_39 : decode cX8_pieceAt 39 = .ok (.istore 4, 2) := by decide +kernel
theorem dX8_pieceAt_41 : decode cX8_pieceAt 41 = .ok (.iload 4, 2) := by decide +kernel
theorem dX8_pieceAt_43 : decode cX8_pieceAt 43 = .ok (.ifCond .ge 8, 3) := by decide +kernel
theorem dX8_pieceAt_46 : decode cX8_pieceAt 46 = .ok (.bipush (-9), 2) := by decide +kernel
theorem dX8_pieceAt_48 : decode cX8_pieceAt 48 = .ok (.goto 5, 3) := by decide +kernel
theorem dX8_pieceAt_51 : decode cX8_pieceAt 51 = .ok (.iload 4, 2) := by decide +kernel
theorem dX8_pieceAt_53 : decode cX8_pieceAt 53 = .ok (.ireturn, 1) := by decide +kernel
set_option maxHeartbeats 4000000 in
set_option maxRecDepth 100000 in
theorem c_X8_pieceAt {l : Launch} {X : En} (x1 : Int32) (x2 : Int32) (x3 : Int32) (M : Mem) (r : Int32) (hf : fn_X8_pieceAt x1 x2 x3 M = some r) : Cn l X yX8_pieceAt cX8_pieceAt 5 (some .int) 1 22 [.ref (X.ad 61), .int x1, .int x2, .int x3] M (Qi X r M) := by
  refine Met.ofW (cc := cX8_pieceAt) (maxL := 5) (ret := (some .int)) (by decide) rfl ?_
  intro p e s m args below meth c s₁ B hml hv
  obtain ⟨rfl, hP, hk⟩ := hv
  have hx := B.exec
  have hb := B.bytes
  have hr := B.returns
  have hlocks := B.notSynchronized
  have hts : ∀ w ∈ lw_u, w.before ([.ref (X.ad 61), .int x1, .int x2, .int x3] : List Value).toArray s = true := fun w hw => atoms_spec (ws := Cond.code yX8_pieceAt cX8_pieceAt 5 (some .int) :: lw_u) B.pre w (List.mem_cons_of_mem _ hw)
  have hown : s.vm.findClass RX8 = some m.cls := findClass_of_methodNamed B.named
  have hZ : Fx p c m s ([.ref (X.ad 61), .int x1, .int x2, .int x3] : List Value).toArray X cX8_pieceAt 5 RX8 := ⟨hx, hb, hml, hts, hown, hk⟩
  have hS : va_S X.A s.heap s.heap [] := va_S.rf
  have hl := lv_entry ([.ref (X.ad 61), .int x1, .int x2, .int x3]) (n := 5) (Nat.le_of_ble_eq_true rfl)
  rw [lg_entry_eq]
  generalize (lg_sl ([.ref (X.ad 61), .int x1, .int x2, .int x3]) ++ List.replicate (5 - (lg_sl ([.ref (X.ad 61), .int x1, .int x2, .int x3])).length) Slot.unset).toArray = ls at hl ⊢
  have hl : lv_has ls 5 [(0, .ref (X.ad 61)), (1, .int x1), (2, .int x2), (3, .int x3)] := hl
  show WW p l e 1 22 s m [.ref (X.ad 61), .int x1, .int x2, .int x3] below meth c X (Qi X r M) s.heap [] 0 ls []
  have hP : wd X M s.heap := hP
  unfold fn_X8_pieceAt at hf
  have key : ∀ (H : Heap) (locs : List Loc), wd X M H → va_S X.A s.heap H locs → WW p l e 1 22 s m [.ref (X.ad 61), .int x1, .int x2, .int x3] below meth c X (Qi X r M) H locs 0 ls [] := by
    intro H locs hP hS
    refine lv_iload_n hx hb dX8_pieceAt_0 rfl (lv_at hl 1 rfl) ?_
    refine lv_iconst (v := (0 : Int32)) hx hb dX8_pieceAt_1 (by decide) ?_
    refine lv_iconst (v := (5 : Int32)) hx hb dX8_pieceAt_2 (by decide) ?_
    refine k_X8_in hZ hP hS hl.1 wd_3_186 ⟨Nat.le_of_ble_eq_true rfl, Nat.le_of_ble_eq_true rfl⟩ (Nat.le_of_ble_eq_true rfl) dX8_pieceAt_3 ⟨Nat.zero_le _, Nat.zero_le _⟩ (fun H locs hP hS => ?_)
    refine lv_if_eq (tgt := 27) hx hb dX8_pieceAt_6 (by decide) (fun c_1 => ?_) (fun c_1 => ?_)
    · have hf := i_t c_1 hf
      refine lv_iconst (v := (-1 : Int32)) hx hb dX8_pieceAt_27 (by decide) ?_
      have hf := Option.some.inj hf
      exact ret_i hx hb hr hlocks hP hS hf dX8_pieceAt_28
    · have hf := i_f c_1 hf
      refine lv_iload_n hx hb dX8_pieceAt_9 rfl (lv_at hl 2 rfl) ?_
      refine lv_iconst (v := (0 : Int32)) hx hb dX8_pieceAt_10 (by decide) ?_
      refine lv_iconst (v := (5 : Int32)) hx hb dX8_pieceAt_11 (by decide) ?_
      refine k_X8_in hZ hP hS hl.1 wd_3_186 ⟨Nat.le_of_ble_eq_true rfl, Nat.le_of_ble_eq_true rfl⟩ (Nat.le_of_ble_eq_true rfl) dX8_pieceAt_12 ⟨Nat.zero_le _, Nat.zero_le _⟩ (fun H locs hP hS => ?_)
      refine lv_if_eq (tgt := 27) hx hb dX8_pieceAt_15 (by decide) (fun c_2 => ?_) (fun c_2 => ?_)
      · have hf := i_t c_2 hf
        refine lv_iconst (v := (-1 : Int32)) hx hb dX8_pieceAt_27 (by decide) ?_
        have hf := Option.some.inj hf
        exact ret_i hx hb hr hlocks hP hS hf dX8_pieceAt_28
      · have hf := i_f c_2 hf
        refine lv_iload_n hx hb dX8_pieceAt_18 rfl (lv_at hl 3 rfl) ?_
        refine lv_iconst (v := (0 : Int32)) hx hb dX8_pieceAt_19 (by decide) ?_
        refine lv_iconst (v := (5 : Int32)) hx hb dX8_pieceAt_20 (by decide) ?_
        refine k_X8_in hZ hP hS hl.1 wd_3_186 ⟨Nat.le_of_ble_eq_true rfl, Nat.le_of_ble_eq_true rfl⟩ (Nat.le_of_ble_eq_true rfl) dX8_pieceAt_21 ⟨Nat.zero_le _, Nat.zero_le _⟩ (fun H locs hP hS => ?_)
        refine lv_if_ne (tgt := 29) hx hb dX8_pieceAt_24 (by decide) (fun c_3 => ?_) (fun c_3 => ?_)
        · have hf := i_f c_3 hf
          refine lv_aload_n hx hb dX8_pieceAt_29 rfl (lv_at hl 0 rfl) ?_
          refine lv_iload_n hx hb dX8_pieceAt_30 rfl (lv_at hl 1 rfl) ?_
          refine lv_iload_n hx hb dX8_pieceAt_31 rfl (lv_at hl 2 rfl) ?_
          refine lv_iload_n hx hb dX8_pieceAt_32 rfl (lv_at hl 3 rfl) ?_
          refine k_X8_place hZ hP hS hl.1 wd_3_189 ⟨Nat.le_of_ble_eq_true rfl, Nat.le_of_ble_eq_true rfl⟩ (Nat.le_of_ble_eq_true rfl) dX8_pieceAt_33 ⟨Nat.zero_le _, Nat.zero_le _⟩ (fun H locs hP hS => ?_)
          obtain ⟨r_4, h_r_4, hf⟩ := b_d hf
          refine k_X8_at hZ hP hS hl.1 wd_3_175 ⟨Nat.le_of_ble_eq_true rfl, Nat.le_of_ble_eq_true rfl⟩ (Nat.le_of_ble_eq_true rfl) dX8_pieceAt_36 ⟨Nat.zero_le _, Nat.zero_le _⟩ h_r_4 (fun H locs hP hS => ?_)
          refine lv_istore (lv' := [(4, .int r_4), (0, .ref (X.ad 61)), (1, .int x1), (2, .int x2), (3, .int x3)]) hx hb dX8_pieceAt_39 hl (by decide) rfl (fun ls hl => ?_)
          refine lv_iload hx hb dX8_pieceAt_41 (lv_at hl 0 rfl) ?_
          refine lv_if_ge (tgt := 51) hx hb dX8_pieceAt_43 (by decide) (fun c_5 => ?_) (fun c_5 => ?_)
          · have hf := i_t c_5 hf
            refine lv_iload hx hb dX8_pieceAt_51 (lv_at hl 0 rfl) ?_
            have hf := Option.some.inj hf
            exact ret_i hx hb hr hlocks hP hS hf dX8_pieceAt_53
          · have hf := i_f c_5 hf
            refine lv_bipush (v := (-9 : Int32)) hx hb dX8_pieceAt_46 (by decide) ?_
            refine lv_goto (tgt := 53) hx hb dX8_pieceAt_48 (by decide) ?_
            have hf := Option.some.inj hf
            exact ret_i hx hb hr hlocks hP hS hf dX8_pieceAt_53
        · have hf := i_t c_3 hf
          refine lv_iconst (v := (-1 : Int32)) hx hb dX8_pieceAt_27 (by decide) ?_
          have hf := Option.some.inj hf
          exact ret_i hx hb hr hlocks hP hS hf dX8_pieceAt_28
  exact key s.heap [] hP hS
theorem hd_X8_pieceAt : Hd yX8_pieceAt 3 := by decide +kernel
theorem k_X8_pieceAt {p : Program} {l : Launch} {e : Env} {R : Room} {s : State} {m : MethodId} {args : Array Value} {below : List Frame} {meth : Method} {c : Code} {H : Heap} {locs : List Loc} {cells slots : Nat} {Q : State → Prop} {cc : ByteArray} {nL pc index : Nat} {ls : Array Slot} {rest : List Value} {X : En} {M : Mem} {H0 : Heap} {own : String} {x1 : Int32} {x2 : Int32} {x3 : Int32} {r : Int32} (hZ : Fx p c m s args X cc nL own) (hP : wd X M H) (hS : va_S X.A H0 H locs) (hsz : ls.size = nL) (hlk : Cond.methodLink own index yX8_pieceAt ∈ lw_u) (hR : 1 + 1 ≤ R.frames ∧ 8 + (5 + 11) + 22 ≤ R.locals) (hW : (rest.map fun v => v.category).sum ≤ 8) (hdg : decode cc pc = .ok (.invokevirtual index, 3)) (hcs : cells ≤ R.cells ∧ slots ≤ R.slots) (hf : fn_X8_pieceAt x1 x2 x3 M = some r)
    (kk : ∀ (H1 : Heap) (locs1 : List Loc), wd X M H1 → va_S X.A H0 H1 locs1 → W p l e R s m args below meth c H1 locs1 cells slots Q (F0 m (pc + 3) ls (.int r :: rest))) : W p l e R s m args below meth c H locs cells slots Q (F0 m pc ls (.int x3 :: .int x2 :: .int x1 :: .ref (X.ad 61) :: rest)) :=
  cal_i (runV (As := [.int x1, .int x2, .int x3]) (rest := rest) hZ.1 hZ.2.1 hZ.2.2.1 hZ.2.2.2.1 hZ.2.2.2.2.1 hZ.2.2.2.2.2 hP (c_X8_pieceAt x1 x2 x3 M r hf) wd_4_100 wd_4_98 wd_4_99 wd_1_9 hd_X8_pieceAt (by decide) rfl rfl rfl hlk hR hsz rfl hW hdg hcs) hS kk
/-! FrameRaiserModel.end -/
def jn_X8_end_107 (s_21 : Int32) (v5_20 : Int32) : Option ((Int32 × Int32) ⊕ (Int32)) :=
  some (.inl (s_21, v5_20 + (1 : Int32)))
def jn_X8_end_93 (s_18 : Int32) (v4_15 : Int32) (v5_16 : Int32) (v6_17 : Int32) : Option ((Int32 × Int32) ⊕ (Int32)) :=
  if s_18 = 0 then
    (jn_X8_end_107 v4_15 v5_16)
  else
    (jn_X8_end_107 v6_17 v5_16)
def jn_X8_end_88 (v4_23 : Int32) (v5_24 : Int32) (v6_25 : Int32) : Option ((Int32 × Int32) ⊕ (Int32)) :=
  jn_X8_end_93 (1 : Int32) v4_23 v5_24 v6_25
def jn_X8_end_92 (v4_12 : Int32) (v5_13 : Int32) (v6_14 : Int32) : Option ((Int32 × Int32) ⊕ (Int32)) :=
  jn_X8_end_93 (0 : Int32) v4_12 v5_13 v6_14
def jn_X8_end_48 (s_9 : Int32) (v4_7 : Int32) (v5_8 : Int32) (x1 : Int32) (x3 : Int32) (M : Mem) : Option ((Int32 × Int32) ⊕ (Int32)) :=
  (fn_X8_at v5_8 M).bind fun r_10 =>
  if r_10 = x1 then
    (if v4_7 = (-9 : Int32) then
      (jn_X8_end_88 v4_7 v5_8 s_9)
    else
      (if x3 = 0 then
        (if v4_7 ≤ s_9 then
          (jn_X8_end_92 v4_7 v5_8 s_9)
        else
          (jn_X8_end_88 v4_7 v5_8 s_9))
      else
        (if s_9 ≤ v4_7 then
          (jn_X8_end_92 v4_7 v5_8 s_9)
        else
          (jn_X8_end_88 v4_7 v5_8 s_9))))
  else
    (jn_X8_end_92 v4_7 v5_8 s_9)
def bd_X8_end_7 (x1 : Int32) (x2 : Int32) (x3 : Int32) (M : Mem) : (Int32 × Int32) → Option ((Int32 × Int32) ⊕ (Int32)) :=
  u2 fun v4_2 v5_1 =>
  if (216 : Int32) ≤ v5_1 then
    (some (.inr v4_2))
  else
    (if x2 = 0 then
      (jn_X8_end_48 (rm v5_1 (6 : Int32)) v4_2 v5_1 x1 x3 M)
    else
      (if x2 = (1 : Int32) then
        (jn_X8_end_48 (rm (v5_1 / (6 : Int32)) (6 : Int32)) v4_2 v5_1 x1 x3 M)
      else
        (jn_X8_end_48 (v5_1 / (36 : Int32)) v4_2 v5_1 x1 x3 M)))
def fn_X8_end (g : Nat) (x1 : Int32) (x2 : Int32) (x3 : Int32) (M : Mem) : Option (Int32) :=
  (lpN g (bd_X8_end_7 x1 x2 x3 M) ((-9 : Int32), (0 : Int32))).bind (u1 fun v4_3 =>
    some v4_3)
theorem dX8_end_0 : decode cX8_end 0 = .ok (.bipush (-9), 2) := by decide +kernel
theorem dX8_end_2 : decode cX8_end 2 = .ok (.istore 4, 2) := by decide +kernel
theorem dX8_end_4 : decode cX8_end 4 = .ok (.iconst 0, 1) := by decide +kernel
theorem dX8_end_5 : decode cX8_end 5 = .ok (.istore 5, 2) := by decide +kernel
theorem dX8_end_7 : decode cX8_end 7 = .ok (.iload 5, 2) := by decide +kernel
theorem dX8_end_9 : decode cX8_end 9 = .ok (.sipush 216, 3) := by decide +kernel
theorem dX8_end_12 : decode cX8_end 12 = .ok (.if_icmp .ge 103, 3) := by decide +kernel
theorem dX8_end_15 : decode cX8_end 15 = .ok (.iload_n 2, 1) := by decide +kernel
theorem dX8_end_16 : decode cX8_end 16 = .ok (.ifCond .ne 11, 3) := by decide +kernel
theorem dX8_end_19 : decode cX8_end 19 = .ok (.iload 5, 2) := by decide +kernel
theorem dX8_end_21 : decode cX8_end 21 = .ok (.bipush 6, 2) := by decide +kernel
theorem dX8_end_23 : decode cX8_end 23 = .ok (.irem, 1) := by decide +kernel
theorem dX8_end_24 : decode cX8_end 24 = .ok (.goto 24, 3) := by decide +kernel
theorem dX8_end_27 : decode cX8_end 27 = .ok (.iload_n 2, 1) := by decide +kernel
theorem dX8_end_28 : decode cX8_end 28 = .ok (.iconst 1, 1) := by decide +kernel
theorem dX8_end_29 : decode cX8_end 29 = .ok (.if_icmp .ne 14, 3) := by decide +kernel
theorem dX8_end_32 : decode cX8_end 32 = .ok (.iload 5, 2) := by decide +kernel
theorem dX8_end_34 : decode cX8_end 34 = .ok (.bipush 6, 2) := by decide +kernel
theorem dX8_end_36 : decode cX8_end 36 = .ok (.idiv, 1) := by decide +kernel
theorem dX8_end_37 : decode cX8_end 37 = .ok (.bipush 6, 2) := by decide +kernel
theorem dX8_end_39 : decode cX8_end 39 = .ok (.irem, 1) := by decide +kernel
theorem dX8_end_40 : decode cX8_end 40 = .ok (.goto 8, 3) := by decide +kernel
theorem dX8_end_43 : decode cX8_end 43 = .ok (.iload 5, 2) := by decide +kernel
theorem dX8_end_45 : decode cX8_end 45 = .ok (.bipush 36, 2) := by decide +kernel
theorem dX8_end_47 : decode cX8_end 47 = .ok (.idiv, 1) := by decide +kernel
theorem dX8_end_48 : decode cX8_end 48 = .ok (.istore 6, 2) := by decide +kernel
theorem dX8_end_50 : decode cX8_end 50 = .ok (.aload_n 0, 1) := by decide +kernel
theorem dX8_end_51 : decode cX8_end 51 = .ok (.iload 5, 2) := by decide +kernel
theorem dX8_end_53 : decode cX8_end 53 = .ok (.invokevirtual 61, 3) := by decide +kernel
theorem dX8_end_56 : decode cX8_end 56 = .ok (.iload_n 1, 1) := by decide +kernel
theorem dX8_end_57 : decode cX8_end 57 = .ok (.if_icmp .ne 35, 3) := by decide +kernel
theorem dX8_end_60 : decode cX8_end 60 = .ok (.iload 4, 2) := by decide +kernel
theorem dX8_end_62 : decode cX8_end 62 = .ok (.bipush (-9), 2) := by decide +kernel
theorem dX8_end_64 : decode cX8_end 64 = .ok (.if_icmp .eq 24, 3) := by decide +kernel
theorem dX8_end_67 : decode cX8_end 67 = .ok (.iload_n 3, 1) := by decide +kernel
theorem dX8_end_68 : decode cX8_end 68 = .ok (.ifCond .eq 13, 3) := by decide +kernel
theorem dX8_end_71 : decode cX8_end 71 = .ok (.iload 6, 2) := by decide +kernel
theorem dX8_end_73 : decode cX8_end 73 = .ok (.iload 4, 2) := by decide +kernel
theorem dX8_end_75 : decode cX8_end 75 = .ok (.if_icmp .le 17, 3) := by decide +kernel
theorem dX8_end_78 : decode cX8_end 78 = .ok (.goto 10, 3) := by decide +kernel
theorem dX8_end_81 : decode cX8_end 81 = .ok (.iload 6, 2) := by decide +kernel
theorem dX8_end_83 : decode cX8_end 83 = .ok (.iload 4, 2) := by decide +kernel
theorem dX8_end_85 : decode cX8_end 85 = .ok (.if_icmp .ge 7, 3) := by decide +kernel
theorem dX8_end_88 : decode cX8_end 88 = .ok (.iconst 1, 1) := by decide +kernel
theorem dX8_end_89 : decode cX8_end 89 = .ok (.goto 4, 3) := by decide +kernel
theorem dX8_end_92 : decode cX8_end 92 = .ok (.iconst 0, 1) := by decide +kernel
theorem dX8_end_93 : decode cX8_end 93 = .ok (.istore 7, 2) := by decide +kernel
theorem dX8_end_95 : decode cX8_end 95 = .ok (.iload 7, 2) := by decide +kernel
theorem dX8_end_97 : decode cX8_end 97 = .ok (.ifCond .eq 8, 3) := by decide +kernel
theorem dX8_end_100 : decode cX8_end 100 = .ok (.iload 6, 2) := by decide +kernel
theorem dX8_end_102 : decode cX8_end 102 = .ok (.goto 5, 3) := by decide +kernel
theorem dX8_end_105 : decode cX8_end 105 = .ok (.iload 4, 2) := by decide +kernel
theorem dX8_end_107 : decode cX8_end 107 = .ok (.istore 4, 2) := by decide +kernel
theorem dX8_end_109 : decode cX8_end 109 = .ok (.iinc 5 1, 3) := by decide +kernel
theorem dX8_end_112 : decode cX8_end 112 = .ok (.goto (-105), 3) := by decide +kernel
theorem dX8_end_115 : decode cX8_end 115 = .ok (.iload 4, 2) := by decide +kernel
theorem dX8_end_117 : decode cX8_end 117 = .ok (.ireturn, 1) := by decide +kernel
set_option maxHeartbeats 4000000 in
set_option maxRecDepth 100000 in
theorem c_X8_end {l : Launch} {X : En} (g : Nat) (x1 : Int32) (x2 : Int32) (x3 : Int32) (M : Mem) (r : Int32) (hf : fn_X8_end g x1 x2 x3 M = some r) : Cn l X yX8_end cX8_end 8 (some .int) 1 21 [.ref (X.ad 61), .int x1, .int x2, .int x3] M (Qi X r M) := by
  refine Met.ofW (cc := cX8_end) (maxL := 8) (ret := (some .int)) (by decide) rfl ?_
  intro p e s m args below meth c s₁ B hml hv
  obtain ⟨rfl, hP, hk⟩ := hv
  have hx := B.exec
  have hb := B.bytes
  have hr := B.returns
  have hlocks := B.notSynchronized
  have hts : ∀ w ∈ lw_u, w.before ([.ref (X.ad 61), .int x1, .int x2, .int x3] : List Value).toArray s = true := fun w hw => atoms_spec (ws := Cond.code yX8_end cX8_end 8 (some .int) :: lw_u) B.pre w (List.mem_cons_of_mem _ hw)
  have hown : s.vm.findClass RX8 = some m.cls := findClass_of_methodNamed B.named
  have hZ : Fx p c m s ([.ref (X.ad 61), .int x1, .int x2, .int x3] : List Value).toArray X cX8_end 8 RX8 := ⟨hx, hb, hml, hts, hown, hk⟩
  have hS : va_S X.A s.heap s.heap [] := va_S.rf
  have hl := lv_entry ([.ref (X.ad 61), .int x1, .int x2, .int x3]) (n := 8) (Nat.le_of_ble_eq_true rfl)
  rw [lg_entry_eq]
  generalize (lg_sl ([.ref (X.ad 61), .int x1, .int x2, .int x3]) ++ List.replicate (8 - (lg_sl ([.ref (X.ad 61), .int x1, .int x2, .int x3])).length) Slot.unset).toArray = ls at hl ⊢
  have hl : lv_has ls 8 [(0, .ref (X.ad 61)), (1, .int x1), (2, .int x2), (3, .int x3)] := hl
  show WW p l e 1 21 s m [.ref (X.ad 61), .int x1, .int x2, .int x3] below meth c X (Qi X r M) s.heap [] 0 ls []
  have hP : wd X M s.heap := hP
  unfold fn_X8_end at hf
  have key : ∀ (H : Heap) (locs : List Loc), wd X M H → va_S X.A s.heap H locs → WW p l e 1 21 s m [.ref (X.ad 61), .int x1, .int x2, .int x3] below meth c X (Qi X r M) H locs 0 ls [] := by
    intro H locs hP hS
    refine lv_bipush (v := (-9 : Int32)) hx hb dX8_end_0 (by decide) ?_
    refine lv_istore (lv' := [(4, .int (-9 : Int32)), (0, .ref (X.ad 61)), (1, .int x1), (2, .int x2), (3, .int x3)]) hx hb dX8_end_2 hl (by decide) rfl (fun ls hl => ?_)
    refine lv_iconst (v := (0 : Int32)) hx hb dX8_end_4 (by decide) ?_
    refine lv_istore (lv' := [(5, .int (0 : Int32)), (4, .int (-9 : Int32)), (0, .ref (X.ad 61)), (1, .int x1), (2, .int x2), (3, .int x3)]) hx hb dX8_end_5 hl (by decide) rfl (fun ls hl => ?_)
    obtain ⟨o7, ho7, hf⟩ := b_d hf
    refine lp_rule (b := bd_X8_end_7 x1 x2 x3 M) (P := fun w : Int32 × Int32 => ∀ (H : Heap) (locs : List Loc) (ls : Array Slot), wd X M H → va_S X.A s.heap H locs → lv_has ls 8 [(5, .int w.2), (4, .int w.1), (0, .ref (X.ad 61)), (1, .int x1), (2, .int x2), (3, .int x3)] → WW p l e 1 21 s m [.ref (X.ad 61), .int x1, .int x2, .int x3] below meth c X (Qi X r M) H locs 7 ls []) (K := fun o => ∀ (v4_3 : Int32), o = v4_3 → ∀ (H : Heap) (locs : List Loc) (ls : Array Slot), wd X M H → va_S X.A s.heap H locs → lv_has ls 8 [(4, .int v4_3)] → WW p l e 1 21 s m [.ref (X.ad 61), .int x1, .int x2, .int x3] below meth c X (Qi X r M) H locs 115 ls []) ?_ g ((-9 : Int32), (0 : Int32)) o7 ho7 ?_ H locs ls hP hS (lv_sub hl [0, 1, 2, 3, 4, 5] rfl)
    · rintro ⟨v4_2, v5_1⟩ o hf hkc7 hke7 H locs ls hP hS hl
      have hf := u2_e hf
      have jn107 : ∀ (v5_20 : Int32) (s_21 : Int32), jn_X8_end_107 s_21 v5_20 = some o → ∀ (H : Heap) (locs : List Loc) (ls : Array Slot), wd X M H → va_S X.A s.heap H locs → lv_has ls 8 [(0, .ref (X.ad 61)), (1, .int x1), (2, .int x2), (3, .int x3), (5, .int v5_20)] → WW p l e 1 21 s m [.ref (X.ad 61), .int x1, .int x2, .int x3] below meth c X (Qi X r M) H locs 107 ls [.int s_21] := by
        intro v5_20 s_21  hf H locs ls hP hS hl
        unfold jn_X8_end_107 at hf
        refine lv_istore (lv' := [(4, .int s_21), (0, .ref (X.ad 61)), (1, .int x1), (2, .int x2), (3, .int x3), (5, .int v5_20)]) hx hb dX8_end_107 hl (by decide) rfl (fun ls hl => ?_)
        refine lv_iinc (v := v5_20 + (1 : Int32)) (lv' := [(5, .int (v5_20 + (1 : Int32))), (4, .int s_21), (0, .ref (X.ad 61)), (1, .int x1), (2, .int x2), (3, .int x3)]) hx hb dX8_end_109 hl (k := 5) rfl rfl (by decide) rfl (fun ls hl => ?_)
        refine lv_goto (tgt := 7) hx hb dX8_end_112 (by decide) ?_
        exact hkc7 _ (Option.some.inj hf).symm H locs ls hP hS (lv_sub hl [0, 1, 2, 3, 4, 5] rfl)
      have jn93 : ∀ (v4_15 : Int32) (v5_16 : Int32) (v6_17 : Int32) (s_18 : Int32), jn_X8_end_93 s_18 v4_15 v5_16 v6_17 = some o → ∀ (H : Heap) (locs : List Loc) (ls : Array Slot), wd X M H → va_S X.A s.heap H locs → lv_has ls 8 [(0, .ref (X.ad 61)), (1, .int x1), (2, .int x2), (3, .int x3), (4, .int v4_15), (5, .int v5_16), (6, .int v6_17)] → WW p l e 1 21 s m [.ref (X.ad 61), .int x1, .int x2, .int x3] below meth c X (Qi X r M) H locs 93 ls [.int s_18] := by
        intro v4_15 v5_16 v6_17 s_18  hf H locs ls hP hS hl
        unfold jn_X8_end_93 at hf
        refine lv_istore (lv' := [(7, .int s_18), (0, .ref (X.ad 61)), (1, .int x1), (2, .int x2), (3, .int x3), (4, .int v4_15), (5, .int v5_16), (6, .int v6_17)]) hx hb dX8_end_93 hl (by decide) rfl (fun ls hl => ?_)
        refine lv_iload hx hb dX8_end_95 (lv_at hl 0 rfl) ?_
        refine lv_if_eq (tgt := 105) hx hb dX8_end_97 (by decide) (fun c_19 => ?_) (fun c_19 => ?_)
        · have hf := i_t c_19 hf
          refine lv_iload hx hb dX8_end_105 (lv_at hl 5 rfl) ?_
          exact jn107 v5_16 v4_15 hf H locs ls hP hS (lv_sub hl [1, 2, 3, 4, 6] rfl)
        · have hf := i_f c_19 hf
          refine lv_iload hx hb dX8_end_100 (lv_at hl 7 rfl) ?_
          refine lv_goto (tgt := 107) hx hb dX8_end_102 (by decide) ?_
          exact jn107 v5_16 v6_17 hf H locs ls hP hS (lv_sub hl [1, 2, 3, 4, 6] rfl)
      have jn92 : ∀ (v4_12 : Int32) (v5_13 : Int32) (v6_14 : Int32), jn_X8_end_92 v4_12 v5_13 v6_14 = some o → ∀ (H : Heap) (locs : List Loc) (ls : Array Slot), wd X M H → va_S X.A s.heap H locs → lv_has ls 8 [(0, .ref (X.ad 61)), (1, .int x1), (2, .int x2), (3, .int x3), (4, .int v4_12), (5, .int v5_13), (6, .int v6_14)] → WW p l e 1 21 s m [.ref (X.ad 61), .int x1, .int x2, .int x3] below meth c X (Qi X r M) H locs 92 ls [] := by
        intro v4_12 v5_13 v6_14  hf H locs ls hP hS hl
        unfold jn_X8_end_92 at hf
        refine lv_iconst (v := (0 : Int32)) hx hb dX8_end_92 (by decide) ?_
        exact jn93 v4_12 v5_13 v6_14 (0 : Int32) hf H locs ls hP hS (lv_sub hl [0, 1, 2, 3, 4, 5, 6] rfl)
      have jn88 : ∀ (v4_23 : Int32) (v5_24 : Int32) (v6_25 : Int32), jn_X8_end_88 v4_23 v5_24 v6_25 = some o → ∀ (H : Heap) (locs : List Loc) (ls : Array Slot), wd X M H → va_S X.A s.heap H locs → lv_has ls 8 [(0, .ref (X.ad 61)), (1, .int x1), (2, .int x2), (3, .int x3), (4, .int v4_23), (5, .int v5_24), (6, .int v6_25)] → WW p l e 1 21 s m [.ref (X.ad 61), .int x1, .int x2, .int x3] below meth c X (Qi X r M) H locs 88 ls [] := by
        intro v4_23 v5_24 v6_25  hf H locs ls hP hS hl
        unfold jn_X8_end_88 at hf
        refine lv_iconst (v := (1 : Int32)) hx hb dX8_end_88 (by decide) ?_
        refine lv_goto (tgt := 93) hx hb dX8_end_89 (by decide) ?_
        exact jn93 v4_23 v5_24 v6_25 (1 : Int32) hf H locs ls hP hS (lv_sub hl [0, 1, 2, 3, 4, 5, 6] rfl)
      have jn48 : ∀ (v4_7 : Int32) (v5_8 : Int32) (s_9 : Int32), jn_X8_end_48 s_9 v4_7 v5_8 x1 x3 M = some o → ∀ (H : Heap) (locs : List Loc) (ls : Array Slot), wd X M H → va_S X.A s.heap H locs → lv_has ls 8 [(0, .ref (X.ad 61)), (1, .int x1), (2, .int x2), (3, .int x3), (4, .int v4_7), (5, .int v5_8)] → WW p l e 1 21 s m [.ref (X.ad 61), .int x1, .int x2, .int x3] below meth c X (Qi X r M) H locs 48 ls [.int s_9] := by
        intro v4_7 v5_8 s_9  hf H locs ls hP hS hl
        unfold jn_X8_end_48 at hf
        refine lv_istore (lv' := [(6, .int s_9), (0, .ref (X.ad 61)), (1, .int x1), (2, .int x2), (3, .int x3), (4, .int v4_7), (5, .int v5_8)]) hx hb dX8_end_48 hl (by decide) rfl (fun ls hl => ?_)
        refine lv_aload_n hx hb dX8_end_50 rfl (lv_at hl 1 rfl) ?_
        refine lv_iload hx hb dX8_end_51 (lv_at hl 6 rfl) ?_
        obtain ⟨r_10, h_r_10, hf⟩ := b_d hf
        refine k_X8_at hZ hP hS hl.1 wd_3_175 ⟨Nat.le_of_ble_eq_true rfl, Nat.le_of_ble_eq_true rfl⟩ (Nat.le_of_ble_eq_true rfl) dX8_end_53 ⟨Nat.zero_le _, Nat.zero_le _⟩ h_r_10 (fun H locs hP hS => ?_)
        refine lv_iload_n hx hb dX8_end_56 rfl (lv_at hl 2 rfl) ?_
        refine lv_icmp_ne (tgt := 92) hx hb dX8_end_57 (by decide) (fun c_11 => ?_) (fun c_11 => ?_)
        · have hf := i_f c_11 hf
          exact jn92 v4_7 v5_8 s_9 hf H locs ls hP hS (lv_sub hl [1, 2, 3, 4, 5, 6, 0] rfl)
        · have hf := i_t c_11 hf
          refine lv_iload hx hb dX8_end_60 (lv_at hl 5 rfl) ?_
          refine lv_bipush (v := (-9 : Int32)) hx hb dX8_end_62 (by decide) ?_
          refine lv_icmp_eq (tgt := 88) hx hb dX8_end_64 (by decide) (fun c_22 => ?_) (fun c_22 => ?_)
          · have hf := i_t c_22 hf
            exact jn88 v4_7 v5_8 s_9 hf H locs ls hP hS (lv_sub hl [1, 2, 3, 4, 5, 6, 0] rfl)
          · have hf := i_f c_22 hf
            refine lv_iload_n hx hb dX8_end_67 rfl (lv_at hl 4 rfl) ?_
            refine lv_if_eq (tgt := 81) hx hb dX8_end_68 (by decide) (fun c_26 => ?_) (fun c_26 => ?_)
            · have hf := i_t c_26 hf
              refine lv_iload hx hb dX8_end_81 (lv_at hl 0 rfl) ?_
              refine lv_iload hx hb dX8_end_83 (lv_at hl 5 rfl) ?_
              refine lv_icmp_ge (tgt := 92) hx hb dX8_end_85 (by decide) (fun c_27 => ?_) (fun c_27 => ?_)
              · have hf := i_t c_27 hf
                exact jn92 v4_7 v5_8 s_9 hf H locs ls hP hS (lv_sub hl [1, 2, 3, 4, 5, 6, 0] rfl)
              · have hf := i_f c_27 hf
                exact jn88 v4_7 v5_8 s_9 hf H locs ls hP hS (lv_sub hl [1, 2, 3, 4, 5, 6, 0] rfl)
            · have hf := i_f c_26 hf
              refine lv_iload hx hb dX8_end_71 (lv_at hl 0 rfl) ?_
              refine lv_iload hx hb dX8_end_73 (lv_at hl 5 rfl) ?_
              refine lv_icmp_le (tgt := 92) hx hb dX8_end_75 (by decide) (fun c_28 => ?_) (fun c_28 => ?_)
              · have hf := i_t c_28 hf
                exact jn92 v4_7 v5_8 s_9 hf H locs ls hP hS (lv_sub hl [1, 2, 3, 4, 5, 6, 0] rfl)
              · have hf := i_f c_28 hf
                refine lv_goto (tgt := 88) hx hb dX8_end_78 (by decide) ?_
                exact jn88 v4_7 v5_8 s_9 hf H locs ls hP hS (lv_sub hl [1, 2, 3, 4, 5, 6, 0] rfl)
      refine lv_iload hx hb dX8_end_7 (lv_at hl 0 rfl) ?_
      refine lv_sipush (v := (216 : Int32)) hx hb dX8_end_9 (by decide) ?_
      refine lv_icmp_ge (tgt := 115) hx hb dX8_end_12 (by decide) (fun c_4 => ?_) (fun c_4 => ?_)
      · have hf := i_t c_4 hf
        exact hke7 _ (Option.some.inj hf).symm _ rfl H locs ls hP hS (lv_sub hl [1] rfl)
      · have hf := i_f c_4 hf
        refine lv_iload_n hx hb dX8_end_15 rfl (lv_at hl 4 rfl) ?_
        refine lv_if_ne (tgt := 27) hx hb dX8_end_16 (by decide) (fun c_5 => ?_) (fun c_5 => ?_)
        · have hf := i_f c_5 hf
          refine lv_iload_n hx hb dX8_end_27 rfl (lv_at hl 4 rfl) ?_
          refine lv_iconst (v := (1 : Int32)) hx hb dX8_end_28 (by decide) ?_
          refine lv_icmp_ne (tgt := 43) hx hb dX8_end_29 (by decide) (fun c_6 => ?_) (fun c_6 => ?_)
          · have hf := i_f c_6 hf
            refine lv_iload hx hb dX8_end_43 (lv_at hl 0 rfl) ?_
            refine lv_bipush (v := (36 : Int32)) hx hb dX8_end_45 (by decide) ?_
            refine lv_idiv hx hb dX8_end_47 (by decide) ?_
            exact jn48 v4_2 v5_1 (v5_1 / (36 : Int32)) hf H locs ls hP hS (lv_sub hl [2, 3, 4, 5, 1, 0] rfl)
          · have hf := i_t c_6 hf
            refine lv_iload hx hb dX8_end_32 (lv_at hl 0 rfl) ?_
            refine lv_bipush (v := (6 : Int32)) hx hb dX8_end_34 (by decide) ?_
            refine lv_idiv hx hb dX8_end_36 (by decide) ?_
            refine lv_bipush (v := (6 : Int32)) hx hb dX8_end_37 (by decide) ?_
            refine rw_irem hx hb dX8_end_39 (by decide) ?_
            refine lv_goto (tgt := 48) hx hb dX8_end_40 (by decide) ?_
            exact jn48 v4_2 v5_1 (rm (v5_1 / (6 : Int32)) (6 : Int32)) hf H locs ls hP hS (lv_sub hl [2, 3, 4, 5, 1, 0] rfl)
        · have hf := i_t c_5 hf
          refine lv_iload hx hb dX8_end_19 (lv_at hl 0 rfl) ?_
          refine lv_bipush (v := (6 : Int32)) hx hb dX8_end_21 (by decide) ?_
          refine rw_irem hx hb dX8_end_23 (by decide) ?_
          refine lv_goto (tgt := 48) hx hb dX8_end_24 (by decide) ?_
          exact jn48 v4_2 v5_1 (rm v5_1 (6 : Int32)) hf H locs ls hP hS (lv_sub hl [2, 3, 4, 5, 1, 0] rfl)
    · intro v4_3 e H locs ls hP hS hl
      subst o7
      have hf := u1_e hf
      refine lv_iload hx hb dX8_end_115 (lv_at hl 0 rfl) ?_
      have hf := Option.some.inj hf
      exact ret_i hx hb hr hlocks hP hS hf dX8_end_117
  exact key s.heap [] hP hS
theorem hd_X8_end : Hd yX8_end 3 := by decide +kernel
theorem k_X8_end {p : Program} {l : Launch} {e : Env} {R : Room} {s : State} {m : MethodId} {args : Array Value} {below : List Frame} {meth : Method} {c : Code} {H : Heap} {locs : List Loc} {cells slots : Nat} {Q : State → Prop} {cc : ByteArray} {nL pc index : Nat} {ls : Array Slot} {rest : List Value} {X : En} {M : Mem} {H0 : Heap} {own : String} {g : Nat} {x1 : Int32} {x2 : Int32} {x3 : Int32} {r : Int32} (hZ : Fx p c m s args X cc nL own) (hP : wd X M H) (hS : va_S X.A H0 H locs) (hsz : ls.size = nL) (hlk : Cond.methodLink own index yX8_end ∈ lw_u) (hR : 1 + 1 ≤ R.frames ∧ 8 + (8 + 11) + 21 ≤ R.locals) (hW : (rest.map fun v => v.category).sum ≤ 8) (hdg : decode cc pc = .ok (.invokevirtual index, 3)) (hcs : cells ≤ R.cells ∧ slots ≤ R.slots) (hf : fn_X8_end g x1 x2 x3 M = some r)
    (kk : ∀ (H1 : Heap) (locs1 : List Loc), wd X M H1 → va_S X.A H0 H1 locs1 → W p l e R s m args below meth c H1 locs1 cells slots Q (F0 m (pc + 3) ls (.int r :: rest))) : W p l e R s m args below meth c H locs cells slots Q (F0 m pc ls (.int x3 :: .int x2 :: .int x1 :: .ref (X.ad 61) :: rest)) :=
  cal_i (runV (As := [.int x1, .int x2, .int x3]) (rest := rest) hZ.1 hZ.2.1 hZ.2.2.1 hZ.2.2.2.1 hZ.2.2.2.2.1 hZ.2.2.2.2.2 hP (c_X8_end g x1 x2 x3 M r hf) wd_4_108 wd_4_107 wd_p_43 wd_1_9 hd_X8_end (by decide) rfl rfl rfl hlk hR hsz rfl hW hdg hcs) hS kk
/-! FrameRaiserModel.groundOf -/
def jn_X8_groundOf_25 (s_8 : Int32) (s_9 : Int32) (v3_7 : Int32) : Option ((Int32 × Int32) ⊕ (Int32)) :=
  bv (s_9 + s_8) fun v2_10 =>
  some (.inl (v2_10, v3_7 + (1 : Int32)))
def bd_X8_groundOf_4 (x1 : Int32) (M : Mem) : (Int32 × Int32) → Option ((Int32 × Int32) ⊕ (Int32)) :=
  u2 fun v2_2 v3_1 =>
  if (36 : Int32) ≤ v3_1 then
    (some (.inr v2_2))
  else
    ((fn_X8_at v3_1 M).bind fun r_5 =>
    if r_5 = x1 then
      (jn_X8_groundOf_25 (1 : Int32) v2_2 v3_1)
    else
      (jn_X8_groundOf_25 (0 : Int32) v2_2 v3_1))
def fn_X8_groundOf (g : Nat) (x1 : Int32) (M : Mem) : Option (Int32) :=
  (lpN g (bd_X8_groundOf_4 x1 M) ((0 : Int32), (0 : Int32))).bind (u1 fun v2_3 =>
    some v2_3)
theorem dX8_groundOf_0 : decode cX8_groundOf 0 = .ok (.iconst 0, 1) := by decide +kernel
theorem dX8_groundOf_1 : decode cX8_groundOf 1 = .ok (.istore_n 2, 1) := by decide +kernel
theorem dX8_groundOf_2 : decode cX8_groundOf 2 = .ok (.iconst 0, 1) := by decide +kernel
theorem dX8_groundOf_3 : decode cX8_groundOf 3 = .ok (.istore_n 3, 1) := by decide +kernel
theorem dX8_groundOf_4 : decode cX8_groundOf 4 = .ok (.iload_n 3, 1) := by decide +kernel
theorem dX8_groundOf_5 : decode cX8_groundOf 5 = .ok (.bipush 36, 2) := by decide +kernel
theorem dX8_groundOf_7 : decode cX8_groundOf 7 = .ok (.if_icmp .ge 26, 3) := by decide +kernel
theorem dX8_groundOf_10 : decode cX8_groundOf 10 = .ok (.iload_n 2, 1) := by decide +kernel
theorem dX8_groundOf_11 : decode cX8_groundOf 11 = .ok (.aload_n 0, 1) := by decide +kernel
theorem dX8_groundOf_12 : decode cX8_groundOf 12 = .ok (.iload_n 3, 1) := by decide +kernel
theorem dX8_groundOf_13 : decode cX8_groundOf 13 = .ok (.invokevirtual 61, 3) := by decide +kernel
theorem dX8_groundOf_16 : decode cX8_groundOf 16 = .ok (.iload_n 1, 1) := by decide +kernel
theorem dX8_groundOf_17 : decode cX8_groundOf 17 = .ok (.if_icmp .ne 7, 3) := by decide +kernel
theorem dX8_groundOf_20 : decode cX8_groundOf 20 = .ok (.iconst 1, 1) := by decide +kernel
theorem dX8_groundOf_21 : decode cX8_groundOf 21 = .ok (.goto 4, 3) := by decide +kernel
theorem dX8_groundOf_24 : decode cX8_groundOf 24 = .ok (.iconst 0, 1) := by decide +kernel
theorem dX8_groundOf_25 : decode cX8_groundOf 25 = .ok (.iadd, 1) := by decide +kernel
theorem dX8_groundOf_26 : decode cX8_groundOf 26 = .ok (.istore_n 2, 1) := by decide +kernel
theorem dX8_groundOf_27 : decode cX8_groundOf 27 = .ok (.iinc 3 1, 3) := by decide +kernel
theorem dX8_groundOf_30 : decode cX8_groundOf 30 = .ok (.goto (-26), 3) := by decide +kernel
theorem dX8_groundOf_33 : decode cX8_groundOf 33 = .ok (.iload_n 2, 1) := by decide +kernel
theorem dX8_groundOf_34 : decode cX8_groundOf 34 = .ok (.ireturn, 1) := by decide +kernel
set_option maxHeartbeats 4000000 in
set_option maxRecDepth 100000 in
theorem c_X8_groundOf {l : Launch} {X : En} (g : Nat) (x1 : Int32) (M : Mem) (r : Int32) (hf : fn_X8_groundOf g x1 M = some r) : Cn l X yX8_groundOf cX8_groundOf 4 (some .int) 1 21 [.ref (X.ad 61), .int x1] M (Qi X r M) := by
  refine Met.ofW (cc := cX8_groundOf) (maxL := 4) (ret := (some .int)) (by decide) rfl ?_
  intro p e s m args below meth c s₁ B hml hv
  obtain ⟨rfl, hP, hk⟩ := hv
  have hx := B.exec
  have hb := B.bytes
  have hr := B.returns
  have hlocks := B.notSynchronized
  have hts : ∀ w ∈ lw_u, w.before ([.ref (X.ad 61), .int x1] : List Value).toArray s = true := fun w hw => atoms_spec (ws := Cond.code yX8_groundOf cX8_groundOf 4 (some .int) :: lw_u) B.pre w (List.mem_cons_of_mem _ hw)
  have hown : s.vm.findClass RX8 = some m.cls := findClass_of_methodNamed B.named
  have hZ : Fx p c m s ([.ref (X.ad 61), .int x1] : List Value).toArray X cX8_groundOf 4 RX8 := ⟨hx, hb, hml, hts, hown, hk⟩
  have hS : va_S X.A s.heap s.heap [] := va_S.rf
  have hl := lv_entry ([.ref (X.ad 61), .int x1]) (n := 4) (Nat.le_of_ble_eq_true rfl)
  rw [lg_entry_eq]
  generalize (lg_sl ([.ref (X.ad 61), .int x1]) ++ List.replicate (4 - (lg_sl ([.ref (X.ad 61), .int x1])).length) Slot.unset).toArray = ls at hl ⊢
  have hl : lv_has ls 4 [(0, .ref (X.ad 61)), (1, .int x1)] := hl
  show WW p l e 1 21 s m [.ref (X.ad 61), .int x1] below meth c X (Qi X r M) s.heap [] 0 ls []
  have hP : wd X M s.heap := hP
  unfold fn_X8_groundOf at hf
  have key : ∀ (H : Heap) (locs : List Loc), wd X M H → va_S X.A s.heap H locs → WW p l e 1 21 s m [.ref (X.ad 61), .int x1] below meth c X (Qi X r M) H locs 0 ls [] := by
    intro H locs hP hS
    refine lv_iconst (v := (0 : Int32)) hx hb dX8_groundOf_0 (by decide) ?_
    refine lv_istore_n (lv' := [(2, .int (0 : Int32)), (0, .ref (X.ad 61)), (1, .int x1)]) hx hb dX8_groundOf_1 rfl hl (by decide) rfl (fun ls hl => ?_)
    refine lv_iconst (v := (0 : Int32)) hx hb dX8_groundOf_2 (by decide) ?_
    refine lv_istore_n (lv' := [(3, .int (0 : Int32)), (2, .int (0 : Int32)), (0, .ref (X.ad 61)), (1, .int x1)]) hx hb dX8_groundOf_3 rfl hl (by decide) rfl (fun ls hl => ?_)
    obtain ⟨o4, ho4, hf⟩ := b_d hf
    refine lp_rule (b := bd_X8_groundOf_4 x1 M) (P := fun w : Int32 × Int32 => ∀ (H : Heap) (locs : List Loc) (ls : Array Slot), wd X M H → va_S X.A s.heap H locs → lv_has ls 4 [(3, .int w.2), (2, .int w.1), (0, .ref (X.ad 61)), (1, .int x1)] → WW p l e 1 21 s m [.ref (X.ad 61), .int x1] below meth c X (Qi X r M) H locs 4 ls []) (K := fun o => ∀ (v2_3 : Int32), o = v2_3 → ∀ (H : Heap) (locs : List Loc) (ls : Array Slot), wd X M H → va_S X.A s.heap H locs → lv_has ls 4 [(2, .int v2_3)] → WW p l e 1 21 s m [.ref (X.ad 61), .int x1] below meth c X (Qi X r M) H locs 33 ls []) ?_ g ((0 : Int32), (0 : Int32)) o4 ho4 ?_ H locs ls hP hS (lv_sub hl [0, 1, 2, 3] rfl)
    · rintro ⟨v2_2, v3_1⟩ o hf hkc4 hke4 H locs ls hP hS hl
      have hf := u2_e hf
      have jn25 : ∀ (v3_7 : Int32) (s_8 : Int32) (s_9 : Int32), jn_X8_groundOf_25 s_8 s_9 v3_7 = some o → ∀ (H : Heap) (locs : List Loc) (ls : Array Slot), wd X M H → va_S X.A s.heap H locs → lv_has ls 4 [(0, .ref (X.ad 61)), (1, .int x1), (3, .int v3_7)] → WW p l e 1 21 s m [.ref (X.ad 61), .int x1] below meth c X (Qi X r M) H locs 25 ls [.int s_8, .int s_9] := by
        intro v3_7 s_8 s_9  hf H locs ls hP hS hl
        unfold jn_X8_groundOf_25 at hf
        refine lv_iadd hx hb dX8_groundOf_25 ?_
        refine lv_topi (fun v2_10 e_v2_10 => ?_)
        have hf := b_v hf e_v2_10
        refine lv_istore_n (lv' := [(2, .int v2_10), (0, .ref (X.ad 61)), (1, .int x1), (3, .int v3_7)]) hx hb dX8_groundOf_26 rfl hl (by decide) rfl (fun ls hl => ?_)
        refine lv_iinc (v := v3_7 + (1 : Int32)) (lv' := [(3, .int (v3_7 + (1 : Int32))), (2, .int v2_10), (0, .ref (X.ad 61)), (1, .int x1)]) hx hb dX8_groundOf_27 hl (k := 3) rfl rfl (by decide) rfl (fun ls hl => ?_)
        refine lv_goto (tgt := 4) hx hb dX8_groundOf_30 (by decide) ?_
        exact hkc4 _ (Option.some.inj hf).symm H locs ls hP hS (lv_sub hl [0, 1, 2, 3] rfl)
      refine lv_iload_n hx hb dX8_groundOf_4 rfl (lv_at hl 0 rfl) ?_
      refine lv_bipush (v := (36 : Int32)) hx hb dX8_groundOf_5 (by decide) ?_
      refine lv_icmp_ge (tgt := 33) hx hb dX8_groundOf_7 (by decide) (fun c_4 => ?_) (fun c_4 => ?_)
      · have hf := i_t c_4 hf
        exact hke4 _ (Option.some.inj hf).symm _ rfl H locs ls hP hS (lv_sub hl [1] rfl)
      · have hf := i_f c_4 hf
        refine lv_iload_n hx hb dX8_groundOf_10 rfl (lv_at hl 1 rfl) ?_
        refine lv_aload_n hx hb dX8_groundOf_11 rfl (lv_at hl 2 rfl) ?_
        refine lv_iload_n hx hb dX8_groundOf_12 rfl (lv_at hl 0 rfl) ?_
        obtain ⟨r_5, h_r_5, hf⟩ := b_d hf
        refine k_X8_at hZ hP hS hl.1 wd_3_175 ⟨Nat.le_of_ble_eq_true rfl, Nat.le_of_ble_eq_true rfl⟩ (Nat.le_of_ble_eq_true rfl) dX8_groundOf_13 ⟨Nat.zero_le _, Nat.zero_le _⟩ h_r_5 (fun H locs hP hS => ?_)
        refine lv_iload_n hx hb dX8_groundOf_16 rfl (lv_at hl 3 rfl) ?_
        refine lv_icmp_ne (tgt := 24) hx hb dX8_groundOf_17 (by decide) (fun c_6 => ?_) (fun c_6 => ?_)
        · have hf := i_f c_6 hf
          refine lv_iconst (v := (0 : Int32)) hx hb dX8_groundOf_24 (by decide) ?_
          exact jn25 v3_1 (0 : Int32) v2_2 hf H locs ls hP hS (lv_sub hl [2, 3, 0] rfl)
        · have hf := i_t c_6 hf
          refine lv_iconst (v := (1 : Int32)) hx hb dX8_groundOf_20 (by decide) ?_
          refine lv_goto (tgt := 25) hx hb dX8_groundOf_21 (by decide) ?_
          exact jn25 v3_1 (1 : Int32) v2_2 hf H locs ls hP hS (lv_sub hl [2, 3, 0] rfl)
    · intro v2_3 e H locs ls hP hS hl
      subst o4
      have hf := u1_e hf
      refine lv_iload_n hx hb dX8_groundOf_33 rfl (lv_at hl 0 rfl) ?_
      have hf := Option.some.inj hf
      exact ret_i hx hb hr hlocks hP hS hf dX8_groundOf_34
  exact key s.heap [] hP hS
theorem hd_X8_groundOf : Hd yX8_groundOf 1 := by decide +kernel
theorem k_X8_groundOf {p : Program} {l : Launch} {e : Env} {R : Room} {s : State} {m : MethodId} {args : Array Value} {below : List Frame} {meth : Method} {c : Code} {H : Heap} {locs : List Loc} {cells slots : Nat} {Q : State → Prop} {cc : ByteArray} {nL pc index : Nat} {ls : Array Slot} {rest : List Value} {X : En} {M : Mem} {H0 : Heap} {own : String} {g : Nat} {x1 : Int32} {r : Int32} (hZ : Fx p c m s args X cc nL own) (hP : wd X M H) (hS : va_S X.A H0 H locs) (hsz : ls.size = nL) (hlk : Cond.methodLink own index yX8_groundOf ∈ lw_u) (hR : 1 + 1 ≤ R.frames ∧ 8 + (4 + 11) + 21 ≤ R.locals) (hW : (rest.map fun v => v.category).sum ≤ 8) (hdg : decode cc pc = .ok (.invokevirtual index, 3)) (hcs : cells ≤ R.cells ∧ slots ≤ R.slots) (hf : fn_X8_groundOf g x1 M = some r)
    (kk : ∀ (H1 : Heap) (locs1 : List Loc), wd X M H1 → va_S X.A H0 H1 locs1 → W p l e R s m args below meth c H1 locs1 cells slots Q (F0 m (pc + 3) ls (.int r :: rest))) : W p l e R s m args below meth c H locs cells slots Q (F0 m pc ls (.int x1 :: .ref (X.ad 61) :: rest)) :=
  cal_i (runV (As := [.int x1]) (rest := rest) hZ.1 hZ.2.1 hZ.2.2.1 hZ.2.2.2.1 hZ.2.2.2.2.1 hZ.2.2.2.2.2 hP (c_X8_groundOf g x1 M r hf) wd_4_112 wd_4_111 wd_p_44 wd_1_9 hd_X8_groundOf (by decide) rfl rfl rfl hlk hR hsz rfl hW hdg hcs) hS kk
/-! FrameRaiserModel.piece -/
def jn_X8_piece_67 (g : Nat) (s_9 : Int32) (s_10 : Int32) (s_11 : Int32) (M : Mem) : Option (Int32) :=
  (fn_X8_end g s_11 s_10 s_9 M).bind fun r_12 =>
  some r_12
def fn_X8_piece (g : Nat) (x1 : Int32) (x2 : Int32) (M : Mem) : Option (Int32) :=
  if (fn_X8_isPiece x1 M) = 0 then
    (some (-1 : Int32))
  else
    (if (fn_X8_in x2 (0 : Int32) (9 : Int32)) = 0 then
      (some (-1 : Int32))
    else
      (if x2 = 0 then
        ((fn_X8_cellsOf g x1 M).bind fun r_14 =>
        some r_14)
      else
        (if x2 = (1 : Int32) then
          (if inb ((3 : Int32) + x1) 2270 then
          some (M 62 (ix ((3 : Int32) + x1)))
          else none)
        else
          (if (8 : Int32) ≤ x2 then
            (if x2 = (8 : Int32) then
              ((fn_X8_groundOf g x1 M).bind fun r_7 =>
              some r_7)
            else
              (some ((sr (M 62 (ix (1 : Int32))) x1) &&& (1 : Int32))))
          else
            (if x2 ≤ (4 : Int32) then
              (jn_X8_piece_67 g (0 : Int32) (rm (x2 - (2 : Int32)) (3 : Int32)) x1 M)
            else
              (jn_X8_piece_67 g (1 : Int32) (rm (x2 - (2 : Int32)) (3 : Int32)) x1 M))))))
theorem dX8_piece_0 : decode cX8_piece 0 = .ok (.aload_n 0, 1) := by decide +kernel
theorem dX8_piece_1 : decode cX8_piece 1 = .ok (.iload_n 1, 1) := by decide +kernel
theorem dX8_piece_2 : decode cX8_piece 2 = .ok (.invokevirtual 146, 3) := by decide +kernel
theorem dX8_piece_5 : decode cX8_piece 5 = .ok (.ifCond .eq 13, 3) := by decide +kernel
theorem dX8_piece_8 : decode cX8_piece 8 = .ok (.iload_n 2, 1) := by decide +kernel
theorem dX8_piece_9 : decode cX8_piece 9 = .ok (.iconst 0, 1) := by decide +kernel
theorem dX8_piece_10 : decode cX8_piece 10 = .ok (.bipush 9, 2) := by decide +kernel
theorem dX8_piece_12 : decode cX8_piece 12 = .ok (.invokestatic 49, 3) := by decide +kernel
theorem dX8_piece_15 : decode cX8_piece 15 = .ok (.ifCond .ne 5, 3) := by decide +kernel
theorem dX8_piece_18 : decode cX8_piece 18 = .ok (.iconst (-1), 1) := by decide +kernel
theorem dX8_piece_19 : decode cX8_piece 19 = .ok (.ireturn, 1) := by decide +kernel
theorem dX8_piece_20 : decode cX8_piece 20 = .ok (.iload_n 2, 1) := by decide +kernel
theorem dX8_piece_21 : decode cX8_piece 21 = .ok (.ifCond .ne 9, 3) := by decide +kernel
theorem dX8_piece_24 : decode cX8_piece 24 = .ok (.aload_n 0, 1) := by decide +kernel
theorem dX8_piece_25 : decode cX8_piece 25 = .ok (.iload_n 1, 1) := by decide +kernel
theorem dX8_piece_26 : decode cX8_piece 26 = .ok (.invokevirtual 150, 3) := by decide +kernel
theorem dX8_piece_29 : decode cX8_piece 29 = .ok (.ireturn, 1) := by decide +kernel
theorem dX8_piece_30 : decode cX8_piece 30 = .ok (.iload_n 2, 1) := by decide +kernel
theorem dX8_piece_31 : decode cX8_piece 31 = .ok (.iconst 1, 1) := by decide +kernel
theorem dX8_piece_32 : decode cX8_piece 32 = .ok (.if_icmp .ne 12, 3) := by decide +kernel
theorem dX8_piece_35 : decode cX8_piece 35 = .ok (.aload_n 0, 1) := by decide +kernel
theorem dX8_piece_36 : decode cX8_piece 36 = .ok (.getfield 7, 3) := by decide +kernel
theorem dX8_piece_39 : decode cX8_piece 39 = .ok (.iconst 3, 1) := by decide +kernel
theorem dX8_piece_40 : decode cX8_piece 40 = .ok (.iload_n 1, 1) := by decide +kernel
theorem dX8_piece_41 : decode cX8_piece 41 = .ok (.iadd, 1) := by decide +kernel
theorem dX8_piece_42 : decode cX8_piece 42 = .ok (.iaload, 1) := by decide +kernel
theorem dX8_piece_43 : decode cX8_piece 43 = .ok (.ireturn, 1) := by decide +kernel
theorem dX8_piece_44 : decode cX8_piece 44 = .ok (.iload_n 2, 1) := by decide +kernel
theorem dX8_piece_45 : decode cX8_piece 45 = .ok (.bipush 8, 2) := by decide +kernel
theorem dX8_piece_47 : decode cX8_piece 47 = .ok (.if_icmp .ge 24, 3) := by decide +kernel
theorem dX8_piece_50 : decode cX8_piece 50 = .ok (.aload_n 0, 1) := by decide +kernel
theorem dX8_piece_51 : decode cX8_piece 51 = .ok (.iload_n 1, 1) := by decide +kernel
theorem dX8_piece_52 : decode cX8_piece 52 = .ok (.iload_n 2, 1) := by decide +kernel
theorem dX8_piece_53 : decode cX8_piece 53 = .ok (.iconst 2, 1) := by decide +kernel
theorem dX8_piece_54 : decode cX8_piece 54 = .ok (.isub, 1) := by decide +kernel
theorem dX8_piece_55 : decode cX8_piece 55 = .ok (.iconst 3, 1) := by decide +kernel
theorem dX8_piece_56 : decode cX8_piece 56 = .ok (.irem, 1) := by decide +kernel
theorem dX8_piece_57 : decode cX8_piece 57 = .ok (.iload_n 2, 1) := by decide +kernel
theorem dX8_piece_58 : decode cX8_piece 58 = .ok (.iconst 4, 1) := by decide +kernel
theorem dX8_piece_59 : decode cX8_piece 59 = .ok (.if_icmp .le 7, 3) := by decide +kernel
theorem dX8_piece_62 : decode cX8_piece 62 = .ok (.iconst 1, 1) := by decide +kernel
theorem dX8_piece_63 : decode cX8_piece 63 = .ok (.goto 4, 3) := by decide +kernel
theorem dX8_piece_66 : decode cX8_piece 66 = .ok (.iconst 0, 1) := by decide +kernel
theorem dX8_piece_67 : decode cX8_piece 67 = .ok (.invokevirtual 162, 3) := by decide +kernel
theorem dX8_piece_70 : decode cX8_piece 70 = .ok (.ireturn, 1) := by decide +kernel
theorem dX8_piece_71 : decode cX8_piece 71 = .ok (.iload_n 2, 1) := by decide +kernel
theorem dX8_piece_72 : decode cX8_piece 72 = .ok (.bipush 8, 2) := by decide +kernel
theorem dX8_piece_74 : decode cX8_piece 74 = .ok (.if_icmp .ne 11, 3) := by decide +kernel
theorem dX8_piece_77 : decode cX8_piece 77 = .ok (.aload_n 0, 1) := by decide +kernel
theorem dX8_piece_78 : decode cX8_piece 78 = .ok (.iload_n 1, 1) := by decide +kernel
theorem dX8_piece_79 : decode cX8_piece 79 = .ok (.invokevirtual 166, 3) := by decide +kernel
theorem dX8_piece_82 : decode cX8_piece 82 = .ok (.goto 13, 3) := by decide +kernel
theorem dX8_piece_85 : decode cX8_piece 85 = .ok (.aload_n 0, 1) := by decide +kernel
theorem dX8_piece_86 : decode cX8_piece 86 = .ok (.getfield 7, 3) := by decide +kernel
theorem dX8_piece_89 : decode cX8_piece 89 = .ok (.iconst 1, 1) := by decide +kernel
theorem dX8_piece_90 : decode cX8_piece 90 = .ok (.iaload, 1) := by decide +kernel
theorem dX8_piece_91 : decode cX8_piece 91 = .ok (.iload_n 1, 1) := by decide +kernel
theorem dX8_piece_92 : decode cX8_piece 92 = .ok (.ishr, 1) := by decide +kernel
theorem dX8_piece_93 : decode cX8_piece 93 = .ok (.iconst 1, 1) := by decide +kernel
theorem dX8_piece_94 : decode cX8_piece 94 = .ok (.iand, 1) := by decide +kernel
theorem dX8_piece_95 : decode cX8_piece 95 = .ok (.ireturn, 1) := by decide +kernel
set_option maxHeartbeats 4000000 in
set_option maxRecDepth 100000 in
theorem c_X8_piece {l : Launch} {X : En} (g : Nat) (x1 : Int32) (x2 : Int32) (M : Mem) (r : Int32) (hf : fn_X8_piece g x1 x2 M = some r) : Cn l X yX8_piece cX8_piece 3 (some .int) 2 48 [.ref (X.ad 61), .int x1, .int x2] M (Qi X r M) := by
  refine Met.ofW (cc := cX8_piece) (maxL := 3) (ret := (some .int)) (by decide) rfl ?_
  intro p e s m args below meth c s₁ B hml hv
  obtain ⟨rfl, hP, hk⟩ := hv
  have hx := B.exec
  have hb := B.bytes
  have hr := B.returns
  have hlocks := B.notSynchronized
  have hts : ∀ w ∈ lw_u, w.before ([.ref (X.ad 61), .int x1, .int x2] : List Value).toArray s = true := fun w hw => atoms_spec (ws := Cond.code yX8_piece cX8_piece 3 (some .int) :: lw_u) B.pre w (List.mem_cons_of_mem _ hw)
  have hown : s.vm.findClass RX8 = some m.cls := findClass_of_methodNamed B.named
  have hZ : Fx p c m s ([.ref (X.ad 61), .int x1, .int x2] : List Value).toArray X cX8_piece 3 RX8 := ⟨hx, hb, hml, hts, hown, hk⟩
  have hS : va_S X.A s.heap s.heap [] := va_S.rf
  have hl := lv_entry ([.ref (X.ad 61), .int x1, .int x2]) (n := 3) (Nat.le_of_ble_eq_true rfl)
  rw [lg_entry_eq]
  generalize (lg_sl ([.ref (X.ad 61), .int x1, .int x2]) ++ List.replicate (3 - (lg_sl ([.ref (X.ad 61), .int x1, .int x2])).length) Slot.unset).toArray = ls at hl ⊢
  have hl : lv_has ls 3 [(0, .ref (X.ad 61)), (1, .int x1), (2, .int x2)] := hl
  show WW p l e 2 48 s m [.ref (X.ad 61), .int x1, .int x2] below meth c X (Qi X r M) s.heap [] 0 ls []
  have hP : wd X M s.heap := hP
  have jn67 : ∀ (s_9 : Int32) (s_10 : Int32) (s_11 : Int32), jn_X8_piece_67 g s_9 s_10 s_11 M = some r → ∀ (H : Heap) (locs : List Loc) (ls : Array Slot), wd X M H → va_S X.A s.heap H locs → lv_has ls 3 [] → WW p l e 2 48 s m [.ref (X.ad 61), .int x1, .int x2] below meth c X (Qi X r M) H locs 67 ls [.int s_9, .int s_10, .int s_11, .ref (X.ad 61)] := by
    intro s_9 s_10 s_11  hf H locs ls hP hS hl
    unfold jn_X8_piece_67 at hf
    obtain ⟨r_12, h_r_12, hf⟩ := b_d hf
    refine k_X8_end hZ hP hS hl.1 wd_4_105 ⟨Nat.le_of_ble_eq_true rfl, Nat.le_of_ble_eq_true rfl⟩ (Nat.le_of_ble_eq_true rfl) dX8_piece_67 ⟨Nat.zero_le _, Nat.zero_le _⟩ h_r_12 (fun H locs hP hS => ?_)
    have hf := Option.some.inj hf
    exact ret_i hx hb hr hlocks hP hS hf dX8_piece_70
  unfold fn_X8_piece at hf
  have key : ∀ (H : Heap) (locs : List Loc), wd X M H → va_S X.A s.heap H locs → WW p l e 2 48 s m [.ref (X.ad 61), .int x1, .int x2] below meth c X (Qi X r M) H locs 0 ls [] := by
    intro H locs hP hS
    refine lv_aload_n hx hb dX8_piece_0 rfl (lv_at hl 0 rfl) ?_
    refine lv_iload_n hx hb dX8_piece_1 rfl (lv_at hl 1 rfl) ?_
    refine k_X8_isPiece hZ hP hS hl.1 wd_4_70 ⟨Nat.le_of_ble_eq_true rfl, Nat.le_of_ble_eq_true rfl⟩ (Nat.le_of_ble_eq_true rfl) dX8_piece_2 ⟨Nat.zero_le _, Nat.zero_le _⟩ (fun H locs hP hS => ?_)
    refine lv_if_eq (tgt := 18) hx hb dX8_piece_5 (by decide) (fun c_1 => ?_) (fun c_1 => ?_)
    · have hf := i_t c_1 hf
      refine lv_iconst (v := (-1 : Int32)) hx hb dX8_piece_18 (by decide) ?_
      have hf := Option.some.inj hf
      exact ret_i hx hb hr hlocks hP hS hf dX8_piece_19
    · have hf := i_f c_1 hf
      refine lv_iload_n hx hb dX8_piece_8 rfl (lv_at hl 2 rfl) ?_
      refine lv_iconst (v := (0 : Int32)) hx hb dX8_piece_9 (by decide) ?_
      refine lv_bipush (v := (9 : Int32)) hx hb dX8_piece_10 (by decide) ?_
      refine k_X8_in hZ hP hS hl.1 wd_3_186 ⟨Nat.le_of_ble_eq_true rfl, Nat.le_of_ble_eq_true rfl⟩ (Nat.le_of_ble_eq_true rfl) dX8_piece_12 ⟨Nat.zero_le _, Nat.zero_le _⟩ (fun H locs hP hS => ?_)
      refine lv_if_ne (tgt := 20) hx hb dX8_piece_15 (by decide) (fun c_2 => ?_) (fun c_2 => ?_)
      · have hf := i_f c_2 hf
        refine lv_iload_n hx hb dX8_piece_20 rfl (lv_at hl 2 rfl) ?_
        refine lv_if_ne (tgt := 30) hx hb dX8_piece_21 (by decide) (fun c_3 => ?_) (fun c_3 => ?_)
        · have hf := i_f c_3 hf
          refine lv_iload_n hx hb dX8_piece_30 rfl (lv_at hl 2 rfl) ?_
          refine lv_iconst (v := (1 : Int32)) hx hb dX8_piece_31 (by decide) ?_
          refine lv_icmp_ne (tgt := 44) hx hb dX8_piece_32 (by decide) (fun c_4 => ?_) (fun c_4 => ?_)
          · have hf := i_f c_4 hf
            refine lv_iload_n hx hb dX8_piece_44 rfl (lv_at hl 2 rfl) ?_
            refine lv_bipush (v := (8 : Int32)) hx hb dX8_piece_45 (by decide) ?_
            refine lv_icmp_ge (tgt := 71) hx hb dX8_piece_47 (by decide) (fun c_5 => ?_) (fun c_5 => ?_)
            · have hf := i_t c_5 hf
              refine lv_iload_n hx hb dX8_piece_71 rfl (lv_at hl 2 rfl) ?_
              refine lv_bipush (v := (8 : Int32)) hx hb dX8_piece_72 (by decide) ?_
              refine lv_icmp_ne (tgt := 85) hx hb dX8_piece_74 (by decide) (fun c_6 => ?_) (fun c_6 => ?_)
              · have hf := i_f c_6 hf
                refine lv_aload_n hx hb dX8_piece_85 rfl (lv_at hl 0 rfl) ?_
                refine gX8_0 hx hb hts hown hk hP wd_3_192 dX8_piece_86 ?_
                refine lv_iconst (v := (1 : Int32)) hx hb dX8_piece_89 (by decide) ?_
                refine ald hx hb hk hP (by decide) rfl (show inb _ _ from by decide) dX8_piece_90 ?_
                refine lv_iload_n hx hb dX8_piece_91 rfl (lv_at hl 1 rfl) ?_
                refine rw_ishr hx hb dX8_piece_92 ?_
                refine lv_iconst (v := (1 : Int32)) hx hb dX8_piece_93 (by decide) ?_
                refine lv_iand hx hb dX8_piece_94 ?_
                have hf := Option.some.inj hf
                exact ret_i hx hb hr hlocks hP hS hf dX8_piece_95
              · have hf := i_t c_6 hf
                refine lv_aload_n hx hb dX8_piece_77 rfl (lv_at hl 0 rfl) ?_
                refine lv_iload_n hx hb dX8_piece_78 rfl (lv_at hl 1 rfl) ?_
                obtain ⟨r_7, h_r_7, hf⟩ := b_d hf
                refine k_X8_groundOf hZ hP hS hl.1 wd_4_109 ⟨Nat.le_of_ble_eq_true rfl, Nat.le_of_ble_eq_true rfl⟩ (Nat.le_of_ble_eq_true rfl) dX8_piece_79 ⟨Nat.zero_le _, Nat.zero_le _⟩ h_r_7 (fun H locs hP hS => ?_)
                refine lv_goto (tgt := 95) hx hb dX8_piece_82 (by decide) ?_
                have hf := Option.some.inj hf
                exact ret_i hx hb hr hlocks hP hS hf dX8_piece_95
            · have hf := i_f c_5 hf
              refine lv_aload_n hx hb dX8_piece_50 rfl (lv_at hl 0 rfl) ?_
              refine lv_iload_n hx hb dX8_piece_51 rfl (lv_at hl 1 rfl) ?_
              refine lv_iload_n hx hb dX8_piece_52 rfl (lv_at hl 2 rfl) ?_
              refine lv_iconst (v := (2 : Int32)) hx hb dX8_piece_53 (by decide) ?_
              refine lv_isub hx hb dX8_piece_54 ?_
              refine lv_iconst (v := (3 : Int32)) hx hb dX8_piece_55 (by decide) ?_
              refine rw_irem hx hb dX8_piece_56 (by decide) ?_
              refine lv_iload_n hx hb dX8_piece_57 rfl (lv_at hl 2 rfl) ?_
              refine lv_iconst (v := (4 : Int32)) hx hb dX8_piece_58 (by decide) ?_
              refine lv_icmp_le (tgt := 66) hx hb dX8_piece_59 (by decide) (fun c_8 => ?_) (fun c_8 => ?_)
              · have hf := i_t c_8 hf
                refine lv_iconst (v := (0 : Int32)) hx hb dX8_piece_66 (by decide) ?_
                exact jn67 (0 : Int32) (rm (x2 - (2 : Int32)) (3 : Int32)) x1 hf H locs ls hP hS (lv_sub hl [] rfl)
              · have hf := i_f c_8 hf
                refine lv_iconst (v := (1 : Int32)) hx hb dX8_piece_62 (by decide) ?_
                refine lv_goto (tgt := 67) hx hb dX8_piece_63 (by decide) ?_
                exact jn67 (1 : Int32) (rm (x2 - (2 : Int32)) (3 : Int32)) x1 hf H locs ls hP hS (lv_sub hl [] rfl)
          · have hf := i_t c_4 hf
            refine lv_aload_n hx hb dX8_piece_35 rfl (lv_at hl 0 rfl) ?_
            refine gX8_0 hx hb hts hown hk hP wd_3_192 dX8_piece_36 ?_
            refine lv_iconst (v := (3 : Int32)) hx hb dX8_piece_39 (by decide) ?_
            refine lv_iload_n hx hb dX8_piece_40 rfl (lv_at hl 1 rfl) ?_
            refine lv_iadd hx hb dX8_piece_41 ?_
            obtain ⟨q_13, hf⟩ := g_if hf
            refine ald hx hb hk hP (by decide) rfl q_13 dX8_piece_42 ?_
            have hf := Option.some.inj hf
            exact ret_i hx hb hr hlocks hP hS hf dX8_piece_43
        · have hf := i_t c_3 hf
          refine lv_aload_n hx hb dX8_piece_24 rfl (lv_at hl 0 rfl) ?_
          refine lv_iload_n hx hb dX8_piece_25 rfl (lv_at hl 1 rfl) ?_
          obtain ⟨r_14, h_r_14, hf⟩ := b_d hf
          refine k_X8_cellsOf hZ hP hS hl.1 wd_4_74 ⟨Nat.le_of_ble_eq_true rfl, Nat.le_of_ble_eq_true rfl⟩ (Nat.le_of_ble_eq_true rfl) dX8_piece_26 ⟨Nat.zero_le _, Nat.zero_le _⟩ h_r_14 (fun H locs hP hS => ?_)
          have hf := Option.some.inj hf
          exact ret_i hx hb hr hlocks hP hS hf dX8_piece_29
      · have hf := i_t c_2 hf
        refine lv_iconst (v := (-1 : Int32)) hx hb dX8_piece_18 (by decide) ?_
        have hf := Option.some.inj hf
        exact ret_i hx hb hr hlocks hP hS hf dX8_piece_19
  exact key s.heap [] hP hS
theorem hd_X8_piece : Hd yX8_piece 2 := by decide +kernel
theorem k_X8_piece {p : Program} {l : Launch} {e : Env} {R : Room} {s : State} {m : MethodId} {args : Array Value} {below : List Frame} {meth : Method} {c : Code} {H : Heap} {locs : List Loc} {cells slots : Nat} {Q : State → Prop} {cc : ByteArray} {nL pc index : Nat} {ls : Array Slot} {rest : List Value} {X : En} {M : Mem} {H0 : Heap} {own : String} {g : Nat} {x1 : Int32} {x2 : Int32} {r : Int32} (hZ : Fx p c m s args X cc nL own) (hP : wd X M H) (hS : va_S X.A H0 H locs) (hsz : ls.size = nL) (hlk : Cond.methodLink own index yX8_piece ∈ lw_u) (hR : 2 + 1 ≤ R.frames ∧ 8 + (3 + 11) + 48 ≤ R.locals) (hW : (rest.map fun v => v.category).sum ≤ 8) (hdg : decode cc pc = .ok (.invokevirtual index, 3)) (hcs : cells ≤ R.cells ∧ slots ≤ R.slots) (hf : fn_X8_piece g x1 x2 M = some r)
    (kk : ∀ (H1 : Heap) (locs1 : List Loc), wd X M H1 → va_S X.A H0 H1 locs1 → W p l e R s m args below meth c H1 locs1 cells slots Q (F0 m (pc + 3) ls (.int r :: rest))) : W p l e R s m args below meth c H locs cells slots Q (F0 m pc ls (.int x2 :: .int x1 :: .ref (X.ad 61) :: rest)) :=
  cal_i (runV (As := [.int x1, .int x2]) (rest := rest) hZ.1 hZ.2.1 hZ.2.2.1 hZ.2.2.2.1 hZ.2.2.2.2.1 hZ.2.2.2.2.2 hP (c_X8_piece g x1 x2 M r hf) wd_4_104 wd_4_102 wd_4_103 wd_1_9 hd_X8_piece (by decide) rfl rfl rfl hlk hR hsz rfl hW hdg hcs) hS kk
/-! FrameRaiserModel.blockers -/
def fn_X8_blockers (x1 : Int32) (x2 : Int32) (M : Mem) : Option (Int32) :=
  if (fn_X8_isPiece x1 M) = 0 then
    (some (-1 : Int32))
  else
    (if (fn_X8_isDirection x2) = 0 then
      (some (-1 : Int32))
    else
      (if inb (((8 : Int32) * x2) + x1) 48 then
      some (M 63 (ix (((8 : Int32) * x2) + x1)))
      else none))
theorem dX8_blockers_0 : decode cX8_blockers 0 = .ok (.aload_n 0, 1) := by decide +kernel
theorem dX8_blockers_1 : decode cX8_blockers 1 = .ok (.iload_n 1, 1) := by decide +kernel
theorem dX8_blockers_2 : decode cX8_blockers 2 = .ok (.invokevirtual 146, 3) := by decide +kernel
theorem dX8_blockers_5 : decode cX8_blockers 5 = .ok (.ifCond .eq 24, 3) := by decide +kernel
theorem dX8_blockers_8 : decode cX8_blockers 8 = .ok (.iload_n 2, 1) := by decide +kernel
theorem dX8_blockers_9 : decode cX8_blockers 9 = .ok (.invokestatic 153, 3) := by decide +kernel
theorem dX8_blockers_12 : decode cX8_blockers 12 = .ok (.ifCond .eq 17, 3) := by decide +kernel
theorem dX8_blockers_15 : decode cX8_blockers 15 = .ok (.aload_n 0, 1) := by decide +kernel
theorem dX8_blockers_16 : decode cX8_blockers 16 = .ok (.getfield 13, 3) := by decide +kernel
theorem dX8_blockers_19 : decode cX8_blockers 19 = .ok (.bipush 8, 2) := by decide +kernel
theorem dX8_blockers_21 : decode cX8_blockers 21 = .ok (.iload_n 2, 1) := by decide +kernel
theorem dX8_blockers_22 : decode cX8_blockers 22 = .ok (.imul, 1) := by decide +kernel
theorem dX8_blockers_23 : decode cX8_blockers 23 = .ok (.iload_n 1, 1) := by decide +kernel
theorem dX8_blockers_24 : decode cX8_blockers 24 = .ok (.iadd, 1) := by decide +kernel
theorem dX8_blockers_25 : decode cX8_blockers 25 = .ok (.iaload, 1) := by decide +kernel
theorem dX8_blockers_26 : decode cX8_blockers 26 = .ok (.goto 4, 3) := by decide +kernel
theorem dX8_blockers_29 : decode cX8_blockers 29 = .ok (.iconst (-1), 1) := by decide +kernel
theorem dX8_blockers_30 : decode cX8_blockers 30 = .ok (.ireturn, 1) := by decide +kernel
set_option maxHeartbeats 4000000 in
set_option maxRecDepth 100000 in
theorem c_X8_blockers {l : Launch} {X : En} (x1 : Int32) (x2 : Int32) (M : Mem) (r : Int32) (hf : fn_X8_blockers x1 x2 M = some r) : Cn l X yX8_blockers cX8_blockers 3 (some .int) 2 43 [.ref (X.ad 61), .int x1, .int x2] M (Qi X r M) := by
  refine Met.ofW (cc := cX8_blockers) (maxL := 3) (ret := (some .int)) (by decide) rfl ?_
  intro p e s m args below meth c s₁ B hml hv
  obtain ⟨rfl, hP, hk⟩ := hv
  have hx := B.exec
  have hb := B.bytes
  have hr := B.returns
  have hlocks := B.notSynchronized
  have hts : ∀ w ∈ lw_u, w.before ([.ref (X.ad 61), .int x1, .int x2] : List Value).toArray s = true := fun w hw => atoms_spec (ws := Cond.code yX8_blockers cX8_blockers 3 (some .int) :: lw_u) B.pre w (List.mem_cons_of_mem _ hw)
  have hown : s.vm.findClass RX8 = some m.cls := findClass_of_methodNamed B.named
  have hZ : Fx p c m s ([.ref (X.ad 61), .int x1, .int x2] : List Value).toArray X cX8_blockers 3 RX8 := ⟨hx, hb, hml, hts, hown, hk⟩
  have hS : va_S X.A s.heap s.heap [] := va_S.rf
  have hl := lv_entry ([.ref (X.ad 61), .int x1, .int x2]) (n := 3) (Nat.le_of_ble_eq_true rfl)
  rw [lg_entry_eq]
  generalize (lg_sl ([.ref (X.ad 61), .int x1, .int x2]) ++ List.replicate (3 - (lg_sl ([.ref (X.ad 61), .int x1, .int x2])).length) Slot.unset).toArray = ls at hl ⊢
  have hl : lv_has ls 3 [(0, .ref (X.ad 61)), (1, .int x1), (2, .int x2)] := hl
  show WW p l e 2 43 s m [.ref (X.ad 61), .int x1, .int x2] below meth c X (Qi X r M) s.heap [] 0 ls []
  have hP : wd X M s.heap := hP
  unfold fn_X8_blockers at hf
  have key : ∀ (H : Heap) (locs : List Loc), wd X M H → va_S X.A s.heap H locs → WW p l e 2 43 s m [.ref (X.ad 61), .int x1, .int x2] below meth c X (Qi X r M) H locs 0 ls [] := by
    intro H locs hP hS
    refine lv_aload_n hx hb dX8_blockers_0 rfl (lv_at hl 0 rfl) ?_
    refine lv_iload_n hx hb dX8_blockers_1 rfl (lv_at hl 1 rfl) ?_
    refine k_X8_isPiece hZ hP hS hl.1 wd_4_70 ⟨Nat.le_of_ble_eq_true rfl, Nat.le_of_ble_eq_true rfl⟩ (Nat.le_of_ble_eq_true rfl) dX8_blockers_2 ⟨Nat.zero_le _, Nat.zero_le _⟩ (fun H locs hP hS => ?_)
    refine lv_if_eq (tgt := 29) hx hb dX8_blockers_5 (by decide) (fun c_1 => ?_) (fun c_1 => ?_)
    · have hf := i_t c_1 hf
      refine lv_iconst (v := (-1 : Int32)) hx hb dX8_blockers_29 (by decide) ?_
      have hf := Option.some.inj hf
      exact ret_i hx hb hr hlocks hP hS hf dX8_blockers_30
    · have hf := i_f c_1 hf
      refine lv_iload_n hx hb dX8_blockers_8 rfl (lv_at hl 2 rfl) ?_
      refine k_X8_isDirection hZ hP hS hl.1 wd_4_90 ⟨Nat.le_of_ble_eq_true rfl, Nat.le_of_ble_eq_true rfl⟩ (Nat.le_of_ble_eq_true rfl) dX8_blockers_9 ⟨Nat.zero_le _, Nat.zero_le _⟩ (fun H locs hP hS => ?_)
      refine lv_if_eq (tgt := 29) hx hb dX8_blockers_12 (by decide) (fun c_2 => ?_) (fun c_2 => ?_)
      · have hf := i_t c_2 hf
        refine lv_iconst (v := (-1 : Int32)) hx hb dX8_blockers_29 (by decide) ?_
        have hf := Option.some.inj hf
        exact ret_i hx hb hr hlocks hP hS hf dX8_blockers_30
      · have hf := i_f c_2 hf
        refine lv_aload_n hx hb dX8_blockers_15 rfl (lv_at hl 0 rfl) ?_
        refine gX8_2 hx hb hts hown hk hP wd_3_194 dX8_blockers_16 ?_
        refine lv_bipush (v := (8 : Int32)) hx hb dX8_blockers_19 (by decide) ?_
        refine lv_iload_n hx hb dX8_blockers_21 rfl (lv_at hl 2 rfl) ?_
        refine lv_imul hx hb dX8_blockers_22 ?_
        refine lv_iload_n hx hb dX8_blockers_23 rfl (lv_at hl 1 rfl) ?_
        refine lv_iadd hx hb dX8_blockers_24 ?_
        obtain ⟨q_3, hf⟩ := g_if hf
        refine ald hx hb hk hP (by decide) rfl q_3 dX8_blockers_25 ?_
        refine lv_goto (tgt := 30) hx hb dX8_blockers_26 (by decide) ?_
        have hf := Option.some.inj hf
        exact ret_i hx hb hr hlocks hP hS hf dX8_blockers_30
  exact key s.heap [] hP hS
theorem hd_X8_blockers : Hd yX8_blockers 2 := by decide +kernel
theorem k_X8_blockers {p : Program} {l : Launch} {e : Env} {R : Room} {s : State} {m : MethodId} {args : Array Value} {below : List Frame} {meth : Method} {c : Code} {H : Heap} {locs : List Loc} {cells slots : Nat} {Q : State → Prop} {cc : ByteArray} {nL pc index : Nat} {ls : Array Slot} {rest : List Value} {X : En} {M : Mem} {H0 : Heap} {own : String} {x1 : Int32} {x2 : Int32} {r : Int32} (hZ : Fx p c m s args X cc nL own) (hP : wd X M H) (hS : va_S X.A H0 H locs) (hsz : ls.size = nL) (hlk : Cond.methodLink own index yX8_blockers ∈ lw_u) (hR : 2 + 1 ≤ R.frames ∧ 8 + (3 + 11) + 43 ≤ R.locals) (hW : (rest.map fun v => v.category).sum ≤ 8) (hdg : decode cc pc = .ok (.invokevirtual index, 3)) (hcs : cells ≤ R.cells ∧ slots ≤ R.slots) (hf : fn_X8_blockers x1 x2 M = some r)
    (kk : ∀ (H1 : Heap) (locs1 : List Loc), wd X M H1 → va_S X.A H0 H1 locs1 → W p l e R s m args below meth c H1 locs1 cells slots Q (F0 m (pc + 3) ls (.int r :: rest))) : W p l e R s m args below meth c H locs cells slots Q (F0 m pc ls (.int x2 :: .int x1 :: .ref (X.ad 61) :: rest)) :=
  cal_i (runV (As := [.int x1, .int x2]) (rest := rest) hZ.1 hZ.2.1 hZ.2.2.1 hZ.2.2.2.1 hZ.2.2.2.2.1 hZ.2.2.2.2.2 hP (c_X8_blockers x1 x2 M r hf) wd_4_116 wd_4_114 wd_4_115 wd_1_9 hd_X8_blockers (by decide) rfl rfl rfl hlk hR hsz rfl hW hdg hcs) hS kk
/-! FrameRaiserModel.ways -/
def fn_X8_ways (g : Nat) (x1 : Int32) (x2 : Int32) (M : Mem) : Option (Int32) :=
  if (fn_X8_isPiece x1 M) = 0 then
    (some (-1 : Int32))
  else
    (if (fn_X8_isSet x2 M) = 0 then
      (some (-1 : Int32))
    else
      ((fn_X8_waysOf g x1 x2 M).bind fun r_3 =>
      some r_3))
theorem dX8_ways_0 : decode cX8_ways 0 = .ok (.aload_n 0, 1) := by decide +kernel
theorem dX8_ways_1 : decode cX8_ways 1 = .ok (.iload_n 1, 1) := by decide +kernel
theorem dX8_ways_2 : decode cX8_ways 2 = .ok (.invokevirtual 146, 3) := by decide +kernel
theorem dX8_ways_5 : decode cX8_ways 5 = .ok (.ifCond .eq 20, 3) := by decide +kernel
theorem dX8_ways_8 : decode cX8_ways 8 = .ok (.aload_n 0, 1) := by decide +kernel
theorem dX8_ways_9 : decode cX8_ways 9 = .ok (.iload_n 2, 1) := by decide +kernel
theorem dX8_ways_10 : decode cX8_ways 10 = .ok (.invokevirtual 169, 3) := by decide +kernel
theorem dX8_ways_13 : decode cX8_ways 13 = .ok (.ifCond .eq 12, 3) := by decide +kernel
theorem dX8_ways_16 : decode cX8_ways 16 = .ok (.aload_n 0, 1) := by decide +kernel
theorem dX8_ways_17 : decode cX8_ways 17 = .ok (.iload_n 1, 1) := by decide +kernel
theorem dX8_ways_18 : decode cX8_ways 18 = .ok (.iload_n 2, 1) := by decide +kernel
theorem dX8_ways_19 : decode cX8_ways 19 = .ok (.invokevirtual 89, 3) := by decide +kernel
theorem dX8_ways_22 : decode cX8_ways 22 = .ok (.goto 4, 3) := by decide +kernel
theorem dX8_ways_25 : decode cX8_ways 25 = .ok (.iconst (-1), 1) := by decide +kernel
theorem dX8_ways_26 : decode cX8_ways 26 = .ok (.ireturn, 1) := by decide +kernel
set_option maxHeartbeats 4000000 in
set_option maxRecDepth 100000 in
theorem c_X8_ways {l : Launch} {X : En} (g : Nat) (x1 : Int32) (x2 : Int32) (M : Mem) (r : Int32) (hf : fn_X8_ways g x1 x2 M = some r) : Cn l X yX8_ways cX8_ways 3 (some .int) 2 47 [.ref (X.ad 61), .int x1, .int x2] M (Qi X r M) := by
  refine Met.ofW (cc := cX8_ways) (maxL := 3) (ret := (some .int)) (by decide) rfl ?_
  intro p e s m args below meth c s₁ B hml hv
  obtain ⟨rfl, hP, hk⟩ := hv
  have hx := B.exec
  have hb := B.bytes
  have hr := B.returns
  have hlocks := B.notSynchronized
  have hts : ∀ w ∈ lw_u, w.before ([.ref (X.ad 61), .int x1, .int x2] : List Value).toArray s = true := fun w hw => atoms_spec (ws := Cond.code yX8_ways cX8_ways 3 (some .int) :: lw_u) B.pre w (List.mem_cons_of_mem _ hw)
  have hown : s.vm.findClass RX8 = some m.cls := findClass_of_methodNamed B.named
  have hZ : Fx p c m s ([.ref (X.ad 61), .int x1, .int x2] : List Value).toArray X cX8_ways 3 RX8 := ⟨hx, hb, hml, hts, hown, hk⟩
  have hS : va_S X.A s.heap s.heap [] := va_S.rf
  have hl := lv_entry ([.ref (X.ad 61), .int x1, .int x2]) (n := 3) (Nat.le_of_ble_eq_true rfl)
  rw [lg_entry_eq]
  generalize (lg_sl ([.ref (X.ad 61), .int x1, .int x2]) ++ List.replicate (3 - (lg_sl ([.ref (X.ad 61), .int x1, .int x2])).length) Slot.unset).toArray = ls at hl ⊢
  have hl : lv_has ls 3 [(0, .ref (X.ad 61)), (1, .int x1), (2, .int x2)] := hl
  show WW p l e 2 47 s m [.ref (X.ad 61), .int x1, .int x2] below meth c X (Qi X r M) s.heap [] 0 ls []
  have hP : wd X M s.heap := hP
  unfold fn_X8_ways at hf
  have key : ∀ (H : Heap) (locs : List Loc), wd X M H → va_S X.A s.heap H locs → WW p l e 2 47 s m [.ref (X.ad 61), .int x1, .int x2] below meth c X (Qi X r M) H locs 0 ls [] := by
    intro H locs hP hS
    refine lv_aload_n hx hb dX8_ways_0 rfl (lv_at hl 0 rfl) ?_
    refine lv_iload_n hx hb dX8_ways_1 rfl (lv_at hl 1 rfl) ?_
    refine k_X8_isPiece hZ hP hS hl.1 wd_4_70 ⟨Nat.le_of_ble_eq_true rfl, Nat.le_of_ble_eq_true rfl⟩ (Nat.le_of_ble_eq_true rfl) dX8_ways_2 ⟨Nat.zero_le _, Nat.zero_le _⟩ (fun H locs hP hS => ?_)
    refine lv_if_eq (tgt := 25) hx hb dX8_ways_5 (by decide) (fun c_1 => ?_) (fun c_1 => ?_)
    · have hf := i_t c_1 hf
      refine lv_iconst (v := (-1 : Int32)) hx hb dX8_ways_25 (by decide) ?_
      have hf := Option.some.inj hf
      exact ret_i hx hb hr hlocks hP hS hf dX8_ways_26
    · have hf := i_f c_1 hf
      refine lv_aload_n hx hb dX8_ways_8 rfl (lv_at hl 0 rfl) ?_
      refine lv_iload_n hx hb dX8_ways_9 rfl (lv_at hl 2 rfl) ?_
      refine k_X8_isSet hZ hP hS hl.1 wd_4_121 ⟨Nat.le_of_ble_eq_true rfl, Nat.le_of_ble_eq_true rfl⟩ (Nat.le_of_ble_eq_true rfl) dX8_ways_10 ⟨Nat.zero_le _, Nat.zero_le _⟩ (fun H locs hP hS => ?_)
      refine lv_if_eq (tgt := 25) hx hb dX8_ways_13 (by decide) (fun c_2 => ?_) (fun c_2 => ?_)
      · have hf := i_t c_2 hf
        refine lv_iconst (v := (-1 : Int32)) hx hb dX8_ways_25 (by decide) ?_
        have hf := Option.some.inj hf
        exact ret_i hx hb hr hlocks hP hS hf dX8_ways_26
      · have hf := i_f c_2 hf
        refine lv_aload_n hx hb dX8_ways_16 rfl (lv_at hl 0 rfl) ?_
        refine lv_iload_n hx hb dX8_ways_17 rfl (lv_at hl 1 rfl) ?_
        refine lv_iload_n hx hb dX8_ways_18 rfl (lv_at hl 2 rfl) ?_
        obtain ⟨r_3, h_r_3, hf⟩ := b_d hf
        refine k_X8_waysOf hZ hP hS hl.1 wd_4_129 ⟨Nat.le_of_ble_eq_true rfl, Nat.le_of_ble_eq_true rfl⟩ (Nat.le_of_ble_eq_true rfl) dX8_ways_19 ⟨Nat.zero_le _, Nat.zero_le _⟩ h_r_3 (fun H locs hP hS => ?_)
        refine lv_goto (tgt := 26) hx hb dX8_ways_22 (by decide) ?_
        have hf := Option.some.inj hf
        exact ret_i hx hb hr hlocks hP hS hf dX8_ways_26
  exact key s.heap [] hP hS
theorem hd_X8_ways : Hd yX8_ways 2 := by decide +kernel
theorem k_X8_ways {p : Program} {l : Launch} {e : Env} {R : Room} {s : State} {m : MethodId} {args : Array Value} {below : List Frame} {meth : Method} {c : Code} {H : Heap} {locs : List Loc} {cells slots : Nat} {Q : State → Prop} {cc : ByteArray} {nL pc index : Nat} {ls : Array Slot} {rest : List Value} {X : En} {M : Mem} {H0 : Heap} {own : String} {g : Nat} {x1 : Int32} {x2 : Int32} {r : Int32} (hZ : Fx p c m s args X cc nL own) (hP : wd X M H) (hS : va_S X.A H0 H locs) (hsz : ls.size = nL) (hlk : Cond.methodLink own index yX8_ways ∈ lw_u) (hR : 2 + 1 ≤ R.frames ∧ 8 + (3 + 11) + 47 ≤ R.locals) (hW : (rest.map fun v => v.category).sum ≤ 8) (hdg : decode cc pc = .ok (.invokevirtual index, 3)) (hcs : cells ≤ R.cells ∧ slots ≤ R.slots) (hf : fn_X8_ways g x1 x2 M = some r)
    (kk : ∀ (H1 : Heap) (locs1 : List Loc), wd X M H1 → va_S X.A H0 H1 locs1 → W p l e R s m args below meth c H1 locs1 cells slots Q (F0 m (pc + 3) ls (.int r :: rest))) : W p l e R s m args below meth c H locs cells slots Q (F0 m pc ls (.int x2 :: .int x1 :: .ref (X.ad 61) :: rest)) :=
  cal_i (runV (As := [.int x1, .int x2]) (rest := rest) hZ.1 hZ.2.1 hZ.2.2.1 hZ.2.2.2.1 hZ.2.2.2.2.1 hZ.2.2.2.2.2 hP (c_X8_ways g x1 x2 M r hf) wd_4_120 wd_4_118 wd_4_119 wd_1_9 hd_X8_ways (by decide) rfl rfl rfl hlk hR hsz rfl hW hdg hcs) hS kk
/-! FrameRaiserModel.contact -/
def fn_X8_contact (g : Nat) (x1 : Int32) (x2 : Int32) (M : Mem) : Option (Int32) :=
  if (fn_X8_isPiece x1 M) = 0 then
    (some (-1 : Int32))
  else
    (if (fn_X8_isPiece x2 M) = 0 then
      (some (-1 : Int32))
    else
      (if x1 = x2 then
        (some (-1 : Int32))
      else
        ((fn_X8_contactOf g x1 x2 M).bind fun r_4 =>
        some r_4)))
theorem dX8_contact_0 : decode cX8_contact 0 = .ok (.aload_n 0, 1) := by decide +kernel
theorem dX8_contact_1 : decode cX8_contact 1 = .ok (.iload_n 1, 1) := by decide +kernel
theorem dX8_contact_2 : decode cX8_contact 2 = .ok (.invokevirtual 146, 3) := by decide +kernel
theorem dX8_contact_5 : decode cX8_contact 5 = .ok (.ifCond .eq 25, 3) := by decide +kernel
theorem dX8_contact_8 : decode cX8_contact 8 = .ok (.aload_n 0, 1) := by decide +kernel
theorem dX8_contact_9 : decode cX8_contact 9 = .ok (.iload_n 2, 1) := by decide +kernel
theorem dX8_contact_10 : decode cX8_contact 10 = .ok (.invokevirtual 146, 3) := by decide +kernel
theorem dX8_contact_13 : decode cX8_contact 13 = .ok (.ifCond .eq 17, 3) := by decide +kernel
theorem dX8_contact_16 : decode cX8_contact 16 = .ok (.iload_n 1, 1) := by decide +kernel
theorem dX8_contact_17 : decode cX8_contact 17 = .ok (.iload_n 2, 1) := by decide +kernel
theorem dX8_contact_18 : decode cX8_contact 18 = .ok (.if_icmp .eq 12, 3) := by decide +kernel
theorem dX8_contact_21 : decode cX8_contact 21 = .ok (.aload_n 0, 1) := by decide +kernel
theorem dX8_contact_22 : decode cX8_contact 22 = .ok (.iload_n 1, 1) := by decide +kernel
theorem dX8_contact_23 : decode cX8_contact 23 = .ok (.iload_n 2, 1) := by decide +kernel
theorem dX8_contact_24 : decode cX8_contact 24 = .ok (.invokevirtual 80, 3) := by decide +kernel
theorem dX8_contact_27 : decode cX8_contact 27 = .ok (.goto 4, 3) := by decide +kernel
theorem dX8_contact_30 : decode cX8_contact 30 = .ok (.iconst (-1), 1) := by decide +kernel
theorem dX8_contact_31 : decode cX8_contact 31 = .ok (.ireturn, 1) := by decide +kernel
set_option maxHeartbeats 4000000 in
set_option maxRecDepth 100000 in
theorem c_X8_contact {l : Launch} {X : En} (g : Nat) (x1 : Int32) (x2 : Int32) (M : Mem) (r : Int32) (hf : fn_X8_contact g x1 x2 M = some r) : Cn l X yX8_contact cX8_contact 3 (some .int) 3 72 [.ref (X.ad 61), .int x1, .int x2] M (Qi X r M) := by
  refine Met.ofW (cc := cX8_contact) (maxL := 3) (ret := (some .int)) (by decide) rfl ?_
  intro p e s m args below meth c s₁ B hml hv
  obtain ⟨rfl, hP, hk⟩ := hv
  have hx := B.exec
  have hb := B.bytes
  have hr := B.returns
  have hlocks := B.notSynchronized
  have hts : ∀ w ∈ lw_u, w.before ([.ref (X.ad 61), .int x1, .int x2] : List Value).toArray s = true := fun w hw => atoms_spec (ws := Cond.code yX8_contact cX8_contact 3 (some .int) :: lw_u) B.pre w (List.mem_cons_of_mem _ hw)
  have hown : s.vm.findClass RX8 = some m.cls := findClass_of_methodNamed B.named
  have hZ : Fx p c m s ([.ref (X.ad 61), .int x1, .int x2] : List Value).toArray X cX8_contact 3 RX8 := ⟨hx, hb, hml, hts, hown, hk⟩
  have hS : va_S X.A s.heap s.heap [] := va_S.rf
  have hl := lv_entry ([.ref (X.ad 61), .int x1, .int x2]) (n := 3) (Nat.le_of_ble_eq_true rfl)
  rw [lg_entry_eq]
  generalize (lg_sl ([.ref (X.ad 61), .int x1, .int x2]) ++ List.replicate (3 - (lg_sl ([.ref (X.ad 61), .int x1, .int x2])).length) Slot.unset).toArray = ls at hl ⊢
  have hl : lv_has ls 3 [(0, .ref (X.ad 61)), (1, .int x1), (2, .int x2)] := hl
  show WW p l e 3 72 s m [.ref (X.ad 61), .int x1, .int x2] below meth c X (Qi X r M) s.heap [] 0 ls []
  have hP : wd X M s.heap := hP
  unfold fn_X8_contact at hf
  have key : ∀ (H : Heap) (locs : List Loc), wd X M H → va_S X.A s.heap H locs → WW p l e 3 72 s m [.ref (X.ad 61), .int x1, .int x2] below meth c X (Qi X r M) H locs 0 ls [] := by
    intro H locs hP hS
    refine lv_aload_n hx hb dX8_contact_0 rfl (lv_at hl 0 rfl) ?_
    refine lv_iload_n hx hb dX8_contact_1 rfl (lv_at hl 1 rfl) ?_
    refine k_X8_isPiece hZ hP hS hl.1 wd_4_70 ⟨Nat.le_of_ble_eq_true rfl, Nat.le_of_ble_eq_true rfl⟩ (Nat.le_of_ble_eq_true rfl) dX8_contact_2 ⟨Nat.zero_le _, Nat.zero_le _⟩ (fun H locs hP hS => ?_)
    refine lv_if_eq (tgt := 30) hx hb dX8_contact_5 (by decide) (fun c_1 => ?_) (fun c_1 => ?_)
    · have hf := i_t c_1 hf
      refine lv_iconst (v := (-1 : Int32)) hx hb dX8_contact_30 (by decide) ?_
      have hf := Option.some.inj hf
      exact ret_i hx hb hr hlocks hP hS hf dX8_contact_31
    · have hf := i_f c_1 hf
      refine lv_aload_n hx hb dX8_contact_8 rfl (lv_at hl 0 rfl) ?_
      refine lv_iload_n hx hb dX8_contact_9 rfl (lv_at hl 2 rfl) ?_
      refine k_X8_isPiece hZ hP hS hl.1 wd_4_70 ⟨Nat.le_of_ble_eq_true rfl, Nat.le_of_ble_eq_true rfl⟩ (Nat.le_of_ble_eq_true rfl) dX8_contact_10 ⟨Nat.zero_le _, Nat.zero_le _⟩ (fun H locs hP hS => ?_)
      refine lv_if_eq (tgt := 30) hx hb dX8_contact_13 (by decide) (fun c_2 => ?_) (fun c_2 => ?_)
      · have hf := i_t c_2 hf
        refine lv_iconst (v := (-1 : Int32)) hx hb dX8_contact_30 (by decide) ?_
        have hf := Option.some.inj hf
        exact ret_i hx hb hr hlocks hP hS hf dX8_contact_31
      · have hf := i_f c_2 hf
        refine lv_iload_n hx hb dX8_contact_16 rfl (lv_at hl 1 rfl) ?_
        refine lv_iload_n hx hb dX8_contact_17 rfl (lv_at hl 2 rfl) ?_
        refine lv_icmp_eq (tgt := 30) hx hb dX8_contact_18 (by decide) (fun c_3 => ?_) (fun c_3 => ?_)
        · have hf := i_t c_3 hf
          refine lv_iconst (v := (-1 : Int32)) hx hb dX8_contact_30 (by decide) ?_
          have hf := Option.some.inj hf
          exact ret_i hx hb hr hlocks hP hS hf dX8_contact_31
        · have hf := i_f c_3 hf
          refine lv_aload_n hx hb dX8_contact_21 rfl (lv_at hl 0 rfl) ?_
          refine lv_iload_n hx hb dX8_contact_22 rfl (lv_at hl 1 rfl) ?_
          refine lv_iload_n hx hb dX8_contact_23 rfl (lv_at hl 2 rfl) ?_
          obtain ⟨r_4, h_r_4, hf⟩ := b_d hf
          refine k_X8_contactOf hZ hP hS hl.1 wd_4_141 ⟨Nat.le_of_ble_eq_true rfl, Nat.le_of_ble_eq_true rfl⟩ (Nat.le_of_ble_eq_true rfl) dX8_contact_24 ⟨Nat.zero_le _, Nat.zero_le _⟩ h_r_4 (fun H locs hP hS => ?_)
          refine lv_goto (tgt := 31) hx hb dX8_contact_27 (by decide) ?_
          have hf := Option.some.inj hf
          exact ret_i hx hb hr hlocks hP hS hf dX8_contact_31
  exact key s.heap [] hP hS
theorem hd_X8_contact : Hd yX8_contact 2 := by decide +kernel
theorem k_X8_contact {p : Program} {l : Launch} {e : Env} {R : Room} {s : State} {m : MethodId} {args : Array Value} {below : List Frame} {meth : Method} {c : Code} {H : Heap} {locs : List Loc} {cells slots : Nat} {Q : State → Prop} {cc : ByteArray} {nL pc index : Nat} {ls : Array Slot} {rest : List Value} {X : En} {M : Mem} {H0 : Heap} {own : String} {g : Nat} {x1 : Int32} {x2 : Int32} {r : Int32} (hZ : Fx p c m s args X cc nL own) (hP : wd X M H) (hS : va_S X.A H0 H locs) (hsz : ls.size = nL) (hlk : Cond.methodLink own index yX8_contact ∈ lw_u) (hR : 3 + 1 ≤ R.frames ∧ 8 + (3 + 11) + 72 ≤ R.locals) (hW : (rest.map fun v => v.category).sum ≤ 8) (hdg : decode cc pc = .ok (.invokevirtual index, 3)) (hcs : cells ≤ R.cells ∧ slots ≤ R.slots) (hf : fn_X8_contact g x1 x2 M = some r)
    (kk : ∀ (H1 : Heap) (locs1 : List Loc), wd X M H1 → va_S X.A H0 H1 locs1 → W p l e R s m args below meth c H1 locs1 cells slots Q (F0 m (pc + 3) ls (.int r :: rest))) : W p l e R s m args below meth c H locs cells slots Q (F0 m pc ls (.int x2 :: .int x1 :: .ref (X.ad 61) :: rest)) :=
  cal_i (runV (As := [.int x1, .int x2]) (rest := rest) hZ.1 hZ.2.1 hZ.2.2.1 hZ.2.2.2.1 hZ.2.2.2.2.1 hZ.2.2.2.2.2 hP (c_X8_contact g x1 x2 M r hf) wd_4_140 wd_4_138 wd_4_139 wd_1_9 hd_X8_contact (by decide) rfl rfl rfl hlk hR hsz rfl hW hdg hcs) hS kk
/-! FrameRaiserModel.hangsTogether -/
def fn_X8_hangsTogether (g : Nat) (x1 : Int32) (M : Mem) : Option (Int32) :=
  if (fn_X8_isSet x1 M) = 0 then
    (some (-1 : Int32))
  else
    ((fn_X8_hangs g x1 M).bind fun r_2 =>
    if r_2 = 0 then
      (some (0 : Int32))
    else
      (some (1 : Int32)))
theorem dX8_hangsTogether_0 : decode cX8_hangsTogether 0 = .ok (.aload_n 0, 1) := by decide +kernel
theorem dX8_hangsTogether_1 : decode cX8_hangsTogether 1 = .ok (.iload_n 1, 1) := by decide +kernel
theorem dX8_hangsTogether_2 : decode cX8_hangsTogether 2 = .ok (.invokevirtual 169, 3) := by decide +kernel
theorem dX8_hangsTogether_5 : decode cX8_hangsTogether 5 = .ok (.ifCond .ne 7, 3) := by decide +kernel
theorem dX8_hangsTogether_8 : decode cX8_hangsTogether 8 = .ok (.iconst (-1), 1) := by decide +kernel
theorem dX8_hangsTogether_9 : decode cX8_hangsTogether 9 = .ok (.goto 16, 3) := by decide +kernel
theorem dX8_hangsTogether_12 : decode cX8_hangsTogether 12 = .ok (.aload_n 0, 1) := by decide +kernel
theorem dX8_hangsTogether_13 : decode cX8_hangsTogether 13 = .ok (.iload_n 1, 1) := by decide +kernel
theorem dX8_hangsTogether_14 : decode cX8_hangsTogether 14 = .ok (.invokevirtual 172, 3) := by decide +kernel
theorem dX8_hangsTogether_17 : decode cX8_hangsTogether 17 = .ok (.ifCond .eq 7, 3) := by decide +kernel
theorem dX8_hangsTogether_20 : decode cX8_hangsTogether 20 = .ok (.iconst 1, 1) := by decide +kernel
theorem dX8_hangsTogether_21 : decode cX8_hangsTogether 21 = .ok (.goto 4, 3) := by decide +kernel
theorem dX8_hangsTogether_24 : decode cX8_hangsTogether 24 = .ok (.iconst 0, 1) := by decide +kernel
theorem dX8_hangsTogether_25 : decode cX8_hangsTogether 25 = .ok (.ireturn, 1) := by decide +kernel
set_option maxHeartbeats 4000000 in
set_option maxRecDepth 100000 in
theorem c_X8_hangsTogether {l : Launch} {X : En} (g : Nat) (x1 : Int32) (M : Mem) (r : Int32) (hf : fn_X8_hangsTogether g x1 M = some r) : Cn l X yX8_hangsTogether cX8_hangsTogether 2 (some .int) 4 97 [.ref (X.ad 61), .int x1] M (Qi X r M) := by
  refine Met.ofW (cc := cX8_hangsTogether) (maxL := 2) (ret := (some .int)) (by decide) rfl ?_
  intro p e s m args below meth c s₁ B hml hv
  obtain ⟨rfl, hP, hk⟩ := hv
  have hx := B.exec
  have hb := B.bytes
  have hr := B.returns
  have hlocks := B.notSynchronized
  have hts : ∀ w ∈ lw_u, w.before ([.ref (X.ad 61), .int x1] : List Value).toArray s = true := fun w hw => atoms_spec (ws := Cond.code yX8_hangsTogether cX8_hangsTogether 2 (some .int) :: lw_u) B.pre w (List.mem_cons_of_mem _ hw)
  have hown : s.vm.findClass RX8 = some m.cls := findClass_of_methodNamed B.named
  have hZ : Fx p c m s ([.ref (X.ad 61), .int x1] : List Value).toArray X cX8_hangsTogether 2 RX8 := ⟨hx, hb, hml, hts, hown, hk⟩
  have hS : va_S X.A s.heap s.heap [] := va_S.rf
  have hl := lv_entry ([.ref (X.ad 61), .int x1]) (n := 2) (Nat.le_of_ble_eq_true rfl)
  rw [lg_entry_eq]
  generalize (lg_sl ([.ref (X.ad 61), .int x1]) ++ List.replicate (2 - (lg_sl ([.ref (X.ad 61), .int x1])).length) Slot.unset).toArray = ls at hl ⊢
  have hl : lv_has ls 2 [(0, .ref (X.ad 61)), (1, .int x1)] := hl
  show WW p l e 4 97 s m [.ref (X.ad 61), .int x1] below meth c X (Qi X r M) s.heap [] 0 ls []
  have hP : wd X M s.heap := hP
  unfold fn_X8_hangsTogether at hf
  have key : ∀ (H : Heap) (locs : List Loc), wd X M H → va_S X.A s.heap H locs → WW p l e 4 97 s m [.ref (X.ad 61), .int x1] below meth c X (Qi X r M) H locs 0 ls [] := by
    intro H locs hP hS
    refine lv_aload_n hx hb dX8_hangsTogether_0 rfl (lv_at hl 0 rfl) ?_
    refine lv_iload_n hx hb dX8_hangsTogether_1 rfl (lv_at hl 1 rfl) ?_
    refine k_X8_isSet hZ hP hS hl.1 wd_4_121 ⟨Nat.le_of_ble_eq_true rfl, Nat.le_of_ble_eq_true rfl⟩ (Nat.le_of_ble_eq_true rfl) dX8_hangsTogether_2 ⟨Nat.zero_le _, Nat.zero_le _⟩ (fun H locs hP hS => ?_)
    refine lv_if_ne (tgt := 12) hx hb dX8_hangsTogether_5 (by decide) (fun c_1 => ?_) (fun c_1 => ?_)
    · have hf := i_f c_1 hf
      refine lv_aload_n hx hb dX8_hangsTogether_12 rfl (lv_at hl 0 rfl) ?_
      refine lv_iload_n hx hb dX8_hangsTogether_13 rfl (lv_at hl 1 rfl) ?_
      obtain ⟨r_2, h_r_2, hf⟩ := b_d hf
      refine k_X8_hangs hZ hP hS hl.1 wd_4_149 ⟨Nat.le_of_ble_eq_true rfl, Nat.le_of_ble_eq_true rfl⟩ (Nat.le_of_ble_eq_true rfl) dX8_hangsTogether_14 ⟨Nat.zero_le _, Nat.zero_le _⟩ h_r_2 (fun H locs hP hS => ?_)
      refine lv_if_eq (tgt := 24) hx hb dX8_hangsTogether_17 (by decide) (fun c_3 => ?_) (fun c_3 => ?_)
      · have hf := i_t c_3 hf
        refine lv_iconst (v := (0 : Int32)) hx hb dX8_hangsTogether_24 (by decide) ?_
        have hf := Option.some.inj hf
        exact ret_i hx hb hr hlocks hP hS hf dX8_hangsTogether_25
      · have hf := i_f c_3 hf
        refine lv_iconst (v := (1 : Int32)) hx hb dX8_hangsTogether_20 (by decide) ?_
        refine lv_goto (tgt := 25) hx hb dX8_hangsTogether_21 (by decide) ?_
        have hf := Option.some.inj hf
        exact ret_i hx hb hr hlocks hP hS hf dX8_hangsTogether_25
    · have hf := i_t c_1 hf
      refine lv_iconst (v := (-1 : Int32)) hx hb dX8_hangsTogether_8 (by decide) ?_
      refine lv_goto (tgt := 25) hx hb dX8_hangsTogether_9 (by decide) ?_
      have hf := Option.some.inj hf
      exact ret_i hx hb hr hlocks hP hS hf dX8_hangsTogether_25
  exact key s.heap [] hP hS
theorem hd_X8_hangsTogether : Hd yX8_hangsTogether 1 := by decide +kernel
theorem k_X8_hangsTogether {p : Program} {l : Launch} {e : Env} {R : Room} {s : State} {m : MethodId} {args : Array Value} {below : List Frame} {meth : Method} {c : Code} {H : Heap} {locs : List Loc} {cells slots : Nat} {Q : State → Prop} {cc : ByteArray} {nL pc index : Nat} {ls : Array Slot} {rest : List Value} {X : En} {M : Mem} {H0 : Heap} {own : String} {g : Nat} {x1 : Int32} {r : Int32} (hZ : Fx p c m s args X cc nL own) (hP : wd X M H) (hS : va_S X.A H0 H locs) (hsz : ls.size = nL) (hlk : Cond.methodLink own index yX8_hangsTogether ∈ lw_u) (hR : 4 + 1 ≤ R.frames ∧ 8 + (2 + 11) + 97 ≤ R.locals) (hW : (rest.map fun v => v.category).sum ≤ 8) (hdg : decode cc pc = .ok (.invokevirtual index, 3)) (hcs : cells ≤ R.cells ∧ slots ≤ R.slots) (hf : fn_X8_hangsTogether g x1 M = some r)
    (kk : ∀ (H1 : Heap) (locs1 : List Loc), wd X M H1 → va_S X.A H0 H1 locs1 → W p l e R s m args below meth c H1 locs1 cells slots Q (F0 m (pc + 3) ls (.int r :: rest))) : W p l e R s m args below meth c H locs cells slots Q (F0 m pc ls (.int x1 :: .ref (X.ad 61) :: rest)) :=
  cal_i (runV (As := [.int x1]) (rest := rest) hZ.1 hZ.2.1 hZ.2.2.1 hZ.2.2.2.1 hZ.2.2.2.2.1 hZ.2.2.2.2.2 hP (c_X8_hangsTogether g x1 M r hf) wd_4_148 wd_4_146 wd_4_147 wd_1_9 hd_X8_hangsTogether (by decide) rfl rfl rfl hlk hR hsz rfl hW hdg hcs) hS kk
/-! FrameRaiserModel.props -/
def fn_X8_props (g : Nat) (x1 : Int32) (M : Mem) : Option (Int32) :=
  if (fn_X8_isSet x1 M) = 0 then
    (some (-1 : Int32))
  else
    ((fn_X8_propsOf g x1 M).bind fun r_2 =>
    some r_2)
theorem dX8_props_0 : decode cX8_props 0 = .ok (.aload_n 0, 1) := by decide +kernel
theorem dX8_props_1 : decode cX8_props 1 = .ok (.iload_n 1, 1) := by decide +kernel
theorem dX8_props_2 : decode cX8_props 2 = .ok (.invokevirtual 169, 3) := by decide +kernel
theorem dX8_props_5 : decode cX8_props 5 = .ok (.ifCond .eq 11, 3) := by decide +kernel
theorem dX8_props_8 : decode cX8_props 8 = .ok (.aload_n 0, 1) := by decide +kernel
theorem dX8_props_9 : decode cX8_props 9 = .ok (.iload_n 1, 1) := by decide +kernel
theorem dX8_props_10 : decode cX8_props 10 = .ok (.invokevirtual 92, 3) := by decide +kernel
theorem dX8_props_13 : decode cX8_props 13 = .ok (.goto 4, 3) := by decide +kernel
theorem dX8_props_16 : decode cX8_props 16 = .ok (.iconst (-1), 1) := by decide +kernel
theorem dX8_props_17 : decode cX8_props 17 = .ok (.ireturn, 1) := by decide +kernel
set_option maxHeartbeats 4000000 in
set_option maxRecDepth 100000 in
theorem c_X8_props {l : Launch} {X : En} (g : Nat) (x1 : Int32) (M : Mem) (r : Int32) (hf : fn_X8_props g x1 M = some r) : Cn l X yX8_props cX8_props 2 (some .int) 2 44 [.ref (X.ad 61), .int x1] M (Qi X r M) := by
  refine Met.ofW (cc := cX8_props) (maxL := 2) (ret := (some .int)) (by decide) rfl ?_
  intro p e s m args below meth c s₁ B hml hv
  obtain ⟨rfl, hP, hk⟩ := hv
  have hx := B.exec
  have hb := B.bytes
  have hr := B.returns
  have hlocks := B.notSynchronized
  have hts : ∀ w ∈ lw_u, w.before ([.ref (X.ad 61), .int x1] : List Value).toArray s = true := fun w hw => atoms_spec (ws := Cond.code yX8_props cX8_props 2 (some .int) :: lw_u) B.pre w (List.mem_cons_of_mem _ hw)
  have hown : s.vm.findClass RX8 = some m.cls := findClass_of_methodNamed B.named
  have hZ : Fx p c m s ([.ref (X.ad 61), .int x1] : List Value).toArray X cX8_props 2 RX8 := ⟨hx, hb, hml, hts, hown, hk⟩
  have hS : va_S X.A s.heap s.heap [] := va_S.rf
  have hl := lv_entry ([.ref (X.ad 61), .int x1]) (n := 2) (Nat.le_of_ble_eq_true rfl)
  rw [lg_entry_eq]
  generalize (lg_sl ([.ref (X.ad 61), .int x1]) ++ List.replicate (2 - (lg_sl ([.ref (X.ad 61), .int x1])).length) Slot.unset).toArray = ls at hl ⊢
  have hl : lv_has ls 2 [(0, .ref (X.ad 61)), (1, .int x1)] := hl
  show WW p l e 2 44 s m [.ref (X.ad 61), .int x1] below meth c X (Qi X r M) s.heap [] 0 ls []
  have hP : wd X M s.heap := hP
  unfold fn_X8_props at hf
  have key : ∀ (H : Heap) (locs : List Loc), wd X M H → va_S X.A s.heap H locs → WW p l e 2 44 s m [.ref (X.ad 61), .int x1] below meth c X (Qi X r M) H locs 0 ls [] := by
    intro H locs hP hS
    refine lv_aload_n hx hb dX8_props_0 rfl (lv_at hl 0 rfl) ?_
    refine lv_iload_n hx hb dX8_props_1 rfl (lv_at hl 1 rfl) ?_
    refine k_X8_isSet hZ hP hS hl.1 wd_4_121 ⟨Nat.le_of_ble_eq_true rfl, Nat.le_of_ble_eq_true rfl⟩ (Nat.le_of_ble_eq_true rfl) dX8_props_2 ⟨Nat.zero_le _, Nat.zero_le _⟩ (fun H locs hP hS => ?_)
    refine lv_if_eq (tgt := 16) hx hb dX8_props_5 (by decide) (fun c_1 => ?_) (fun c_1 => ?_)
    · have hf := i_t c_1 hf
      refine lv_iconst (v := (-1 : Int32)) hx hb dX8_props_16 (by decide) ?_
      have hf := Option.some.inj hf
      exact ret_i hx hb hr hlocks hP hS hf dX8_props_17
    · have hf := i_f c_1 hf
      refine lv_aload_n hx hb dX8_props_8 rfl (lv_at hl 0 rfl) ?_
      refine lv_iload_n hx hb dX8_props_9 rfl (lv_at hl 1 rfl) ?_
      obtain ⟨r_2, h_r_2, hf⟩ := b_d hf
      refine k_X8_propsOf hZ hP hS hl.1 wd_4_160 ⟨Nat.le_of_ble_eq_true rfl, Nat.le_of_ble_eq_true rfl⟩ (Nat.le_of_ble_eq_true rfl) dX8_props_10 ⟨Nat.zero_le _, Nat.zero_le _⟩ h_r_2 (fun H locs hP hS => ?_)
      refine lv_goto (tgt := 17) hx hb dX8_props_13 (by decide) ?_
      have hf := Option.some.inj hf
      exact ret_i hx hb hr hlocks hP hS hf dX8_props_17
  exact key s.heap [] hP hS
theorem hd_X8_props : Hd yX8_props 1 := by decide +kernel
theorem k_X8_props {p : Program} {l : Launch} {e : Env} {R : Room} {s : State} {m : MethodId} {args : Array Value} {below : List Frame} {meth : Method} {c : Code} {H : Heap} {locs : List Loc} {cells slots : Nat} {Q : State → Prop} {cc : ByteArray} {nL pc index : Nat} {ls : Array Slot} {rest : List Value} {X : En} {M : Mem} {H0 : Heap} {own : String} {g : Nat} {x1 : Int32} {r : Int32} (hZ : Fx p c m s args X cc nL own) (hP : wd X M H) (hS : va_S X.A H0 H locs) (hsz : ls.size = nL) (hlk : Cond.methodLink own index yX8_props ∈ lw_u) (hR : 2 + 1 ≤ R.frames ∧ 8 + (2 + 11) + 44 ≤ R.locals) (hW : (rest.map fun v => v.category).sum ≤ 8) (hdg : decode cc pc = .ok (.invokevirtual index, 3)) (hcs : cells ≤ R.cells ∧ slots ≤ R.slots) (hf : fn_X8_props g x1 M = some r)
    (kk : ∀ (H1 : Heap) (locs1 : List Loc), wd X M H1 → va_S X.A H0 H1 locs1 → W p l e R s m args below meth c H1 locs1 cells slots Q (F0 m (pc + 3) ls (.int r :: rest))) : W p l e R s m args below meth c H locs cells slots Q (F0 m pc ls (.int x1 :: .ref (X.ad 61) :: rest)) :=
  cal_i (runV (As := [.int x1]) (rest := rest) hZ.1 hZ.2.1 hZ.2.2.1 hZ.2.2.2.1 hZ.2.2.2.2.1 hZ.2.2.2.2.2 hP (c_X8_props g x1 M r hf) wd_4_159 wd_4_157 wd_4_158 wd_1_9 hd_X8_props (by decide) rfl rfl rfl hlk hR hsz rfl hW hdg hcs) hS kk
/-! FrameRaiserModel.standing -/
def fn_X8_standing (g : Nat) (x1 : Int32) (M : Mem) : Option (Int32) :=
  if (fn_X8_isSet x1 M) = 0 then
    (some (-1 : Int32))
  else
    ((fn_X8_standingOf g x1 M).bind fun r_2 =>
    some r_2)
theorem dX8_standing_0 : decode cX8_standing 0 = .ok (.aload_n 0, 1) := by decide +kernel
theorem dX8_standing_1 : decode cX8_standing 1 = .ok (.iload_n 1, 1) := by decide +kernel
theorem dX8_standing_2 : decode cX8_standing 2 = .ok (.invokevirtual 169, 3) := by decide +kernel
theorem dX8_standing_5 : decode cX8_standing 5 = .ok (.ifCond .eq 11, 3) := by decide +kernel
theorem dX8_standing_8 : decode cX8_standing 8 = .ok (.aload_n 0, 1) := by decide +kernel
theorem dX8_standing_9 : decode cX8_standing 9 = .ok (.iload_n 1, 1) := by decide +kernel
theorem dX8_standing_10 : decode cX8_standing 10 = .ok (.invokevirtual 175, 3) := by decide +kernel
theorem dX8_standing_13 : decode cX8_standing 13 = .ok (.goto 4, 3) := by decide +kernel
theorem dX8_standing_16 : decode cX8_standing 16 = .ok (.iconst (-1), 1) := by decide +kernel
theorem dX8_standing_17 : decode cX8_standing 17 = .ok (.ireturn, 1) := by decide +kernel
set_option maxHeartbeats 4000000 in
set_option maxRecDepth 100000 in
theorem c_X8_standing {l : Launch} {X : En} (g : Nat) (x1 : Int32) (M : Mem) (r : Int32) (hf : fn_X8_standing g x1 M = some r) : Cn l X yX8_standing cX8_standing 2 (some .int) 2 45 [.ref (X.ad 61), .int x1] M (Qi X r M) := by
  refine Met.ofW (cc := cX8_standing) (maxL := 2) (ret := (some .int)) (by decide) rfl ?_
  intro p e s m args below meth c s₁ B hml hv
  obtain ⟨rfl, hP, hk⟩ := hv
  have hx := B.exec
  have hb := B.bytes
  have hr := B.returns
  have hlocks := B.notSynchronized
  have hts : ∀ w ∈ lw_u, w.before ([.ref (X.ad 61), .int x1] : List Value).toArray s = true := fun w hw => atoms_spec (ws := Cond.code yX8_standing cX8_standing 2 (some .int) :: lw_u) B.pre w (List.mem_cons_of_mem _ hw)
  have hown : s.vm.findClass RX8 = some m.cls := findClass_of_methodNamed B.named
  have hZ : Fx p c m s ([.ref (X.ad 61), .int x1] : List Value).toArray X cX8_standing 2 RX8 := ⟨hx, hb, hml, hts, hown, hk⟩
  have hS : va_S X.A s.heap s.heap [] := va_S.rf
  have hl := lv_entry ([.ref (X.ad 61), .int x1]) (n := 2) (Nat.le_of_ble_eq_true rfl)
  rw [lg_entry_eq]
  generalize (lg_sl ([.ref (X.ad 61), .int x1]) ++ List.replicate (2 - (lg_sl ([.ref (X.ad 61), .int x1])).length) Slot.unset).toArray = ls at hl ⊢
  have hl : lv_has ls 2 [(0, .ref (X.ad 61)), (1, .int x1)] := hl
  show WW p l e 2 45 s m [.ref (X.ad 61), .int x1] below meth c X (Qi X r M) s.heap [] 0 ls []
  have hP : wd X M s.heap := hP
  unfold fn_X8_standing at hf
  have key : ∀ (H : Heap) (locs : List Loc), wd X M H → va_S X.A s.heap H locs → WW p l e 2 45 s m [.ref (X.ad 61), .int x1] below meth c X (Qi X r M) H locs 0 ls [] := by
    intro H locs hP hS
    refine lv_aload_n hx hb dX8_standing_0 rfl (lv_at hl 0 rfl) ?_
    refine lv_iload_n hx hb dX8_standing_1 rfl (lv_at hl 1 rfl) ?_
    refine k_X8_isSet hZ hP hS hl.1 wd_4_121 ⟨Nat.le_of_ble_eq_true rfl, Nat.le_of_ble_eq_true rfl⟩ (Nat.le_of_ble_eq_true rfl) dX8_standing_2 ⟨Nat.zero_le _, Nat.zero_le _⟩ (fun H locs hP hS => ?_)
    refine lv_if_eq (tgt := 16) hx hb dX8_standing_5 (by decide) (fun c_1 => ?_) (fun c_1 => ?_)
    · have hf := i_t c_1 hf
      refine lv_iconst (v := (-1 : Int32)) hx hb dX8_standing_16 (by decide) ?_
      have hf := Option.some.inj hf
      exact ret_i hx hb hr hlocks hP hS hf dX8_standing_17
    · have hf := i_f c_1 hf
      refine lv_aload_n hx hb dX8_standing_8 rfl (lv_at hl 0 rfl) ?_
      refine lv_iload_n hx hb dX8_standing_9 rfl (lv_at hl 1 rfl) ?_
      obtain ⟨r_2, h_r_2, hf⟩ := b_d hf
      refine k_X8_standingOf hZ hP hS hl.1 wd_4_168 ⟨Nat.le_of_ble_eq_true rfl, Nat.le_of_ble_eq_true rfl⟩ (Nat.le_of_ble_eq_true rfl) dX8_standing_10 ⟨Nat.zero_le _, Nat.zero_le _⟩ h_r_2 (fun H locs hP hS => ?_)
      refine lv_goto (tgt := 17) hx hb dX8_standing_13 (by decide) ?_
      have hf := Option.some.inj hf
      exact ret_i hx hb hr hlocks hP hS hf dX8_standing_17
  exact key s.heap [] hP hS
theorem hd_X8_standing : Hd yX8_standing 1 := by decide +kernel
theorem k_X8_standing {p : Program} {l : Launch} {e : Env} {R : Room} {s : State} {m : MethodId} {args : Array Value} {below : List Frame} {meth : Method} {c : Code} {H : Heap} {locs : List Loc} {cells slots : Nat} {Q : State → Prop} {cc : ByteArray} {nL pc index : Nat} {ls : Array Slot} {rest : List Value} {X : En} {M : Mem} {H0 : Heap} {own : String} {g : Nat} {x1 : Int32} {r : Int32} (hZ : Fx p c m s args X cc nL own) (hP : wd X M H) (hS : va_S X.A H0 H locs) (hsz : ls.size = nL) (hlk : Cond.methodLink own index yX8_standing ∈ lw_u) (hR : 2 + 1 ≤ R.frames ∧ 8 + (2 + 11) + 45 ≤ R.locals) (hW : (rest.map fun v => v.category).sum ≤ 8) (hdg : decode cc pc = .ok (.invokevirtual index, 3)) (hcs : cells ≤ R.cells ∧ slots ≤ R.slots) (hf : fn_X8_standing g x1 M = some r)
    (kk : ∀ (H1 : Heap) (locs1 : List Loc), wd X M H1 → va_S X.A H0 H1 locs1 → W p l e R s m args below meth c H1 locs1 cells slots Q (F0 m (pc + 3) ls (.int r :: rest))) : W p l e R s m args below meth c H locs cells slots Q (F0 m pc ls (.int x1 :: .ref (X.ad 61) :: rest)) :=
  cal_i (runV (As := [.int x1]) (rest := rest) hZ.1 hZ.2.1 hZ.2.2.1 hZ.2.2.2.1 hZ.2.2.2.2.1 hZ.2.2.2.2.2 hP (c_X8_standing g x1 M r hf) wd_4_167 wd_4_165 wd_4_166 wd_1_9 hd_X8_standing (by decide) rfl rfl rfl hlk hR hsz rfl hW hdg hcs) hS kk
/-! FrameRaiserModel.orders -/
def fn_X8_orders (g : Nat) (x1 : Int32) (M : Mem) : Option (Int32 × Mem) :=
  if (fn_X8_isSet x1 M) = 0 then
    (some ((-1 : Int32), M))
  else
    ((fn_X8_findsOrders g x1 M).bind fun M_2 =>
    if inb x1 256 then
    some (M_2 66 (ix x1), M_2)
    else none)
theorem dX8_orders_0 : decode cX8_orders 0 = .ok (.aload_n 0, 1) := by decide +kernel
theorem dX8_orders_1 : decode cX8_orders 1 = .ok (.iload_n 1, 1) := by decide +kernel
theorem dX8_orders_2 : decode cX8_orders 2 = .ok (.invokevirtual 169, 3) := by decide +kernel
theorem dX8_orders_5 : decode cX8_orders 5 = .ok (.ifCond .ne 5, 3) := by decide +kernel
theorem dX8_orders_8 : decode cX8_orders 8 = .ok (.iconst (-1), 1) := by decide +kernel
theorem dX8_orders_9 : decode cX8_orders 9 = .ok (.ireturn, 1) := by decide +kernel
theorem dX8_orders_10 : decode cX8_orders 10 = .ok (.aload_n 0, 1) := by decide +kernel
theorem dX8_orders_11 : decode cX8_orders 11 = .ok (.iload_n 1, 1) := by decide +kernel
theorem dX8_orders_12 : decode cX8_orders 12 = .ok (.invokevirtual 178, 3) := by decide +kernel
theorem dX8_orders_15 : decode cX8_orders 15 = .ok (.aload_n 0, 1) := by decide +kernel
theorem dX8_orders_16 : decode cX8_orders 16 = .ok (.getfield 23, 3) := by decide +kernel
theorem dX8_orders_19 : decode cX8_orders 19 = .ok (.iload_n 1, 1) := by decide +kernel
theorem dX8_orders_20 : decode cX8_orders 20 = .ok (.iaload, 1) := by decide +kernel
theorem dX8_orders_21 : decode cX8_orders 21 = .ok (.ireturn, 1) := by decide +kernel
set_option maxHeartbeats 4000000 in
set_option maxRecDepth 100000 in
theorem c_X8_orders {l : Launch} {X : En} (g : Nat) (x1 : Int32) (M : Mem) (r : Int32) (M9 : Mem) (hf : fn_X8_orders g x1 M = some (r, M9)) : Cn l X yX8_orders cX8_orders 2 (some .int) 4 95 [.ref (X.ad 61), .int x1] M (Qi X r M9) := by
  refine Met.ofW (cc := cX8_orders) (maxL := 2) (ret := (some .int)) (by decide) rfl ?_
  intro p e s m args below meth c s₁ B hml hv
  obtain ⟨rfl, hP, hk⟩ := hv
  have hx := B.exec
  have hb := B.bytes
  have hr := B.returns
  have hlocks := B.notSynchronized
  have hts : ∀ w ∈ lw_u, w.before ([.ref (X.ad 61), .int x1] : List Value).toArray s = true := fun w hw => atoms_spec (ws := Cond.code yX8_orders cX8_orders 2 (some .int) :: lw_u) B.pre w (List.mem_cons_of_mem _ hw)
  have hown : s.vm.findClass RX8 = some m.cls := findClass_of_methodNamed B.named
  have hZ : Fx p c m s ([.ref (X.ad 61), .int x1] : List Value).toArray X cX8_orders 2 RX8 := ⟨hx, hb, hml, hts, hown, hk⟩
  have hS : va_S X.A s.heap s.heap [] := va_S.rf
  have hl := lv_entry ([.ref (X.ad 61), .int x1]) (n := 2) (Nat.le_of_ble_eq_true rfl)
  rw [lg_entry_eq]
  generalize (lg_sl ([.ref (X.ad 61), .int x1]) ++ List.replicate (2 - (lg_sl ([.ref (X.ad 61), .int x1])).length) Slot.unset).toArray = ls at hl ⊢
  have hl : lv_has ls 2 [(0, .ref (X.ad 61)), (1, .int x1)] := hl
  show WW p l e 4 95 s m [.ref (X.ad 61), .int x1] below meth c X (Qi X r M9) s.heap [] 0 ls []
  have hP : wd X M s.heap := hP
  unfold fn_X8_orders at hf
  have key : ∀ (H : Heap) (locs : List Loc), wd X M H → va_S X.A s.heap H locs → WW p l e 4 95 s m [.ref (X.ad 61), .int x1] below meth c X (Qi X r M9) H locs 0 ls [] := by
    intro H locs hP hS
    refine lv_aload_n hx hb dX8_orders_0 rfl (lv_at hl 0 rfl) ?_
    refine lv_iload_n hx hb dX8_orders_1 rfl (lv_at hl 1 rfl) ?_
    refine k_X8_isSet hZ hP hS hl.1 wd_4_121 ⟨Nat.le_of_ble_eq_true rfl, Nat.le_of_ble_eq_true rfl⟩ (Nat.le_of_ble_eq_true rfl) dX8_orders_2 ⟨Nat.zero_le _, Nat.zero_le _⟩ (fun H locs hP hS => ?_)
    refine lv_if_ne (tgt := 10) hx hb dX8_orders_5 (by decide) (fun c_1 => ?_) (fun c_1 => ?_)
    · have hf := i_f c_1 hf
      refine lv_aload_n hx hb dX8_orders_10 rfl (lv_at hl 0 rfl) ?_
      refine lv_iload_n hx hb dX8_orders_11 rfl (lv_at hl 1 rfl) ?_
      obtain ⟨M_2, h_M_2, hf⟩ := b_d hf
      refine k_X8_findsOrders hZ hP hS hl.1 wd_4_176 ⟨Nat.le_of_ble_eq_true rfl, Nat.le_of_ble_eq_true rfl⟩ (Nat.le_of_ble_eq_true rfl) dX8_orders_12 ⟨Nat.zero_le _, Nat.zero_le _⟩ h_M_2 (fun H locs hP hS => ?_)
      refine lv_aload_n hx hb dX8_orders_15 rfl (lv_at hl 0 rfl) ?_
      refine gX8_5 hx hb hts hown hk hP wd_3_197 dX8_orders_16 ?_
      refine lv_iload_n hx hb dX8_orders_19 rfl (lv_at hl 1 rfl) ?_
      obtain ⟨q_3, hf⟩ := g_if hf
      refine ald hx hb hk hP (by decide) rfl q_3 dX8_orders_20 ?_
      have hf := Option.some.inj hf
      obtain ⟨e1, e2⟩ := Prod.mk.inj hf
      rw [e2] at hP
      exact ret_i hx hb hr hlocks hP hS e1 dX8_orders_21
    · have hf := i_t c_1 hf
      refine lv_iconst (v := (-1 : Int32)) hx hb dX8_orders_8 (by decide) ?_
      have hf := Option.some.inj hf
      obtain ⟨e1, e2⟩ := Prod.mk.inj hf
      rw [e2] at hP
      exact ret_i hx hb hr hlocks hP hS e1 dX8_orders_9
  exact key s.heap [] hP hS
theorem hd_X8_orders : Hd yX8_orders 1 := by decide +kernel
theorem k_X8_orders {p : Program} {l : Launch} {e : Env} {R : Room} {s : State} {m : MethodId} {args : Array Value} {below : List Frame} {meth : Method} {c : Code} {H : Heap} {locs : List Loc} {cells slots : Nat} {Q : State → Prop} {cc : ByteArray} {nL pc index : Nat} {ls : Array Slot} {rest : List Value} {X : En} {M : Mem} {H0 : Heap} {own : String} {g : Nat} {x1 : Int32} {r : Int32} {M9 : Mem} (hZ : Fx p c m s args X cc nL own) (hP : wd X M H) (hS : va_S X.A H0 H locs) (hsz : ls.size = nL) (hlk : Cond.methodLink own index yX8_orders ∈ lw_u) (hR : 4 + 1 ≤ R.frames ∧ 8 + (2 + 11) + 95 ≤ R.locals) (hW : (rest.map fun v => v.category).sum ≤ 8) (hdg : decode cc pc = .ok (.invokevirtual index, 3)) (hcs : cells ≤ R.cells ∧ slots ≤ R.slots) (hf : fn_X8_orders g x1 M = some (r, M9))
    (kk : ∀ (H1 : Heap) (locs1 : List Loc), wd X M9 H1 → va_S X.A H0 H1 locs1 → W p l e R s m args below meth c H1 locs1 cells slots Q (F0 m (pc + 3) ls (.int r :: rest))) : W p l e R s m args below meth c H locs cells slots Q (F0 m pc ls (.int x1 :: .ref (X.ad 61) :: rest)) :=
  cal_i (runV (As := [.int x1]) (rest := rest) hZ.1 hZ.2.1 hZ.2.2.1 hZ.2.2.2.1 hZ.2.2.2.2.1 hZ.2.2.2.2.2 hP (c_X8_orders g x1 M r M9 hf) wd_4_175 wd_4_173 wd_4_174 wd_1_9 hd_X8_orders (by decide) rfl rfl rfl hlk hR hsz rfl hW hdg hcs) hS kk
/-! FrameRaiserModel.fewestProps -/
def fn_X8_fewestProps (g : Nat) (x1 : Int32) (M : Mem) : Option (Int32 × Mem) :=
  if (fn_X8_isSet x1 M) = 0 then
    (some ((-1 : Int32), M))
  else
    ((fn_X8_findsOrders g x1 M).bind fun M_2 =>
    if inb x1 256 then
    some (M_2 67 (ix x1), M_2)
    else none)
theorem dX8_fewestProps_0 : decode cX8_fewestProps 0 = .ok (.aload_n 0, 1) := by decide +kernel
theorem dX8_fewestProps_1 : decode cX8_fewestProps 1 = .ok (.iload_n 1, 1) := by decide +kernel
theorem dX8_fewestProps_2 : decode cX8_fewestProps 2 = .ok (.invokevirtual 169, 3) := by decide +kernel
theorem dX8_fewestProps_5 : decode cX8_fewestProps 5 = .ok (.ifCond .ne 5, 3) := by decide +kernel
theorem dX8_fewestProps_8 : decode cX8_fewestProps 8 = .ok (.iconst (-1), 1) := by decide +kernel
theorem dX8_fewestProps_9 : decode cX8_fewestProps 9 = .ok (.ireturn, 1) := by decide +kernel
theorem dX8_fewestProps_10 : decode cX8_fewestProps 10 = .ok (.aload_n 0, 1) := by decide +kernel
theorem dX8_fewestProps_11 : decode cX8_fewestProps 11 = .ok (.iload_n 1, 1) := by decide +kernel
theorem dX8_fewestProps_12 : decode cX8_fewestProps 12 = .ok (.invokevirtual 178, 3) := by decide +kernel
theorem dX8_fewestProps_15 : decode cX8_fewestProps 15 = .ok (.aload_n 0, 1) := by decide +kernel
theorem dX8_fewestProps_16 : decode cX8_fewestProps 16 = .ok (.getfield 26, 3) := by decide +kernel
theorem dX8_fewestProps_19 : decode cX8_fewestProps 19 = .ok (.iload_n 1, 1) := by decide +kernel
theorem dX8_fewestProps_20 : decode cX8_fewestProps 20 = .ok (.iaload, 1) := by decide +kernel
theorem dX8_fewestProps_21 : decode cX8_fewestProps 21 = .ok (.ireturn, 1) := by decide +kernel
set_option maxHeartbeats 4000000 in
set_option maxRecDepth 100000 in
theorem c_X8_fewestProps {l : Launch} {X : En} (g : Nat) (x1 : Int32) (M : Mem) (r : Int32) (M9 : Mem) (hf : fn_X8_fewestProps g x1 M = some (r, M9)) : Cn l X yX8_fewestProps cX8_fewestProps 2 (some .int) 4 95 [.ref (X.ad 61), .int x1] M (Qi X r M9) := by
  refine Met.ofW (cc := cX8_fewestProps) (maxL := 2) (ret := (some .int)) (by decide) rfl ?_
  intro p e s m args below meth c s₁ B hml hv
  obtain ⟨rfl, hP, hk⟩ := hv
  have hx := B.exec
  have hb := B.bytes
  have hr := B.returns
  have hlocks := B.notSynchronized
  have hts : ∀ w ∈ lw_u, w.before ([.ref (X.ad 61), .int x1] : List Value).toArray s = true := fun w hw => atoms_spec (ws := Cond.code yX8_fewestProps cX8_fewestProps 2 (some .int) :: lw_u) B.pre w (List.mem_cons_of_mem _ hw)
  have hown : s.vm.findClass RX8 = some m.cls := findClass_of_methodNamed B.named
  have hZ : Fx p c m s ([.ref (X.ad 61), .int x1] : List Value).toArray X cX8_fewestProps 2 RX8 := ⟨hx, hb, hml, hts, hown, hk⟩
  have hS : va_S X.A s.heap s.heap [] := va_S.rf
  have hl := lv_entry ([.ref (X.ad 61), .int x1]) (n := 2) (Nat.le_of_ble_eq_true rfl)
  rw [lg_entry_eq]
  generalize (lg_sl ([.ref (X.ad 61), .int x1]) ++ List.replicate (2 - (lg_sl ([.ref (X.ad 61), .int x1])).length) Slot.unset).toArray = ls at hl ⊢
  have hl : lv_has ls 2 [(0, .ref (X.ad 61)), (1, .int x1)] := hl
  show WW p l e 4 95 s m [.ref (X.ad 61), .int x1] below meth c X (Qi X r M9) s.heap [] 0 ls []
  have hP : wd X M s.heap := hP
  unfold fn_X8_fewestProps at hf
  have key : ∀ (H : Heap) (locs : List Loc), wd X M H → va_S X.A s.heap H locs → WW p l e 4 95 s m [.ref (X.ad 61), .int x1] below meth c X (Qi X r M9) H locs 0 ls [] := by
    intro H locs hP hS
    refine lv_aload_n hx hb dX8_fewestProps_0 rfl (lv_at hl 0 rfl) ?_
    refine lv_iload_n hx hb dX8_fewestProps_1 rfl (lv_at hl 1 rfl) ?_
    refine k_X8_isSet hZ hP hS hl.1 wd_4_121 ⟨Nat.le_of_ble_eq_true rfl, Nat.le_of_ble_eq_true rfl⟩ (Nat.le_of_ble_eq_true rfl) dX8_fewestProps_2 ⟨Nat.zero_le _, Nat.zero_le _⟩ (fun H locs hP hS => ?_)
    refine lv_if_ne (tgt := 10) hx hb dX8_fewestProps_5 (by decide) (fun c_1 => ?_) (fun c_1 => ?_)
    · have hf := i_f c_1 hf
      refine lv_aload_n hx hb dX8_fewestProps_10 rfl (lv_at hl 0 rfl) ?_
      refine lv_iload_n hx hb dX8_fewestProps_11 rfl (lv_at hl 1 rfl) ?_
      obtain ⟨M_2, h_M_2, hf⟩ := b_d hf
      refine k_X8_findsOrders hZ hP hS hl.1 wd_4_176 ⟨Nat.le_of_ble_eq_true rfl, Nat.le_of_ble_eq_true rfl⟩ (Nat.le_of_ble_eq_true rfl) dX8_fewestProps_12 ⟨Nat.zero_le _, Nat.zero_le _⟩ h_M_2 (fun H locs hP hS => ?_)
      refine lv_aload_n hx hb dX8_fewestProps_15 rfl (lv_at hl 0 rfl) ?_
      refine gX8_6 hx hb hts hown hk hP wd_3_198 dX8_fewestProps_16 ?_
      refine lv_iload_n hx hb dX8_fewestProps_19 rfl (lv_at hl 1 rfl) ?_
      obtain ⟨q_3, hf⟩ := g_if hf
      refine ald hx hb hk hP (by decide) rfl q_3 dX8_fewestProps_20 ?_
      have hf := Option.some.inj hf
      obtain ⟨e1, e2⟩ := Prod.mk.inj hf
      rw [e2] at hP
      exact ret_i hx hb hr hlocks hP hS e1 dX8_fewestProps_21
    · have hf := i_t c_1 hf
      refine lv_iconst (v := (-1 : Int32)) hx hb dX8_fewestProps_8 (by decide) ?_
      have hf := Option.some.inj hf
      obtain ⟨e1, e2⟩ := Prod.mk.inj hf
      rw [e2] at hP
      exact ret_i hx hb hr hlocks hP hS e1 dX8_fewestProps_9
  exact key s.heap [] hP hS
theorem hd_X8_fewestProps : Hd yX8_fewestProps 1 := by decide +kernel
theorem k_X8_fewestProps {p : Program} {l : Launch} {e : Env} {R : Room} {s : State} {m : MethodId} {args : Array Value} {below : List Frame} {meth : Method} {c : Code} {H : Heap} {locs : List Loc} {cells slots : Nat} {Q : State → Prop} {cc : ByteArray} {nL pc index : Nat} {ls : Array Slot} {rest : List Value} {X : En} {M : Mem} {H0 : Heap} {own : String} {g : Nat} {x1 : Int32} {r : Int32} {M9 : Mem} (hZ : Fx p c m s args X cc nL own) (hP : wd X M H) (hS : va_S X.A H0 H locs) (hsz : ls.size = nL) (hlk : Cond.methodLink own index yX8_fewestProps ∈ lw_u) (hR : 4 + 1 ≤ R.frames ∧ 8 + (2 + 11) + 95 ≤ R.locals) (hW : (rest.map fun v => v.category).sum ≤ 8) (hdg : decode cc pc = .ok (.invokevirtual index, 3)) (hcs : cells ≤ R.cells ∧ slots ≤ R.slots) (hf : fn_X8_fewestProps g x1 M = some (r, M9))
    (kk : ∀ (H1 : Heap) (locs1 : List Loc), wd X M9 H1 → va_S X.A H0 H1 locs1 → W p l e R s m args below meth c H1 locs1 cells slots Q (F0 m (pc + 3) ls (.int r :: rest))) : W p l e R s m args below meth c H locs cells slots Q (F0 m pc ls (.int x1 :: .ref (X.ad 61) :: rest)) :=
  cal_i (runV (As := [.int x1]) (rest := rest) hZ.1 hZ.2.1 hZ.2.2.1 hZ.2.2.2.1 hZ.2.2.2.2.1 hZ.2.2.2.2.2 hP (c_X8_fewestProps g x1 M r M9 hf) wd_4_190 wd_4_188 wd_4_189 wd_1_9 hd_X8_fewestProps (by decide) rfl rfl rfl hlk hR hsz rfl hW hdg hcs) hS kk
/-! FrameRaiserModel.planned -/
def bd_X8_planned_65 (g : Nat) (v4_11 : Int32) (x1 : Int32) (M_8 : Mem) : (Int32) → Option ((Int32) ⊕ (Int32)) :=
  u1 fun v7_14 =>
  if (fn_X8_has x1 v7_14) = 0 then
    (some (.inl (v7_14 + (1 : Int32))))
  else
    (if (fn_X8_has v4_11 v7_14) = 0 then
      ((fn_X8_canCome g v4_11 v7_14 x1 M_8).bind fun r_18 =>
      if r_18 = 0 then
        (some (.inl (v7_14 + (1 : Int32))))
      else
        (some (.inr v7_14)))
    else
      (some (.inl (v7_14 + (1 : Int32)))))
def jn_X8_planned_122 (s_24 : Int32) (v4_21 : Int32) (v6_22 : Int32) (v7_23 : Int32) : Option ((Int32 × Int32 × Int32) ⊕ (Int32)) :=
  bv (v4_21 ||| (sl (1 : Int32) v7_23)) fun v4_25 =>
  some (.inl (v4_25, s_24, v6_22 + (1 : Int32)))
def bd_X8_planned_56 (g : Nat) (x1 : Int32) (x2 : Int32) (x3 : Int32) (M_8 : Mem) : (Int32 × Int32 × Int32) → Option ((Int32 × Int32 × Int32) ⊕ (Int32)) :=
  u3 fun v4_11 v5_10 v6_9 =>
  if x2 < v6_9 then
    (some (.inr v5_10))
  else
    ((lpN g (bd_X8_planned_65 g v4_11 x1 M_8) (0 : Int32)).bind (u1 fun v7_15 =>
      if x3 = 0 then
        (jn_X8_planned_122 v7_15 v4_11 v6_9 v7_15)
      else
        ((fn_X8_waysOf g v7_15 v4_11 M_8).bind fun r_26 =>
        (fn_X8_lowest g r_26).bind fun r_27 =>
        jn_X8_planned_122 r_27 v4_11 v6_9 v7_15)))
def fn_X8_planned (g : Nat) (x1 : Int32) (x2 : Int32) (x3 : Int32) (M : Mem) : Option (Int32 × Mem) :=
  if (fn_X8_isSet x1 M) = 0 then
    (some ((-1 : Int32), M))
  else
    (if 0 ≤ x2 then
      ((fn_X8_findsOrders g x1 M).bind fun M_3 =>
      if inb x1 256 then
      if (M_3 67 (ix x1)) = (-9 : Int32) then
        (some ((-9 : Int32), M_3))
      else
        ((fn_X8_bits g x1).bind fun r_6 =>
        if x2 < r_6 then
          ((fn_X8_findsLeads g x1 M_3).bind fun M_8 =>
          (lpN g (bd_X8_planned_56 g x1 x2 x3 M_8) ((0 : Int32), (-9 : Int32), (0 : Int32))).bind (u1 fun v5_12 =>
            some (v5_12, M_8)))
        else
          (some ((-9 : Int32), M_3)))
      else none)
    else
      (some ((-1 : Int32), M)))
theorem dX8_planned_0 : decode cX8_planned 0 = .ok (.aload_n 0, 1) := by decide +kernel
theorem dX8_planned_1 : decode cX8_planned 1 = .ok (.iload_n 1, 1) := by decide +kernel
theorem dX8_planned_2 : decode cX8_planned 2 = .ok (.invokevirtual 169, 3) := by decide +kernel
theorem dX8_planned_5 : decode cX8_planned 5 = .ok (.ifCond .eq 7, 3) := by decide +kernel
theorem dX8_planned_8 : decode cX8_planned 8 = .ok (.iload_n 2, 1) := by decide +kernel
theorem dX8_planned_9 : decode cX8_planned 9 = .ok (.ifCond .ge 5, 3) := by decide +kernel
theorem dX8_planned_12 : decode cX8_planned 12 = .ok (.iconst (-1), 1) := by decide +kernel
theorem dX8_planned_13 : decode cX8_planned 13 = .ok (.ireturn, 1) := by decide +kernel
theorem dX8_planned_14 : decode cX8_planned 14 = .ok (.aload_n 0, 1) := by decide +kernel
theorem dX8_planned_15 : decode cX8_planned 15 = .ok (.iload_n 1, 1) := by decide +kernel
theorem dX8_planned_16 : decode cX8_planned 16 = .ok (.invokevirtual 178, 3) := by decide +kernel
theorem dX8_planned_19 : decode cX8_planned 19 = .ok (.aload_n 0, 1) := by decide +kernel
theorem dX8_planned_20 : decode cX8_planned 20 = .ok (.getfield 26, 3) := by decide +kernel
theorem dX8_planned_23 : decode cX8_planned 23 = .ok (.iload_n 1, 1) := by decide +kernel
theorem dX8_planned_24 : decode cX8_planned 24 = .ok (.iaload, 1) := by decide +kernel
theorem dX8_planned_25 : decode cX8_planned 25 = .ok (.bipush (-9), 2) := by decide +kernel
theorem dX8_planned_27 : decode cX8_planned 27 = .ok (.if_icmp .eq 11, 3) := by decide +kernel
theorem dX8_planned_30 : decode cX8_planned 30 = .ok (.iload_n 2, 1) := by decide +kernel
theorem dX8_planned_31 : decode cX8_planned 31 = .ok (.iload_n 1, 1) := by decide +kernel
theorem dX8_planned_32 : decode cX8_planned 32 = .ok (.invokestatic 98, 3) := by decide +kernel
theorem dX8_planned_35 : decode cX8_planned 35 = .ok (.if_icmp .lt 6, 3) := by decide +kernel
theorem dX8_planned_38 : decode cX8_planned 38 = .ok (.bipush (-9), 2) := by decide +kernel
theorem dX8_planned_40 : decode cX8_planned 40 = .ok (.ireturn, 1) := by decide +kernel
theorem dX8_planned_41 : decode cX8_planned 41 = .ok (.aload_n 0, 1) := by decide +kernel
theorem dX8_planned_42 : decode cX8_planned 42 = .ok (.iload_n 1, 1) := by decide +kernel
theorem dX8_planned_43 : decode cX8_planned 43 = .ok (.invokevirtual 182, 3) := by decide +kernel
theorem dX8_planned_46 : decode cX8_planned 46 = .ok (.iconst 0, 1) := by decide +kernel
theorem dX8_planned_47 : decode cX8_planned 47 = .ok (.istore 4, 2) := by decide +kernel
theorem dX8_planned_49 : decode cX8_planned 49 = .ok (.bipush (-9), 2) := by decide +kernel
theorem dX8_planned_51 : decode cX8_planned 51 = .ok (.istore 5, 2) := by decide +kernel
theorem dX8_planned_53 : decode cX8_planned 53 = .ok (.iconst 0, 1) := by decide +kernel
theorem dX8_planned_54 : decode cX8_planned 54 = .ok (.istore 6, 2) := by decide +kernel
theorem dX8_planned_56 : decode cX8_planned 56 = .ok (.iload 6, 2) := by decide +kernel
theorem dX8_planned_58 : decode cX8_planned 58 = .ok (.iload_n 2, 1) := by decide +kernel
theorem dX8_planned_59 : decode cX8_planned 59 = .ok (.if_icmp .gt 80, 3) := by decide +kernel
theorem dX8_planned_62 : decode cX8_planned 62 = .ok (.iconst 0, 1) := by decide +kernel
theorem dX8_planned_63 : decode cX8_planned 63 = .ok (.istore 7, 2) := by decide +kernel
theorem dX8_planned_65 : decode cX8_planned 65 = .ok (.iload_n 1, 1) := by decide +kernel
theorem dX8_planned_66 : decode cX8_planned 66 = .ok (.iload 7, 2) := by decide +kernel
theorem dX8_planned_68 : decode cX8_planned 68 = .ok (.invokestatic 76, 3) := by decide +kernel
theorem dX8_planned_71 : decode cX8_planned 71 = .ok (.ifCond .eq 25, 3) := by decide +kernel
theorem dX8_planned_74 : decode cX8_planned 74 = .ok (.iload 4, 2) := by decide +kernel
theorem dX8_planned_76 : decode cX8_planned 76 = .ok (.iload 7, 2) := by decide +kernel
theorem dX8_planned_78 : decode cX8_planned 78 = .ok (.invokestatic 76, 3) := by decide +kernel
theorem dX8_planned_81 : decode cX8_planned 81 = .ok (.ifCond .ne 15, 3) := by decide +kernel
theorem dX8_planned_84 : decode cX8_planned 84 = .ok (.aload_n 0, 1) := by decide +kernel
theorem dX8_planned_85 : decode cX8_planned 85 = .ok (.iload 4, 2) := by decide +kernel
theorem dX8_planned_87 : decode cX8_planned 87 = .ok (.iload 7, 2) := by decide +kernel
theorem dX8_planned_89 : decode cX8_planned 89 = .ok (.iload_n 1, 1) := by decide +kernel
theorem dX8_planned_90 : decode cX8_planned 90 = .ok (.invokevirtual 95, 3) := by decide +kernel
theorem dX8_planned_93 : decode cX8_planned 93 = .ok (.ifCond .ne 9, 3) := by decide +kernel
theorem dX8_planned_96 : decode cX8_planned 96 = .ok (.iinc 7 1, 3) := by decide +kernel
theorem dX8_planned_99 : decode cX8_planned 99 = .ok (.goto (-34), 3) := by decide +kernel
theorem dX8_planned_102 : decode cX8_planned 102 = .ok (.iload_n 3, 1) := by decide +kernel
theorem dX8_planned_103 : decode cX8_planned 103 = .ok (.ifCond .eq 17, 3) := by decide +kernel
theorem dX8_planned_106 : decode cX8_planned 106 = .ok (.aload_n 0, 1) := by decide +kernel
theorem dX8_planned_107 : decode cX8_planned 107 = .ok (.iload 7, 2) := by decide +kernel
theorem dX8_planned_109 : decode cX8_planned 109 = .ok (.iload 4, 2) := by decide +kernel
theorem dX8_planned_111 : decode cX8_planned 111 = .ok (.invokevirtual 89, 3) := by decide +kernel
theorem dX8_planned_114 : decode cX8_planned 114 = .ok (.invokestatic 185, 3) := by decide +kernel
theorem dX8_planned_117 : decode cX8_planned 117 = .ok (.goto 5, 3) := by decide +kernel
theorem dX8_planned_120 : decode cX8_planned 120 = .ok (.iload 7, 2) := by decide +kernel
theorem dX8_planned_122 : decode cX8_planned 122 = .ok (.istore 5, 2) := by decide +kernel
theorem dX8_planned_124 : decode cX8_planned 124 = .ok (.iload 4, 2) := by decide +kernel
theorem dX8_planned_126 : decode cX8_planned 126 = .ok (.iconst 1, 1) := by decide +kernel
theorem dX8_planned_127 : decode cX8_planned 127 = .ok (.iload 7, 2) := by decide +kernel
theorem dX8_planned_129 : decode cX8_planned 129 = .ok (.ishl, 1) := by decide +kernel
theorem dX8_planned_130 : decode cX8_planned 130 = .ok (.ior, 1) := by decide +kernel
theorem dX8_planned_131 : decode cX8_planned 131 = .ok (.istore 4, 2) := by decide +kernel
theorem dX8_planned_133 : decode cX8_planned 133 = .ok (.iinc 6 1, 3) := by decide +kernel
theorem dX8_planned_136 : decode cX8_planned 136 = .ok (.goto (-80), 3) := by decide +kernel
theorem dX8_planned_139 : decode cX8_planned 139 = .ok (.iload 5, 2) := by decide +kernel
theorem dX8_planned_141 : decode cX8_planned 141 = .ok (.ireturn, 1) := by decide +kernel
set_option maxHeartbeats 4000000 in
set_option maxRecDepth 100000 in
theorem c_X8_planned {l : Launch} {X : En} (g : Nat) (x1 : Int32) (x2 : Int32) (x3 : Int32) (M : Mem) (r : Int32) (M9 : Mem) (hf : fn_X8_planned g x1 x2 x3 M = some (r, M9)) : Cn l X yX8_planned cX8_planned 8 (some .int) 4 95 [.ref (X.ad 61), .int x1, .int x2, .int x3] M (Qi X r M9) := by
  refine Met.ofW (cc := cX8_planned) (maxL := 8) (ret := (some .int)) (by decide) rfl ?_
  intro p e s m args below meth c s₁ B hml hv
  obtain ⟨rfl, hP, hk⟩ := hv
  have hx := B.exec
  have hb := B.bytes
  have hr := B.returns
  have hlocks := B.notSynchronized
  have hts : ∀ w ∈ lw_u, w.before ([.ref (X.ad 61), .int x1, .int x2, .int x3] : List Value).toArray s = true := fun w hw => atoms_spec (ws := Cond.code yX8_planned cX8_planned 8 (some .int) :: lw_u) B.pre w (List.mem_cons_of_mem _ hw)
  have hown : s.vm.findClass RX8 = some m.cls := findClass_of_methodNamed B.named
  have hZ : Fx p c m s ([.ref (X.ad 61), .int x1, .int x2, .int x3] : List Value).toArray X cX8_planned 8 RX8 := ⟨hx, hb, hml, hts, hown, hk⟩
  have hS : va_S X.A s.heap s.heap [] := va_S.rf
  have hl := lv_entry ([.ref (X.ad 61), .int x1, .int x2, .int x3]) (n := 8) (Nat.le_of_ble_eq_true rfl)
  rw [lg_entry_eq]
  generalize (lg_sl ([.ref (X.ad 61), .int x1, .int x2, .int x3]) ++ List.replicate (8 - (lg_sl ([.ref (X.ad 61), .int x1, .int x2, .int x3])).length) Slot.unset).toArray = ls at hl ⊢
  have hl : lv_has ls 8 [(0, .ref (X.ad 61)), (1, .int x1), (2, .int x2), (3, .int x3)] := hl
  show WW p l e 4 95 s m [.ref (X.ad 61), .int x1, .int x2, .int x3] below meth c X (Qi X r M9) s.heap [] 0 ls []
  have hP : wd X M s.heap := hP
  unfold fn_X8_planned at hf
  have key : ∀ (H : Heap) (locs : List Loc), wd X M H → va_S X.A s.heap H locs → WW p l e 4 95 s m [.ref (X.ad 61), .int x1, .int x2, .int x3] below meth c X (Qi X r M9) H locs 0 ls [] := by
    intro H locs hP hS
    refine lv_aload_n hx hb dX8_planned_0 rfl (lv_at hl 0 rfl) ?_
    refine lv_iload_n hx hb dX8_planned_1 rfl (lv_at hl 1 rfl) ?_
    refine k_X8_isSet hZ hP hS hl.1 wd_4_121 ⟨Nat.le_of_ble_eq_true rfl, Nat.le_of_ble_eq_true rfl⟩ (Nat.le_of_ble_eq_true rfl) dX8_planned_2 ⟨Nat.zero_le _, Nat.zero_le _⟩ (fun H locs hP hS => ?_)
    refine lv_if_eq (tgt := 12) hx hb dX8_planned_5 (by decide) (fun c_1 => ?_) (fun c_1 => ?_)
    · have hf := i_t c_1 hf
      refine lv_iconst (v := (-1 : Int32)) hx hb dX8_planned_12 (by decide) ?_
      have hf := Option.some.inj hf
      obtain ⟨e1, e2⟩ := Prod.mk.inj hf
      rw [e2] at hP
      exact ret_i hx hb hr hlocks hP hS e1 dX8_planned_13
    · have hf := i_f c_1 hf
      refine lv_iload_n hx hb dX8_planned_8 rfl (lv_at hl 2 rfl) ?_
      refine lv_if_ge (tgt := 14) hx hb dX8_planned_9 (by decide) (fun c_2 => ?_) (fun c_2 => ?_)
      · have hf := i_t c_2 hf
        refine lv_aload_n hx hb dX8_planned_14 rfl (lv_at hl 0 rfl) ?_
        refine lv_iload_n hx hb dX8_planned_15 rfl (lv_at hl 1 rfl) ?_
        obtain ⟨M_3, h_M_3, hf⟩ := b_d hf
        refine k_X8_findsOrders hZ hP hS hl.1 wd_4_176 ⟨Nat.le_of_ble_eq_true rfl, Nat.le_of_ble_eq_true rfl⟩ (Nat.le_of_ble_eq_true rfl) dX8_planned_16 ⟨Nat.zero_le _, Nat.zero_le _⟩ h_M_3 (fun H locs hP hS => ?_)
        refine lv_aload_n hx hb dX8_planned_19 rfl (lv_at hl 0 rfl) ?_
        refine gX8_6 hx hb hts hown hk hP wd_3_198 dX8_planned_20 ?_
        refine lv_iload_n hx hb dX8_planned_23 rfl (lv_at hl 1 rfl) ?_
        obtain ⟨q_4, hf⟩ := g_if hf
        refine ald hx hb hk hP (by decide) rfl q_4 dX8_planned_24 ?_
        refine lv_bipush (v := (-9 : Int32)) hx hb dX8_planned_25 (by decide) ?_
        refine lv_icmp_eq (tgt := 38) hx hb dX8_planned_27 (by decide) (fun c_5 => ?_) (fun c_5 => ?_)
        · have hf := i_t c_5 hf
          refine lv_bipush (v := (-9 : Int32)) hx hb dX8_planned_38 (by decide) ?_
          have hf := Option.some.inj hf
          obtain ⟨e1, e2⟩ := Prod.mk.inj hf
          rw [e2] at hP
          exact ret_i hx hb hr hlocks hP hS e1 dX8_planned_40
        · have hf := i_f c_5 hf
          refine lv_iload_n hx hb dX8_planned_30 rfl (lv_at hl 2 rfl) ?_
          refine lv_iload_n hx hb dX8_planned_31 rfl (lv_at hl 1 rfl) ?_
          obtain ⟨r_6, h_r_6, hf⟩ := b_d hf
          refine k_X8_bits hZ hP hS hl.1 wd_4_195 ⟨Nat.le_of_ble_eq_true rfl, Nat.le_of_ble_eq_true rfl⟩ (Nat.le_of_ble_eq_true rfl) dX8_planned_32 ⟨Nat.zero_le _, Nat.zero_le _⟩ h_r_6 (fun H locs hP hS => ?_)
          refine lv_icmp_lt (tgt := 41) hx hb dX8_planned_35 (by decide) (fun c_7 => ?_) (fun c_7 => ?_)
          · have hf := i_t c_7 hf
            refine lv_aload_n hx hb dX8_planned_41 rfl (lv_at hl 0 rfl) ?_
            refine lv_iload_n hx hb dX8_planned_42 rfl (lv_at hl 1 rfl) ?_
            obtain ⟨M_8, h_M_8, hf⟩ := b_d hf
            refine k_X8_findsLeads hZ hP hS hl.1 wd_4_198 ⟨Nat.le_of_ble_eq_true rfl, Nat.le_of_ble_eq_true rfl⟩ (Nat.le_of_ble_eq_true rfl) dX8_planned_43 ⟨Nat.zero_le _, Nat.zero_le _⟩ h_M_8 (fun H locs hP hS => ?_)
            refine lv_iconst (v := (0 : Int32)) hx hb dX8_planned_46 (by decide) ?_
            refine lv_istore (lv' := [(4, .int (0 : Int32)), (0, .ref (X.ad 61)), (1, .int x1), (2, .int x2), (3, .int x3)]) hx hb dX8_planned_47 hl (by decide) rfl (fun ls hl => ?_)
            refine lv_bipush (v := (-9 : Int32)) hx hb dX8_planned_49 (by decide) ?_
            refine lv_istore (lv' := [(5, .int (-9 : Int32)), (4, .int (0 : Int32)), (0, .ref (X.ad 61)), (1, .int x1), (2, .int x2), (3, .int x3)]) hx hb dX8_planned_51 hl (by decide) rfl (fun ls hl => ?_)
            refine lv_iconst (v := (0 : Int32)) hx hb dX8_planned_53 (by decide) ?_
            refine lv_istore (lv' := [(6, .int (0 : Int32)), (5, .int (-9 : Int32)), (4, .int (0 : Int32)), (0, .ref (X.ad 61)), (1, .int x1), (2, .int x2), (3, .int x3)]) hx hb dX8_planned_54 hl (by decide) rfl (fun ls hl => ?_)
            obtain ⟨o56, ho56, hf⟩ := b_d hf
            refine lp_rule (b := bd_X8_planned_56 g x1 x2 x3 M_8) (P := fun w : Int32 × Int32 × Int32 => ∀ (H : Heap) (locs : List Loc) (ls : Array Slot), wd X M_8 H → va_S X.A s.heap H locs → lv_has ls 8 [(6, .int w.2.2), (5, .int w.2.1), (4, .int w.1), (0, .ref (X.ad 61)), (1, .int x1), (2, .int x2), (3, .int x3)] → WW p l e 4 95 s m [.ref (X.ad 61), .int x1, .int x2, .int x3] below meth c X (Qi X r M9) H locs 56 ls []) (K := fun o => ∀ (v5_12 : Int32), o = v5_12 → ∀ (H : Heap) (locs : List Loc) (ls : Array Slot), wd X M_8 H → va_S X.A s.heap H locs → lv_has ls 8 [(5, .int v5_12)] → WW p l e 4 95 s m [.ref (X.ad 61), .int x1, .int x2, .int x3] below meth c X (Qi X r M9) H locs 139 ls []) ?_ g ((0 : Int32), (-9 : Int32), (0 : Int32)) o56 ho56 ?_ H locs ls hP hS (lv_sub hl [0, 1, 2, 3, 4, 5, 6] rfl)
            · rintro ⟨v4_11, v5_10, v6_9⟩ o hf hkc56 hke56 H locs ls hP hS hl
              have hf := u3_e hf
              have jn122 : ∀ (v4_21 : Int32) (v6_22 : Int32) (v7_23 : Int32) (s_24 : Int32), jn_X8_planned_122 s_24 v4_21 v6_22 v7_23 = some o → ∀ (H : Heap) (locs : List Loc) (ls : Array Slot), wd X M_8 H → va_S X.A s.heap H locs → lv_has ls 8 [(0, .ref (X.ad 61)), (1, .int x1), (2, .int x2), (3, .int x3), (4, .int v4_21), (6, .int v6_22), (7, .int v7_23)] → WW p l e 4 95 s m [.ref (X.ad 61), .int x1, .int x2, .int x3] below meth c X (Qi X r M9) H locs 122 ls [.int s_24] := by
                intro v4_21 v6_22 v7_23 s_24  hf H locs ls hP hS hl
                unfold jn_X8_planned_122 at hf
                refine lv_istore (lv' := [(5, .int s_24), (0, .ref (X.ad 61)), (1, .int x1), (2, .int x2), (3, .int x3), (4, .int v4_21), (6, .int v6_22), (7, .int v7_23)]) hx hb dX8_planned_122 hl (by decide) rfl (fun ls hl => ?_)
                refine lv_iload hx hb dX8_planned_124 (lv_at hl 5 rfl) ?_
                refine lv_iconst (v := (1 : Int32)) hx hb dX8_planned_126 (by decide) ?_
                refine lv_iload hx hb dX8_planned_127 (lv_at hl 7 rfl) ?_
                refine rw_ishl hx hb dX8_planned_129 ?_
                refine lv_ior hx hb dX8_planned_130 ?_
                refine lv_topi (fun v4_25 e_v4_25 => ?_)
                have hf := b_v hf e_v4_25
                refine lv_istore (lv' := [(4, .int v4_25), (5, .int s_24), (0, .ref (X.ad 61)), (1, .int x1), (2, .int x2), (3, .int x3), (6, .int v6_22), (7, .int v7_23)]) hx hb dX8_planned_131 hl (by decide) rfl (fun ls hl => ?_)
                refine lv_iinc (v := v6_22 + (1 : Int32)) (lv' := [(6, .int (v6_22 + (1 : Int32))), (4, .int v4_25), (5, .int s_24), (0, .ref (X.ad 61)), (1, .int x1), (2, .int x2), (3, .int x3), (7, .int v7_23)]) hx hb dX8_planned_133 hl (k := 6) rfl rfl (by decide) rfl (fun ls hl => ?_)
                refine lv_goto (tgt := 56) hx hb dX8_planned_136 (by decide) ?_
                exact hkc56 _ (Option.some.inj hf).symm H locs ls hP hS (lv_sub hl [0, 2, 1, 3, 4, 5, 6] rfl)
              refine lv_iload hx hb dX8_planned_56 (lv_at hl 0 rfl) ?_
              refine lv_iload_n hx hb dX8_planned_58 rfl (lv_at hl 5 rfl) ?_
              refine lv_icmp_gt (tgt := 139) hx hb dX8_planned_59 (by decide) (fun c_13 => ?_) (fun c_13 => ?_)
              · have hf := i_t c_13 hf
                exact hke56 _ (Option.some.inj hf).symm _ rfl H locs ls hP hS (lv_sub hl [1] rfl)
              · have hf := i_f c_13 hf
                refine lv_iconst (v := (0 : Int32)) hx hb dX8_planned_62 (by decide) ?_
                refine lv_istore (lv' := [(7, .int (0 : Int32)), (6, .int v6_9), (5, .int v5_10), (4, .int v4_11), (0, .ref (X.ad 61)), (1, .int x1), (2, .int x2), (3, .int x3)]) hx hb dX8_planned_63 hl (by decide) rfl (fun ls hl => ?_)
                obtain ⟨o65, ho65, hf⟩ := b_d hf
                refine lp_rule (b := bd_X8_planned_65 g v4_11 x1 M_8) (P := fun w : Int32 => ∀ (H : Heap) (locs : List Loc) (ls : Array Slot), wd X M_8 H → va_S X.A s.heap H locs → lv_has ls 8 [(7, .int w), (6, .int v6_9), (4, .int v4_11), (0, .ref (X.ad 61)), (1, .int x1), (2, .int x2), (3, .int x3)] → WW p l e 4 95 s m [.ref (X.ad 61), .int x1, .int x2, .int x3] below meth c X (Qi X r M9) H locs 65 ls []) (K := fun o => ∀ (v7_15 : Int32), o = v7_15 → ∀ (H : Heap) (locs : List Loc) (ls : Array Slot), wd X M_8 H → va_S X.A s.heap H locs → lv_has ls 8 [(7, .int v7_15), (6, .int v6_9), (4, .int v4_11), (0, .ref (X.ad 61)), (1, .int x1), (2, .int x2), (3, .int x3)] → WW p l e 4 95 s m [.ref (X.ad 61), .int x1, .int x2, .int x3] below meth c X (Qi X r M9) H locs 102 ls []) ?_ g (0 : Int32) o65 ho65 ?_ H locs ls hP hS (lv_sub hl [0, 1, 3, 4, 5, 6, 7] rfl)
                · rintro v7_14 o hf hkc65 hke65 H locs ls hP hS hl
                  have hf := u1_e hf
                  refine lv_iload_n hx hb dX8_planned_65 rfl (lv_at hl 4 rfl) ?_
                  refine lv_iload hx hb dX8_planned_66 (lv_at hl 0 rfl) ?_
                  refine k_X8_has hZ hP hS hl.1 wd_4_153 ⟨Nat.le_of_ble_eq_true rfl, Nat.le_of_ble_eq_true rfl⟩ (Nat.le_of_ble_eq_true rfl) dX8_planned_68 ⟨Nat.zero_le _, Nat.zero_le _⟩ (fun H locs hP hS => ?_)
                  refine lv_if_eq (tgt := 96) hx hb dX8_planned_71 (by decide) (fun c_16 => ?_) (fun c_16 => ?_)
                  · have hf := i_t c_16 hf
                    refine lv_iinc (v := v7_14 + (1 : Int32)) (lv' := [(7, .int (v7_14 + (1 : Int32))), (6, .int v6_9), (4, .int v4_11), (0, .ref (X.ad 61)), (1, .int x1), (2, .int x2), (3, .int x3)]) hx hb dX8_planned_96 hl (k := 0) rfl rfl (by decide) rfl (fun ls hl => ?_)
                    refine lv_goto (tgt := 65) hx hb dX8_planned_99 (by decide) ?_
                    exact hkc65 _ (Option.some.inj hf).symm H locs ls hP hS (lv_sub hl [0, 1, 2, 3, 4, 5, 6] rfl)
                  · have hf := i_f c_16 hf
                    refine lv_iload hx hb dX8_planned_74 (lv_at hl 2 rfl) ?_
                    refine lv_iload hx hb dX8_planned_76 (lv_at hl 0 rfl) ?_
                    refine k_X8_has hZ hP hS hl.1 wd_4_153 ⟨Nat.le_of_ble_eq_true rfl, Nat.le_of_ble_eq_true rfl⟩ (Nat.le_of_ble_eq_true rfl) dX8_planned_78 ⟨Nat.zero_le _, Nat.zero_le _⟩ (fun H locs hP hS => ?_)
                    refine lv_if_ne (tgt := 96) hx hb dX8_planned_81 (by decide) (fun c_17 => ?_) (fun c_17 => ?_)
                    · have hf := i_f c_17 hf
                      refine lv_iinc (v := v7_14 + (1 : Int32)) (lv' := [(7, .int (v7_14 + (1 : Int32))), (6, .int v6_9), (4, .int v4_11), (0, .ref (X.ad 61)), (1, .int x1), (2, .int x2), (3, .int x3)]) hx hb dX8_planned_96 hl (k := 0) rfl rfl (by decide) rfl (fun ls hl => ?_)
                      refine lv_goto (tgt := 65) hx hb dX8_planned_99 (by decide) ?_
                      exact hkc65 _ (Option.some.inj hf).symm H locs ls hP hS (lv_sub hl [0, 1, 2, 3, 4, 5, 6] rfl)
                    · have hf := i_t c_17 hf
                      refine lv_aload_n hx hb dX8_planned_84 rfl (lv_at hl 3 rfl) ?_
                      refine lv_iload hx hb dX8_planned_85 (lv_at hl 2 rfl) ?_
                      refine lv_iload hx hb dX8_planned_87 (lv_at hl 0 rfl) ?_
                      refine lv_iload_n hx hb dX8_planned_89 rfl (lv_at hl 4 rfl) ?_
                      obtain ⟨r_18, h_r_18, hf⟩ := b_d hf
                      refine k_X8_canCome hZ hP hS hl.1 wd_4_202 ⟨Nat.le_of_ble_eq_true rfl, Nat.le_of_ble_eq_true rfl⟩ (Nat.le_of_ble_eq_true rfl) dX8_planned_90 ⟨Nat.zero_le _, Nat.zero_le _⟩ h_r_18 (fun H locs hP hS => ?_)
                      refine lv_if_ne (tgt := 102) hx hb dX8_planned_93 (by decide) (fun c_19 => ?_) (fun c_19 => ?_)
                      · have hf := i_f c_19 hf
                        exact hke65 _ (Option.some.inj hf).symm _ rfl H locs ls hP hS (lv_sub hl [0, 1, 2, 3, 4, 5, 6] rfl)
                      · have hf := i_t c_19 hf
                        refine lv_iinc (v := v7_14 + (1 : Int32)) (lv' := [(7, .int (v7_14 + (1 : Int32))), (6, .int v6_9), (4, .int v4_11), (0, .ref (X.ad 61)), (1, .int x1), (2, .int x2), (3, .int x3)]) hx hb dX8_planned_96 hl (k := 0) rfl rfl (by decide) rfl (fun ls hl => ?_)
                        refine lv_goto (tgt := 65) hx hb dX8_planned_99 (by decide) ?_
                        exact hkc65 _ (Option.some.inj hf).symm H locs ls hP hS (lv_sub hl [0, 1, 2, 3, 4, 5, 6] rfl)
                · intro v7_15 e H locs ls hP hS hl
                  subst o65
                  have hf := u1_e hf
                  refine lv_iload_n hx hb dX8_planned_102 rfl (lv_at hl 6 rfl) ?_
                  refine lv_if_eq (tgt := 120) hx hb dX8_planned_103 (by decide) (fun c_20 => ?_) (fun c_20 => ?_)
                  · have hf := i_t c_20 hf
                    refine lv_iload hx hb dX8_planned_120 (lv_at hl 0 rfl) ?_
                    exact jn122 v4_11 v6_9 v7_15 v7_15 hf H locs ls hP hS (lv_sub hl [3, 4, 5, 6, 2, 1, 0] rfl)
                  · have hf := i_f c_20 hf
                    refine lv_aload_n hx hb dX8_planned_106 rfl (lv_at hl 3 rfl) ?_
                    refine lv_iload hx hb dX8_planned_107 (lv_at hl 0 rfl) ?_
                    refine lv_iload hx hb dX8_planned_109 (lv_at hl 2 rfl) ?_
                    obtain ⟨r_26, h_r_26, hf⟩ := b_d hf
                    refine k_X8_waysOf hZ hP hS hl.1 wd_4_129 ⟨Nat.le_of_ble_eq_true rfl, Nat.le_of_ble_eq_true rfl⟩ (Nat.le_of_ble_eq_true rfl) dX8_planned_111 ⟨Nat.zero_le _, Nat.zero_le _⟩ h_r_26 (fun H locs hP hS => ?_)
                    obtain ⟨r_27, h_r_27, hf⟩ := b_d hf
                    refine k_X8_lowest hZ hP hS hl.1 wd_4_206 ⟨Nat.le_of_ble_eq_true rfl, Nat.le_of_ble_eq_true rfl⟩ (Nat.le_of_ble_eq_true rfl) dX8_planned_114 ⟨Nat.zero_le _, Nat.zero_le _⟩ h_r_27 (fun H locs hP hS => ?_)
                    refine lv_goto (tgt := 122) hx hb dX8_planned_117 (by decide) ?_
                    exact jn122 v4_11 v6_9 v7_15 r_27 hf H locs ls hP hS (lv_sub hl [3, 4, 5, 6, 2, 1, 0] rfl)
            · intro v5_12 e H locs ls hP hS hl
              subst o56
              have hf := u1_e hf
              refine lv_iload hx hb dX8_planned_139 (lv_at hl 0 rfl) ?_
              have hf := Option.some.inj hf
              obtain ⟨e1, e2⟩ := Prod.mk.inj hf
              rw [e2] at hP
              exact ret_i hx hb hr hlocks hP hS e1 dX8_planned_141
          · have hf := i_f c_7 hf
            refine lv_bipush (v := (-9 : Int32)) hx hb dX8_planned_38 (by decide) ?_
            have hf := Option.some.inj hf
            obtain ⟨e1, e2⟩ := Prod.mk.inj hf
            rw [e2] at hP
            exact ret_i hx hb hr hlocks hP hS e1 dX8_planned_40
      · have hf := i_f c_2 hf
        refine lv_iconst (v := (-1 : Int32)) hx hb dX8_planned_12 (by decide) ?_
        have hf := Option.some.inj hf
        obtain ⟨e1, e2⟩ := Prod.mk.inj hf
        rw [e2] at hP
        exact ret_i hx hb hr hlocks hP hS e1 dX8_planned_13
  exact key s.heap [] hP hS
theorem hd_X8_planned : Hd yX8_planned 3 := by decide +kernel
theorem k_X8_planned {p : Program} {l : Launch} {e : Env} {R : Room} {s : State} {m : MethodId} {args : Array Value} {below : List Frame} {meth : Method} {c : Code} {H : Heap} {locs : List Loc} {cells slots : Nat} {Q : State → Prop} {cc : ByteArray} {nL pc index : Nat} {ls : Array Slot} {rest : List Value} {X : En} {M : Mem} {H0 : Heap} {own : String} {g : Nat} {x1 : Int32} {x2 : Int32} {x3 : Int32} {r : Int32} {M9 : Mem} (hZ : Fx p c m s args X cc nL own) (hP : wd X M H) (hS : va_S X.A H0 H locs) (hsz : ls.size = nL) (hlk : Cond.methodLink own index yX8_planned ∈ lw_u) (hR : 4 + 1 ≤ R.frames ∧ 8 + (8 + 11) + 95 ≤ R.locals) (hW : (rest.map fun v => v.category).sum ≤ 8) (hdg : decode cc pc = .ok (.invokevirtual index, 3)) (hcs : cells ≤ R.cells ∧ slots ≤ R.slots) (hf : fn_X8_planned g x1 x2 x3 M = some (r, M9))
    (kk : ∀ (H1 : Heap) (locs1 : List Loc), wd X M9 H1 → va_S X.A H0 H1 locs1 → W p l e R s m args below meth c H1 locs1 cells slots Q (F0 m (pc + 3) ls (.int r :: rest))) : W p l e R s m args below meth c H locs cells slots Q (F0 m pc ls (.int x3 :: .int x2 :: .int x1 :: .ref (X.ad 61) :: rest)) :=
  cal_i (runV (As := [.int x1, .int x2, .int x3]) (rest := rest) hZ.1 hZ.2.1 hZ.2.2.1 hZ.2.2.2.1 hZ.2.2.2.2.1 hZ.2.2.2.2.2 hP (c_X8_planned g x1 x2 x3 M r M9 hf) wd_4_194 wd_4_192 wd_4_193 wd_1_9 hd_X8_planned (by decide) rfl rfl rfl hlk hR hsz rfl hW hdg hcs) hS kk
/-! FrameRaiserModel.locked -/
def fn_X8_locked (g : Nat) (x1 : Int32) (M : Mem) : Option (Int32) :=
  if (fn_X8_isSet x1 M) = 0 then
    (some (-1 : Int32))
  else
    ((fn_X8_lockedOf g x1 M).bind fun r_2 =>
    some r_2)
theorem dX8_locked_0 : decode cX8_locked 0 = .ok (.aload_n 0, 1) := by decide +kernel
theorem dX8_locked_1 : decode cX8_locked 1 = .ok (.iload_n 1, 1) := by decide +kernel
theorem dX8_locked_2 : decode cX8_locked 2 = .ok (.invokevirtual 169, 3) := by decide +kernel
theorem dX8_locked_5 : decode cX8_locked 5 = .ok (.ifCond .eq 11, 3) := by decide +kernel
theorem dX8_locked_8 : decode cX8_locked 8 = .ok (.aload_n 0, 1) := by decide +kernel
theorem dX8_locked_9 : decode cX8_locked 9 = .ok (.iload_n 1, 1) := by decide +kernel
theorem dX8_locked_10 : decode cX8_locked 10 = .ok (.invokevirtual 188, 3) := by decide +kernel
theorem dX8_locked_13 : decode cX8_locked 13 = .ok (.goto 4, 3) := by decide +kernel
theorem dX8_locked_16 : decode cX8_locked 16 = .ok (.iconst (-1), 1) := by decide +kernel
theorem dX8_locked_17 : decode cX8_locked 17 = .ok (.ireturn, 1) := by decide +kernel
set_option maxHeartbeats 4000000 in
set_option maxRecDepth 100000 in
theorem c_X8_locked {l : Launch} {X : En} (g : Nat) (x1 : Int32) (M : Mem) (r : Int32) (hf : fn_X8_locked g x1 M = some r) : Cn l X yX8_locked cX8_locked 2 (some .int) 3 71 [.ref (X.ad 61), .int x1] M (Qi X r M) := by
  refine Met.ofW (cc := cX8_locked) (maxL := 2) (ret := (some .int)) (by decide) rfl ?_
  intro p e s m args below meth c s₁ B hml hv
  obtain ⟨rfl, hP, hk⟩ := hv
  have hx := B.exec
  have hb := B.bytes
  have hr := B.returns
  have hlocks := B.notSynchronized
  have hts : ∀ w ∈ lw_u, w.before ([.ref (X.ad 61), .int x1] : List Value).toArray s = true := fun w hw => atoms_spec (ws := Cond.code yX8_locked cX8_locked 2 (some .int) :: lw_u) B.pre w (List.mem_cons_of_mem _ hw)
  have hown : s.vm.findClass RX8 = some m.cls := findClass_of_methodNamed B.named
  have hZ : Fx p c m s ([.ref (X.ad 61), .int x1] : List Value).toArray X cX8_locked 2 RX8 := ⟨hx, hb, hml, hts, hown, hk⟩
  have hS : va_S X.A s.heap s.heap [] := va_S.rf
  have hl := lv_entry ([.ref (X.ad 61), .int x1]) (n := 2) (Nat.le_of_ble_eq_true rfl)
  rw [lg_entry_eq]
  generalize (lg_sl ([.ref (X.ad 61), .int x1]) ++ List.replicate (2 - (lg_sl ([.ref (X.ad 61), .int x1])).length) Slot.unset).toArray = ls at hl ⊢
  have hl : lv_has ls 2 [(0, .ref (X.ad 61)), (1, .int x1)] := hl
  show WW p l e 3 71 s m [.ref (X.ad 61), .int x1] below meth c X (Qi X r M) s.heap [] 0 ls []
  have hP : wd X M s.heap := hP
  unfold fn_X8_locked at hf
  have key : ∀ (H : Heap) (locs : List Loc), wd X M H → va_S X.A s.heap H locs → WW p l e 3 71 s m [.ref (X.ad 61), .int x1] below meth c X (Qi X r M) H locs 0 ls [] := by
    intro H locs hP hS
    refine lv_aload_n hx hb dX8_locked_0 rfl (lv_at hl 0 rfl) ?_
    refine lv_iload_n hx hb dX8_locked_1 rfl (lv_at hl 1 rfl) ?_
    refine k_X8_isSet hZ hP hS hl.1 wd_4_121 ⟨Nat.le_of_ble_eq_true rfl, Nat.le_of_ble_eq_true rfl⟩ (Nat.le_of_ble_eq_true rfl) dX8_locked_2 ⟨Nat.zero_le _, Nat.zero_le _⟩ (fun H locs hP hS => ?_)
    refine lv_if_eq (tgt := 16) hx hb dX8_locked_5 (by decide) (fun c_1 => ?_) (fun c_1 => ?_)
    · have hf := i_t c_1 hf
      refine lv_iconst (v := (-1 : Int32)) hx hb dX8_locked_16 (by decide) ?_
      have hf := Option.some.inj hf
      exact ret_i hx hb hr hlocks hP hS hf dX8_locked_17
    · have hf := i_f c_1 hf
      refine lv_aload_n hx hb dX8_locked_8 rfl (lv_at hl 0 rfl) ?_
      refine lv_iload_n hx hb dX8_locked_9 rfl (lv_at hl 1 rfl) ?_
      obtain ⟨r_2, h_r_2, hf⟩ := b_d hf
      refine k_X8_lockedOf hZ hP hS hl.1 wd_4_213 ⟨Nat.le_of_ble_eq_true rfl, Nat.le_of_ble_eq_true rfl⟩ (Nat.le_of_ble_eq_true rfl) dX8_locked_10 ⟨Nat.zero_le _, Nat.zero_le _⟩ h_r_2 (fun H locs hP hS => ?_)
      refine lv_goto (tgt := 17) hx hb dX8_locked_13 (by decide) ?_
      have hf := Option.some.inj hf
      exact ret_i hx hb hr hlocks hP hS hf dX8_locked_17
  exact key s.heap [] hP hS
theorem hd_X8_locked : Hd yX8_locked 1 := by decide +kernel
theorem k_X8_locked {p : Program} {l : Launch} {e : Env} {R : Room} {s : State} {m : MethodId} {args : Array Value} {below : List Frame} {meth : Method} {c : Code} {H : Heap} {locs : List Loc} {cells slots : Nat} {Q : State → Prop} {cc : ByteArray} {nL pc index : Nat} {ls : Array Slot} {rest : List Value} {X : En} {M : Mem} {H0 : Heap} {own : String} {g : Nat} {x1 : Int32} {r : Int32} (hZ : Fx p c m s args X cc nL own) (hP : wd X M H) (hS : va_S X.A H0 H locs) (hsz : ls.size = nL) (hlk : Cond.methodLink own index yX8_locked ∈ lw_u) (hR : 3 + 1 ≤ R.frames ∧ 8 + (2 + 11) + 71 ≤ R.locals) (hW : (rest.map fun v => v.category).sum ≤ 8) (hdg : decode cc pc = .ok (.invokevirtual index, 3)) (hcs : cells ≤ R.cells ∧ slots ≤ R.slots) (hf : fn_X8_locked g x1 M = some r)
    (kk : ∀ (H1 : Heap) (locs1 : List Loc), wd X M H1 → va_S X.A H0 H1 locs1 → W p l e R s m args below meth c H1 locs1 cells slots Q (F0 m (pc + 3) ls (.int r :: rest))) : W p l e R s m args below meth c H locs cells slots Q (F0 m pc ls (.int x1 :: .ref (X.ad 61) :: rest)) :=
  cal_i (runV (As := [.int x1]) (rest := rest) hZ.1 hZ.2.1 hZ.2.2.1 hZ.2.2.2.1 hZ.2.2.2.2.1 hZ.2.2.2.2.2 hP (c_X8_locked g x1 M r hf) wd_4_212 wd_4_210 wd_4_211 wd_1_9 hd_X8_locked (by decide) rfl rfl rfl hlk hR hsz rfl hW hdg hcs) hS kk
/-! FrameRaiserModel.firstGroup -/
def jn_X8_firstGroup_26 (v3_4 : Int32) : Option (Int32) :=
  some v3_4
def fn_X8_firstGroup (g : Nat) (x1 : Int32) (x2 : Int32) (M : Mem) : Option (Int32) :=
  if (fn_X8_isSet x1 M) = 0 then
    (some (-1 : Int32))
  else
    ((fn_X8_groupOf g x1 M).bind fun r_2 =>
    if r_2 = (-9 : Int32) then
      (jn_X8_firstGroup_26 r_2)
    else
      (if x2 = 0 then
        (jn_X8_firstGroup_26 r_2)
      else
        ((fn_X8_commonWays g r_2 (x1 &&& (r_2 ^^^ (-1 : Int32))) M).bind fun r_6 =>
        (fn_X8_lowest g r_6).bind fun r_7 =>
        some r_7)))
theorem dX8_firstGroup_0 : decode cX8_firstGroup 0 = .ok (.aload_n 0, 1) := by decide +kernel
theorem dX8_firstGroup_1 : decode cX8_firstGroup 1 = .ok (.iload_n 1, 1) := by decide +kernel
theorem dX8_firstGroup_2 : decode cX8_firstGroup 2 = .ok (.invokevirtual 169, 3) := by decide +kernel
theorem dX8_firstGroup_5 : decode cX8_firstGroup 5 = .ok (.ifCond .ne 5, 3) := by decide +kernel
theorem dX8_firstGroup_8 : decode cX8_firstGroup 8 = .ok (.iconst (-1), 1) := by decide +kernel
theorem dX8_firstGroup_9 : decode cX8_firstGroup 9 = .ok (.ireturn, 1) := by decide +kernel
theorem dX8_firstGroup_10 : decode cX8_firstGroup 10 = .ok (.aload_n 0, 1) := by decide +kernel
theorem dX8_firstGroup_11 : decode cX8_firstGroup 11 = .ok (.iload_n 1, 1) := by decide +kernel
theorem dX8_firstGroup_12 : decode cX8_firstGroup 12 = .ok (.invokevirtual 191, 3) := by decide +kernel
theorem dX8_firstGroup_15 : decode cX8_firstGroup 15 = .ok (.istore_n 3, 1) := by decide +kernel
theorem dX8_firstGroup_16 : decode cX8_firstGroup 16 = .ok (.iload_n 3, 1) := by decide +kernel
theorem dX8_firstGroup_17 : decode cX8_firstGroup 17 = .ok (.bipush (-9), 2) := by decide +kernel
theorem dX8_firstGroup_19 : decode cX8_firstGroup 19 = .ok (.if_icmp .eq 7, 3) := by decide +kernel
theorem dX8_firstGroup_22 : decode cX8_firstGroup 22 = .ok (.iload_n 2, 1) := by decide +kernel
theorem dX8_firstGroup_23 : decode cX8_firstGroup 23 = .ok (.ifCond .ne 7, 3) := by decide +kernel
theorem dX8_firstGroup_26 : decode cX8_firstGroup 26 = .ok (.iload_n 3, 1) := by decide +kernel
theorem dX8_firstGroup_27 : decode cX8_firstGroup 27 = .ok (.goto 16, 3) := by decide +kernel
theorem dX8_firstGroup_30 : decode cX8_firstGroup 30 = .ok (.aload_n 0, 1) := by decide +kernel
theorem dX8_firstGroup_31 : decode cX8_firstGroup 31 = .ok (.iload_n 3, 1) := by decide +kernel
theorem dX8_firstGroup_32 : decode cX8_firstGroup 32 = .ok (.iload_n 1, 1) := by decide +kernel
theorem dX8_firstGroup_33 : decode cX8_firstGroup 33 = .ok (.iload_n 3, 1) := by decide +kernel
theorem dX8_firstGroup_34 : decode cX8_firstGroup 34 = .ok (.iconst (-1), 1) := by decide +kernel
theorem dX8_firstGroup_35 : decode cX8_firstGroup 35 = .ok (.ixor, 1) := by decide +kernel
theorem dX8_firstGroup_36 : decode cX8_firstGroup 36 = .ok (.iand, 1) := by decide +kernel
theorem dX8_firstGroup_37 : decode cX8_firstGroup 37 = .ok (.invokevirtual 101, 3) := by decide +kernel
theorem dX8_firstGroup_40 : decode cX8_firstGroup 40 = .ok (.invokestatic 185, 3) := by decide +kernel
theorem dX8_firstGroup_43 : decode cX8_firstGroup 43 = .ok (.ireturn, 1) := by decide +kernel
set_option maxHeartbeats 4000000 in
set_option maxRecDepth 100000 in
theorem c_X8_firstGroup {l : Launch} {X : En} (g : Nat) (x1 : Int32) (x2 : Int32) (M : Mem) (r : Int32) (hf : fn_X8_firstGroup g x1 x2 M = some r) : Cn l X yX8_firstGroup cX8_firstGroup 4 (some .int) 4 95 [.ref (X.ad 61), .int x1, .int x2] M (Qi X r M) := by
  refine Met.ofW (cc := cX8_firstGroup) (maxL := 4) (ret := (some .int)) (by decide) rfl ?_
  intro p e s m args below meth c s₁ B hml hv
  obtain ⟨rfl, hP, hk⟩ := hv
  have hx := B.exec
  have hb := B.bytes
  have hr := B.returns
  have hlocks := B.notSynchronized
  have hts : ∀ w ∈ lw_u, w.before ([.ref (X.ad 61), .int x1, .int x2] : List Value).toArray s = true := fun w hw => atoms_spec (ws := Cond.code yX8_firstGroup cX8_firstGroup 4 (some .int) :: lw_u) B.pre w (List.mem_cons_of_mem _ hw)
  have hown : s.vm.findClass RX8 = some m.cls := findClass_of_methodNamed B.named
  have hZ : Fx p c m s ([.ref (X.ad 61), .int x1, .int x2] : List Value).toArray X cX8_firstGroup 4 RX8 := ⟨hx, hb, hml, hts, hown, hk⟩
  have hS : va_S X.A s.heap s.heap [] := va_S.rf
  have hl := lv_entry ([.ref (X.ad 61), .int x1, .int x2]) (n := 4) (Nat.le_of_ble_eq_true rfl)
  rw [lg_entry_eq]
  generalize (lg_sl ([.ref (X.ad 61), .int x1, .int x2]) ++ List.replicate (4 - (lg_sl ([.ref (X.ad 61), .int x1, .int x2])).length) Slot.unset).toArray = ls at hl ⊢
  have hl : lv_has ls 4 [(0, .ref (X.ad 61)), (1, .int x1), (2, .int x2)] := hl
  show WW p l e 4 95 s m [.ref (X.ad 61), .int x1, .int x2] below meth c X (Qi X r M) s.heap [] 0 ls []
  have hP : wd X M s.heap := hP
  have jn26 : ∀ (v3_4 : Int32), jn_X8_firstGroup_26 v3_4 = some r → ∀ (H : Heap) (locs : List Loc) (ls : Array Slot), wd X M H → va_S X.A s.heap H locs → lv_has ls 4 [(3, .int v3_4)] → WW p l e 4 95 s m [.ref (X.ad 61), .int x1, .int x2] below meth c X (Qi X r M) H locs 26 ls [] := by
    intro v3_4  hf H locs ls hP hS hl
    unfold jn_X8_firstGroup_26 at hf
    refine lv_iload_n hx hb dX8_firstGroup_26 rfl (lv_at hl 0 rfl) ?_
    refine lv_goto (tgt := 43) hx hb dX8_firstGroup_27 (by decide) ?_
    have hf := Option.some.inj hf
    exact ret_i hx hb hr hlocks hP hS hf dX8_firstGroup_43
  unfold fn_X8_firstGroup at hf
  have key : ∀ (H : Heap) (locs : List Loc), wd X M H → va_S X.A s.heap H locs → WW p l e 4 95 s m [.ref (X.ad 61), .int x1, .int x2] below meth c X (Qi X r M) H locs 0 ls [] := by
    intro H locs hP hS
    refine lv_aload_n hx hb dX8_firstGroup_0 rfl (lv_at hl 0 rfl) ?_
    refine lv_iload_n hx hb dX8_firstGroup_1 rfl (lv_at hl 1 rfl) ?_
    refine k_X8_isSet hZ hP hS hl.1 wd_4_121 ⟨Nat.le_of_ble_eq_true rfl, Nat.le_of_ble_eq_true rfl⟩ (Nat.le_of_ble_eq_true rfl) dX8_firstGroup_2 ⟨Nat.zero_le _, Nat.zero_le _⟩ (fun H locs hP hS => ?_)
    refine lv_if_ne (tgt := 10) hx hb dX8_firstGroup_5 (by decide) (fun c_1 => ?_) (fun c_1 => ?_)
    · have hf := i_f c_1 hf
      refine lv_aload_n hx hb dX8_firstGroup_10 rfl (lv_at hl 0 rfl) ?_
      refine lv_iload_n hx hb dX8_firstGroup_11 rfl (lv_at hl 1 rfl) ?_
      obtain ⟨r_2, h_r_2, hf⟩ := b_d hf
      refine k_X8_groupOf hZ hP hS hl.1 wd_4_221 ⟨Nat.le_of_ble_eq_true rfl, Nat.le_of_ble_eq_true rfl⟩ (Nat.le_of_ble_eq_true rfl) dX8_firstGroup_12 ⟨Nat.zero_le _, Nat.zero_le _⟩ h_r_2 (fun H locs hP hS => ?_)
      refine lv_istore_n (lv' := [(3, .int r_2), (0, .ref (X.ad 61)), (1, .int x1), (2, .int x2)]) hx hb dX8_firstGroup_15 rfl hl (by decide) rfl (fun ls hl => ?_)
      refine lv_iload_n hx hb dX8_firstGroup_16 rfl (lv_at hl 0 rfl) ?_
      refine lv_bipush (v := (-9 : Int32)) hx hb dX8_firstGroup_17 (by decide) ?_
      refine lv_icmp_eq (tgt := 26) hx hb dX8_firstGroup_19 (by decide) (fun c_3 => ?_) (fun c_3 => ?_)
      · have hf := i_t c_3 hf
        exact jn26 r_2 hf H locs ls hP hS (lv_sub hl [0] rfl)
      · have hf := i_f c_3 hf
        refine lv_iload_n hx hb dX8_firstGroup_22 rfl (lv_at hl 3 rfl) ?_
        refine lv_if_ne (tgt := 30) hx hb dX8_firstGroup_23 (by decide) (fun c_5 => ?_) (fun c_5 => ?_)
        · have hf := i_f c_5 hf
          refine lv_aload_n hx hb dX8_firstGroup_30 rfl (lv_at hl 1 rfl) ?_
          refine lv_iload_n hx hb dX8_firstGroup_31 rfl (lv_at hl 0 rfl) ?_
          refine lv_iload_n hx hb dX8_firstGroup_32 rfl (lv_at hl 2 rfl) ?_
          refine lv_iload_n hx hb dX8_firstGroup_33 rfl (lv_at hl 0 rfl) ?_
          refine lv_iconst (v := (-1 : Int32)) hx hb dX8_firstGroup_34 (by decide) ?_
          refine lv_ixor hx hb dX8_firstGroup_35 ?_
          refine lv_iand hx hb dX8_firstGroup_36 ?_
          obtain ⟨r_6, h_r_6, hf⟩ := b_d hf
          refine k_X8_commonWays hZ hP hS hl.1 wd_4_225 ⟨Nat.le_of_ble_eq_true rfl, Nat.le_of_ble_eq_true rfl⟩ (Nat.le_of_ble_eq_true rfl) dX8_firstGroup_37 ⟨Nat.zero_le _, Nat.zero_le _⟩ h_r_6 (fun H locs hP hS => ?_)
          obtain ⟨r_7, h_r_7, hf⟩ := b_d hf
          refine k_X8_lowest hZ hP hS hl.1 wd_4_206 ⟨Nat.le_of_ble_eq_true rfl, Nat.le_of_ble_eq_true rfl⟩ (Nat.le_of_ble_eq_true rfl) dX8_firstGroup_40 ⟨Nat.zero_le _, Nat.zero_le _⟩ h_r_7 (fun H locs hP hS => ?_)
          have hf := Option.some.inj hf
          exact ret_i hx hb hr hlocks hP hS hf dX8_firstGroup_43
        · have hf := i_t c_5 hf
          exact jn26 r_2 hf H locs ls hP hS (lv_sub hl [0] rfl)
    · have hf := i_t c_1 hf
      refine lv_iconst (v := (-1 : Int32)) hx hb dX8_firstGroup_8 (by decide) ?_
      have hf := Option.some.inj hf
      exact ret_i hx hb hr hlocks hP hS hf dX8_firstGroup_9
  exact key s.heap [] hP hS
theorem hd_X8_firstGroup : Hd yX8_firstGroup 2 := by decide +kernel
theorem k_X8_firstGroup {p : Program} {l : Launch} {e : Env} {R : Room} {s : State} {m : MethodId} {args : Array Value} {below : List Frame} {meth : Method} {c : Code} {H : Heap} {locs : List Loc} {cells slots : Nat} {Q : State → Prop} {cc : ByteArray} {nL pc index : Nat} {ls : Array Slot} {rest : List Value} {X : En} {M : Mem} {H0 : Heap} {own : String} {g : Nat} {x1 : Int32} {x2 : Int32} {r : Int32} (hZ : Fx p c m s args X cc nL own) (hP : wd X M H) (hS : va_S X.A H0 H locs) (hsz : ls.size = nL) (hlk : Cond.methodLink own index yX8_firstGroup ∈ lw_u) (hR : 4 + 1 ≤ R.frames ∧ 8 + (4 + 11) + 95 ≤ R.locals) (hW : (rest.map fun v => v.category).sum ≤ 8) (hdg : decode cc pc = .ok (.invokevirtual index, 3)) (hcs : cells ≤ R.cells ∧ slots ≤ R.slots) (hf : fn_X8_firstGroup g x1 x2 M = some r)
    (kk : ∀ (H1 : Heap) (locs1 : List Loc), wd X M H1 → va_S X.A H0 H1 locs1 → W p l e R s m args below meth c H1 locs1 cells slots Q (F0 m (pc + 3) ls (.int r :: rest))) : W p l e R s m args below meth c H locs cells slots Q (F0 m pc ls (.int x2 :: .int x1 :: .ref (X.ad 61) :: rest)) :=
  cal_i (runV (As := [.int x1, .int x2]) (rest := rest) hZ.1 hZ.2.1 hZ.2.2.1 hZ.2.2.2.1 hZ.2.2.2.2.1 hZ.2.2.2.2.2 hP (c_X8_firstGroup g x1 x2 M r hf) wd_4_220 wd_4_218 wd_4_219 wd_1_9 hd_X8_firstGroup (by decide) rfl rfl rfl hlk hR hsz rfl hW hdg hcs) hS kk
/-! FrameRaiserModel.put -/
def fn_X8_put (g : Nat) (x1 : Int32) (x2 : Int32) (M : Mem) : Option (Int32 × Mem) :=
  if (fn_X8_isPiece x1 M) = 0 then
    (some ((-1 : Int32), M))
  else
    (if (fn_X8_isDirection x2) = 0 then
      (some ((-1 : Int32), M))
    else
      (if (fn_X8_has (M 62 (ix (1 : Int32))) x1) = 0 then
        ((fn_X8_isFree x1 (M 62 (ix (1 : Int32))) x2 M).bind fun r_4 =>
        if r_4 = 0 then
          (some ((-2 : Int32), M))
        else
          ((fn_X8_records g M).bind fun M_6 =>
          bv (st M_6 62 (ix (1 : Int32)) ((M_6 62 (ix (1 : Int32))) ||| (sl (1 : Int32) x1))) fun M_7 =>
          bv (st M_7 62 (ix (2 : Int32)) ((M_7 62 (ix (2 : Int32))) + (1 : Int32))) fun M_8 =>
          (fn_X8_propsOf g (M_8 62 (ix (1 : Int32))) M_8).bind fun r_9 =>
          some (r_9, M_8)))
      else
        (some ((-2 : Int32), M))))
theorem dX8_put_0 : decode cX8_put 0 = .ok (.aload_n 0, 1) := by decide +kernel
theorem dX8_put_1 : decode cX8_put 1 = .ok (.iload_n 1, 1) := by decide +kernel
theorem dX8_put_2 : decode cX8_put 2 = .ok (.invokevirtual 146, 3) := by decide +kernel
theorem dX8_put_5 : decode cX8_put 5 = .ok (.ifCond .eq 10, 3) := by decide +kernel
theorem dX8_put_8 : decode cX8_put 8 = .ok (.iload_n 2, 1) := by decide +kernel
theorem dX8_put_9 : decode cX8_put 9 = .ok (.invokestatic 153, 3) := by decide +kernel
theorem dX8_put_12 : decode cX8_put 12 = .ok (.ifCond .ne 5, 3) := by decide +kernel
theorem dX8_put_15 : decode cX8_put 15 = .ok (.iconst (-1), 1) := by decide +kernel
theorem dX8_put_16 : decode cX8_put 16 = .ok (.ireturn, 1) := by decide +kernel
theorem dX8_put_17 : decode cX8_put 17 = .ok (.aload_n 0, 1) := by decide +kernel
theorem dX8_put_18 : decode cX8_put 18 = .ok (.getfield 7, 3) := by decide +kernel
theorem dX8_put_21 : decode cX8_put 21 = .ok (.iconst 1, 1) := by decide +kernel
theorem dX8_put_22 : decode cX8_put 22 = .ok (.iaload, 1) := by decide +kernel
theorem dX8_put_23 : decode cX8_put 23 = .ok (.iload_n 1, 1) := by decide +kernel
theorem dX8_put_24 : decode cX8_put 24 = .ok (.invokestatic 76, 3) := by decide +kernel
theorem dX8_put_27 : decode cX8_put 27 = .ok (.ifCond .ne 18, 3) := by decide +kernel
theorem dX8_put_30 : decode cX8_put 30 = .ok (.aload_n 0, 1) := by decide +kernel
theorem dX8_put_31 : decode cX8_put 31 = .ok (.iload_n 1, 1) := by decide +kernel
theorem dX8_put_32 : decode cX8_put 32 = .ok (.aload_n 0, 1) := by decide +kernel
theorem dX8_put_33 : decode cX8_put 33 = .ok (.getfield 7, 3) := by decide +kernel
theorem dX8_put_36 : decode cX8_put 36 = .ok (.iconst 1, 1) := by decide +kernel
theorem dX8_put_37 : decode cX8_put 37 = .ok (.iaload, 1) := by decide +kernel
theorem dX8_put_38 : decode cX8_put 38 = .ok (.iload_n 2, 1) := by decide +kernel
theorem dX8_put_39 : decode cX8_put 39 = .ok (.invokevirtual 73, 3) := by decide +kernel
theorem dX8_put_42 : decode cX8_put 42 = .ok (.ifCond .ne 6, 3) := by decide +kernel
theorem dX8_put_45 : decode cX8_put 45 = .ok (.bipush (-2), 2) := by decide +kernel
theorem dX8_put_47 : decode cX8_put 47 = .ok (.ireturn, 1) := by decide +kernel
theorem dX8_put_48 : decode cX8_put 48 = .ok (.aload_n 0, 1) := by decide +kernel
theorem dX8_put_49 : decode cX8_put 49 = .ok (.invokevirtual 139, 3) := by decide +kernel
theorem dX8_put_52 : decode cX8_put 52 = .ok (.aload_n 0, 1) := by decide +kernel
theorem dX8_put_53 : decode cX8_put 53 = .ok (.getfield 7, 3) := by decide +kernel
theorem dX8_put_56 : decode cX8_put 56 = .ok (.iconst 1, 1) := by decide +kernel
theorem dX8_put_57 : decode cX8_put 57 = .ok (.dup2, 1) := by decide +kernel
theorem dX8_put_58 : decode cX8_put 58 = .ok (.iaload, 1) := by decide +kernel
theorem dX8_put_59 : decode cX8_put 59 = .ok (.iconst 1, 1) := by decide +kernel
theorem dX8_put_60 : decode cX8_put 60 = .ok (.iload_n 1, 1) := by decide +kernel
theorem dX8_put_61 : decode cX8_put 61 = .ok (.ishl, 1) := by decide +kernel
theorem dX8_put_62 : decode cX8_put 62 = .ok (.ior, 1) := by decide +kernel
theorem dX8_put_63 : decode cX8_put 63 = .ok (.iastore, 1) := by decide +kernel
theorem dX8_put_64 : decode cX8_put 64 = .ok (.aload_n 0, 1) := by decide +kernel
theorem dX8_put_65 : decode cX8_put 65 = .ok (.getfield 7, 3) := by decide +kernel
theorem dX8_put_68 : decode cX8_put 68 = .ok (.iconst 2, 1) := by decide +kernel
theorem dX8_put_69 : decode cX8_put 69 = .ok (.dup2, 1) := by decide +kernel
theorem dX8_put_70 : decode cX8_put 70 = .ok (.iaload, 1) := by decide +kernel
theorem dX8_put_71 : decode cX8_put 71 = .ok (.iconst 1, 1) := by decide +kernel
theorem dX8_put_72 : decode cX8_put 72 = .ok (.iadd, 1) := by decide +kernel
theorem dX8_put_73 : decode cX8_put 73 = .ok (.iastore, 1) := by decide +kernel
theorem dX8_put_74 : decode cX8_put 74 = .ok (.aload_n 0, 1) := by decide +kernel
theorem dX8_put_75 : decode cX8_put 75 = .ok (.aload_n 0, 1) := by decide +kernel
theorem dX8_put_76 : decode cX8_put 76 = .ok (.getfield 7, 3) := by decide +kernel
theorem dX8_put_79 : decode cX8_put 79 = .ok (.iconst 1, 1) := by decide +kernel
theorem dX8_put_80 : decode cX8_put 80 = .ok (.iaload, 1) := by decide +kernel
theorem dX8_put_81 : decode cX8_put 81 = .ok (.invokevirtual 92, 3) := by decide +kernel
theorem dX8_put_84 : decode cX8_put 84 = .ok (.ireturn, 1) := by decide +kernel
set_option maxHeartbeats 4000000 in
set_option maxRecDepth 100000 in
theorem c_X8_put {l : Launch} {X : En} (g : Nat) (x1 : Int32) (x2 : Int32) (M : Mem) (r : Int32) (M9 : Mem) (hf : fn_X8_put g x1 x2 M = some (r, M9)) : Cn l X yX8_put cX8_put 3 (some .int) 2 44 [.ref (X.ad 61), .int x1, .int x2] M (Qi X r M9) := by
  refine Met.ofW (cc := cX8_put) (maxL := 3) (ret := (some .int)) (by decide) rfl ?_
  intro p e s m args below meth c s₁ B hml hv
  obtain ⟨rfl, hP, hk⟩ := hv
  have hx := B.exec
  have hb := B.bytes
  have hr := B.returns
  have hlocks := B.notSynchronized
  have hts : ∀ w ∈ lw_u, w.before ([.ref (X.ad 61), .int x1, .int x2] : List Value).toArray s = true := fun w hw => atoms_spec (ws := Cond.code yX8_put cX8_put 3 (some .int) :: lw_u) B.pre w (List.mem_cons_of_mem _ hw)
  have hown : s.vm.findClass RX8 = some m.cls := findClass_of_methodNamed B.named
  have hZ : Fx p c m s ([.ref (X.ad 61), .int x1, .int x2] : List Value).toArray X cX8_put 3 RX8 := ⟨hx, hb, hml, hts, hown, hk⟩
  have hS : va_S X.A s.heap s.heap [] := va_S.rf
  have hl := lv_entry ([.ref (X.ad 61), .int x1, .int x2]) (n := 3) (Nat.le_of_ble_eq_true rfl)
  rw [lg_entry_eq]
  generalize (lg_sl ([.ref (X.ad 61), .int x1, .int x2]) ++ List.replicate (3 - (lg_sl ([.ref (X.ad 61), .int x1, .int x2])).length) Slot.unset).toArray = ls at hl ⊢
  have hl : lv_has ls 3 [(0, .ref (X.ad 61)), (1, .int x1), (2, .int x2)] := hl
  show WW p l e 2 44 s m [.ref (X.ad 61), .int x1, .int x2] below meth c X (Qi X r M9) s.heap [] 0 ls []
  have hP : wd X M s.heap := hP
  unfold fn_X8_put at hf
  have key : ∀ (H : Heap) (locs : List Loc), wd X M H → va_S X.A s.heap H locs → WW p l e 2 44 s m [.ref (X.ad 61), .int x1, .int x2] below meth c X (Qi X r M9) H locs 0 ls [] := by
    intro H locs hP hS
    refine lv_aload_n hx hb dX8_put_0 rfl (lv_at hl 0 rfl) ?_
    refine lv_iload_n hx hb dX8_put_1 rfl (lv_at hl 1 rfl) ?_
    refine k_X8_isPiece hZ hP hS hl.1 wd_4_70 ⟨Nat.le_of_ble_eq_true rfl, Nat.le_of_ble_eq_true rfl⟩ (Nat.le_of_ble_eq_true rfl) dX8_put_2 ⟨Nat.zero_le _, Nat.zero_le _⟩ (fun H locs hP hS => ?_)
    refine lv_if_eq (tgt := 15) hx hb dX8_put_5 (by decide) (fun c_1 => ?_) (fun c_1 => ?_)
    · have hf := i_t c_1 hf
      refine lv_iconst (v := (-1 : Int32)) hx hb dX8_put_15 (by decide) ?_
      have hf := Option.some.inj hf
      obtain ⟨e1, e2⟩ := Prod.mk.inj hf
      rw [e2] at hP
      exact ret_i hx hb hr hlocks hP hS e1 dX8_put_16
    · have hf := i_f c_1 hf
      refine lv_iload_n hx hb dX8_put_8 rfl (lv_at hl 2 rfl) ?_
      refine k_X8_isDirection hZ hP hS hl.1 wd_4_90 ⟨Nat.le_of_ble_eq_true rfl, Nat.le_of_ble_eq_true rfl⟩ (Nat.le_of_ble_eq_true rfl) dX8_put_9 ⟨Nat.zero_le _, Nat.zero_le _⟩ (fun H locs hP hS => ?_)
      refine lv_if_ne (tgt := 17) hx hb dX8_put_12 (by decide) (fun c_2 => ?_) (fun c_2 => ?_)
      · have hf := i_f c_2 hf
        refine lv_aload_n hx hb dX8_put_17 rfl (lv_at hl 0 rfl) ?_
        refine gX8_0 hx hb hts hown hk hP wd_3_192 dX8_put_18 ?_
        refine lv_iconst (v := (1 : Int32)) hx hb dX8_put_21 (by decide) ?_
        refine ald hx hb hk hP (by decide) rfl (show inb _ _ from by decide) dX8_put_22 ?_
        refine lv_iload_n hx hb dX8_put_23 rfl (lv_at hl 1 rfl) ?_
        refine k_X8_has hZ hP hS hl.1 wd_4_153 ⟨Nat.le_of_ble_eq_true rfl, Nat.le_of_ble_eq_true rfl⟩ (Nat.le_of_ble_eq_true rfl) dX8_put_24 ⟨Nat.zero_le _, Nat.zero_le _⟩ (fun H locs hP hS => ?_)
        refine lv_if_ne (tgt := 45) hx hb dX8_put_27 (by decide) (fun c_3 => ?_) (fun c_3 => ?_)
        · have hf := i_f c_3 hf
          refine lv_bipush (v := (-2 : Int32)) hx hb dX8_put_45 (by decide) ?_
          have hf := Option.some.inj hf
          obtain ⟨e1, e2⟩ := Prod.mk.inj hf
          rw [e2] at hP
          exact ret_i hx hb hr hlocks hP hS e1 dX8_put_47
        · have hf := i_t c_3 hf
          refine lv_aload_n hx hb dX8_put_30 rfl (lv_at hl 0 rfl) ?_
          refine lv_iload_n hx hb dX8_put_31 rfl (lv_at hl 1 rfl) ?_
          refine lv_aload_n hx hb dX8_put_32 rfl (lv_at hl 0 rfl) ?_
          refine gX8_0 hx hb hts hown hk hP wd_3_192 dX8_put_33 ?_
          refine lv_iconst (v := (1 : Int32)) hx hb dX8_put_36 (by decide) ?_
          refine ald hx hb hk hP (by decide) rfl (show inb _ _ from by decide) dX8_put_37 ?_
          refine lv_iload_n hx hb dX8_put_38 rfl (lv_at hl 2 rfl) ?_
          obtain ⟨r_4, h_r_4, hf⟩ := b_d hf
          refine k_X8_isFree hZ hP hS hl.1 wd_4_133 ⟨Nat.le_of_ble_eq_true rfl, Nat.le_of_ble_eq_true rfl⟩ (Nat.le_of_ble_eq_true rfl) dX8_put_39 ⟨Nat.zero_le _, Nat.zero_le _⟩ h_r_4 (fun H locs hP hS => ?_)
          refine lv_if_ne (tgt := 48) hx hb dX8_put_42 (by decide) (fun c_5 => ?_) (fun c_5 => ?_)
          · have hf := i_f c_5 hf
            refine lv_aload_n hx hb dX8_put_48 rfl (lv_at hl 0 rfl) ?_
            obtain ⟨M_6, h_M_6, hf⟩ := b_d hf
            refine k_X8_records hZ hP hS hl.1 wd_4_47 ⟨Nat.le_of_ble_eq_true rfl, Nat.le_of_ble_eq_true rfl⟩ (Nat.le_of_ble_eq_true rfl) dX8_put_49 ⟨Nat.zero_le _, Nat.zero_le _⟩ h_M_6 (fun H locs hP hS => ?_)
            refine lv_aload_n hx hb dX8_put_52 rfl (lv_at hl 0 rfl) ?_
            refine gX8_0 hx hb hts hown hk hP wd_3_192 dX8_put_53 ?_
            refine lv_iconst (v := (1 : Int32)) hx hb dX8_put_56 (by decide) ?_
            refine lv_dup2_11 hx hb dX8_put_57 rfl rfl ?_
            refine ald hx hb hk hP (by decide) rfl (show inb _ _ from by decide) dX8_put_58 ?_
            refine lv_iconst (v := (1 : Int32)) hx hb dX8_put_59 (by decide) ?_
            refine lv_iload_n hx hb dX8_put_60 rfl (lv_at hl 1 rfl) ?_
            refine rw_ishl hx hb dX8_put_61 ?_
            refine lv_ior hx hb dX8_put_62 ?_
            refine ast hx hb hk hP hS (by decide) (fun _ => rfl) (show inb _ _ from by decide) dX8_put_63 (fun H locs M_7 e_M_7 hP hS => ?_)
            have hf := b_v hf e_M_7
            refine lv_aload_n hx hb dX8_put_64 rfl (lv_at hl 0 rfl) ?_
            refine gX8_0 hx hb hts hown hk hP wd_3_192 dX8_put_65 ?_
            refine lv_iconst (v := (2 : Int32)) hx hb dX8_put_68 (by decide) ?_
            refine lv_dup2_11 hx hb dX8_put_69 rfl rfl ?_
            refine ald hx hb hk hP (by decide) rfl (show inb _ _ from by decide) dX8_put_70 ?_
            refine lv_iconst (v := (1 : Int32)) hx hb dX8_put_71 (by decide) ?_
            refine lv_iadd hx hb dX8_put_72 ?_
            refine ast hx hb hk hP hS (by decide) (fun _ => rfl) (show inb _ _ from by decide) dX8_put_73 (fun H locs M_8 e_M_8 hP hS => ?_)
            have hf := b_v hf e_M_8
            refine lv_aload_n hx hb dX8_put_74 rfl (lv_at hl 0 rfl) ?_
            refine lv_aload_n hx hb dX8_put_75 rfl (lv_at hl 0 rfl) ?_
            refine gX8_0 hx hb hts hown hk hP wd_3_192 dX8_put_76 ?_
            refine lv_iconst (v := (1 : Int32)) hx hb dX8_put_79 (by decide) ?_
            refine ald hx hb hk hP (by decide) rfl (show inb _ _ from by decide) dX8_put_80 ?_
            obtain ⟨r_9, h_r_9, hf⟩ := b_d hf
            refine k_X8_propsOf hZ hP hS hl.1 wd_4_160 ⟨Nat.le_of_ble_eq_true rfl, Nat.le_of_ble_eq_true rfl⟩ (Nat.le_of_ble_eq_true rfl) dX8_put_81 ⟨Nat.zero_le _, Nat.zero_le _⟩ h_r_9 (fun H locs hP hS => ?_)
            have hf := Option.some.inj hf
            obtain ⟨e1, e2⟩ := Prod.mk.inj hf
            rw [e2] at hP
            exact ret_i hx hb hr hlocks hP hS e1 dX8_put_84
          · have hf := i_t c_5 hf
            refine lv_bipush (v := (-2 : Int32)) hx hb dX8_put_45 (by decide) ?_
            have hf := Option.some.inj hf
            obtain ⟨e1, e2⟩ := Prod.mk.inj hf
            rw [e2] at hP
            exact ret_i hx hb hr hlocks hP hS e1 dX8_put_47
      · have hf := i_t c_2 hf
        refine lv_iconst (v := (-1 : Int32)) hx hb dX8_put_15 (by decide) ?_
        have hf := Option.some.inj hf
        obtain ⟨e1, e2⟩ := Prod.mk.inj hf
        rw [e2] at hP
        exact ret_i hx hb hr hlocks hP hS e1 dX8_put_16
  exact key s.heap [] hP hS
theorem hd_X8_put : Hd yX8_put 2 := by decide +kernel
theorem k_X8_put {p : Program} {l : Launch} {e : Env} {R : Room} {s : State} {m : MethodId} {args : Array Value} {below : List Frame} {meth : Method} {c : Code} {H : Heap} {locs : List Loc} {cells slots : Nat} {Q : State → Prop} {cc : ByteArray} {nL pc index : Nat} {ls : Array Slot} {rest : List Value} {X : En} {M : Mem} {H0 : Heap} {own : String} {g : Nat} {x1 : Int32} {x2 : Int32} {r : Int32} {M9 : Mem} (hZ : Fx p c m s args X cc nL own) (hP : wd X M H) (hS : va_S X.A H0 H locs) (hsz : ls.size = nL) (hlk : Cond.methodLink own index yX8_put ∈ lw_u) (hR : 2 + 1 ≤ R.frames ∧ 8 + (3 + 11) + 44 ≤ R.locals) (hW : (rest.map fun v => v.category).sum ≤ 8) (hdg : decode cc pc = .ok (.invokevirtual index, 3)) (hcs : cells ≤ R.cells ∧ slots ≤ R.slots) (hf : fn_X8_put g x1 x2 M = some (r, M9))
    (kk : ∀ (H1 : Heap) (locs1 : List Loc), wd X M9 H1 → va_S X.A H0 H1 locs1 → W p l e R s m args below meth c H1 locs1 cells slots Q (F0 m (pc + 3) ls (.int r :: rest))) : W p l e R s m args below meth c H locs cells slots Q (F0 m pc ls (.int x2 :: .int x1 :: .ref (X.ad 61) :: rest)) :=
  cal_i (runV (As := [.int x1, .int x2]) (rest := rest) hZ.1 hZ.2.1 hZ.2.2.1 hZ.2.2.2.1 hZ.2.2.2.2.1 hZ.2.2.2.2.2 hP (c_X8_put g x1 x2 M r M9 hf) wd_4_232 wd_4_230 wd_4_231 wd_1_9 hd_X8_put (by decide) rfl rfl rfl hlk hR hsz rfl hW hdg hcs) hS kk
/-! FrameRaiserModel.takeOut -/
def fn_X8_takeOut (g : Nat) (x1 : Int32) (x2 : Int32) (M : Mem) : Option (Int32 × Mem) :=
  if (fn_X8_isPiece x1 M) = 0 then
    (some ((-1 : Int32), M))
  else
    (if (fn_X8_isDirection x2) = 0 then
      (some ((-1 : Int32), M))
    else
      (if (fn_X8_has (M 62 (ix (1 : Int32))) x1) = 0 then
        (some ((-2 : Int32), M))
      else
        ((fn_X8_isFree x1 (M 62 (ix (1 : Int32))) x2 M).bind fun r_4 =>
        if r_4 = 0 then
          (some ((-2 : Int32), M))
        else
          ((fn_X8_records g M).bind fun M_6 =>
          bv (st M_6 62 (ix (1 : Int32)) ((M_6 62 (ix (1 : Int32))) &&& ((sl (1 : Int32) x1) ^^^ (-1 : Int32)))) fun M_7 =>
          bv (st M_7 62 (ix (2 : Int32)) ((M_7 62 (ix (2 : Int32))) + (1 : Int32))) fun M_8 =>
          (fn_X8_propsOf g (M_8 62 (ix (1 : Int32))) M_8).bind fun r_9 =>
          some (r_9, M_8)))))
theorem dX8_takeOut_0 : decode cX8_takeOut 0 = .ok (.aload_n 0, 1) := by decide +kernel
theorem dX8_takeOut_1 : decode cX8_takeOut 1 = .ok (.iload_n 1, 1) := by decide +kernel
theorem dX8_takeOut_2 : decode cX8_takeOut 2 = .ok (.invokevirtual 146, 3) := by decide +kernel
theorem dX8_takeOut_5 : decode cX8_takeOut 5 = .ok (.ifCond .eq 10, 3) := by decide +kernel
theorem dX8_takeOut_8 : decode cX8_takeOut 8 = .ok (.iload_n 2, 1) := by decide +kernel
theorem dX8_takeOut_9 : decode cX8_takeOut 9 = .ok (.invokestatic 153, 3) := by decide +kernel
theorem dX8_takeOut_12 : decode cX8_takeOut 12 = .ok (.ifCond .ne 5, 3) := by decide +kernel
theorem dX8_takeOut_15 : decode cX8_takeOut 15 = .ok (.iconst (-1), 1) := by decide +kernel
theorem dX8_takeOut_16 : decode cX8_takeOut 16 = .ok (.ireturn, 1) := by decide +kernel
theorem dX8_takeOut_17 : decode cX8_takeOut 17 = .ok (.aload_n 0, 1) := by decide +kernel
theorem dX8_takeOut_18 : decode cX8_takeOut 18 = .ok (.getfield 7, 3) := by decide +kernel
theorem dX8_takeOut_21 : decode cX8_takeOut 21 = .ok (.iconst 1, 1) := by decide +kernel
theorem dX8_takeOut_22 : decode cX8_takeOut 22 = .ok (.iaload, 1) := by decide +kernel
theorem dX8_takeOut_23 : decode cX8_takeOut 23 = .ok (.iload_n 1, 1) := by decide +kernel
theorem dX8_takeOut_24 : decode cX8_takeOut 24 = .ok (.invokestatic 76, 3) := by decide +kernel
theorem dX8_takeOut_27 : decode cX8_takeOut 27 = .ok (.ifCond .eq 18, 3) := by decide +kernel
theorem dX8_takeOut_30 : decode cX8_takeOut 30 = .ok (.aload_n 0, 1) := by decide +kernel
theorem dX8_takeOut_31 : decode cX8_takeOut 31 = .ok (.iload_n 1, 1) := by decide +kernel
theorem dX8_takeOut_32 : decode cX8_takeOut 32 = .ok (.aload_n 0, 1) := by decide +kernel
theorem dX8_takeOut_33 : decode cX8_takeOut 33 = .ok (.getfield 7, 3) := by decide +kernel
theorem dX8_takeOut_36 : decode cX8_takeOut 36 = .ok (.iconst 1, 1) := by decide +kernel
theorem dX8_takeOut_37 : decode cX8_takeOut 37 = .ok (.iaload, 1) := by decide +kernel
theorem dX8_takeOut_38 : decode cX8_takeOut 38 = .ok (.iload_n 2, 1) := by decide +kernel
theorem dX8_takeOut_39 : decode cX8_takeOut 39 = .ok (.invokevirtual 73, 3) := by decide +kernel
theorem dX8_takeOut_42 : decode cX8_takeOut 42 = .ok (.ifCond .ne 6, 3) := by decide +kernel
theorem dX8_takeOut_45 : decode cX8_takeOut 45 = .ok (.bipush (-2), 2) := by decide +kernel
theorem dX8_takeOut_47 : decode cX8_takeOut 47 = .ok (.ireturn, 1) := by decide +kernel
theorem dX8_takeOut_48 : decode cX8_takeOut 48 = .ok (.aload_n 0, 1) := by decide +kernel
theorem dX8_takeOut_49 : decode cX8_takeOut 49 = .ok (.invokevirtual 139, 3) := by decide +kernel
theorem dX8_takeOut_52 : decode cX8_takeOut 52 = .ok (.aload_n 0, 1) := by decide +kernel
theorem dX8_takeOut_53 : decode cX8_takeOut 53 = .ok (.getfield 7, 3) := by decide +kernel
theorem dX8_takeOut_56 : decode cX8_takeOut 56 = .ok (.iconst 1, 1) := by decide +kernel
theorem dX8_takeOut_57 : decode cX8_takeOut 57 = .ok (.dup2, 1) := by decide +kernel
theorem dX8_takeOut_58 : decode cX8_takeOut 58 = .ok (.iaload, 1) := by decide +kernel
theorem dX8_takeOut_59 : decode cX8_takeOut 59 = .ok (.iconst 1, 1) := by decide +kernel
theorem dX8_takeOut_60 : decode cX8_takeOut 60 = .ok (.iload_n 1, 1) := by decide +kernel
theorem dX8_takeOut_61 : decode cX8_takeOut 61 = .ok (.ishl, 1) := by decide +kernel
theorem dX8_takeOut_62 : decode cX8_takeOut 62 = .ok (.iconst (-1), 1) := by decide +kernel
theorem dX8_takeOut_63 : decode cX8_takeOut 63 = .ok (.ixor, 1) := by decide +kernel
theorem dX8_takeOut_64 : decode cX8_takeOut 64 = .ok (.iand, 1) := by decide +kernel
theorem dX8_takeOut_65 : decode cX8_takeOut 65 = .ok (.iastore, 1) := by decide +kernel
theorem dX8_takeOut_66 : decode cX8_takeOut 66 = .ok (.aload_n 0, 1) := by decide +kernel
theorem dX8_takeOut_67 : decode cX8_takeOut 67 = .ok (.getfield 7, 3) := by decide +kernel
theorem dX8_takeOut_70 : decode cX8_takeOut 70 = .ok (.iconst 2, 1) := by decide +kernel
theorem dX8_takeOut_71 : decode cX8_takeOut 71 = .ok (.dup2, 1) := by decide +kernel
theorem dX8_takeOut_72 : decode cX8_takeOut 72 = .ok (.iaload, 1) := by decide +kernel
theorem dX8_takeOut_73 : decode cX8_takeOut 73 = .ok (.iconst 1, 1) := by decide +kernel
theorem dX8_takeOut_74 : decode cX8_takeOut 74 = .ok (.iadd, 1) := by decide +kernel
theorem dX8_takeOut_75 : decode cX8_takeOut 75 = .ok (.iastore, 1) := by decide +kernel
theorem dX8_takeOut_76 : decode cX8_takeOut 76 = .ok (.aload_n 0, 1) := by decide +kernel
theorem dX8_takeOut_77 : decode cX8_takeOut 77 = .ok (.aload_n 0, 1) := by decide +kernel
theorem dX8_takeOut_78 : decode cX8_takeOut 78 = .ok (.getfield 7, 3) := by decide +kernel
theorem dX8_takeOut_81 : decode cX8_takeOut 81 = .ok (.iconst 1, 1) := by decide +kernel
theorem dX8_takeOut_82 : decode cX8_takeOut 82 = .ok (.iaload, 1) := by decide +kernel
theorem dX8_takeOut_83 : decode cX8_takeOut 83 = .ok (.invokevirtual 92, 3) := by decide +kernel
theorem dX8_takeOut_86 : decode cX8_takeOut 86 = .ok (.ireturn, 1) := by decide +kernel
set_option maxHeartbeats 4000000 in
set_option maxRecDepth 100000 in
theorem c_X8_takeOut {l : Launch} {X : En} (g : Nat) (x1 : Int32) (x2 : Int32) (M : Mem) (r : Int32) (M9 : Mem) (hf : fn_X8_takeOut g x1 x2 M = some (r, M9)) : Cn l X yX8_takeOut cX8_takeOut 3 (some .int) 2 44 [.ref (X.ad 61), .int x1, .int x2] M (Qi X r M9) := by
  refine Met.ofW (cc := cX8_takeOut) (maxL := 3) (ret := (some .int)) (by decide) rfl ?_
  intro p e s m args below meth c s₁ B hml hv
  obtain ⟨rfl, hP, hk⟩ := hv
  have hx := B.exec
  have hb := B.bytes
  have hr := B.returns
  have hlocks := B.notSynchronized
  have hts : ∀ w ∈ lw_u, w.before ([.ref (X.ad 61), .int x1, .int x2] : List Value).toArray s = true := fun w hw => atoms_spec (ws := Cond.code yX8_takeOut cX8_takeOut 3 (some .int) :: lw_u) B.pre w (List.mem_cons_of_mem _ hw)
  have hown : s.vm.findClass RX8 = some m.cls := findClass_of_methodNamed B.named
  have hZ : Fx p c m s ([.ref (X.ad 61), .int x1, .int x2] : List Value).toArray X cX8_takeOut 3 RX8 := ⟨hx, hb, hml, hts, hown, hk⟩
  have hS : va_S X.A s.heap s.heap [] := va_S.rf
  have hl := lv_entry ([.ref (X.ad 61), .int x1, .int x2]) (n := 3) (Nat.le_of_ble_eq_true rfl)
  rw [lg_entry_eq]
  generalize (lg_sl ([.ref (X.ad 61), .int x1, .int x2]) ++ List.replicate (3 - (lg_sl ([.ref (X.ad 61), .int x1, .int x2])).length) Slot.unset).toArray = ls at hl ⊢
  have hl : lv_has ls 3 [(0, .ref (X.ad 61)), (1, .int x1), (2, .int x2)] := hl
  show WW p l e 2 44 s m [.ref (X.ad 61), .int x1, .int x2] below meth c X (Qi X r M9) s.heap [] 0 ls []
  have hP : wd X M s.heap := hP
  unfold fn_X8_takeOut at hf
  have key : ∀ (H : Heap) (locs : List Loc), wd X M H → va_S X.A s.heap H locs → WW p l e 2 44 s m [.ref (X.ad 61), .int x1, .int x2] below meth c X (Qi X r M9) H locs 0 ls [] := by
    intro H locs hP hS
    refine lv_aload_n hx hb dX8_takeOut_0 rfl (lv_at hl 0 rfl) ?_
    refine lv_iload_n hx hb dX8_takeOut_1 rfl (lv_at hl 1 rfl) ?_
    refine k_X8_isPiece hZ hP hS hl.1 wd_4_70 ⟨Nat.le_of_ble_eq_true rfl, Nat.le_of_ble_eq_true rfl⟩ (Nat.le_of_ble_eq_true rfl) dX8_takeOut_2 ⟨Nat.zero_le _, Nat.zero_le _⟩ (fun H locs hP hS => ?_)
    refine lv_if_eq (tgt := 15) hx hb dX8_takeOut_5 (by decide) (fun c_1 => ?_) (fun c_1 => ?_)
    · have hf := i_t c_1 hf
      refine lv_iconst (v := (-1 : Int32)) hx hb dX8_takeOut_15 (by decide) ?_
      have hf := Option.some.inj hf
      obtain ⟨e1, e2⟩ := Prod.mk.inj hf
      rw [e2] at hP
      exact ret_i hx hb hr hlocks hP hS e1 dX8_takeOut_16
    · have hf := i_f c_1 hf
      refine lv_iload_n hx hb dX8_takeOut_8 rfl (lv_at hl 2 rfl) ?_
      refine k_X8_isDirection hZ hP hS hl.1 wd_4_90 ⟨Nat.le_of_ble_eq_true rfl, Nat.le_of_ble_eq_true rfl⟩ (Nat.le_of_ble_eq_true rfl) dX8_takeOut_9 ⟨Nat.zero_le _, Nat.zero_le _⟩ (fun H locs hP hS => ?_)
      refine lv_if_ne (tgt := 17) hx hb dX8_takeOut_12 (by decide) (fun c_2 => ?_) (fun c_2 => ?_)
      · have hf := i_f c_2 hf
        refine lv_aload_n hx hb dX8_takeOut_17 rfl (lv_at hl 0 rfl) ?_
        refine gX8_0 hx hb hts hown hk hP wd_3_192 dX8_takeOut_18 ?_
        refine lv_iconst (v := (1 : Int32)) hx hb dX8_takeOut_21 (by decide) ?_
        refine ald hx hb hk hP (by decide) rfl (show inb _ _ from by decide) dX8_takeOut_22 ?_
        refine lv_iload_n hx hb dX8_takeOut_23 rfl (lv_at hl 1 rfl) ?_
        refine k_X8_has hZ hP hS hl.1 wd_4_153 ⟨Nat.le_of_ble_eq_true rfl, Nat.le_of_ble_eq_true rfl⟩ (Nat.le_of_ble_eq_true rfl) dX8_takeOut_24 ⟨Nat.zero_le _, Nat.zero_le _⟩ (fun H locs hP hS => ?_)
        refine lv_if_eq (tgt := 45) hx hb dX8_takeOut_27 (by decide) (fun c_3 => ?_) (fun c_3 => ?_)
        · have hf := i_t c_3 hf
          refine lv_bipush (v := (-2 : Int32)) hx hb dX8_takeOut_45 (by decide) ?_
          have hf := Option.some.inj hf
          obtain ⟨e1, e2⟩ := Prod.mk.inj hf
          rw [e2] at hP
          exact ret_i hx hb hr hlocks hP hS e1 dX8_takeOut_47
        · have hf := i_f c_3 hf
          refine lv_aload_n hx hb dX8_takeOut_30 rfl (lv_at hl 0 rfl) ?_
          refine lv_iload_n hx hb dX8_takeOut_31 rfl (lv_at hl 1 rfl) ?_
          refine lv_aload_n hx hb dX8_takeOut_32 rfl (lv_at hl 0 rfl) ?_
          refine gX8_0 hx hb hts hown hk hP wd_3_192 dX8_takeOut_33 ?_
          refine lv_iconst (v := (1 : Int32)) hx hb dX8_takeOut_36 (by decide) ?_
          refine ald hx hb hk hP (by decide) rfl (show inb _ _ from by decide) dX8_takeOut_37 ?_
          refine lv_iload_n hx hb dX8_takeOut_38 rfl (lv_at hl 2 rfl) ?_
          obtain ⟨r_4, h_r_4, hf⟩ := b_d hf
          refine k_X8_isFree hZ hP hS hl.1 wd_4_133 ⟨Nat.le_of_ble_eq_true rfl, Nat.le_of_ble_eq_true rfl⟩ (Nat.le_of_ble_eq_true rfl) dX8_takeOut_39 ⟨Nat.zero_le _, Nat.zero_le _⟩ h_r_4 (fun H locs hP hS => ?_)
          refine lv_if_ne (tgt := 48) hx hb dX8_takeOut_42 (by decide) (fun c_5 => ?_) (fun c_5 => ?_)
          · have hf := i_f c_5 hf
            refine lv_aload_n hx hb dX8_takeOut_48 rfl (lv_at hl 0 rfl) ?_
            obtain ⟨M_6, h_M_6, hf⟩ := b_d hf
            refine k_X8_records hZ hP hS hl.1 wd_4_47 ⟨Nat.le_of_ble_eq_true rfl, Nat.le_of_ble_eq_true rfl⟩ (Nat.le_of_ble_eq_true rfl) dX8_takeOut_49 ⟨Nat.zero_le _, Nat.zero_le _⟩ h_M_6 (fun H locs hP hS => ?_)
            refine lv_aload_n hx hb dX8_takeOut_52 rfl (lv_at hl 0 rfl) ?_
            refine gX8_0 hx hb hts hown hk hP wd_3_192 dX8_takeOut_53 ?_
            refine lv_iconst (v := (1 : Int32)) hx hb dX8_takeOut_56 (by decide) ?_
            refine lv_dup2_11 hx hb dX8_takeOut_57 rfl rfl ?_
            refine ald hx hb hk hP (by decide) rfl (show inb _ _ from by decide) dX8_takeOut_58 ?_
            refine lv_iconst (v := (1 : Int32)) hx hb dX8_takeOut_59 (by decide) ?_
            refine lv_iload_n hx hb dX8_takeOut_60 rfl (lv_at hl 1 rfl) ?_
            refine rw_ishl hx hb dX8_takeOut_61 ?_
            refine lv_iconst (v := (-1 : Int32)) hx hb dX8_takeOut_62 (by decide) ?_
            refine lv_ixor hx hb dX8_takeOut_63 ?_
            refine lv_iand hx hb dX8_takeOut_64 ?_
            refine ast hx hb hk hP hS (by decide) (fun _ => rfl) (show inb _ _ from by decide) dX8_takeOut_65 (fun H locs M_7 e_M_7 hP hS => ?_)
            have hf := b_v hf e_M_7
            refine lv_aload_n hx hb dX8_takeOut_66 rfl (lv_at hl 0 rfl) ?_
            refine gX8_0 hx hb hts hown hk hP wd_3_192 dX8_takeOut_67 ?_
            refine lv_iconst (v := (2 : Int32)) hx hb dX8_takeOut_70 (by decide) ?_
            refine lv_dup2_11 hx hb dX8_takeOut_71 rfl rfl ?_
            refine ald hx hb hk hP (by decide) rfl (show inb _ _ from by decide) dX8_takeOut_72 ?_
            refine lv_iconst (v := (1 : Int32)) hx hb dX8_takeOut_73 (by decide) ?_
            refine lv_iadd hx hb dX8_takeOut_74 ?_
            refine ast hx hb hk hP hS (by decide) (fun _ => rfl) (show inb _ _ from by decide) dX8_takeOut_75 (fun H locs M_8 e_M_8 hP hS => ?_)
            have hf := b_v hf e_M_8
            refine lv_aload_n hx hb dX8_takeOut_76 rfl (lv_at hl 0 rfl) ?_
            refine lv_aload_n hx hb dX8_takeOut_77 rfl (lv_at hl 0 rfl) ?_
            refine gX8_0 hx hb hts hown hk hP wd_3_192 dX8_takeOut_78 ?_
            refine lv_iconst (v := (1 : Int32)) hx hb dX8_takeOut_81 (by decide) ?_
            refine ald hx hb hk hP (by decide) rfl (show inb _ _ from by decide) dX8_takeOut_82 ?_
            obtain ⟨r_9, h_r_9, hf⟩ := b_d hf
            refine k_X8_propsOf hZ hP hS hl.1 wd_4_160 ⟨Nat.le_of_ble_eq_true rfl, Nat.le_of_ble_eq_true rfl⟩ (Nat.le_of_ble_eq_true rfl) dX8_takeOut_83 ⟨Nat.zero_le _, Nat.zero_le _⟩ h_r_9 (fun H locs hP hS => ?_)
            have hf := Option.some.inj hf
            obtain ⟨e1, e2⟩ := Prod.mk.inj hf
            rw [e2] at hP
            exact ret_i hx hb hr hlocks hP hS e1 dX8_takeOut_86
          · have hf := i_t c_5 hf
            refine lv_bipush (v := (-2 : Int32)) hx hb dX8_takeOut_45 (by decide) ?_
            have hf := Option.some.inj hf
            obtain ⟨e1, e2⟩ := Prod.mk.inj hf
            rw [e2] at hP
            exact ret_i hx hb hr hlocks hP hS e1 dX8_takeOut_47
      · have hf := i_t c_2 hf
        refine lv_iconst (v := (-1 : Int32)) hx hb dX8_takeOut_15 (by decide) ?_
        have hf := Option.some.inj hf
        obtain ⟨e1, e2⟩ := Prod.mk.inj hf
        rw [e2] at hP
        exact ret_i hx hb hr hlocks hP hS e1 dX8_takeOut_16
  exact key s.heap [] hP hS
theorem hd_X8_takeOut : Hd yX8_takeOut 2 := by decide +kernel
theorem k_X8_takeOut {p : Program} {l : Launch} {e : Env} {R : Room} {s : State} {m : MethodId} {args : Array Value} {below : List Frame} {meth : Method} {c : Code} {H : Heap} {locs : List Loc} {cells slots : Nat} {Q : State → Prop} {cc : ByteArray} {nL pc index : Nat} {ls : Array Slot} {rest : List Value} {X : En} {M : Mem} {H0 : Heap} {own : String} {g : Nat} {x1 : Int32} {x2 : Int32} {r : Int32} {M9 : Mem} (hZ : Fx p c m s args X cc nL own) (hP : wd X M H) (hS : va_S X.A H0 H locs) (hsz : ls.size = nL) (hlk : Cond.methodLink own index yX8_takeOut ∈ lw_u) (hR : 2 + 1 ≤ R.frames ∧ 8 + (3 + 11) + 44 ≤ R.locals) (hW : (rest.map fun v => v.category).sum ≤ 8) (hdg : decode cc pc = .ok (.invokevirtual index, 3)) (hcs : cells ≤ R.cells ∧ slots ≤ R.slots) (hf : fn_X8_takeOut g x1 x2 M = some (r, M9))
    (kk : ∀ (H1 : Heap) (locs1 : List Loc), wd X M9 H1 → va_S X.A H0 H1 locs1 → W p l e R s m args below meth c H1 locs1 cells slots Q (F0 m (pc + 3) ls (.int r :: rest))) : W p l e R s m args below meth c H locs cells slots Q (F0 m pc ls (.int x2 :: .int x1 :: .ref (X.ad 61) :: rest)) :=
  cal_i (runV (As := [.int x1, .int x2]) (rest := rest) hZ.1 hZ.2.1 hZ.2.2.1 hZ.2.2.2.1 hZ.2.2.2.2.1 hZ.2.2.2.2.2 hP (c_X8_takeOut g x1 x2 M r M9 hf) wd_4_236 wd_4_234 wd_4_235 wd_1_9 hd_X8_takeOut (by decide) rfl rfl rfl hlk hR hsz rfl hW hdg hcs) hS kk
/-! FrameRaiserModel.putAll -/
def jn_X8_putAll_81 (s_24 : Int32) (s_25 : Int32) (s_26 : Int32) (v2_22 : Int32) (v3_23 : Int32) (M_27 : Mem) : Option ((Int32 × Int32 × Mem) ⊕ (Int32 × Mem)) :=
  if inb s_26 2270 then
  bv (st M_27 62 (ix s_26) (s_25 ||| s_24)) fun M_28 =>
  some (.inl (v2_22, v3_23 + (1 : Int32), M_28))
  else none
def jn_X8_putAll_62 (s_19 : Int32) (v3_18 : Int32) (M_20 : Mem) : Option ((Int32 × Int32 × Mem) ⊕ (Int32 × Mem)) :=
  if s_19 = 0 then
    (jn_X8_putAll_81 (0 : Int32) (M_20 62 (ix (1 : Int32))) (1 : Int32) s_19 v3_18 M_20)
  else
    (jn_X8_putAll_81 (sl (1 : Int32) v3_18) (M_20 62 (ix (1 : Int32))) (1 : Int32) s_19 v3_18 M_20)
def jn_X8_putAll_61 (v3_16 : Int32) (M_17 : Mem) : Option ((Int32 × Int32 × Mem) ⊕ (Int32 × Mem)) :=
  jn_X8_putAll_62 (0 : Int32) v3_16 M_17
def bd_X8_putAll_16 (g : Nat) : (Int32 × Int32 × Mem) → Option ((Int32 × Int32 × Mem) ⊕ (Int32 × Mem)) :=
  u3 fun v2_9 v3_8 M_10 =>
  if (M_10 62 (ix (0 : Int32))) ≤ v3_8 then
    (some (.inr (v2_9, M_10)))
  else
    (if v2_9 = 0 then
      (if (fn_X8_has (M_10 62 (ix (1 : Int32))) v3_8) = 0 then
        ((fn_X8_waysOf g v3_8 (M_10 62 (ix (1 : Int32))) M_10).bind fun r_30 =>
        if r_30 = 0 then
          (jn_X8_putAll_61 v3_8 M_10)
        else
          (jn_X8_putAll_62 (1 : Int32) v3_8 M_10))
      else
        (jn_X8_putAll_61 v3_8 M_10))
    else
      (some (.inr (v2_9, M_10))))
def jn_X8_putAll_99 (s_34 : Int32) (s_35 : Int32) (v2_33 : Int32) (M_36 : Mem) : Option ((Int32 × Int32 × Mem) ⊕ (Int32 × Mem)) :=
  bv (s_35 + s_34) fun v1_37 =>
  some (.inl (v1_37, v2_33, M_36))
def bd_X8_putAll_8 (g : Nat) : (Int32 × Int32 × Mem) → Option ((Int32 × Int32 × Mem) ⊕ (Int32 × Mem)) :=
  u3 fun v1_3 v2_2 M_4 =>
  if v2_2 = 0 then
    (some (.inr (v1_3, M_4)))
  else
    ((lpN g (bd_X8_putAll_16 g) ((0 : Int32), (0 : Int32), M_4)).bind (u2 fun v2_11 M_12 =>
      if v2_11 = 0 then
        (jn_X8_putAll_99 (0 : Int32) v1_3 v2_11 M_12)
      else
        (jn_X8_putAll_99 (1 : Int32) v1_3 v2_11 M_12)))
def fn_X8_putAll (g : Nat) (M : Mem) : Option (Int32 × Mem) :=
  (fn_X8_records g M).bind fun M_1 =>
  (lpN g (bd_X8_putAll_8 g) ((0 : Int32), (1 : Int32), M_1)).bind (u2 fun v1_5 M_6 =>
    bv (st M_6 62 (ix (2 : Int32)) ((M_6 62 (ix (2 : Int32))) + v1_5)) fun M_38 =>
    some (v1_5, M_38))
theorem dX8_putAll_0 : decode cX8_putAll 0 = .ok (.aload_n 0, 1) := by decide +kernel
theorem dX8_putAll_1 : decode cX8_putAll 1 = .ok (.invokevirtual 139, 3) := by decide +kernel
theorem dX8_putAll_4 : decode cX8_putAll 4 = .ok (.iconst 0, 1) := by decide +kernel
theorem dX8_putAll_5 : decode cX8_putAll 5 = .ok (.istore_n 1, 1) := by decide +kernel
theorem dX8_putAll_6 : decode cX8_putAll 6 = .ok (.iconst 1, 1) := by decide +kernel
theorem dX8_putAll_7 : decode cX8_putAll 7 = .ok (.istore_n 2, 1) := by decide +kernel
theorem dX8_putAll_8 : decode cX8_putAll 8 = .ok (.iload_n 2, 1) := by decide +kernel
theorem dX8_putAll_9 : decode cX8_putAll 9 = .ok (.ifCond .eq 95, 3) := by decide +kernel
theorem dX8_putAll_12 : decode cX8_putAll 12 = .ok (.iconst 0, 1) := by decide +kernel
theorem dX8_putAll_13 : decode cX8_putAll 13 = .ok (.istore_n 2, 1) := by decide +kernel
theorem dX8_putAll_14 : decode cX8_putAll 14 = .ok (.iconst 0, 1) := by decide +kernel
theorem dX8_putAll_15 : decode cX8_putAll 15 = .ok (.istore_n 3, 1) := by decide +kernel
theorem dX8_putAll_16 : decode cX8_putAll 16 = .ok (.iload_n 3, 1) := by decide +kernel
theorem dX8_putAll_17 : decode cX8_putAll 17 = .ok (.aload_n 0, 1) := by decide +kernel
theorem dX8_putAll_18 : decode cX8_putAll 18 = .ok (.getfield 7, 3) := by decide +kernel
theorem dX8_putAll_21 : decode cX8_putAll 21 = .ok (.iconst 0, 1) := by decide +kernel
theorem dX8_putAll_22 : decode cX8_putAll 22 = .ok (.iaload, 1) := by decide +kernel
theorem dX8_putAll_23 : decode cX8_putAll 23 = .ok (.if_icmp .ge 66, 3) := by decide +kernel
theorem dX8_putAll_26 : decode cX8_putAll 26 = .ok (.iload_n 2, 1) := by decide +kernel
theorem dX8_putAll_27 : decode cX8_putAll 27 = .ok (.ifCond .ne 62, 3) := by decide +kernel
theorem dX8_putAll_30 : decode cX8_putAll 30 = .ok (.aload_n 0, 1) := by decide +kernel
theorem dX8_putAll_31 : decode cX8_putAll 31 = .ok (.getfield 7, 3) := by decide +kernel
theorem dX8_putAll_34 : decode cX8_putAll 34 = .ok (.iconst 1, 1) := by decide +kernel
theorem dX8_putAll_35 : decode cX8_putAll 35 = .ok (.iaload, 1) := by decide +kernel
theorem dX8_putAll_36 : decode cX8_putAll 36 = .ok (.iload_n 3, 1) := by decide +kernel
theorem dX8_putAll_37 : decode cX8_putAll 37 = .ok (.invokestatic 76, 3) := by decide +kernel
theorem dX8_putAll_40 : decode cX8_putAll 40 = .ok (.ifCond .ne 21, 3) := by decide +kernel
theorem dX8_putAll_43 : decode cX8_putAll 43 = .ok (.aload_n 0, 1) := by decide +kernel
theorem dX8_putAll_44 : decode cX8_putAll 44 = .ok (.iload_n 3, 1) := by decide +kernel
theorem dX8_putAll_45 : decode cX8_putAll 45 = .ok (.aload_n 0, 1) := by decide +kernel
theorem dX8_putAll_46 : decode cX8_putAll 46 = .ok (.getfield 7, 3) := by decide +kernel
theorem dX8_putAll_49 : decode cX8_putAll 49 = .ok (.iconst 1, 1) := by decide +kernel
theorem dX8_putAll_50 : decode cX8_putAll 50 = .ok (.iaload, 1) := by decide +kernel
theorem dX8_putAll_51 : decode cX8_putAll 51 = .ok (.invokevirtual 89, 3) := by decide +kernel
theorem dX8_putAll_54 : decode cX8_putAll 54 = .ok (.ifCond .eq 7, 3) := by decide +kernel
theorem dX8_putAll_57 : decode cX8_putAll 57 = .ok (.iconst 1, 1) := by decide +kernel
theorem dX8_putAll_58 : decode cX8_putAll 58 = .ok (.goto 4, 3) := by decide +kernel
theorem dX8_putAll_61 : decode cX8_putAll 61 = .ok (.iconst 0, 1) := by decide +kernel
theorem dX8_putAll_62 : decode cX8_putAll 62 = .ok (.istore_n 2, 1) := by decide +kernel
theorem dX8_putAll_63 : decode cX8_putAll 63 = .ok (.aload_n 0, 1) := by decide +kernel
theorem dX8_putAll_64 : decode cX8_putAll 64 = .ok (.getfield 7, 3) := by decide +kernel
theorem dX8_putAll_67 : decode cX8_putAll 67 = .ok (.iconst 1, 1) := by decide +kernel
theorem dX8_putAll_68 : decode cX8_putAll 68 = .ok (.dup2, 1) := by decide +kernel
theorem dX8_putAll_69 : decode cX8_putAll 69 = .ok (.iaload, 1) := by decide +kernel
theorem dX8_putAll_70 : decode cX8_putAll 70 = .ok (.iload_n 2, 1) := by decide +kernel
theorem dX8_putAll_71 : decode cX8_putAll 71 = .ok (.ifCond .eq 9, 3) := by decide +kernel
theorem dX8_putAll_74 : decode cX8_putAll 74 = .ok (.iconst 1, 1) := by decide +kernel
theorem dX8_putAll_75 : decode cX8_putAll 75 = .ok (.iload_n 3, 1) := by decide +kernel
theorem dX8_putAll_76 : decode cX8_putAll 76 = .ok (.ishl, 1) := by decide +kernel
theorem dX8_putAll_77 : decode cX8_putAll 77 = .ok (.goto 4, 3) := by decide +kernel
theorem dX8_putAll_80 : decode cX8_putAll 80 = .ok (.iconst 0, 1) := by decide +kernel
theorem dX8_putAll_81 : decode cX8_putAll 81 = .ok (.ior, 1) := by decide +kernel
theorem dX8_putAll_82 : decode cX8_putAll 82 = .ok (.iastore, 1) := by decide +kernel
theorem dX8_putAll_83 : decode cX8_putAll 83 = .ok (.iinc 3 1, 3) := by decide +kernel
theorem dX8_putAll_86 : decode cX8_putAll 86 = .ok (.goto (-70), 3) := by decide +kernel
theorem dX8_putAll_89 : decode cX8_putAll 89 = .ok (.iload_n 1, 1) := by decide +kernel
theorem dX8_putAll_90 : decode cX8_putAll 90 = .ok (.iload_n 2, 1) := by decide +kernel
theorem dX8_putAll_91 : decode cX8_putAll 91 = .ok (.ifCond .eq 7, 3) := by decide +kernel
theorem dX8_putAll_94 : decode cX8_putAll 94 = .ok (.iconst 1, 1) := by decide +kernel
theorem dX8_putAll_95 : decode cX8_putAll 95 = .ok (.goto 4, 3) := by decide +kernel
theorem dX8_putAll_98 : decode cX8_putAll 98 = .ok (.iconst 0, 1) := by decide +kernel
theorem dX8_putAll_99 : decode cX8_putAll 99 = .ok (.iadd, 1) := by decide +kernel
theorem dX8_putAll_100 : decode cX8_putAll 100 = .ok (.istore_n 1, 1) := by decide +kernel
theorem dX8_putAll_101 : decode cX8_putAll 101 = .ok (.goto (-93), 3) := by decide +kernel
theorem dX8_putAll_104 : decode cX8_putAll 104 = .ok (.aload_n 0, 1) := by decide +kernel
theorem dX8_putAll_105 : decode cX8_putAll 105 = .ok (.getfield 7, 3) := by decide +kernel
theorem dX8_putAll_108 : decode cX8_putAll 108 = .ok (.iconst 2, 1) := by decide +kernel
theorem dX8_putAll_109 : decode cX8_putAll 109 = .ok (.dup2, 1) := by decide +kernel
theorem dX8_putAll_110 : decode cX8_putAll 110 = .ok (.iaload, 1) := by decide +kernel
theorem dX8_putAll_111 : decode cX8_putAll 111 = .ok (.iload_n 1, 1) := by decide +kernel
theorem dX8_putAll_112 : decode cX8_putAll 112 = .ok (.iadd, 1) := by decide +kernel
theorem dX8_putAll_113 : decode cX8_putAll 113 = .ok (.iastore, 1) := by decide +kernel
theorem dX8_putAll_114 : decode cX8_putAll 114 = .ok (.iload_n 1, 1) := by decide +kernel
theorem dX8_putAll_115 : decode cX8_putAll 115 = .ok (.ireturn, 1) := by decide +kernel
set_option maxHeartbeats 4000000 in
set_option maxRecDepth 100000 in
theorem c_X8_putAll {l : Launch} {X : En} (g : Nat) (M : Mem) (r : Int32) (M9 : Mem) (hf : fn_X8_putAll g M = some (r, M9)) : Cn l X yX8_putAll cX8_putAll 4 (some .int) 2 47 [.ref (X.ad 61)] M (Qi X r M9) := by
  refine Met.ofW (cc := cX8_putAll) (maxL := 4) (ret := (some .int)) (by decide) rfl ?_
  intro p e s m args below meth c s₁ B hml hv
  obtain ⟨rfl, hP, hk⟩ := hv
  have hx := B.exec
  have hb := B.bytes
  have hr := B.returns
  have hlocks := B.notSynchronized
  have hts : ∀ w ∈ lw_u, w.before ([.ref (X.ad 61)] : List Value).toArray s = true := fun w hw => atoms_spec (ws := Cond.code yX8_putAll cX8_putAll 4 (some .int) :: lw_u) B.pre w (List.mem_cons_of_mem _ hw)
  have hown : s.vm.findClass RX8 = some m.cls := findClass_of_methodNamed B.named
  have hZ : Fx p c m s ([.ref (X.ad 61)] : List Value).toArray X cX8_putAll 4 RX8 := ⟨hx, hb, hml, hts, hown, hk⟩
  have hS : va_S X.A s.heap s.heap [] := va_S.rf
  have hl := lv_entry ([.ref (X.ad 61)]) (n := 4) (Nat.le_of_ble_eq_true rfl)
  rw [lg_entry_eq]
  generalize (lg_sl ([.ref (X.ad 61)]) ++ List.replicate (4 - (lg_sl ([.ref (X.ad 61)])).length) Slot.unset).toArray = ls at hl ⊢
  have hl : lv_has ls 4 [(0, .ref (X.ad 61))] := hl
  show WW p l e 2 47 s m [.ref (X.ad 61)] below meth c X (Qi X r M9) s.heap [] 0 ls []
  have hP : wd X M s.heap := hP
  unfold fn_X8_putAll at hf
  have key : ∀ (H : Heap) (locs : List Loc), wd X M H → va_S X.A s.heap H locs → WW p l e 2 47 s m [.ref (X.ad 61)] below meth c X (Qi X r M9) H locs 0 ls [] := by
    intro H locs hP hS
    refine lv_aload_n hx hb dX8_putAll_0 rfl (lv_at hl 0 rfl) ?_
    obtain ⟨M_1, h_M_1, hf⟩ := b_d hf
    refine k_X8_records hZ hP hS hl.1 wd_4_47 ⟨Nat.le_of_ble_eq_true rfl, Nat.le_of_ble_eq_true rfl⟩ (Nat.le_of_ble_eq_true rfl) dX8_putAll_1 ⟨Nat.zero_le _, Nat.zero_le _⟩ h_M_1 (fun H locs hP hS => ?_)
    refine lv_iconst (v := (0 : Int32)) hx hb dX8_putAll_4 (by decide) ?_
    refine lv_istore_n (lv' := [(1, .int (0 : Int32)), (0, .ref (X.ad 61))]) hx hb dX8_putAll_5 rfl hl (by decide) rfl (fun ls hl => ?_)
    refine lv_iconst (v := (1 : Int32)) hx hb dX8_putAll_6 (by decide) ?_
    refine lv_istore_n (lv' := [(2, .int (1 : Int32)), (1, .int (0 : Int32)), (0, .ref (X.ad 61))]) hx hb dX8_putAll_7 rfl hl (by decide) rfl (fun ls hl => ?_)
    obtain ⟨o8, ho8, hf⟩ := b_d hf
    refine lp_rule (b := bd_X8_putAll_8 g) (P := fun w : Int32 × Int32 × Mem => ∀ (H : Heap) (locs : List Loc) (ls : Array Slot), wd X w.2.2 H → va_S X.A s.heap H locs → lv_has ls 4 [(2, .int w.2.1), (1, .int w.1), (0, .ref (X.ad 61))] → WW p l e 2 47 s m [.ref (X.ad 61)] below meth c X (Qi X r M9) H locs 8 ls []) (K := fun o => ∀ (v1_5 : Int32) (M_6 : Mem), o = (v1_5, M_6) → ∀ (H : Heap) (locs : List Loc) (ls : Array Slot), wd X M_6 H → va_S X.A s.heap H locs → lv_has ls 4 [(1, .int v1_5), (0, .ref (X.ad 61))] → WW p l e 2 47 s m [.ref (X.ad 61)] below meth c X (Qi X r M9) H locs 104 ls []) ?_ g ((0 : Int32), (1 : Int32), M_1) o8 ho8 ?_ H locs ls hP hS (lv_sub hl [0, 1, 2] rfl)
    · rintro ⟨v1_3, v2_2, M_4⟩ o hf hkc8 hke8 H locs ls hP hS hl
      have hf := u3_e hf
      have jn99 : ∀ (v2_33 : Int32) (s_34 : Int32) (s_35 : Int32) (M_36 : Mem), jn_X8_putAll_99 s_34 s_35 v2_33 M_36 = some o → ∀ (H : Heap) (locs : List Loc) (ls : Array Slot), wd X M_36 H → va_S X.A s.heap H locs → lv_has ls 4 [(0, .ref (X.ad 61)), (2, .int v2_33)] → WW p l e 2 47 s m [.ref (X.ad 61)] below meth c X (Qi X r M9) H locs 99 ls [.int s_34, .int s_35] := by
        intro v2_33 s_34 s_35 M_36 hf H locs ls hP hS hl
        unfold jn_X8_putAll_99 at hf
        refine lv_iadd hx hb dX8_putAll_99 ?_
        refine lv_topi (fun v1_37 e_v1_37 => ?_)
        have hf := b_v hf e_v1_37
        refine lv_istore_n (lv' := [(1, .int v1_37), (0, .ref (X.ad 61)), (2, .int v2_33)]) hx hb dX8_putAll_100 rfl hl (by decide) rfl (fun ls hl => ?_)
        refine lv_goto (tgt := 8) hx hb dX8_putAll_101 (by decide) ?_
        exact hkc8 _ (Option.some.inj hf).symm H locs ls hP hS (lv_sub hl [2, 0, 1] rfl)
      refine lv_iload_n hx hb dX8_putAll_8 rfl (lv_at hl 0 rfl) ?_
      refine lv_if_eq (tgt := 104) hx hb dX8_putAll_9 (by decide) (fun c_7 => ?_) (fun c_7 => ?_)
      · have hf := i_t c_7 hf
        exact hke8 _ (Option.some.inj hf).symm _ _ rfl H locs ls hP hS (lv_sub hl [1, 2] rfl)
      · have hf := i_f c_7 hf
        refine lv_iconst (v := (0 : Int32)) hx hb dX8_putAll_12 (by decide) ?_
        refine lv_istore_n (lv' := [(2, .int (0 : Int32)), (1, .int v1_3), (0, .ref (X.ad 61))]) hx hb dX8_putAll_13 rfl hl (by decide) rfl (fun ls hl => ?_)
        refine lv_iconst (v := (0 : Int32)) hx hb dX8_putAll_14 (by decide) ?_
        refine lv_istore_n (lv' := [(3, .int (0 : Int32)), (2, .int (0 : Int32)), (1, .int v1_3), (0, .ref (X.ad 61))]) hx hb dX8_putAll_15 rfl hl (by decide) rfl (fun ls hl => ?_)
        obtain ⟨o16, ho16, hf⟩ := b_d hf
        refine lp_rule (b := bd_X8_putAll_16 g) (P := fun w : Int32 × Int32 × Mem => ∀ (H : Heap) (locs : List Loc) (ls : Array Slot), wd X w.2.2 H → va_S X.A s.heap H locs → lv_has ls 4 [(3, .int w.2.1), (2, .int w.1), (1, .int v1_3), (0, .ref (X.ad 61))] → WW p l e 2 47 s m [.ref (X.ad 61)] below meth c X (Qi X r M9) H locs 16 ls []) (K := fun o => ∀ (v2_11 : Int32) (M_12 : Mem), o = (v2_11, M_12) → ∀ (H : Heap) (locs : List Loc) (ls : Array Slot), wd X M_12 H → va_S X.A s.heap H locs → lv_has ls 4 [(2, .int v2_11), (1, .int v1_3), (0, .ref (X.ad 61))] → WW p l e 2 47 s m [.ref (X.ad 61)] below meth c X (Qi X r M9) H locs 89 ls []) ?_ g ((0 : Int32), (0 : Int32), M_4) o16 ho16 ?_ H locs ls hP hS (lv_sub hl [0, 1, 2, 3] rfl)
        · rintro ⟨v2_9, v3_8, M_10⟩ o hf hkc16 hke16 H locs ls hP hS hl
          have hf := u3_e hf
          have jn81 : ∀ (v2_22 : Int32) (v3_23 : Int32) (s_24 : Int32) (s_25 : Int32) (s_26 : Int32) (M_27 : Mem), jn_X8_putAll_81 s_24 s_25 s_26 v2_22 v3_23 M_27 = some o → ∀ (H : Heap) (locs : List Loc) (ls : Array Slot), wd X M_27 H → va_S X.A s.heap H locs → lv_has ls 4 [(0, .ref (X.ad 61)), (1, .int v1_3), (2, .int v2_22), (3, .int v3_23)] → WW p l e 2 47 s m [.ref (X.ad 61)] below meth c X (Qi X r M9) H locs 81 ls [.int s_24, .int s_25, .int s_26, .ref (X.ad 62)] := by
            intro v2_22 v3_23 s_24 s_25 s_26 M_27 hf H locs ls hP hS hl
            unfold jn_X8_putAll_81 at hf
            refine lv_ior hx hb dX8_putAll_81 ?_
            obtain ⟨q_29, hf⟩ := g_if hf
            refine ast hx hb hk hP hS (by decide) (fun _ => rfl) q_29 dX8_putAll_82 (fun H locs M_28 e_M_28 hP hS => ?_)
            have hf := b_v hf e_M_28
            refine lv_iinc (v := v3_23 + (1 : Int32)) (lv' := [(3, .int (v3_23 + (1 : Int32))), (0, .ref (X.ad 61)), (1, .int v1_3), (2, .int v2_22)]) hx hb dX8_putAll_83 hl (k := 3) rfl rfl (by decide) rfl (fun ls hl => ?_)
            refine lv_goto (tgt := 16) hx hb dX8_putAll_86 (by decide) ?_
            exact hkc16 _ (Option.some.inj hf).symm H locs ls hP hS (lv_sub hl [0, 3, 2, 1] rfl)
          have jn62 : ∀ (v3_18 : Int32) (s_19 : Int32) (M_20 : Mem), jn_X8_putAll_62 s_19 v3_18 M_20 = some o → ∀ (H : Heap) (locs : List Loc) (ls : Array Slot), wd X M_20 H → va_S X.A s.heap H locs → lv_has ls 4 [(0, .ref (X.ad 61)), (1, .int v1_3), (3, .int v3_18)] → WW p l e 2 47 s m [.ref (X.ad 61)] below meth c X (Qi X r M9) H locs 62 ls [.int s_19] := by
            intro v3_18 s_19 M_20 hf H locs ls hP hS hl
            unfold jn_X8_putAll_62 at hf
            refine lv_istore_n (lv' := [(2, .int s_19), (0, .ref (X.ad 61)), (1, .int v1_3), (3, .int v3_18)]) hx hb dX8_putAll_62 rfl hl (by decide) rfl (fun ls hl => ?_)
            refine lv_aload_n hx hb dX8_putAll_63 rfl (lv_at hl 1 rfl) ?_
            refine gX8_0 hx hb hts hown hk hP wd_3_192 dX8_putAll_64 ?_
            refine lv_iconst (v := (1 : Int32)) hx hb dX8_putAll_67 (by decide) ?_
            refine lv_dup2_11 hx hb dX8_putAll_68 rfl rfl ?_
            refine ald hx hb hk hP (by decide) rfl (show inb _ _ from by decide) dX8_putAll_69 ?_
            refine lv_iload_n hx hb dX8_putAll_70 rfl (lv_at hl 0 rfl) ?_
            refine lv_if_eq (tgt := 80) hx hb dX8_putAll_71 (by decide) (fun c_21 => ?_) (fun c_21 => ?_)
            · have hf := i_t c_21 hf
              refine lv_iconst (v := (0 : Int32)) hx hb dX8_putAll_80 (by decide) ?_
              exact jn81 s_19 v3_18 (0 : Int32) (M_20 62 (ix (1 : Int32))) (1 : Int32) M_20 hf H locs ls hP hS (lv_sub hl [1, 2, 0, 3] rfl)
            · have hf := i_f c_21 hf
              refine lv_iconst (v := (1 : Int32)) hx hb dX8_putAll_74 (by decide) ?_
              refine lv_iload_n hx hb dX8_putAll_75 rfl (lv_at hl 3 rfl) ?_
              refine rw_ishl hx hb dX8_putAll_76 ?_
              refine lv_goto (tgt := 81) hx hb dX8_putAll_77 (by decide) ?_
              exact jn81 s_19 v3_18 (sl (1 : Int32) v3_18) (M_20 62 (ix (1 : Int32))) (1 : Int32) M_20 hf H locs ls hP hS (lv_sub hl [1, 2, 0, 3] rfl)
          have jn61 : ∀ (v3_16 : Int32) (M_17 : Mem), jn_X8_putAll_61 v3_16 M_17 = some o → ∀ (H : Heap) (locs : List Loc) (ls : Array Slot), wd X M_17 H → va_S X.A s.heap H locs → lv_has ls 4 [(0, .ref (X.ad 61)), (1, .int v1_3), (3, .int v3_16)] → WW p l e 2 47 s m [.ref (X.ad 61)] below meth c X (Qi X r M9) H locs 61 ls [] := by
            intro v3_16 M_17 hf H locs ls hP hS hl
            unfold jn_X8_putAll_61 at hf
            refine lv_iconst (v := (0 : Int32)) hx hb dX8_putAll_61 (by decide) ?_
            exact jn62 v3_16 (0 : Int32) M_17 hf H locs ls hP hS (lv_sub hl [0, 1, 2] rfl)
          refine lv_iload_n hx hb dX8_putAll_16 rfl (lv_at hl 0 rfl) ?_
          refine lv_aload_n hx hb dX8_putAll_17 rfl (lv_at hl 3 rfl) ?_
          refine gX8_0 hx hb hts hown hk hP wd_3_192 dX8_putAll_18 ?_
          refine lv_iconst (v := (0 : Int32)) hx hb dX8_putAll_21 (by decide) ?_
          refine ald hx hb hk hP (by decide) rfl (show inb _ _ from by decide) dX8_putAll_22 ?_
          refine lv_icmp_ge (tgt := 89) hx hb dX8_putAll_23 (by decide) (fun c_13 => ?_) (fun c_13 => ?_)
          · have hf := i_t c_13 hf
            exact hke16 _ (Option.some.inj hf).symm _ _ rfl H locs ls hP hS (lv_sub hl [1, 2, 3] rfl)
          · have hf := i_f c_13 hf
            refine lv_iload_n hx hb dX8_putAll_26 rfl (lv_at hl 1 rfl) ?_
            refine lv_if_ne (tgt := 89) hx hb dX8_putAll_27 (by decide) (fun c_14 => ?_) (fun c_14 => ?_)
            · have hf := i_f c_14 hf
              exact hke16 _ (Option.some.inj hf).symm _ _ rfl H locs ls hP hS (lv_sub hl [1, 2, 3] rfl)
            · have hf := i_t c_14 hf
              refine lv_aload_n hx hb dX8_putAll_30 rfl (lv_at hl 3 rfl) ?_
              refine gX8_0 hx hb hts hown hk hP wd_3_192 dX8_putAll_31 ?_
              refine lv_iconst (v := (1 : Int32)) hx hb dX8_putAll_34 (by decide) ?_
              refine ald hx hb hk hP (by decide) rfl (show inb _ _ from by decide) dX8_putAll_35 ?_
              refine lv_iload_n hx hb dX8_putAll_36 rfl (lv_at hl 0 rfl) ?_
              refine k_X8_has hZ hP hS hl.1 wd_4_153 ⟨Nat.le_of_ble_eq_true rfl, Nat.le_of_ble_eq_true rfl⟩ (Nat.le_of_ble_eq_true rfl) dX8_putAll_37 ⟨Nat.zero_le _, Nat.zero_le _⟩ (fun H locs hP hS => ?_)
              refine lv_if_ne (tgt := 61) hx hb dX8_putAll_40 (by decide) (fun c_15 => ?_) (fun c_15 => ?_)
              · have hf := i_f c_15 hf
                exact jn61 v3_8 M_10 hf H locs ls hP hS (lv_sub hl [3, 2, 0] rfl)
              · have hf := i_t c_15 hf
                refine lv_aload_n hx hb dX8_putAll_43 rfl (lv_at hl 3 rfl) ?_
                refine lv_iload_n hx hb dX8_putAll_44 rfl (lv_at hl 0 rfl) ?_
                refine lv_aload_n hx hb dX8_putAll_45 rfl (lv_at hl 3 rfl) ?_
                refine gX8_0 hx hb hts hown hk hP wd_3_192 dX8_putAll_46 ?_
                refine lv_iconst (v := (1 : Int32)) hx hb dX8_putAll_49 (by decide) ?_
                refine ald hx hb hk hP (by decide) rfl (show inb _ _ from by decide) dX8_putAll_50 ?_
                obtain ⟨r_30, h_r_30, hf⟩ := b_d hf
                refine k_X8_waysOf hZ hP hS hl.1 wd_4_129 ⟨Nat.le_of_ble_eq_true rfl, Nat.le_of_ble_eq_true rfl⟩ (Nat.le_of_ble_eq_true rfl) dX8_putAll_51 ⟨Nat.zero_le _, Nat.zero_le _⟩ h_r_30 (fun H locs hP hS => ?_)
                refine lv_if_eq (tgt := 61) hx hb dX8_putAll_54 (by decide) (fun c_31 => ?_) (fun c_31 => ?_)
                · have hf := i_t c_31 hf
                  exact jn61 v3_8 M_10 hf H locs ls hP hS (lv_sub hl [3, 2, 0] rfl)
                · have hf := i_f c_31 hf
                  refine lv_iconst (v := (1 : Int32)) hx hb dX8_putAll_57 (by decide) ?_
                  refine lv_goto (tgt := 62) hx hb dX8_putAll_58 (by decide) ?_
                  exact jn62 v3_8 (1 : Int32) M_10 hf H locs ls hP hS (lv_sub hl [3, 2, 0] rfl)
        · intro v2_11 M_12 e H locs ls hP hS hl
          subst o16
          have hf := u2_e hf
          refine lv_iload_n hx hb dX8_putAll_89 rfl (lv_at hl 1 rfl) ?_
          refine lv_iload_n hx hb dX8_putAll_90 rfl (lv_at hl 0 rfl) ?_
          refine lv_if_eq (tgt := 98) hx hb dX8_putAll_91 (by decide) (fun c_32 => ?_) (fun c_32 => ?_)
          · have hf := i_t c_32 hf
            refine lv_iconst (v := (0 : Int32)) hx hb dX8_putAll_98 (by decide) ?_
            exact jn99 v2_11 (0 : Int32) v1_3 M_12 hf H locs ls hP hS (lv_sub hl [2, 0] rfl)
          · have hf := i_f c_32 hf
            refine lv_iconst (v := (1 : Int32)) hx hb dX8_putAll_94 (by decide) ?_
            refine lv_goto (tgt := 99) hx hb dX8_putAll_95 (by decide) ?_
            exact jn99 v2_11 (1 : Int32) v1_3 M_12 hf H locs ls hP hS (lv_sub hl [2, 0] rfl)
    · intro v1_5 M_6 e H locs ls hP hS hl
      subst o8
      have hf := u2_e hf
      refine lv_aload_n hx hb dX8_putAll_104 rfl (lv_at hl 1 rfl) ?_
      refine gX8_0 hx hb hts hown hk hP wd_3_192 dX8_putAll_105 ?_
      refine lv_iconst (v := (2 : Int32)) hx hb dX8_putAll_108 (by decide) ?_
      refine lv_dup2_11 hx hb dX8_putAll_109 rfl rfl ?_
      refine ald hx hb hk hP (by decide) rfl (show inb _ _ from by decide) dX8_putAll_110 ?_
      refine lv_iload_n hx hb dX8_putAll_111 rfl (lv_at hl 0 rfl) ?_
      refine lv_iadd hx hb dX8_putAll_112 ?_
      refine ast hx hb hk hP hS (by decide) (fun _ => rfl) (show inb _ _ from by decide) dX8_putAll_113 (fun H locs M_38 e_M_38 hP hS => ?_)
      have hf := b_v hf e_M_38
      refine lv_iload_n hx hb dX8_putAll_114 rfl (lv_at hl 0 rfl) ?_
      have hf := Option.some.inj hf
      obtain ⟨e1, e2⟩ := Prod.mk.inj hf
      rw [e2] at hP
      exact ret_i hx hb hr hlocks hP hS e1 dX8_putAll_115
  exact key s.heap [] hP hS
theorem hd_X8_putAll : Hd yX8_putAll 0 := by decide +kernel
theorem k_X8_putAll {p : Program} {l : Launch} {e : Env} {R : Room} {s : State} {m : MethodId} {args : Array Value} {below : List Frame} {meth : Method} {c : Code} {H : Heap} {locs : List Loc} {cells slots : Nat} {Q : State → Prop} {cc : ByteArray} {nL pc index : Nat} {ls : Array Slot} {rest : List Value} {X : En} {M : Mem} {H0 : Heap} {own : String} {g : Nat} {r : Int32} {M9 : Mem} (hZ : Fx p c m s args X cc nL own) (hP : wd X M H) (hS : va_S X.A H0 H locs) (hsz : ls.size = nL) (hlk : Cond.methodLink own index yX8_putAll ∈ lw_u) (hR : 2 + 1 ≤ R.frames ∧ 8 + (4 + 11) + 47 ≤ R.locals) (hW : (rest.map fun v => v.category).sum ≤ 8) (hdg : decode cc pc = .ok (.invokevirtual index, 3)) (hcs : cells ≤ R.cells ∧ slots ≤ R.slots) (hf : fn_X8_putAll g M = some (r, M9))
    (kk : ∀ (H1 : Heap) (locs1 : List Loc), wd X M9 H1 → va_S X.A H0 H1 locs1 → W p l e R s m args below meth c H1 locs1 cells slots Q (F0 m (pc + 3) ls (.int r :: rest))) : W p l e R s m args below meth c H locs cells slots Q (F0 m pc ls (.ref (X.ad 61) :: rest)) :=
  cal_i (runV (As := []) (rest := rest) hZ.1 hZ.2.1 hZ.2.2.1 hZ.2.2.2.1 hZ.2.2.2.2.1 hZ.2.2.2.2.2 hP (c_X8_putAll g M r M9 hf) wd_5_0 wd_4_238 wd_4_239 wd_1_9 hd_X8_putAll (by decide) rfl rfl rfl hlk hR hsz rfl hW hdg hcs) hS kk
/-! FrameRaiserModel.ifShift -/
def fn_X8_ifShift (g : Nat) (x1 : Int32) (x2 : Int32) (M : Mem) : Option (Int32 × Mem) :=
  (fn_X8_wrongShift g x1 x2 M).bind fun r_1 =>
  if r_1 = 0 then
    ((fn_X8_copies g (0 : Int32) (9 : Int32) M).bind fun M_3 =>
    (fn_X8_moves g x1 x2 M_3).bind fun M_4 =>
    (fn_X8_lockedOf g (fn_X8_all M_4) M_4).bind fun r_5 =>
    (fn_X8_bits g r_5).bind fun r_6 =>
    (fn_X8_copies g (9 : Int32) (0 : Int32) M_4).bind fun M_7 =>
    (fn_X8_lays g M_7).bind fun M_8 =>
    some (r_6, M_8))
  else
    (some (r_1, M))
theorem dX8_ifShift_0 : decode cX8_ifShift 0 = .ok (.aload_n 0, 1) := by decide +kernel
theorem dX8_ifShift_1 : decode cX8_ifShift 1 = .ok (.iload_n 1, 1) := by decide +kernel
theorem dX8_ifShift_2 : decode cX8_ifShift 2 = .ok (.iload_n 2, 1) := by decide +kernel
theorem dX8_ifShift_3 : decode cX8_ifShift 3 = .ok (.invokevirtual 156, 3) := by decide +kernel
theorem dX8_ifShift_6 : decode cX8_ifShift 6 = .ok (.istore_n 3, 1) := by decide +kernel
theorem dX8_ifShift_7 : decode cX8_ifShift 7 = .ok (.iload_n 3, 1) := by decide +kernel
theorem dX8_ifShift_8 : decode cX8_ifShift 8 = .ok (.ifCond .eq 5, 3) := by decide +kernel
theorem dX8_ifShift_11 : decode cX8_ifShift 11 = .ok (.iload_n 3, 1) := by decide +kernel
theorem dX8_ifShift_12 : decode cX8_ifShift 12 = .ok (.ireturn, 1) := by decide +kernel
theorem dX8_ifShift_13 : decode cX8_ifShift 13 = .ok (.aload_n 0, 1) := by decide +kernel
theorem dX8_ifShift_14 : decode cX8_ifShift 14 = .ok (.iconst 0, 1) := by decide +kernel
theorem dX8_ifShift_15 : decode cX8_ifShift 15 = .ok (.bipush 9, 2) := by decide +kernel
theorem dX8_ifShift_17 : decode cX8_ifShift 17 = .ok (.invokevirtual 45, 3) := by decide +kernel
theorem dX8_ifShift_20 : decode cX8_ifShift 20 = .ok (.aload_n 0, 1) := by decide +kernel
theorem dX8_ifShift_21 : decode cX8_ifShift 21 = .ok (.iload_n 1, 1) := by decide +kernel
theorem dX8_ifShift_22 : decode cX8_ifShift 22 = .ok (.iload_n 2, 1) := by decide +kernel
theorem dX8_ifShift_23 : decode cX8_ifShift 23 = .ok (.invokevirtual 159, 3) := by decide +kernel
theorem dX8_ifShift_26 : decode cX8_ifShift 26 = .ok (.aload_n 0, 1) := by decide +kernel
theorem dX8_ifShift_27 : decode cX8_ifShift 27 = .ok (.aload_n 0, 1) := by decide +kernel
theorem dX8_ifShift_28 : decode cX8_ifShift 28 = .ok (.invokevirtual 57, 3) := by decide +kernel
theorem dX8_ifShift_31 : decode cX8_ifShift 31 = .ok (.invokevirtual 188, 3) := by decide +kernel
theorem dX8_ifShift_34 : decode cX8_ifShift 34 = .ok (.invokestatic 98, 3) := by decide +kernel
theorem dX8_ifShift_37 : decode cX8_ifShift 37 = .ok (.istore 4, 2) := by decide +kernel
theorem dX8_ifShift_39 : decode cX8_ifShift 39 = .ok (.aload_n 0, 1) := by decide +kernel
theorem dX8_ifShift_40 : decode cX8_ifShift 40 = .ok (.bipush 9, 2) := by decide +kernel
theorem dX8_ifShift_42 : decode cX8_ifShift 42 = .ok (.iconst 0, 1) := by decide +kernel
theorem dX8_ifShift_43 : decode cX8_ifShift 43 = .ok (.invokevirtual 45, 3) := by decide +kernel
theorem dX8_ifShift_46 : decode cX8_ifShift 46 = .ok (.aload_n 0, 1) := by decide +kernel
theorem dX8_ifShift_47 : decode cX8_ifShift 47 = .ok (.invokevirtual 38, 3) := by decide +kernel
theorem dX8_ifShift_50 : decode cX8_ifShift 50 = .ok (.iload 4, 2) := by decide +kernel
theorem dX8_ifShift_52 : decode cX8_ifShift 52 = .ok (.ireturn, 1) := by decide +kernel
set_option maxHeartbeats 4000000 in
set_option maxRecDepth 100000 in
theorem c_X8_ifShift {l : Launch} {X : En} (g : Nat) (x1 : Int32) (x2 : Int32) (M : Mem) (r : Int32) (M9 : Mem) (hf : fn_X8_ifShift g x1 x2 M = some (r, M9)) : Cn l X yX8_ifShift cX8_ifShift 5 (some .int) 5 118 [.ref (X.ad 61), .int x1, .int x2] M (Qi X r M9) := by
  refine Met.ofW (cc := cX8_ifShift) (maxL := 5) (ret := (some .int)) (by decide) rfl ?_
  intro p e s m args below meth c s₁ B hml hv
  obtain ⟨rfl, hP, hk⟩ := hv
  have hx := B.exec
  have hb := B.bytes
  have hr := B.returns
  have hlocks := B.notSynchronized
  have hts : ∀ w ∈ lw_u, w.before ([.ref (X.ad 61), .int x1, .int x2] : List Value).toArray s = true := fun w hw => atoms_spec (ws := Cond.code yX8_ifShift cX8_ifShift 5 (some .int) :: lw_u) B.pre w (List.mem_cons_of_mem _ hw)
  have hown : s.vm.findClass RX8 = some m.cls := findClass_of_methodNamed B.named
  have hZ : Fx p c m s ([.ref (X.ad 61), .int x1, .int x2] : List Value).toArray X cX8_ifShift 5 RX8 := ⟨hx, hb, hml, hts, hown, hk⟩
  have hS : va_S X.A s.heap s.heap [] := va_S.rf
  have hl := lv_entry ([.ref (X.ad 61), .int x1, .int x2]) (n := 5) (Nat.le_of_ble_eq_true rfl)
  rw [lg_entry_eq]
  generalize (lg_sl ([.ref (X.ad 61), .int x1, .int x2]) ++ List.replicate (5 - (lg_sl ([.ref (X.ad 61), .int x1, .int x2])).length) Slot.unset).toArray = ls at hl ⊢
  have hl : lv_has ls 5 [(0, .ref (X.ad 61)), (1, .int x1), (2, .int x2)] := hl
  show WW p l e 5 118 s m [.ref (X.ad 61), .int x1, .int x2] below meth c X (Qi X r M9) s.heap [] 0 ls []
  have hP : wd X M s.heap := hP
  unfold fn_X8_ifShift at hf
  have key : ∀ (H : Heap) (locs : List Loc), wd X M H → va_S X.A s.heap H locs → WW p l e 5 118 s m [.ref (X.ad 61), .int x1, .int x2] below meth c X (Qi X r M9) H locs 0 ls [] := by
    intro H locs hP hS
    refine lv_aload_n hx hb dX8_ifShift_0 rfl (lv_at hl 0 rfl) ?_
    refine lv_iload_n hx hb dX8_ifShift_1 rfl (lv_at hl 1 rfl) ?_
    refine lv_iload_n hx hb dX8_ifShift_2 rfl (lv_at hl 2 rfl) ?_
    obtain ⟨r_1, h_r_1, hf⟩ := b_d hf
    refine k_X8_wrongShift hZ hP hS hl.1 wd_4_86 ⟨Nat.le_of_ble_eq_true rfl, Nat.le_of_ble_eq_true rfl⟩ (Nat.le_of_ble_eq_true rfl) dX8_ifShift_3 ⟨Nat.zero_le _, Nat.zero_le _⟩ h_r_1 (fun H locs hP hS => ?_)
    refine lv_istore_n (lv' := [(3, .int r_1), (0, .ref (X.ad 61)), (1, .int x1), (2, .int x2)]) hx hb dX8_ifShift_6 rfl hl (by decide) rfl (fun ls hl => ?_)
    refine lv_iload_n hx hb dX8_ifShift_7 rfl (lv_at hl 0 rfl) ?_
    refine lv_if_eq (tgt := 13) hx hb dX8_ifShift_8 (by decide) (fun c_2 => ?_) (fun c_2 => ?_)
    · have hf := i_t c_2 hf
      refine lv_aload_n hx hb dX8_ifShift_13 rfl (lv_at hl 1 rfl) ?_
      refine lv_iconst (v := (0 : Int32)) hx hb dX8_ifShift_14 (by decide) ?_
      refine lv_bipush (v := (9 : Int32)) hx hb dX8_ifShift_15 (by decide) ?_
      obtain ⟨M_3, h_M_3, hf⟩ := b_d hf
      refine k_X8_copies hZ hP hS hl.1 wd_3_239 ⟨Nat.le_of_ble_eq_true rfl, Nat.le_of_ble_eq_true rfl⟩ (Nat.le_of_ble_eq_true rfl) dX8_ifShift_17 ⟨Nat.zero_le _, Nat.zero_le _⟩ h_M_3 (fun H locs hP hS => ?_)
      refine lv_aload_n hx hb dX8_ifShift_20 rfl (lv_at hl 1 rfl) ?_
      refine lv_iload_n hx hb dX8_ifShift_21 rfl (lv_at hl 2 rfl) ?_
      refine lv_iload_n hx hb dX8_ifShift_22 rfl (lv_at hl 3 rfl) ?_
      obtain ⟨M_4, h_M_4, hf⟩ := b_d hf
      refine k_X8_moves hZ hP hS hl.1 wd_4_93 ⟨Nat.le_of_ble_eq_true rfl, Nat.le_of_ble_eq_true rfl⟩ (Nat.le_of_ble_eq_true rfl) dX8_ifShift_23 ⟨Nat.zero_le _, Nat.zero_le _⟩ h_M_4 (fun H locs hP hS => ?_)
      refine lv_aload_n hx hb dX8_ifShift_26 rfl (lv_at hl 1 rfl) ?_
      refine lv_aload_n hx hb dX8_ifShift_27 rfl (lv_at hl 1 rfl) ?_
      refine k_X8_all hZ hP hS hl.1 wd_4_125 ⟨Nat.le_of_ble_eq_true rfl, Nat.le_of_ble_eq_true rfl⟩ (Nat.le_of_ble_eq_true rfl) dX8_ifShift_28 ⟨Nat.zero_le _, Nat.zero_le _⟩ (fun H locs hP hS => ?_)
      obtain ⟨r_5, h_r_5, hf⟩ := b_d hf
      refine k_X8_lockedOf hZ hP hS hl.1 wd_4_213 ⟨Nat.le_of_ble_eq_true rfl, Nat.le_of_ble_eq_true rfl⟩ (Nat.le_of_ble_eq_true rfl) dX8_ifShift_31 ⟨Nat.zero_le _, Nat.zero_le _⟩ h_r_5 (fun H locs hP hS => ?_)
      obtain ⟨r_6, h_r_6, hf⟩ := b_d hf
      refine k_X8_bits hZ hP hS hl.1 wd_4_195 ⟨Nat.le_of_ble_eq_true rfl, Nat.le_of_ble_eq_true rfl⟩ (Nat.le_of_ble_eq_true rfl) dX8_ifShift_34 ⟨Nat.zero_le _, Nat.zero_le _⟩ h_r_6 (fun H locs hP hS => ?_)
      refine lv_istore (lv' := [(4, .int r_6), (3, .int r_1), (0, .ref (X.ad 61)), (1, .int x1), (2, .int x2)]) hx hb dX8_ifShift_37 hl (by decide) rfl (fun ls hl => ?_)
      refine lv_aload_n hx hb dX8_ifShift_39 rfl (lv_at hl 2 rfl) ?_
      refine lv_bipush (v := (9 : Int32)) hx hb dX8_ifShift_40 (by decide) ?_
      refine lv_iconst (v := (0 : Int32)) hx hb dX8_ifShift_42 (by decide) ?_
      obtain ⟨M_7, h_M_7, hf⟩ := b_d hf
      refine k_X8_copies hZ hP hS hl.1 wd_3_239 ⟨Nat.le_of_ble_eq_true rfl, Nat.le_of_ble_eq_true rfl⟩ (Nat.le_of_ble_eq_true rfl) dX8_ifShift_43 ⟨Nat.zero_le _, Nat.zero_le _⟩ h_M_7 (fun H locs hP hS => ?_)
      refine lv_aload_n hx hb dX8_ifShift_46 rfl (lv_at hl 2 rfl) ?_
      obtain ⟨M_8, h_M_8, hf⟩ := b_d hf
      refine k_X8_lays hZ hP hS hl.1 wd_3_171 ⟨Nat.le_of_ble_eq_true rfl, Nat.le_of_ble_eq_true rfl⟩ (Nat.le_of_ble_eq_true rfl) dX8_ifShift_47 ⟨Nat.zero_le _, Nat.zero_le _⟩ h_M_8 (fun H locs hP hS => ?_)
      refine lv_iload hx hb dX8_ifShift_50 (lv_at hl 0 rfl) ?_
      have hf := Option.some.inj hf
      obtain ⟨e1, e2⟩ := Prod.mk.inj hf
      rw [e2] at hP
      exact ret_i hx hb hr hlocks hP hS e1 dX8_ifShift_52
    · have hf := i_f c_2 hf
      refine lv_iload_n hx hb dX8_ifShift_11 rfl (lv_at hl 0 rfl) ?_
      have hf := Option.some.inj hf
      obtain ⟨e1, e2⟩ := Prod.mk.inj hf
      rw [e2] at hP
      exact ret_i hx hb hr hlocks hP hS e1 dX8_ifShift_12
  exact key s.heap [] hP hS
theorem hd_X8_ifShift : Hd yX8_ifShift 2 := by decide +kernel
theorem k_X8_ifShift {p : Program} {l : Launch} {e : Env} {R : Room} {s : State} {m : MethodId} {args : Array Value} {below : List Frame} {meth : Method} {c : Code} {H : Heap} {locs : List Loc} {cells slots : Nat} {Q : State → Prop} {cc : ByteArray} {nL pc index : Nat} {ls : Array Slot} {rest : List Value} {X : En} {M : Mem} {H0 : Heap} {own : String} {g : Nat} {x1 : Int32} {x2 : Int32} {r : Int32} {M9 : Mem} (hZ : Fx p c m s args X cc nL own) (hP : wd X M H) (hS : va_S X.A H0 H locs) (hsz : ls.size = nL) (hlk : Cond.methodLink own index yX8_ifShift ∈ lw_u) (hR : 5 + 1 ≤ R.frames ∧ 8 + (5 + 11) + 118 ≤ R.locals) (hW : (rest.map fun v => v.category).sum ≤ 8) (hdg : decode cc pc = .ok (.invokevirtual index, 3)) (hcs : cells ≤ R.cells ∧ slots ≤ R.slots) (hf : fn_X8_ifShift g x1 x2 M = some (r, M9))
    (kk : ∀ (H1 : Heap) (locs1 : List Loc), wd X M9 H1 → va_S X.A H0 H1 locs1 → W p l e R s m args below meth c H1 locs1 cells slots Q (F0 m (pc + 3) ls (.int r :: rest))) : W p l e R s m args below meth c H locs cells slots Q (F0 m pc ls (.int x2 :: .int x1 :: .ref (X.ad 61) :: rest)) :=
  cal_i (runV (As := [.int x1, .int x2]) (rest := rest) hZ.1 hZ.2.1 hZ.2.2.1 hZ.2.2.2.1 hZ.2.2.2.2.1 hZ.2.2.2.2.2 hP (c_X8_ifShift g x1 x2 M r M9 hf) wd_5_4 wd_5_2 wd_5_3 wd_1_9 hd_X8_ifShift (by decide) rfl rfl rfl hlk hR hsz rfl hW hdg hcs) hS kk
/-! FrameRaiserModel.cellMany -/
def jn_X8_cellMany_25 (s_8 : Int32) (s_9 : Int32) (v2_7 : Int32) : Option ((Int32 × Int32) ⊕ (Int32)) :=
  bv (s_9 + s_8) fun v1_10 =>
  some (.inl (v1_10, v2_7 + (1 : Int32)))
def bd_X8_cellMany_4 (M : Mem) : (Int32 × Int32) → Option ((Int32 × Int32) ⊕ (Int32)) :=
  u2 fun v1_2 v2_1 =>
  if (216 : Int32) ≤ v2_1 then
    (some (.inr v1_2))
  else
    ((fn_X8_at v2_1 M).bind fun r_5 =>
    if r_5 < 0 then
      (jn_X8_cellMany_25 (0 : Int32) v1_2 v2_1)
    else
      (jn_X8_cellMany_25 (1 : Int32) v1_2 v2_1))
def fn_X8_cellMany (g : Nat) (M : Mem) : Option (Int32) :=
  (lpN g (bd_X8_cellMany_4 M) ((0 : Int32), (0 : Int32))).bind (u1 fun v1_3 =>
    some v1_3)
theorem dX8_cellMany_0 : decode cX8_cellMany 0 = .ok (.iconst 0, 1) := by decide +kernel
theorem dX8_cellMany_1 : decode cX8_cellMany 1 = .ok (.istore_n 1, 1) := by decide +kernel
theorem dX8_cellMany_2 : decode cX8_cellMany 2 = .ok (.iconst 0, 1) := by decide +kernel
theorem dX8_cellMany_3 : decode cX8_cellMany 3 = .ok (.istore_n 2, 1) := by decide +kernel
theorem dX8_cellMany_4 : decode cX8_cellMany 4 = .ok (.iload_n 2, 1) := by decide +kernel
theorem dX8_cellMany_5 : decode cX8_cellMany 5 = .ok (.sipush 216, 3) := by decide +kernel
theorem dX8_cellMany_8 : decode cX8_cellMany 8 = .ok (.if_icmp .ge 25, 3) := by decide +kernel
theorem dX8_cellMany_11 : decode cX8_cellMany 11 = .ok (.iload_n 1, 1) := by decide +kernel
theorem dX8_cellMany_12 : decode cX8_cellMany 12 = .ok (.aload_n 0, 1) := by decide +kernel
theorem dX8_cellMany_13 : decode cX8_cellMany 13 = .ok (.iload_n 2, 1) := by decide +kernel
theorem dX8_cellMany_14 : decode cX8_cellMany 14 = .ok (.invokevirtual 61, 3) := by decide +kernel
theorem dX8_cellMany_17 : decode cX8_cellMany 17 = .ok (.ifCond .lt 7, 3) := by decide +kernel
theorem dX8_cellMany_20 : decode cX8_cellMany 20 = .ok (.iconst 1, 1) := by decide +kernel
theorem dX8_cellMany_21 : decode cX8_cellMany 21 = .ok (.goto 4, 3) := by decide +kernel
theorem dX8_cellMany_24 : decode cX8_cellMany 24 = .ok (.iconst 0, 1) := by decide +kernel
theorem dX8_cellMany_25 : decode cX8_cellMany 25 = .ok (.iadd, 1) := by decide +kernel
theorem dX8_cellMany_26 : decode cX8_cellMany 26 = .ok (.istore_n 1, 1) := by decide +kernel
theorem dX8_cellMany_27 : decode cX8_cellMany 27 = .ok (.iinc 2 1, 3) := by decide +kernel
theorem dX8_cellMany_30 : decode cX8_cellMany 30 = .ok (.goto (-26), 3) := by decide +kernel
theorem dX8_cellMany_33 : decode cX8_cellMany 33 = .ok (.iload_n 1, 1) := by decide +kernel
theorem dX8_cellMany_34 : decode cX8_cellMany 34 = .ok (.ireturn, 1) := by decide +kernel
set_option maxHeartbeats 4000000 in
set_option maxRecDepth 100000 in
theorem c_X8_cellMany {l : Launch} {X : En} (g : Nat) (M : Mem) (r : Int32) (hf : fn_X8_cellMany g M = some r) : Cn l X yX8_cellMany cX8_cellMany 3 (some .int) 1 21 [.ref (X.ad 61)] M (Qi X r M) := by
  refine Met.ofW (cc := cX8_cellMany) (maxL := 3) (ret := (some .int)) (by decide) rfl ?_
  intro p e s m args below meth c s₁ B hml hv
  obtain ⟨rfl, hP, hk⟩ := hv
  have hx := B.exec
  have hb := B.bytes
  have hr := B.returns
  have hlocks := B.notSynchronized
  have hts : ∀ w ∈ lw_u, w.before ([.ref (X.ad 61)] : List Value).toArray s = true := fun w hw => atoms_spec (ws := Cond.code yX8_cellMany cX8_cellMany 3 (some .int) :: lw_u) B.pre w (List.mem_cons_of_mem _ hw)
  have hown : s.vm.findClass RX8 = some m.cls := findClass_of_methodNamed B.named
  have hZ : Fx p c m s ([.ref (X.ad 61)] : List Value).toArray X cX8_cellMany 3 RX8 := ⟨hx, hb, hml, hts, hown, hk⟩
  have hS : va_S X.A s.heap s.heap [] := va_S.rf
  have hl := lv_entry ([.ref (X.ad 61)]) (n := 3) (Nat.le_of_ble_eq_true rfl)
  rw [lg_entry_eq]
  generalize (lg_sl ([.ref (X.ad 61)]) ++ List.replicate (3 - (lg_sl ([.ref (X.ad 61)])).length) Slot.unset).toArray = ls at hl ⊢
  have hl : lv_has ls 3 [(0, .ref (X.ad 61))] := hl
  show WW p l e 1 21 s m [.ref (X.ad 61)] below meth c X (Qi X r M) s.heap [] 0 ls []
  have hP : wd X M s.heap := hP
  unfold fn_X8_cellMany at hf
  have key : ∀ (H : Heap) (locs : List Loc), wd X M H → va_S X.A s.heap H locs → WW p l e 1 21 s m [.ref (X.ad 61)] below meth c X (Qi X r M) H locs 0 ls [] := by
    intro H locs hP hS
    refine lv_iconst (v := (0 : Int32)) hx hb dX8_cellMany_0 (by decide) ?_
    refine lv_istore_n (lv' := [(1, .int (0 : Int32)), (0, .ref (X.ad 61))]) hx hb dX8_cellMany_1 rfl hl (by decide) rfl (fun ls hl => ?_)
    refine lv_iconst (v := (0 : Int32)) hx hb dX8_cellMany_2 (by decide) ?_
    refine lv_istore_n (lv' := [(2, .int (0 : Int32)), (1, .int (0 : Int32)), (0, .ref (X.ad 61))]) hx hb dX8_cellMany_3 rfl hl (by decide) rfl (fun ls hl => ?_)
    obtain ⟨o4, ho4, hf⟩ := b_d hf
    refine lp_rule (b := bd_X8_cellMany_4 M) (P := fun w : Int32 × Int32 => ∀ (H : Heap) (locs : List Loc) (ls : Array Slot), wd X M H → va_S X.A s.heap H locs → lv_has ls 3 [(2, .int w.2), (1, .int w.1), (0, .ref (X.ad 61))] → WW p l e 1 21 s m [.ref (X.ad 61)] below meth c X (Qi X r M) H locs 4 ls []) (K := fun o => ∀ (v1_3 : Int32), o = v1_3 → ∀ (H : Heap) (locs : List Loc) (ls : Array Slot), wd X M H → va_S X.A s.heap H locs → lv_has ls 3 [(1, .int v1_3)] → WW p l e 1 21 s m [.ref (X.ad 61)] below meth c X (Qi X r M) H locs 33 ls []) ?_ g ((0 : Int32), (0 : Int32)) o4 ho4 ?_ H locs ls hP hS (lv_sub hl [0, 1, 2] rfl)
    · rintro ⟨v1_2, v2_1⟩ o hf hkc4 hke4 H locs ls hP hS hl
      have hf := u2_e hf
      have jn25 : ∀ (v2_7 : Int32) (s_8 : Int32) (s_9 : Int32), jn_X8_cellMany_25 s_8 s_9 v2_7 = some o → ∀ (H : Heap) (locs : List Loc) (ls : Array Slot), wd X M H → va_S X.A s.heap H locs → lv_has ls 3 [(0, .ref (X.ad 61)), (2, .int v2_7)] → WW p l e 1 21 s m [.ref (X.ad 61)] below meth c X (Qi X r M) H locs 25 ls [.int s_8, .int s_9] := by
        intro v2_7 s_8 s_9  hf H locs ls hP hS hl
        unfold jn_X8_cellMany_25 at hf
        refine lv_iadd hx hb dX8_cellMany_25 ?_
        refine lv_topi (fun v1_10 e_v1_10 => ?_)
        have hf := b_v hf e_v1_10
        refine lv_istore_n (lv' := [(1, .int v1_10), (0, .ref (X.ad 61)), (2, .int v2_7)]) hx hb dX8_cellMany_26 rfl hl (by decide) rfl (fun ls hl => ?_)
        refine lv_iinc (v := v2_7 + (1 : Int32)) (lv' := [(2, .int (v2_7 + (1 : Int32))), (1, .int v1_10), (0, .ref (X.ad 61))]) hx hb dX8_cellMany_27 hl (k := 2) rfl rfl (by decide) rfl (fun ls hl => ?_)
        refine lv_goto (tgt := 4) hx hb dX8_cellMany_30 (by decide) ?_
        exact hkc4 _ (Option.some.inj hf).symm H locs ls hP hS (lv_sub hl [0, 1, 2] rfl)
      refine lv_iload_n hx hb dX8_cellMany_4 rfl (lv_at hl 0 rfl) ?_
      refine lv_sipush (v := (216 : Int32)) hx hb dX8_cellMany_5 (by decide) ?_
      refine lv_icmp_ge (tgt := 33) hx hb dX8_cellMany_8 (by decide) (fun c_4 => ?_) (fun c_4 => ?_)
      · have hf := i_t c_4 hf
        exact hke4 _ (Option.some.inj hf).symm _ rfl H locs ls hP hS (lv_sub hl [1] rfl)
      · have hf := i_f c_4 hf
        refine lv_iload_n hx hb dX8_cellMany_11 rfl (lv_at hl 1 rfl) ?_
        refine lv_aload_n hx hb dX8_cellMany_12 rfl (lv_at hl 2 rfl) ?_
        refine lv_iload_n hx hb dX8_cellMany_13 rfl (lv_at hl 0 rfl) ?_
        obtain ⟨r_5, h_r_5, hf⟩ := b_d hf
        refine k_X8_at hZ hP hS hl.1 wd_3_175 ⟨Nat.le_of_ble_eq_true rfl, Nat.le_of_ble_eq_true rfl⟩ (Nat.le_of_ble_eq_true rfl) dX8_cellMany_14 ⟨Nat.zero_le _, Nat.zero_le _⟩ h_r_5 (fun H locs hP hS => ?_)
        refine lv_if_lt (tgt := 24) hx hb dX8_cellMany_17 (by decide) (fun c_6 => ?_) (fun c_6 => ?_)
        · have hf := i_t c_6 hf
          refine lv_iconst (v := (0 : Int32)) hx hb dX8_cellMany_24 (by decide) ?_
          exact jn25 v2_1 (0 : Int32) v1_2 hf H locs ls hP hS (lv_sub hl [2, 0] rfl)
        · have hf := i_f c_6 hf
          refine lv_iconst (v := (1 : Int32)) hx hb dX8_cellMany_20 (by decide) ?_
          refine lv_goto (tgt := 25) hx hb dX8_cellMany_21 (by decide) ?_
          exact jn25 v2_1 (1 : Int32) v1_2 hf H locs ls hP hS (lv_sub hl [2, 0] rfl)
    · intro v1_3 e H locs ls hP hS hl
      subst o4
      have hf := u1_e hf
      refine lv_iload_n hx hb dX8_cellMany_33 rfl (lv_at hl 0 rfl) ?_
      have hf := Option.some.inj hf
      exact ret_i hx hb hr hlocks hP hS hf dX8_cellMany_34
  exact key s.heap [] hP hS
theorem hd_X8_cellMany : Hd yX8_cellMany 0 := by decide +kernel
theorem k_X8_cellMany {p : Program} {l : Launch} {e : Env} {R : Room} {s : State} {m : MethodId} {args : Array Value} {below : List Frame} {meth : Method} {c : Code} {H : Heap} {locs : List Loc} {cells slots : Nat} {Q : State → Prop} {cc : ByteArray} {nL pc index : Nat} {ls : Array Slot} {rest : List Value} {X : En} {M : Mem} {H0 : Heap} {own : String} {g : Nat} {r : Int32} (hZ : Fx p c m s args X cc nL own) (hP : wd X M H) (hS : va_S X.A H0 H locs) (hsz : ls.size = nL) (hlk : Cond.methodLink own index yX8_cellMany ∈ lw_u) (hR : 1 + 1 ≤ R.frames ∧ 8 + (3 + 11) + 21 ≤ R.locals) (hW : (rest.map fun v => v.category).sum ≤ 8) (hdg : decode cc pc = .ok (.invokevirtual index, 3)) (hcs : cells ≤ R.cells ∧ slots ≤ R.slots) (hf : fn_X8_cellMany g M = some r)
    (kk : ∀ (H1 : Heap) (locs1 : List Loc), wd X M H1 → va_S X.A H0 H1 locs1 → W p l e R s m args below meth c H1 locs1 cells slots Q (F0 m (pc + 3) ls (.int r :: rest))) : W p l e R s m args below meth c H locs cells slots Q (F0 m pc ls (.ref (X.ad 61) :: rest)) :=
  cal_i (runV (As := []) (rest := rest) hZ.1 hZ.2.1 hZ.2.2.1 hZ.2.2.2.1 hZ.2.2.2.2.1 hZ.2.2.2.2.2 hP (c_X8_cellMany g M r hf) wd_5_12 wd_5_11 wd_p_60 wd_1_9 hd_X8_cellMany (by decide) rfl rfl rfl hlk hR hsz rfl hW hdg hcs) hS kk
/-! FrameRaiserModel.count -/
def fn_X8_count (g : Nat) (x1 : Int32) (M : Mem) : Option (Int32) :=
  if x1 = (0 : Int32) then
    (some (M 62 (ix (0 : Int32))))
  else if x1 = (1 : Int32) then
    ((fn_X8_cellMany g M).bind fun r_1 =>
    some r_1)
  else if x1 = (2 : Int32) then
    (some (M 62 (ix (1 : Int32))))
  else if x1 = (3 : Int32) then
    (some (M 62 (ix (2 : Int32))))
  else if x1 = (4 : Int32) then
    ((fn_X8_propsOf g (M 62 (ix (1 : Int32))) M).bind fun r_2 =>
    some r_2)
  else if x1 = (5 : Int32) then
    (some (M 61 9))
  else if x1 = (6 : Int32) then
    (some (M 61 1))
  else 
    (some (-1 : Int32))
theorem dX8_count_0 : decode cX8_count 0 = .ok (.iload_n 1, 1) := by decide +kernel
theorem dX8_count_1 : decode cX8_count 1 = .ok (.tableswitch 90 0 6 #[43, 50, 55, 62, 69, 80, 85], 43) := by decide +kernel
theorem dX8_count_44 : decode cX8_count 44 = .ok (.aload_n 0, 1) := by decide +kernel
theorem dX8_count_45 : decode cX8_count 45 = .ok (.getfield 7, 3) := by decide +kernel
theorem dX8_count_48 : decode cX8_count 48 = .ok (.iconst 0, 1) := by decide +kernel
theorem dX8_count_49 : decode cX8_count 49 = .ok (.iaload, 1) := by decide +kernel
theorem dX8_count_50 : decode cX8_count 50 = .ok (.ireturn, 1) := by decide +kernel
theorem dX8_count_51 : decode cX8_count 51 = .ok (.aload_n 0, 1) := by decide +kernel
theorem dX8_count_52 : decode cX8_count 52 = .ok (.invokevirtual 194, 3) := by decide +kernel
theorem dX8_count_55 : decode cX8_count 55 = .ok (.ireturn, 1) := by decide +kernel
theorem dX8_count_56 : decode cX8_count 56 = .ok (.aload_n 0, 1) := by decide +kernel
theorem dX8_count_57 : decode cX8_count 57 = .ok (.getfield 7, 3) := by decide +kernel
theorem dX8_count_60 : decode cX8_count 60 = .ok (.iconst 1, 1) := by decide +kernel
theorem dX8_count_61 : decode cX8_count 61 = .ok (.iaload, 1) := by decide +kernel
theorem dX8_count_62 : decode cX8_count 62 = .ok (.ireturn, 1) := by decide +kernel
theorem dX8_count_63 : decode cX8_count 63 = .ok (.aload_n 0, 1) := by decide +kernel
theorem dX8_count_64 : decode cX8_count 64 = .ok (.getfield 7, 3) := by decide +kernel
theorem dX8_count_67 : decode cX8_count 67 = .ok (.iconst 2, 1) := by decide +kernel
theorem dX8_count_68 : decode cX8_count 68 = .ok (.iaload, 1) := by decide +kernel
theorem dX8_count_69 : decode cX8_count 69 = .ok (.ireturn, 1) := by decide +kernel
theorem dX8_count_70 : decode cX8_count 70 = .ok (.aload_n 0, 1) := by decide +kernel
theorem dX8_count_71 : decode cX8_count 71 = .ok (.aload_n 0, 1) := by decide +kernel
theorem dX8_count_72 : decode cX8_count 72 = .ok (.getfield 7, 3) := by decide +kernel
theorem dX8_count_75 : decode cX8_count 75 = .ok (.iconst 1, 1) := by decide +kernel
theorem dX8_count_76 : decode cX8_count 76 = .ok (.iaload, 1) := by decide +kernel
theorem dX8_count_77 : decode cX8_count 77 = .ok (.invokevirtual 92, 3) := by decide +kernel
theorem dX8_count_80 : decode cX8_count 80 = .ok (.ireturn, 1) := by decide +kernel
theorem dX8_count_81 : decode cX8_count 81 = .ok (.aload_n 0, 1) := by decide +kernel
theorem dX8_count_82 : decode cX8_count 82 = .ok (.getfield 104, 3) := by decide +kernel
theorem dX8_count_85 : decode cX8_count 85 = .ok (.ireturn, 1) := by decide +kernel
theorem dX8_count_86 : decode cX8_count 86 = .ok (.aload_n 0, 1) := by decide +kernel
theorem dX8_count_87 : decode cX8_count 87 = .ok (.getfield 41, 3) := by decide +kernel
theorem dX8_count_90 : decode cX8_count 90 = .ok (.ireturn, 1) := by decide +kernel
theorem dX8_count_91 : decode cX8_count 91 = .ok (.iconst (-1), 1) := by decide +kernel
theorem dX8_count_92 : decode cX8_count 92 = .ok (.ireturn, 1) := by decide +kernel
set_option maxHeartbeats 4000000 in
set_option maxRecDepth 100000 in
theorem c_X8_count {l : Launch} {X : En} (g : Nat) (x1 : Int32) (M : Mem) (r : Int32) (hf : fn_X8_count g x1 M = some r) : Cn l X yX8_count cX8_count 2 (some .int) 2 44 [.ref (X.ad 61), .int x1] M (Qi X r M) := by
  refine Met.ofW (cc := cX8_count) (maxL := 2) (ret := (some .int)) (by decide) rfl ?_
  intro p e s m args below meth c s₁ B hml hv
  obtain ⟨rfl, hP, hk⟩ := hv
  have hx := B.exec
  have hb := B.bytes
  have hr := B.returns
  have hlocks := B.notSynchronized
  have hts : ∀ w ∈ lw_u, w.before ([.ref (X.ad 61), .int x1] : List Value).toArray s = true := fun w hw => atoms_spec (ws := Cond.code yX8_count cX8_count 2 (some .int) :: lw_u) B.pre w (List.mem_cons_of_mem _ hw)
  have hown : s.vm.findClass RX8 = some m.cls := findClass_of_methodNamed B.named
  have hZ : Fx p c m s ([.ref (X.ad 61), .int x1] : List Value).toArray X cX8_count 2 RX8 := ⟨hx, hb, hml, hts, hown, hk⟩
  have hS : va_S X.A s.heap s.heap [] := va_S.rf
  have hl := lv_entry ([.ref (X.ad 61), .int x1]) (n := 2) (Nat.le_of_ble_eq_true rfl)
  rw [lg_entry_eq]
  generalize (lg_sl ([.ref (X.ad 61), .int x1]) ++ List.replicate (2 - (lg_sl ([.ref (X.ad 61), .int x1])).length) Slot.unset).toArray = ls at hl ⊢
  have hl : lv_has ls 2 [(0, .ref (X.ad 61)), (1, .int x1)] := hl
  show WW p l e 2 44 s m [.ref (X.ad 61), .int x1] below meth c X (Qi X r M) s.heap [] 0 ls []
  have hP : wd X M s.heap := hP
  unfold fn_X8_count at hf
  have key : ∀ (H : Heap) (locs : List Loc), wd X M H → va_S X.A s.heap H locs → WW p l e 2 44 s m [.ref (X.ad 61), .int x1] below meth c X (Qi X r M) H locs 0 ls [] := by
    intro H locs hP hS
    refine lv_iload_n hx hb dX8_count_0 rfl (lv_at hl 1 rfl) ?_
    by_cases c_3_0 : x1 = (0 : Int32)
    · have hf := i_t c_3_0 hf
      refine lv_tableIn (tgt := 44) hx hb dX8_count_1 (by rw [c_3_0]; decide) (by rw [c_3_0]; decide) (by rw [c_3_0]; rfl) (by decide) ?_
      refine lv_aload_n hx hb dX8_count_44 rfl (lv_at hl 0 rfl) ?_
      refine gX8_0 hx hb hts hown hk hP wd_3_192 dX8_count_45 ?_
      refine lv_iconst (v := (0 : Int32)) hx hb dX8_count_48 (by decide) ?_
      refine ald hx hb hk hP (by decide) rfl (show inb _ _ from by decide) dX8_count_49 ?_
      have hf := Option.some.inj hf
      exact ret_i hx hb hr hlocks hP hS hf dX8_count_50
    · have hf := i_f c_3_0 hf
      by_cases c_3_1 : x1 = (1 : Int32)
      · have hf := i_t c_3_1 hf
        refine lv_tableIn (tgt := 51) hx hb dX8_count_1 (by rw [c_3_1]; decide) (by rw [c_3_1]; decide) (by rw [c_3_1]; rfl) (by decide) ?_
        refine lv_aload_n hx hb dX8_count_51 rfl (lv_at hl 0 rfl) ?_
        obtain ⟨r_1, h_r_1, hf⟩ := b_d hf
        refine k_X8_cellMany hZ hP hS hl.1 wd_5_9 ⟨Nat.le_of_ble_eq_true rfl, Nat.le_of_ble_eq_true rfl⟩ (Nat.le_of_ble_eq_true rfl) dX8_count_52 ⟨Nat.zero_le _, Nat.zero_le _⟩ h_r_1 (fun H locs hP hS => ?_)
        have hf := Option.some.inj hf
        exact ret_i hx hb hr hlocks hP hS hf dX8_count_55
      · have hf := i_f c_3_1 hf
        by_cases c_3_2 : x1 = (2 : Int32)
        · have hf := i_t c_3_2 hf
          refine lv_tableIn (tgt := 56) hx hb dX8_count_1 (by rw [c_3_2]; decide) (by rw [c_3_2]; decide) (by rw [c_3_2]; rfl) (by decide) ?_
          refine lv_aload_n hx hb dX8_count_56 rfl (lv_at hl 0 rfl) ?_
          refine gX8_0 hx hb hts hown hk hP wd_3_192 dX8_count_57 ?_
          refine lv_iconst (v := (1 : Int32)) hx hb dX8_count_60 (by decide) ?_
          refine ald hx hb hk hP (by decide) rfl (show inb _ _ from by decide) dX8_count_61 ?_
          have hf := Option.some.inj hf
          exact ret_i hx hb hr hlocks hP hS hf dX8_count_62
        · have hf := i_f c_3_2 hf
          by_cases c_3_3 : x1 = (3 : Int32)
          · have hf := i_t c_3_3 hf
            refine lv_tableIn (tgt := 63) hx hb dX8_count_1 (by rw [c_3_3]; decide) (by rw [c_3_3]; decide) (by rw [c_3_3]; rfl) (by decide) ?_
            refine lv_aload_n hx hb dX8_count_63 rfl (lv_at hl 0 rfl) ?_
            refine gX8_0 hx hb hts hown hk hP wd_3_192 dX8_count_64 ?_
            refine lv_iconst (v := (2 : Int32)) hx hb dX8_count_67 (by decide) ?_
            refine ald hx hb hk hP (by decide) rfl (show inb _ _ from by decide) dX8_count_68 ?_
            have hf := Option.some.inj hf
            exact ret_i hx hb hr hlocks hP hS hf dX8_count_69
          · have hf := i_f c_3_3 hf
            by_cases c_3_4 : x1 = (4 : Int32)
            · have hf := i_t c_3_4 hf
              refine lv_tableIn (tgt := 70) hx hb dX8_count_1 (by rw [c_3_4]; decide) (by rw [c_3_4]; decide) (by rw [c_3_4]; rfl) (by decide) ?_
              refine lv_aload_n hx hb dX8_count_70 rfl (lv_at hl 0 rfl) ?_
              refine lv_aload_n hx hb dX8_count_71 rfl (lv_at hl 0 rfl) ?_
              refine gX8_0 hx hb hts hown hk hP wd_3_192 dX8_count_72 ?_
              refine lv_iconst (v := (1 : Int32)) hx hb dX8_count_75 (by decide) ?_
              refine ald hx hb hk hP (by decide) rfl (show inb _ _ from by decide) dX8_count_76 ?_
              obtain ⟨r_2, h_r_2, hf⟩ := b_d hf
              refine k_X8_propsOf hZ hP hS hl.1 wd_4_160 ⟨Nat.le_of_ble_eq_true rfl, Nat.le_of_ble_eq_true rfl⟩ (Nat.le_of_ble_eq_true rfl) dX8_count_77 ⟨Nat.zero_le _, Nat.zero_le _⟩ h_r_2 (fun H locs hP hS => ?_)
              have hf := Option.some.inj hf
              exact ret_i hx hb hr hlocks hP hS hf dX8_count_80
            · have hf := i_f c_3_4 hf
              by_cases c_3_5 : x1 = (5 : Int32)
              · have hf := i_t c_3_5 hf
                refine lv_tableIn (tgt := 81) hx hb dX8_count_1 (by rw [c_3_5]; decide) (by rw [c_3_5]; decide) (by rw [c_3_5]; rfl) (by decide) ?_
                refine lv_aload_n hx hb dX8_count_81 rfl (lv_at hl 0 rfl) ?_
                refine gX8_9 hx hb hts hown hk hP wd_3_201 dX8_count_82 ?_
                have hf := Option.some.inj hf
                exact ret_i hx hb hr hlocks hP hS hf dX8_count_85
              · have hf := i_f c_3_5 hf
                by_cases c_3_6 : x1 = (6 : Int32)
                · have hf := i_t c_3_6 hf
                  refine lv_tableIn (tgt := 86) hx hb dX8_count_1 (by rw [c_3_6]; decide) (by rw [c_3_6]; decide) (by rw [c_3_6]; rfl) (by decide) ?_
                  refine lv_aload_n hx hb dX8_count_86 rfl (lv_at hl 0 rfl) ?_
                  refine gX8_1 hx hb hts hown hk hP wd_3_193 dX8_count_87 ?_
                  have hf := Option.some.inj hf
                  exact ret_i hx hb hr hlocks hP hS hf dX8_count_90
                · have hf := i_f c_3_6 hf
                  refine lv_tableOut (tgt := 91) hx hb dX8_count_1 (sw_out7 c_3_0 c_3_1 c_3_2 c_3_3 c_3_4 c_3_5 c_3_6) (by decide) ?_
                  refine lv_iconst (v := (-1 : Int32)) hx hb dX8_count_91 (by decide) ?_
                  have hf := Option.some.inj hf
                  exact ret_i hx hb hr hlocks hP hS hf dX8_count_92
  exact key s.heap [] hP hS
theorem hd_X8_count : Hd yX8_count 1 := by decide +kernel
theorem k_X8_count {p : Program} {l : Launch} {e : Env} {R : Room} {s : State} {m : MethodId} {args : Array Value} {below : List Frame} {meth : Method} {c : Code} {H : Heap} {locs : List Loc} {cells slots : Nat} {Q : State → Prop} {cc : ByteArray} {nL pc index : Nat} {ls : Array Slot} {rest : List Value} {X : En} {M : Mem} {H0 : Heap} {own : String} {g : Nat} {x1 : Int32} {r : Int32} (hZ : Fx p c m s args X cc nL own) (hP : wd X M H) (hS : va_S X.A H0 H locs) (hsz : ls.size = nL) (hlk : Cond.methodLink own index yX8_count ∈ lw_u) (hR : 2 + 1 ≤ R.frames ∧ 8 + (2 + 11) + 44 ≤ R.locals) (hW : (rest.map fun v => v.category).sum ≤ 8) (hdg : decode cc pc = .ok (.invokevirtual index, 3)) (hcs : cells ≤ R.cells ∧ slots ≤ R.slots) (hf : fn_X8_count g x1 M = some r)
    (kk : ∀ (H1 : Heap) (locs1 : List Loc), wd X M H1 → va_S X.A H0 H1 locs1 → W p l e R s m args below meth c H1 locs1 cells slots Q (F0 m (pc + 3) ls (.int r :: rest))) : W p l e R s m args below meth c H locs cells slots Q (F0 m pc ls (.int x1 :: .ref (X.ad 61) :: rest)) :=
  cal_i (runV (As := [.int x1]) (rest := rest) hZ.1 hZ.2.1 hZ.2.2.1 hZ.2.2.2.1 hZ.2.2.2.2.1 hZ.2.2.2.2.2 hP (c_X8_count g x1 M r hf) wd_5_8 wd_5_6 wd_5_7 wd_1_9 hd_X8_count (by decide) rfl rfl rfl hlk hR hsz rfl hW hdg hcs) hS kk
/-! FrameRaiserModel.mixes -/
def fn_X8_mixes (x1 : Int32) (M : Mem) : Option (Mem) :=
  bv (stl M 61 13 (((31 : Int64) * (l64 (M 61 13) (M 61 14))) + x1.toInt64)) fun M_1 =>
  some M_1
theorem dX8_mixes_0 : decode cX8_mixes 0 = .ok (.aload_n 0, 1) := by decide +kernel
theorem dX8_mixes_1 : decode cX8_mixes 1 = .ok (.ldc2_w 197, 3) := by decide +kernel
theorem dX8_mixes_4 : decode cX8_mixes 4 = .ok (.aload_n 0, 1) := by decide +kernel
theorem dX8_mixes_5 : decode cX8_mixes 5 = .ok (.getfield 199, 3) := by decide +kernel
theorem dX8_mixes_8 : decode cX8_mixes 8 = .ok (.lmul, 1) := by decide +kernel
theorem dX8_mixes_9 : decode cX8_mixes 9 = .ok (.iload_n 1, 1) := by decide +kernel
theorem dX8_mixes_10 : decode cX8_mixes 10 = .ok (.i2l, 1) := by decide +kernel
theorem dX8_mixes_11 : decode cX8_mixes 11 = .ok (.ladd, 1) := by decide +kernel
theorem dX8_mixes_12 : decode cX8_mixes 12 = .ok (.putfield 199, 3) := by decide +kernel
theorem dX8_mixes_15 : decode cX8_mixes 15 = .ok (.return_, 1) := by decide +kernel
set_option maxHeartbeats 4000000 in
set_option maxRecDepth 100000 in
theorem c_X8_mixes {l : Launch} {X : En} (x1 : Int32) (M : Mem) (M9 : Mem) (hf : fn_X8_mixes x1 M = some M9) : Cn l X yX8_mixes cX8_mixes 2 none 0 0 [.ref (X.ad 61), .int x1] M (Qv X M9) := by
  refine Met.ofW (cc := cX8_mixes) (maxL := 2) (ret := none) (by decide) rfl ?_
  intro p e s m args below meth c s₁ B hml hv
  obtain ⟨rfl, hP, hk⟩ := hv
  have hx := B.exec
  have hb := B.bytes
  have hr := B.returns
  have hlocks := B.notSynchronized
  have hts : ∀ w ∈ lw_u, w.before ([.ref (X.ad 61), .int x1] : List Value).toArray s = true := fun w hw => atoms_spec (ws := Cond.code yX8_mixes cX8_mixes 2 none :: lw_u) B.pre w (List.mem_cons_of_mem _ hw)
  have hown : s.vm.findClass RX8 = some m.cls := findClass_of_methodNamed B.named
  have hZ : Fx p c m s ([.ref (X.ad 61), .int x1] : List Value).toArray X cX8_mixes 2 RX8 := ⟨hx, hb, hml, hts, hown, hk⟩
  have hS : va_S X.A s.heap s.heap [] := va_S.rf
  have hl := lv_entry ([.ref (X.ad 61), .int x1]) (n := 2) (Nat.le_of_ble_eq_true rfl)
  rw [lg_entry_eq]
  generalize (lg_sl ([.ref (X.ad 61), .int x1]) ++ List.replicate (2 - (lg_sl ([.ref (X.ad 61), .int x1])).length) Slot.unset).toArray = ls at hl ⊢
  have hl : lv_has ls 2 [(0, .ref (X.ad 61)), (1, .int x1)] := hl
  show WW p l e 0 0 s m [.ref (X.ad 61), .int x1] below meth c X (Qv X M9) s.heap [] 0 ls []
  have hP : wd X M s.heap := hP
  unfold fn_X8_mixes at hf
  have key : ∀ (H : Heap) (locs : List Loc), wd X M H → va_S X.A s.heap H locs → WW p l e 0 0 s m [.ref (X.ad 61), .int x1] below meth c X (Qv X M9) H locs 0 ls [] := by
    intro H locs hP hS
    refine lv_aload_n hx hb dX8_mixes_0 rfl (lv_at hl 0 rfl) ?_
    refine lv_ldc2 hx hb hown (hts _ wd_5_23) dX8_mixes_1 ?_
    refine lv_aload_n hx hb dX8_mixes_4 rfl (lv_at hl 0 rfl) ?_
    refine gX8_13 hx hb hts hown hk hP wd_3_205 dX8_mixes_5 ?_
    refine lv_lmul hx hb dX8_mixes_8 ?_
    refine lv_iload_n hx hb dX8_mixes_9 rfl (lv_at hl 1 rfl) ?_
    refine lv_i2l hx hb dX8_mixes_10 rfl ?_
    refine lv_ladd hx hb dX8_mixes_11 ?_
    refine pX8_13 hx hb hts hown hk hP hS wd_3_205 dX8_mixes_12 (fun H locs M_1 e_M_1 hP hS => ?_)
    have hf := b_v hf e_M_1
    have hf := Option.some.inj hf
    rw [hf] at hP
    exact ret_v hx hb hr hlocks hP hS dX8_mixes_15
  exact key s.heap [] hP hS
theorem hd_X8_mixes : Hd yX8_mixes 1 := by decide +kernel
theorem k_X8_mixes {p : Program} {l : Launch} {e : Env} {R : Room} {s : State} {m : MethodId} {args : Array Value} {below : List Frame} {meth : Method} {c : Code} {H : Heap} {locs : List Loc} {cells slots : Nat} {Q : State → Prop} {cc : ByteArray} {nL pc index : Nat} {ls : Array Slot} {rest : List Value} {X : En} {M : Mem} {H0 : Heap} {own : String} {x1 : Int32} {M9 : Mem} (hZ : Fx p c m s args X cc nL own) (hP : wd X M H) (hS : va_S X.A H0 H locs) (hsz : ls.size = nL) (hlk : Cond.methodLink own index yX8_mixes ∈ lw_u) (hR : 0 + 1 ≤ R.frames ∧ 8 + (2 + 11) + 0 ≤ R.locals) (hW : (rest.map fun v => v.category).sum ≤ 8) (hdg : decode cc pc = .ok (.invokevirtual index, 3)) (hcs : cells ≤ R.cells ∧ slots ≤ R.slots) (hf : fn_X8_mixes x1 M = some M9)
    (kk : ∀ (H1 : Heap) (locs1 : List Loc), wd X M9 H1 → va_S X.A H0 H1 locs1 → W p l e R s m args below meth c H1 locs1 cells slots Q (F0 m (pc + 3) ls rest)) : W p l e R s m args below meth c H locs cells slots Q (F0 m pc ls (.int x1 :: .ref (X.ad 61) :: rest)) :=
  cal_v (runV (As := [.int x1]) (rest := rest) hZ.1 hZ.2.1 hZ.2.2.1 hZ.2.2.2.1 hZ.2.2.2.2.1 hZ.2.2.2.2.2 hP (c_X8_mixes x1 M M9 hf) wd_5_22 wd_5_21 wd_p_61 wd_1_9 hd_X8_mixes (by decide) rfl rfl rfl hlk hR hsz rfl hW hdg hcs) hS kk
/-! FrameRaiserModel.mixesSet -/
def bd_X8_mixesSet_20 (g : Nat) (x1 : Int32) : (Int32 × Mem) → Option ((Int32 × Mem) ⊕ (Mem)) :=
  u2 fun v2_7 M_8 =>
  if (8 : Int32) ≤ v2_7 then
    (some (.inr M_8))
  else
    ((fn_X8_planned g x1 v2_7 (0 : Int32) M_8).bind (u2 fun r_11 M_12 =>
    (fn_X8_mixes r_11 M_12).bind fun M_13 =>
    (fn_X8_planned g x1 v2_7 (1 : Int32) M_13).bind (u2 fun r_14 M_15 =>
    (fn_X8_mixes r_14 M_15).bind fun M_16 =>
    some (.inl (v2_7 + (1 : Int32), M_16)))))
def fn_X8_mixesSet (g : Nat) (x1 : Int32) (M : Mem) : Option (Mem) :=
  (fn_X8_orders g x1 M).bind (u2 fun r_1 M_2 =>
  (fn_X8_mixes r_1 M_2).bind fun M_3 =>
  (fn_X8_fewestProps g x1 M_3).bind (u2 fun r_4 M_5 =>
  (fn_X8_mixes r_4 M_5).bind fun M_6 =>
  (lpN g (bd_X8_mixesSet_20 g x1) ((0 : Int32), M_6)).bind (u1 fun M_9 =>
    (fn_X8_lockedOf g x1 M_9).bind fun r_17 =>
    (fn_X8_mixes r_17 M_9).bind fun M_18 =>
    (fn_X8_firstGroup g x1 (0 : Int32) M_18).bind fun r_19 =>
    (fn_X8_mixes r_19 M_18).bind fun M_20 =>
    (fn_X8_firstGroup g x1 (1 : Int32) M_20).bind fun r_21 =>
    (fn_X8_mixes r_21 M_20).bind fun M_22 =>
    (fn_X8_standingOf g x1 M_22).bind fun r_23 =>
    (fn_X8_mixes r_23 M_22).bind fun M_24 =>
    (fn_X8_hangsTogether g x1 M_24).bind fun r_25 =>
    (fn_X8_mixes r_25 M_24).bind fun M_26 =>
    some M_26)))
theorem dX8_mixesSet_0 : decode cX8_mixesSet 0 = .ok (.aload_n 0, 1) := by decide +kernel
theorem dX8_mixesSet_1 : decode cX8_mixesSet 1 = .ok (.aload_n 0, 1) := by decide +kernel
theorem dX8_mixesSet_2 : decode cX8_mixesSet 2 = .ok (.iload_n 1, 1) := by decide +kernel
theorem dX8_mixesSet_3 : decode cX8_mixesSet 3 = .ok (.invokevirtual 203, 3) := by decide +kernel
theorem dX8_mixesSet_6 : decode cX8_mixesSet 6 = .ok (.invokevirtual 206, 3) := by decide +kernel
theorem dX8_mixesSet_9 : decode cX8_mixesSet 9 = .ok (.aload_n 0, 1) := by decide +kernel
theorem dX8_mixesSet_10 : decode cX8_mixesSet 10 = .ok (.aload_n 0, 1) := by decide +kernel
theorem dX8_mixesSet_11 : decode cX8_mixesSet 11 = .ok (.iload_n 1, 1) := by decide +kernel
theorem dX8_mixesSet_12 : decode cX8_mixesSet 12 = .ok (.invokevirtual 209, 3) := by decide +kernel
theorem dX8_mixesSet_15 : decode cX8_mixesSet 15 = .ok (.invokevirtual 206, 3) := by decide +kernel
theorem dX8_mixesSet_18 : decode cX8_mixesSet 18 = .ok (.iconst 0, 1) := by decide +kernel
theorem dX8_mixesSet_19 : decode cX8_mixesSet 19 = .ok (.istore_n 2, 1) := by decide +kernel
theorem dX8_mixesSet_20 : decode cX8_mixesSet 20 = .ok (.iload_n 2, 1) := by decide +kernel
theorem dX8_mixesSet_21 : decode cX8_mixesSet 21 = .ok (.bipush 8, 2) := by decide +kernel
theorem dX8_mixesSet_23 : decode cX8_mixesSet 23 = .ok (.if_icmp .ge 31, 3) := by decide +kernel
theorem dX8_mixesSet_26 : decode cX8_mixesSet 26 = .ok (.aload_n 0, 1) := by decide +kernel
theorem dX8_mixesSet_27 : decode cX8_mixesSet 27 = .ok (.aload_n 0, 1) := by decide +kernel
theorem dX8_mixesSet_28 : decode cX8_mixesSet 28 = .ok (.iload_n 1, 1) := by decide +kernel
theorem dX8_mixesSet_29 : decode cX8_mixesSet 29 = .ok (.iload_n 2, 1) := by decide +kernel
theorem dX8_mixesSet_30 : decode cX8_mixesSet 30 = .ok (.iconst 0, 1) := by decide +kernel
theorem dX8_mixesSet_31 : decode cX8_mixesSet 31 = .ok (.invokevirtual 212, 3) := by decide +kernel
theorem dX8_mixesSet_34 : decode cX8_mixesSet 34 = .ok (.invokevirtual 206, 3) := by decide +kernel
theorem dX8_mixesSet_37 : decode cX8_mixesSet 37 = .ok (.aload_n 0, 1) := by decide +kernel
theorem dX8_mixesSet_38 : decode cX8_mixesSet 38 = .ok (.aload_n 0, 1) := by decide +kernel
theorem dX8_mixesSet_39 : decode cX8_mixesSet 39 = .ok (.iload_n 1, 1) := by decide +kernel
theorem dX8_mixesSet_40 : decode cX8_mixesSet 40 = .ok (.iload_n 2, 1) := by decide +kernel
theorem dX8_mixesSet_41 : decode cX8_mixesSet 41 = .ok (.iconst 1, 1) := by decide +kernel
theorem dX8_mixesSet_42 : decode cX8_mixesSet 42 = .ok (.invokevirtual 212, 3) := by decide +kernel
theorem dX8_mixesSet_45 : decode cX8_mixesSet 45 = .ok (.invokevirtual 206, 3) := by decide +kernel
theorem dX8_mixesSet_48 : decode cX8_mixesSet 48 = .ok (.iinc 2 1, 3) := by decide +kernel
theorem dX8_mixesSet_51 : decode cX8_mixesSet 51 = .ok (.goto (-31), 3) := by decide +kernel
theorem dX8_mixesSet_54 : decode cX8_mixesSet 54 = .ok (.aload_n 0, 1) := by decide +kernel
theorem dX8_mixesSet_55 : decode cX8_mixesSet 55 = .ok (.aload_n 0, 1) := by decide +kernel
theorem dX8_mixesSet_56 : decode cX8_mixesSet 56 = .ok (.iload_n 1, 1) := by decide +kernel
theorem dX8_mixesSet_57 : decode cX8_mixesSet 57 = .ok (.invokevirtual 188, 3) := by decide +kernel
theorem dX8_mixesSet_60 : decode cX8_mixesSet 60 = .ok (.invokevirtual 206, 3) := by decide +kernel
theorem dX8_mixesSet_63 : decode cX8_mixesSet 63 = .ok (.aload_n 0, 1) := by decide +kernel
theorem dX8_mixesSet_64 : decode cX8_mixesSet 64 = .ok (.aload_n 0, 1) := by decide +kernel
theorem dX8_mixesSet_65 : decode cX8_mixesSet 65 = .ok (.iload_n 1, 1) := by decide +kernel
theorem dX8_mixesSet_66 : decode cX8_mixesSet 66 = .ok (.iconst 0, 1) := by decide +kernel
theorem dX8_mixesSet_67 : decode cX8_mixesSet 67 = .ok (.invokevirtual 215, 3) := by decide +kernel
theorem dX8_mixesSet_70 : decode cX8_mixesSet 70 = .ok (.invokevirtual 206, 3) := by decide +kernel
theorem dX8_mixesSet_73 : decode cX8_mixesSet 73 = .ok (.aload_n 0, 1) := by decide +kernel
theorem dX8_mixesSet_74 : decode cX8_mixesSet 74 = .ok (.aload_n 0, 1) := by decide +kernel
theorem dX8_mixesSet_75 : decode cX8_mixesSet 75 = .ok (.iload_n 1, 1) := by decide +kernel
theorem dX8_mixesSet_76 : decode cX8_mixesSet 76 = .ok (.iconst 1, 1) := by decide +kernel
theorem dX8_mixesSet_77 : decode cX8_mixesSet 77 = .ok (.invokevirtual 215, 3) := by decide +kernel
theorem dX8_mixesSet_80 : decode cX8_mixesSet 80 = .ok (.invokevirtual 206, 3) := by decide +kernel
theorem dX8_mixesSet_83 : decode cX8_mixesSet 83 = .ok (.aload_n 0, 1) := by decide +kernel
theorem dX8_mixesSet_84 : decode cX8_mixesSet 84 = .ok (.aload_n 0, 1) := by decide +kernel
theorem dX8_mixesSet_85 : decode cX8_mixesSet 85 = .ok (.iload_n 1, 1) := by decide +kernel
theorem dX8_mixesSet_86 : decode cX8_mixesSet 86 = .ok (.invokevirtual 175, 3) := by decide +kernel
theorem dX8_mixesSet_89 : decode cX8_mixesSet 89 = .ok (.invokevirtual 206, 3) := by decide +kernel
theorem dX8_mixesSet_92 : decode cX8_mixesSet 92 = .ok (.aload_n 0, 1) := by decide +kernel
theorem dX8_mixesSet_93 : decode cX8_mixesSet 93 = .ok (.aload_n 0, 1) := by decide +kernel
theorem dX8_mixesSet_94 : decode cX8_mixesSet 94 = .ok (.iload_n 1, 1) := by decide +kernel
theorem dX8_mixesSet_95 : decode cX8_mixesSet 95 = .ok (.invokevirtual 219, 3) := by decide +kernel
theorem dX8_mixesSet_98 : decode cX8_mixesSet 98 = .ok (.invokevirtual 206, 3) := by decide +kernel
theorem dX8_mixesSet_101 : decode cX8_mixesSet 101 = .ok (.return_, 1) := by decide +kernel
set_option maxHeartbeats 4000000 in
set_option maxRecDepth 100000 in
theorem c_X8_mixesSet {l : Launch} {X : En} (g : Nat) (x1 : Int32) (M : Mem) (M9 : Mem) (hf : fn_X8_mixesSet g x1 M = some M9) : Cn l X yX8_mixesSet cX8_mixesSet 3 none 5 122 [.ref (X.ad 61), .int x1] M (Qv X M9) := by
  refine Met.ofW (cc := cX8_mixesSet) (maxL := 3) (ret := none) (by decide) rfl ?_
  intro p e s m args below meth c s₁ B hml hv
  obtain ⟨rfl, hP, hk⟩ := hv
  have hx := B.exec
  have hb := B.bytes
  have hr := B.returns
  have hlocks := B.notSynchronized
  have hts : ∀ w ∈ lw_u, w.before ([.ref (X.ad 61), .int x1] : List Value).toArray s = true := fun w hw => atoms_spec (ws := Cond.code yX8_mixesSet cX8_mixesSet 3 none :: lw_u) B.pre w (List.mem_cons_of_mem _ hw)
  have hown : s.vm.findClass RX8 = some m.cls := findClass_of_methodNamed B.named
  have hZ : Fx p c m s ([.ref (X.ad 61), .int x1] : List Value).toArray X cX8_mixesSet 3 RX8 := ⟨hx, hb, hml, hts, hown, hk⟩
  have hS : va_S X.A s.heap s.heap [] := va_S.rf
  have hl := lv_entry ([.ref (X.ad 61), .int x1]) (n := 3) (Nat.le_of_ble_eq_true rfl)
  rw [lg_entry_eq]
  generalize (lg_sl ([.ref (X.ad 61), .int x1]) ++ List.replicate (3 - (lg_sl ([.ref (X.ad 61), .int x1])).length) Slot.unset).toArray = ls at hl ⊢
  have hl : lv_has ls 3 [(0, .ref (X.ad 61)), (1, .int x1)] := hl
  show WW p l e 5 122 s m [.ref (X.ad 61), .int x1] below meth c X (Qv X M9) s.heap [] 0 ls []
  have hP : wd X M s.heap := hP
  unfold fn_X8_mixesSet at hf
  have key : ∀ (H : Heap) (locs : List Loc), wd X M H → va_S X.A s.heap H locs → WW p l e 5 122 s m [.ref (X.ad 61), .int x1] below meth c X (Qv X M9) H locs 0 ls [] := by
    intro H locs hP hS
    refine lv_aload_n hx hb dX8_mixesSet_0 rfl (lv_at hl 0 rfl) ?_
    refine lv_aload_n hx hb dX8_mixesSet_1 rfl (lv_at hl 0 rfl) ?_
    refine lv_iload_n hx hb dX8_mixesSet_2 rfl (lv_at hl 1 rfl) ?_
    obtain ⟨⟨r_1, M_2⟩, h_r_1, hf⟩ := b_d hf
    have hf := u2_e hf
    refine k_X8_orders hZ hP hS hl.1 wd_5_30 ⟨Nat.le_of_ble_eq_true rfl, Nat.le_of_ble_eq_true rfl⟩ (Nat.le_of_ble_eq_true rfl) dX8_mixesSet_3 ⟨Nat.zero_le _, Nat.zero_le _⟩ h_r_1 (fun H locs hP hS => ?_)
    obtain ⟨M_3, h_M_3, hf⟩ := b_d hf
    refine k_X8_mixes hZ hP hS hl.1 wd_5_19 ⟨Nat.le_of_ble_eq_true rfl, Nat.le_of_ble_eq_true rfl⟩ (Nat.le_of_ble_eq_true rfl) dX8_mixesSet_6 ⟨Nat.zero_le _, Nat.zero_le _⟩ h_M_3 (fun H locs hP hS => ?_)
    refine lv_aload_n hx hb dX8_mixesSet_9 rfl (lv_at hl 0 rfl) ?_
    refine lv_aload_n hx hb dX8_mixesSet_10 rfl (lv_at hl 0 rfl) ?_
    refine lv_iload_n hx hb dX8_mixesSet_11 rfl (lv_at hl 1 rfl) ?_
    obtain ⟨⟨r_4, M_5⟩, h_r_4, hf⟩ := b_d hf
    have hf := u2_e hf
    refine k_X8_fewestProps hZ hP hS hl.1 wd_5_31 ⟨Nat.le_of_ble_eq_true rfl, Nat.le_of_ble_eq_true rfl⟩ (Nat.le_of_ble_eq_true rfl) dX8_mixesSet_12 ⟨Nat.zero_le _, Nat.zero_le _⟩ h_r_4 (fun H locs hP hS => ?_)
    obtain ⟨M_6, h_M_6, hf⟩ := b_d hf
    refine k_X8_mixes hZ hP hS hl.1 wd_5_19 ⟨Nat.le_of_ble_eq_true rfl, Nat.le_of_ble_eq_true rfl⟩ (Nat.le_of_ble_eq_true rfl) dX8_mixesSet_15 ⟨Nat.zero_le _, Nat.zero_le _⟩ h_M_6 (fun H locs hP hS => ?_)
    refine lv_iconst (v := (0 : Int32)) hx hb dX8_mixesSet_18 (by decide) ?_
    refine lv_istore_n (lv' := [(2, .int (0 : Int32)), (0, .ref (X.ad 61)), (1, .int x1)]) hx hb dX8_mixesSet_19 rfl hl (by decide) rfl (fun ls hl => ?_)
    obtain ⟨o20, ho20, hf⟩ := b_d hf
    refine lp_rule (b := bd_X8_mixesSet_20 g x1) (P := fun w : Int32 × Mem => ∀ (H : Heap) (locs : List Loc) (ls : Array Slot), wd X w.2 H → va_S X.A s.heap H locs → lv_has ls 3 [(2, .int w.1), (0, .ref (X.ad 61)), (1, .int x1)] → WW p l e 5 122 s m [.ref (X.ad 61), .int x1] below meth c X (Qv X M9) H locs 20 ls []) (K := fun o => ∀ (M_9 : Mem), o = M_9 → ∀ (H : Heap) (locs : List Loc) (ls : Array Slot), wd X M_9 H → va_S X.A s.heap H locs → lv_has ls 3 [(0, .ref (X.ad 61)), (1, .int x1)] → WW p l e 5 122 s m [.ref (X.ad 61), .int x1] below meth c X (Qv X M9) H locs 54 ls []) ?_ g ((0 : Int32), M_6) o20 ho20 ?_ H locs ls hP hS (lv_sub hl [0, 1, 2] rfl)
    · rintro ⟨v2_7, M_8⟩ o hf hkc20 hke20 H locs ls hP hS hl
      have hf := u2_e hf
      refine lv_iload_n hx hb dX8_mixesSet_20 rfl (lv_at hl 0 rfl) ?_
      refine lv_bipush (v := (8 : Int32)) hx hb dX8_mixesSet_21 (by decide) ?_
      refine lv_icmp_ge (tgt := 54) hx hb dX8_mixesSet_23 (by decide) (fun c_10 => ?_) (fun c_10 => ?_)
      · have hf := i_t c_10 hf
        exact hke20 _ (Option.some.inj hf).symm _ rfl H locs ls hP hS (lv_sub hl [1, 2] rfl)
      · have hf := i_f c_10 hf
        refine lv_aload_n hx hb dX8_mixesSet_26 rfl (lv_at hl 1 rfl) ?_
        refine lv_aload_n hx hb dX8_mixesSet_27 rfl (lv_at hl 1 rfl) ?_
        refine lv_iload_n hx hb dX8_mixesSet_28 rfl (lv_at hl 2 rfl) ?_
        refine lv_iload_n hx hb dX8_mixesSet_29 rfl (lv_at hl 0 rfl) ?_
        refine lv_iconst (v := (0 : Int32)) hx hb dX8_mixesSet_30 (by decide) ?_
        obtain ⟨⟨r_11, M_12⟩, h_r_11, hf⟩ := b_d hf
        have hf := u2_e hf
        refine k_X8_planned hZ hP hS hl.1 wd_5_32 ⟨Nat.le_of_ble_eq_true rfl, Nat.le_of_ble_eq_true rfl⟩ (Nat.le_of_ble_eq_true rfl) dX8_mixesSet_31 ⟨Nat.zero_le _, Nat.zero_le _⟩ h_r_11 (fun H locs hP hS => ?_)
        obtain ⟨M_13, h_M_13, hf⟩ := b_d hf
        refine k_X8_mixes hZ hP hS hl.1 wd_5_19 ⟨Nat.le_of_ble_eq_true rfl, Nat.le_of_ble_eq_true rfl⟩ (Nat.le_of_ble_eq_true rfl) dX8_mixesSet_34 ⟨Nat.zero_le _, Nat.zero_le _⟩ h_M_13 (fun H locs hP hS => ?_)
        refine lv_aload_n hx hb dX8_mixesSet_37 rfl (lv_at hl 1 rfl) ?_
        refine lv_aload_n hx hb dX8_mixesSet_38 rfl (lv_at hl 1 rfl) ?_
        refine lv_iload_n hx hb dX8_mixesSet_39 rfl (lv_at hl 2 rfl) ?_
        refine lv_iload_n hx hb dX8_mixesSet_40 rfl (lv_at hl 0 rfl) ?_
        refine lv_iconst (v := (1 : Int32)) hx hb dX8_mixesSet_41 (by decide) ?_
        obtain ⟨⟨r_14, M_15⟩, h_r_14, hf⟩ := b_d hf
        have hf := u2_e hf
        refine k_X8_planned hZ hP hS hl.1 wd_5_32 ⟨Nat.le_of_ble_eq_true rfl, Nat.le_of_ble_eq_true rfl⟩ (Nat.le_of_ble_eq_true rfl) dX8_mixesSet_42 ⟨Nat.zero_le _, Nat.zero_le _⟩ h_r_14 (fun H locs hP hS => ?_)
        obtain ⟨M_16, h_M_16, hf⟩ := b_d hf
        refine k_X8_mixes hZ hP hS hl.1 wd_5_19 ⟨Nat.le_of_ble_eq_true rfl, Nat.le_of_ble_eq_true rfl⟩ (Nat.le_of_ble_eq_true rfl) dX8_mixesSet_45 ⟨Nat.zero_le _, Nat.zero_le _⟩ h_M_16 (fun H locs hP hS => ?_)
        refine lv_iinc (v := v2_7 + (1 : Int32)) (lv' := [(2, .int (v2_7 + (1 : Int32))), (0, .ref (X.ad 61)), (1, .int x1)]) hx hb dX8_mixesSet_48 hl (k := 0) rfl rfl (by decide) rfl (fun ls hl => ?_)
        refine lv_goto (tgt := 20) hx hb dX8_mixesSet_51 (by decide) ?_
        exact hkc20 _ (Option.some.inj hf).symm H locs ls hP hS (lv_sub hl [0, 1, 2] rfl)
    · intro M_9 e H locs ls hP hS hl
      subst o20
      have hf := u1_e hf
      refine lv_aload_n hx hb dX8_mixesSet_54 rfl (lv_at hl 0 rfl) ?_
      refine lv_aload_n hx hb dX8_mixesSet_55 rfl (lv_at hl 0 rfl) ?_
      refine lv_iload_n hx hb dX8_mixesSet_56 rfl (lv_at hl 1 rfl) ?_
      obtain ⟨r_17, h_r_17, hf⟩ := b_d hf
      refine k_X8_lockedOf hZ hP hS hl.1 wd_4_213 ⟨Nat.le_of_ble_eq_true rfl, Nat.le_of_ble_eq_true rfl⟩ (Nat.le_of_ble_eq_true rfl) dX8_mixesSet_57 ⟨Nat.zero_le _, Nat.zero_le _⟩ h_r_17 (fun H locs hP hS => ?_)
      obtain ⟨M_18, h_M_18, hf⟩ := b_d hf
      refine k_X8_mixes hZ hP hS hl.1 wd_5_19 ⟨Nat.le_of_ble_eq_true rfl, Nat.le_of_ble_eq_true rfl⟩ (Nat.le_of_ble_eq_true rfl) dX8_mixesSet_60 ⟨Nat.zero_le _, Nat.zero_le _⟩ h_M_18 (fun H locs hP hS => ?_)
      refine lv_aload_n hx hb dX8_mixesSet_63 rfl (lv_at hl 0 rfl) ?_
      refine lv_aload_n hx hb dX8_mixesSet_64 rfl (lv_at hl 0 rfl) ?_
      refine lv_iload_n hx hb dX8_mixesSet_65 rfl (lv_at hl 1 rfl) ?_
      refine lv_iconst (v := (0 : Int32)) hx hb dX8_mixesSet_66 (by decide) ?_
      obtain ⟨r_19, h_r_19, hf⟩ := b_d hf
      refine k_X8_firstGroup hZ hP hS hl.1 wd_5_33 ⟨Nat.le_of_ble_eq_true rfl, Nat.le_of_ble_eq_true rfl⟩ (Nat.le_of_ble_eq_true rfl) dX8_mixesSet_67 ⟨Nat.zero_le _, Nat.zero_le _⟩ h_r_19 (fun H locs hP hS => ?_)
      obtain ⟨M_20, h_M_20, hf⟩ := b_d hf
      refine k_X8_mixes hZ hP hS hl.1 wd_5_19 ⟨Nat.le_of_ble_eq_true rfl, Nat.le_of_ble_eq_true rfl⟩ (Nat.le_of_ble_eq_true rfl) dX8_mixesSet_70 ⟨Nat.zero_le _, Nat.zero_le _⟩ h_M_20 (fun H locs hP hS => ?_)
      refine lv_aload_n hx hb dX8_mixesSet_73 rfl (lv_at hl 0 rfl) ?_
      refine lv_aload_n hx hb dX8_mixesSet_74 rfl (lv_at hl 0 rfl) ?_
      refine lv_iload_n hx hb dX8_mixesSet_75 rfl (lv_at hl 1 rfl) ?_
      refine lv_iconst (v := (1 : Int32)) hx hb dX8_mixesSet_76 (by decide) ?_
      obtain ⟨r_21, h_r_21, hf⟩ := b_d hf
      refine k_X8_firstGroup hZ hP hS hl.1 wd_5_33 ⟨Nat.le_of_ble_eq_true rfl, Nat.le_of_ble_eq_true rfl⟩ (Nat.le_of_ble_eq_true rfl) dX8_mixesSet_77 ⟨Nat.zero_le _, Nat.zero_le _⟩ h_r_21 (fun H locs hP hS => ?_)
      obtain ⟨M_22, h_M_22, hf⟩ := b_d hf
      refine k_X8_mixes hZ hP hS hl.1 wd_5_19 ⟨Nat.le_of_ble_eq_true rfl, Nat.le_of_ble_eq_true rfl⟩ (Nat.le_of_ble_eq_true rfl) dX8_mixesSet_80 ⟨Nat.zero_le _, Nat.zero_le _⟩ h_M_22 (fun H locs hP hS => ?_)
      refine lv_aload_n hx hb dX8_mixesSet_83 rfl (lv_at hl 0 rfl) ?_
      refine lv_aload_n hx hb dX8_mixesSet_84 rfl (lv_at hl 0 rfl) ?_
      refine lv_iload_n hx hb dX8_mixesSet_85 rfl (lv_at hl 1 rfl) ?_
      obtain ⟨r_23, h_r_23, hf⟩ := b_d hf
      refine k_X8_standingOf hZ hP hS hl.1 wd_4_168 ⟨Nat.le_of_ble_eq_true rfl, Nat.le_of_ble_eq_true rfl⟩ (Nat.le_of_ble_eq_true rfl) dX8_mixesSet_86 ⟨Nat.zero_le _, Nat.zero_le _⟩ h_r_23 (fun H locs hP hS => ?_)
      obtain ⟨M_24, h_M_24, hf⟩ := b_d hf
      refine k_X8_mixes hZ hP hS hl.1 wd_5_19 ⟨Nat.le_of_ble_eq_true rfl, Nat.le_of_ble_eq_true rfl⟩ (Nat.le_of_ble_eq_true rfl) dX8_mixesSet_89 ⟨Nat.zero_le _, Nat.zero_le _⟩ h_M_24 (fun H locs hP hS => ?_)
      refine lv_aload_n hx hb dX8_mixesSet_92 rfl (lv_at hl 0 rfl) ?_
      refine lv_aload_n hx hb dX8_mixesSet_93 rfl (lv_at hl 0 rfl) ?_
      refine lv_iload_n hx hb dX8_mixesSet_94 rfl (lv_at hl 1 rfl) ?_
      obtain ⟨r_25, h_r_25, hf⟩ := b_d hf
      refine k_X8_hangsTogether hZ hP hS hl.1 wd_5_34 ⟨Nat.le_of_ble_eq_true rfl, Nat.le_of_ble_eq_true rfl⟩ (Nat.le_of_ble_eq_true rfl) dX8_mixesSet_95 ⟨Nat.zero_le _, Nat.zero_le _⟩ h_r_25 (fun H locs hP hS => ?_)
      obtain ⟨M_26, h_M_26, hf⟩ := b_d hf
      refine k_X8_mixes hZ hP hS hl.1 wd_5_19 ⟨Nat.le_of_ble_eq_true rfl, Nat.le_of_ble_eq_true rfl⟩ (Nat.le_of_ble_eq_true rfl) dX8_mixesSet_98 ⟨Nat.zero_le _, Nat.zero_le _⟩ h_M_26 (fun H locs hP hS => ?_)
      have hf := Option.some.inj hf
      rw [hf] at hP
      exact ret_v hx hb hr hlocks hP hS dX8_mixesSet_101
  exact key s.heap [] hP hS
theorem hd_X8_mixesSet : Hd yX8_mixesSet 1 := by decide +kernel
theorem k_X8_mixesSet {p : Program} {l : Launch} {e : Env} {R : Room} {s : State} {m : MethodId} {args : Array Value} {below : List Frame} {meth : Method} {c : Code} {H : Heap} {locs : List Loc} {cells slots : Nat} {Q : State → Prop} {cc : ByteArray} {nL pc index : Nat} {ls : Array Slot} {rest : List Value} {X : En} {M : Mem} {H0 : Heap} {own : String} {g : Nat} {x1 : Int32} {M9 : Mem} (hZ : Fx p c m s args X cc nL own) (hP : wd X M H) (hS : va_S X.A H0 H locs) (hsz : ls.size = nL) (hlk : Cond.methodLink own index yX8_mixesSet ∈ lw_u) (hR : 5 + 1 ≤ R.frames ∧ 8 + (3 + 11) + 122 ≤ R.locals) (hW : (rest.map fun v => v.category).sum ≤ 8) (hdg : decode cc pc = .ok (.invokevirtual index, 3)) (hcs : cells ≤ R.cells ∧ slots ≤ R.slots) (hf : fn_X8_mixesSet g x1 M = some M9)
    (kk : ∀ (H1 : Heap) (locs1 : List Loc), wd X M9 H1 → va_S X.A H0 H1 locs1 → W p l e R s m args below meth c H1 locs1 cells slots Q (F0 m (pc + 3) ls rest)) : W p l e R s m args below meth c H locs cells slots Q (F0 m pc ls (.int x1 :: .ref (X.ad 61) :: rest)) :=
  cal_v (runV (As := [.int x1]) (rest := rest) hZ.1 hZ.2.1 hZ.2.2.1 hZ.2.2.2.1 hZ.2.2.2.2.1 hZ.2.2.2.2.2 hP (c_X8_mixesSet g x1 M M9 hf) wd_5_29 wd_5_28 wd_p_62 wd_1_9 hd_X8_mixesSet (by decide) rfl rfl rfl hlk hR hsz rfl hW hdg hcs) hS kk
/-! FrameRaiserModel.digest -/
def bd_X8_digest_9 (g : Nat) : (Int32 × Mem) → Option ((Int32 × Mem) ⊕ (Mem)) :=
  u2 fun v1_2 M_3 =>
  if (7 : Int32) ≤ v1_2 then
    (some (.inr M_3))
  else
    ((fn_X8_count g v1_2 M_3).bind fun r_6 =>
    (fn_X8_mixes r_6 M_3).bind fun M_7 =>
    some (.inl (v1_2 + (1 : Int32), M_7)))
def bd_X8_digest_44 (g : Nat) (v1_8 : Int32) : (Int32 × Mem) → Option ((Int32 × Mem) ⊕ (Mem)) :=
  u2 fun v2_12 M_13 =>
  if (10 : Int32) ≤ v2_12 then
    (some (.inr M_13))
  else
    ((fn_X8_piece g v1_8 v2_12 M_13).bind fun r_16 =>
    (fn_X8_mixes r_16 M_13).bind fun M_17 =>
    some (.inl (v2_12 + (1 : Int32), M_17)))
def bd_X8_digest_68 (v1_8 : Int32) : (Int32 × Mem) → Option ((Int32 × Mem) ⊕ (Mem)) :=
  u2 fun v2_18 M_19 =>
  if (6 : Int32) ≤ v2_18 then
    (some (.inr M_19))
  else
    ((fn_X8_blockers v1_8 v2_18 M_19).bind fun r_22 =>
    (fn_X8_mixes r_22 M_19).bind fun M_23 =>
    some (.inl (v2_18 + (1 : Int32), M_23)))
def bd_X8_digest_32 (g : Nat) : (Int32 × Mem) → Option ((Int32 × Mem) ⊕ (Mem)) :=
  u2 fun v1_8 M_9 =>
  if (M_9 62 (ix (0 : Int32))) ≤ v1_8 then
    (some (.inr M_9))
  else
    ((lpN g (bd_X8_digest_44 g v1_8) ((0 : Int32), M_9)).bind (u1 fun M_14 =>
      (lpN g (bd_X8_digest_68 v1_8) ((0 : Int32), M_14)).bind (u1 fun M_20 =>
        some (.inl (v1_8 + (1 : Int32), M_20)))))
def fn_X8_digest (g : Nat) (M : Mem) : Option (Int64 × Mem) :=
  bv (stl M 61 13 (12942 : Int64)) fun M_1 =>
  (lpN g (bd_X8_digest_9 g) ((0 : Int32), M_1)).bind (u1 fun M_4 =>
    (lpN g (bd_X8_digest_32 g) ((0 : Int32), M_4)).bind (u1 fun M_10 =>
      (fn_X8_mixesSet g (fn_X8_all M_10) M_10).bind fun M_24 =>
      (fn_X8_mixesSet g (M_24 62 (ix (1 : Int32))) M_24).bind fun M_25 =>
      some (l64 (M_25 61 13) (M_25 61 14), M_25)))
theorem dX8_digest_0 : decode cX8_digest 0 = .ok (.aload_n 0, 1) := by decide +kernel
theorem dX8_digest_1 : decode cX8_digest 1 = .ok (.ldc2_w 222, 3) := by decide +kernel
theorem dX8_digest_4 : decode cX8_digest 4 = .ok (.putfield 199, 3) := by decide +kernel
theorem dX8_digest_7 : decode cX8_digest 7 = .ok (.iconst 0, 1) := by decide +kernel
theorem dX8_digest_8 : decode cX8_digest 8 = .ok (.istore_n 1, 1) := by decide +kernel
theorem dX8_digest_9 : decode cX8_digest 9 = .ok (.iload_n 1, 1) := by decide +kernel
theorem dX8_digest_10 : decode cX8_digest 10 = .ok (.bipush 7, 2) := by decide +kernel
theorem dX8_digest_12 : decode cX8_digest 12 = .ok (.if_icmp .ge 18, 3) := by decide +kernel
theorem dX8_digest_15 : decode cX8_digest 15 = .ok (.aload_n 0, 1) := by decide +kernel
theorem dX8_digest_16 : decode cX8_digest 16 = .ok (.aload_n 0, 1) := by decide +kernel
theorem dX8_digest_17 : decode cX8_digest 17 = .ok (.iload_n 1, 1) := by decide +kernel
theorem dX8_digest_18 : decode cX8_digest 18 = .ok (.invokevirtual 224, 3) := by decide +kernel
theorem dX8_digest_21 : decode cX8_digest 21 = .ok (.invokevirtual 206, 3) := by decide +kernel
theorem dX8_digest_24 : decode cX8_digest 24 = .ok (.iinc 1 1, 3) := by decide +kernel
theorem dX8_digest_27 : decode cX8_digest 27 = .ok (.goto (-18), 3) := by decide +kernel
theorem dX8_digest_30 : decode cX8_digest 30 = .ok (.iconst 0, 1) := by decide +kernel
theorem dX8_digest_31 : decode cX8_digest 31 = .ok (.istore_n 1, 1) := by decide +kernel
theorem dX8_digest_32 : decode cX8_digest 32 = .ok (.iload_n 1, 1) := by decide +kernel
theorem dX8_digest_33 : decode cX8_digest 33 = .ok (.aload_n 0, 1) := by decide +kernel
theorem dX8_digest_34 : decode cX8_digest 34 = .ok (.getfield 7, 3) := by decide +kernel
theorem dX8_digest_37 : decode cX8_digest 37 = .ok (.iconst 0, 1) := by decide +kernel
theorem dX8_digest_38 : decode cX8_digest 38 = .ok (.iaload, 1) := by decide +kernel
theorem dX8_digest_39 : decode cX8_digest 39 = .ok (.if_icmp .ge 57, 3) := by decide +kernel
theorem dX8_digest_42 : decode cX8_digest 42 = .ok (.iconst 0, 1) := by decide +kernel
theorem dX8_digest_43 : decode cX8_digest 43 = .ok (.istore_n 2, 1) := by decide +kernel
theorem dX8_digest_44 : decode cX8_digest 44 = .ok (.iload_n 2, 1) := by decide +kernel
theorem dX8_digest_45 : decode cX8_digest 45 = .ok (.bipush 10, 2) := by decide +kernel
theorem dX8_digest_47 : decode cX8_digest 47 = .ok (.if_icmp .ge 19, 3) := by decide +kernel
theorem dX8_digest_50 : decode cX8_digest 50 = .ok (.aload_n 0, 1) := by decide +kernel
theorem dX8_digest_51 : decode cX8_digest 51 = .ok (.aload_n 0, 1) := by decide +kernel
theorem dX8_digest_52 : decode cX8_digest 52 = .ok (.iload_n 1, 1) := by decide +kernel
theorem dX8_digest_53 : decode cX8_digest 53 = .ok (.iload_n 2, 1) := by decide +kernel
theorem dX8_digest_54 : decode cX8_digest 54 = .ok (.invokevirtual 227, 3) := by decide +kernel
theorem dX8_digest_57 : decode cX8_digest 57 = .ok (.invokevirtual 206, 3) := by decide +kernel
theorem dX8_digest_60 : decode cX8_digest 60 = .ok (.iinc 2 1, 3) := by decide +kernel
theorem dX8_digest_63 : decode cX8_digest 63 = .ok (.goto (-19), 3) := by decide +kernel
theorem dX8_digest_66 : decode cX8_digest 66 = .ok (.iconst 0, 1) := by decide +kernel
theorem dX8_digest_67 : decode cX8_digest 67 = .ok (.istore_n 2, 1) := by decide +kernel
theorem dX8_digest_68 : decode cX8_digest 68 = .ok (.iload_n 2, 1) := by decide +kernel
theorem dX8_digest_69 : decode cX8_digest 69 = .ok (.bipush 6, 2) := by decide +kernel
theorem dX8_digest_71 : decode cX8_digest 71 = .ok (.if_icmp .ge 19, 3) := by decide +kernel
theorem dX8_digest_74 : decode cX8_digest 74 = .ok (.aload_n 0, 1) := by decide +kernel
theorem dX8_digest_75 : decode cX8_digest 75 = .ok (.aload_n 0, 1) := by decide +kernel
theorem dX8_digest_76 : decode cX8_digest 76 = .ok (.iload_n 1, 1) := by decide +kernel
theorem dX8_digest_77 : decode cX8_digest 77 = .ok (.iload_n 2, 1) := by decide +kernel
theorem dX8_digest_78 : decode cX8_digest 78 = .ok (.invokevirtual 230, 3) := by decide +kernel
theorem dX8_digest_81 : decode cX8_digest 81 = .ok (.invokevirtual 206, 3) := by decide +kernel
theorem dX8_digest_84 : decode cX8_digest 84 = .ok (.iinc 2 1, 3) := by decide +kernel
theorem dX8_digest_87 : decode cX8_digest 87 = .ok (.goto (-19), 3) := by decide +kernel
theorem dX8_digest_90 : decode cX8_digest 90 = .ok (.iinc 1 1, 3) := by decide +kernel
theorem dX8_digest_93 : decode cX8_digest 93 = .ok (.goto (-61), 3) := by decide +kernel
theorem dX8_digest_96 : decode cX8_digest 96 = .ok (.aload_n 0, 1) := by decide +kernel
theorem dX8_digest_97 : decode cX8_digest 97 = .ok (.aload_n 0, 1) := by decide +kernel
theorem dX8_digest_98 : decode cX8_digest 98 = .ok (.invokevirtual 57, 3) := by decide +kernel
theorem dX8_digest_101 : decode cX8_digest 101 = .ok (.invokevirtual 233, 3) := by decide +kernel
theorem dX8_digest_104 : decode cX8_digest 104 = .ok (.aload_n 0, 1) := by decide +kernel
theorem dX8_digest_105 : decode cX8_digest 105 = .ok (.aload_n 0, 1) := by decide +kernel
theorem dX8_digest_106 : decode cX8_digest 106 = .ok (.getfield 7, 3) := by decide +kernel
theorem dX8_digest_109 : decode cX8_digest 109 = .ok (.iconst 1, 1) := by decide +kernel
theorem dX8_digest_110 : decode cX8_digest 110 = .ok (.iaload, 1) := by decide +kernel
theorem dX8_digest_111 : decode cX8_digest 111 = .ok (.invokevirtual 233, 3) := by decide +kernel
theorem dX8_digest_114 : decode cX8_digest 114 = .ok (.aload_n 0, 1) := by decide +kernel
theorem dX8_digest_115 : decode cX8_digest 115 = .ok (.getfield 199, 3) := by decide +kernel
theorem dX8_digest_118 : decode cX8_digest 118 = .ok (.lreturn, 1) := by decide +kernel
set_option maxHeartbeats 4000000 in
set_option maxRecDepth 100000 in
theorem c_X8_digest {l : Launch} {X : En} (g : Nat) (M : Mem) (r : Int64) (M9 : Mem) (hf : fn_X8_digest g M = some (r, M9)) : Cn l X yX8_digest cX8_digest 3 (some .long) 6 144 [.ref (X.ad 61)] M (Ql X r M9) := by
  refine Met.ofW (cc := cX8_digest) (maxL := 3) (ret := (some .long)) (by decide) rfl ?_
  intro p e s m args below meth c s₁ B hml hv
  obtain ⟨rfl, hP, hk⟩ := hv
  have hx := B.exec
  have hb := B.bytes
  have hr := B.returns
  have hlocks := B.notSynchronized
  have hts : ∀ w ∈ lw_u, w.before ([.ref (X.ad 61)] : List Value).toArray s = true := fun w hw => atoms_spec (ws := Cond.code yX8_digest cX8_digest 3 (some .long) :: lw_u) B.pre w (List.mem_cons_of_mem _ hw)
  have hown : s.vm.findClass RX8 = some m.cls := findClass_of_methodNamed B.named
  have hZ : Fx p c m s ([.ref (X.ad 61)] : List Value).toArray X cX8_digest 3 RX8 := ⟨hx, hb, hml, hts, hown, hk⟩
  have hS : va_S X.A s.heap s.heap [] := va_S.rf
  have hl := lv_entry ([.ref (X.ad 61)]) (n := 3) (Nat.le_of_ble_eq_true rfl)
  rw [lg_entry_eq]
  generalize (lg_sl ([.ref (X.ad 61)]) ++ List.replicate (3 - (lg_sl ([.ref (X.ad 61)])).length) Slot.unset).toArray = ls at hl ⊢
  have hl : lv_has ls 3 [(0, .ref (X.ad 61))] := hl
  show WW p l e 6 144 s m [.ref (X.ad 61)] below meth c X (Ql X r M9) s.heap [] 0 ls []
  have hP : wd X M s.heap := hP
  unfold fn_X8_digest at hf
  have key : ∀ (H : Heap) (locs : List Loc), wd X M H → va_S X.A s.heap H locs → WW p l e 6 144 s m [.ref (X.ad 61)] below meth c X (Ql X r M9) H locs 0 ls [] := by
    intro H locs hP hS
    refine lv_aload_n hx hb dX8_digest_0 rfl (lv_at hl 0 rfl) ?_
    refine lv_ldc2 hx hb hown (hts _ wd_5_17) dX8_digest_1 ?_
    refine pX8_13 hx hb hts hown hk hP hS wd_3_205 dX8_digest_4 (fun H locs M_1 e_M_1 hP hS => ?_)
    have hf := b_v hf e_M_1
    refine lv_iconst (v := (0 : Int32)) hx hb dX8_digest_7 (by decide) ?_
    refine lv_istore_n (lv' := [(1, .int (0 : Int32)), (0, .ref (X.ad 61))]) hx hb dX8_digest_8 rfl hl (by decide) rfl (fun ls hl => ?_)
    obtain ⟨o9, ho9, hf⟩ := b_d hf
    refine lp_rule (b := bd_X8_digest_9 g) (P := fun w : Int32 × Mem => ∀ (H : Heap) (locs : List Loc) (ls : Array Slot), wd X w.2 H → va_S X.A s.heap H locs → lv_has ls 3 [(1, .int w.1), (0, .ref (X.ad 61))] → WW p l e 6 144 s m [.ref (X.ad 61)] below meth c X (Ql X r M9) H locs 9 ls []) (K := fun o => ∀ (M_4 : Mem), o = M_4 → ∀ (H : Heap) (locs : List Loc) (ls : Array Slot), wd X M_4 H → va_S X.A s.heap H locs → lv_has ls 3 [(0, .ref (X.ad 61))] → WW p l e 6 144 s m [.ref (X.ad 61)] below meth c X (Ql X r M9) H locs 30 ls []) ?_ g ((0 : Int32), M_1) o9 ho9 ?_ H locs ls hP hS (lv_sub hl [0, 1] rfl)
    · rintro ⟨v1_2, M_3⟩ o hf hkc9 hke9 H locs ls hP hS hl
      have hf := u2_e hf
      refine lv_iload_n hx hb dX8_digest_9 rfl (lv_at hl 0 rfl) ?_
      refine lv_bipush (v := (7 : Int32)) hx hb dX8_digest_10 (by decide) ?_
      refine lv_icmp_ge (tgt := 30) hx hb dX8_digest_12 (by decide) (fun c_5 => ?_) (fun c_5 => ?_)
      · have hf := i_t c_5 hf
        exact hke9 _ (Option.some.inj hf).symm _ rfl H locs ls hP hS (lv_sub hl [1] rfl)
      · have hf := i_f c_5 hf
        refine lv_aload_n hx hb dX8_digest_15 rfl (lv_at hl 1 rfl) ?_
        refine lv_aload_n hx hb dX8_digest_16 rfl (lv_at hl 1 rfl) ?_
        refine lv_iload_n hx hb dX8_digest_17 rfl (lv_at hl 0 rfl) ?_
        obtain ⟨r_6, h_r_6, hf⟩ := b_d hf
        refine k_X8_count hZ hP hS hl.1 wd_5_18 ⟨Nat.le_of_ble_eq_true rfl, Nat.le_of_ble_eq_true rfl⟩ (Nat.le_of_ble_eq_true rfl) dX8_digest_18 ⟨Nat.zero_le _, Nat.zero_le _⟩ h_r_6 (fun H locs hP hS => ?_)
        obtain ⟨M_7, h_M_7, hf⟩ := b_d hf
        refine k_X8_mixes hZ hP hS hl.1 wd_5_19 ⟨Nat.le_of_ble_eq_true rfl, Nat.le_of_ble_eq_true rfl⟩ (Nat.le_of_ble_eq_true rfl) dX8_digest_21 ⟨Nat.zero_le _, Nat.zero_le _⟩ h_M_7 (fun H locs hP hS => ?_)
        refine lv_iinc (v := v1_2 + (1 : Int32)) (lv' := [(1, .int (v1_2 + (1 : Int32))), (0, .ref (X.ad 61))]) hx hb dX8_digest_24 hl (k := 0) rfl rfl (by decide) rfl (fun ls hl => ?_)
        refine lv_goto (tgt := 9) hx hb dX8_digest_27 (by decide) ?_
        exact hkc9 _ (Option.some.inj hf).symm H locs ls hP hS (lv_sub hl [0, 1] rfl)
    · intro M_4 e H locs ls hP hS hl
      subst o9
      have hf := u1_e hf
      refine lv_iconst (v := (0 : Int32)) hx hb dX8_digest_30 (by decide) ?_
      refine lv_istore_n (lv' := [(1, .int (0 : Int32)), (0, .ref (X.ad 61))]) hx hb dX8_digest_31 rfl hl (by decide) rfl (fun ls hl => ?_)
      obtain ⟨o32, ho32, hf⟩ := b_d hf
      refine lp_rule (b := bd_X8_digest_32 g) (P := fun w : Int32 × Mem => ∀ (H : Heap) (locs : List Loc) (ls : Array Slot), wd X w.2 H → va_S X.A s.heap H locs → lv_has ls 3 [(1, .int w.1), (0, .ref (X.ad 61))] → WW p l e 6 144 s m [.ref (X.ad 61)] below meth c X (Ql X r M9) H locs 32 ls []) (K := fun o => ∀ (M_10 : Mem), o = M_10 → ∀ (H : Heap) (locs : List Loc) (ls : Array Slot), wd X M_10 H → va_S X.A s.heap H locs → lv_has ls 3 [(0, .ref (X.ad 61))] → WW p l e 6 144 s m [.ref (X.ad 61)] below meth c X (Ql X r M9) H locs 96 ls []) ?_ g ((0 : Int32), M_4) o32 ho32 ?_ H locs ls hP hS (lv_sub hl [0, 1] rfl)
      · rintro ⟨v1_8, M_9⟩ o hf hkc32 hke32 H locs ls hP hS hl
        have hf := u2_e hf
        refine lv_iload_n hx hb dX8_digest_32 rfl (lv_at hl 0 rfl) ?_
        refine lv_aload_n hx hb dX8_digest_33 rfl (lv_at hl 1 rfl) ?_
        refine gX8_0 hx hb hts hown hk hP wd_3_192 dX8_digest_34 ?_
        refine lv_iconst (v := (0 : Int32)) hx hb dX8_digest_37 (by decide) ?_
        refine ald hx hb hk hP (by decide) rfl (show inb _ _ from by decide) dX8_digest_38 ?_
        refine lv_icmp_ge (tgt := 96) hx hb dX8_digest_39 (by decide) (fun c_11 => ?_) (fun c_11 => ?_)
        · have hf := i_t c_11 hf
          exact hke32 _ (Option.some.inj hf).symm _ rfl H locs ls hP hS (lv_sub hl [1] rfl)
        · have hf := i_f c_11 hf
          refine lv_iconst (v := (0 : Int32)) hx hb dX8_digest_42 (by decide) ?_
          refine lv_istore_n (lv' := [(2, .int (0 : Int32)), (1, .int v1_8), (0, .ref (X.ad 61))]) hx hb dX8_digest_43 rfl hl (by decide) rfl (fun ls hl => ?_)
          obtain ⟨o44, ho44, hf⟩ := b_d hf
          refine lp_rule (b := bd_X8_digest_44 g v1_8) (P := fun w : Int32 × Mem => ∀ (H : Heap) (locs : List Loc) (ls : Array Slot), wd X w.2 H → va_S X.A s.heap H locs → lv_has ls 3 [(2, .int w.1), (1, .int v1_8), (0, .ref (X.ad 61))] → WW p l e 6 144 s m [.ref (X.ad 61)] below meth c X (Ql X r M9) H locs 44 ls []) (K := fun o => ∀ (M_14 : Mem), o = M_14 → ∀ (H : Heap) (locs : List Loc) (ls : Array Slot), wd X M_14 H → va_S X.A s.heap H locs → lv_has ls 3 [(1, .int v1_8), (0, .ref (X.ad 61))] → WW p l e 6 144 s m [.ref (X.ad 61)] below meth c X (Ql X r M9) H locs 66 ls []) ?_ g ((0 : Int32), M_9) o44 ho44 ?_ H locs ls hP hS (lv_sub hl [0, 1, 2] rfl)
          · rintro ⟨v2_12, M_13⟩ o hf hkc44 hke44 H locs ls hP hS hl
            have hf := u2_e hf
            refine lv_iload_n hx hb dX8_digest_44 rfl (lv_at hl 0 rfl) ?_
            refine lv_bipush (v := (10 : Int32)) hx hb dX8_digest_45 (by decide) ?_
            refine lv_icmp_ge (tgt := 66) hx hb dX8_digest_47 (by decide) (fun c_15 => ?_) (fun c_15 => ?_)
            · have hf := i_t c_15 hf
              exact hke44 _ (Option.some.inj hf).symm _ rfl H locs ls hP hS (lv_sub hl [1, 2] rfl)
            · have hf := i_f c_15 hf
              refine lv_aload_n hx hb dX8_digest_50 rfl (lv_at hl 2 rfl) ?_
              refine lv_aload_n hx hb dX8_digest_51 rfl (lv_at hl 2 rfl) ?_
              refine lv_iload_n hx hb dX8_digest_52 rfl (lv_at hl 1 rfl) ?_
              refine lv_iload_n hx hb dX8_digest_53 rfl (lv_at hl 0 rfl) ?_
              obtain ⟨r_16, h_r_16, hf⟩ := b_d hf
              refine k_X8_piece hZ hP hS hl.1 wd_5_24 ⟨Nat.le_of_ble_eq_true rfl, Nat.le_of_ble_eq_true rfl⟩ (Nat.le_of_ble_eq_true rfl) dX8_digest_54 ⟨Nat.zero_le _, Nat.zero_le _⟩ h_r_16 (fun H locs hP hS => ?_)
              obtain ⟨M_17, h_M_17, hf⟩ := b_d hf
              refine k_X8_mixes hZ hP hS hl.1 wd_5_19 ⟨Nat.le_of_ble_eq_true rfl, Nat.le_of_ble_eq_true rfl⟩ (Nat.le_of_ble_eq_true rfl) dX8_digest_57 ⟨Nat.zero_le _, Nat.zero_le _⟩ h_M_17 (fun H locs hP hS => ?_)
              refine lv_iinc (v := v2_12 + (1 : Int32)) (lv' := [(2, .int (v2_12 + (1 : Int32))), (1, .int v1_8), (0, .ref (X.ad 61))]) hx hb dX8_digest_60 hl (k := 0) rfl rfl (by decide) rfl (fun ls hl => ?_)
              refine lv_goto (tgt := 44) hx hb dX8_digest_63 (by decide) ?_
              exact hkc44 _ (Option.some.inj hf).symm H locs ls hP hS (lv_sub hl [0, 1, 2] rfl)
          · intro M_14 e H locs ls hP hS hl
            subst o44
            have hf := u1_e hf
            refine lv_iconst (v := (0 : Int32)) hx hb dX8_digest_66 (by decide) ?_
            refine lv_istore_n (lv' := [(2, .int (0 : Int32)), (1, .int v1_8), (0, .ref (X.ad 61))]) hx hb dX8_digest_67 rfl hl (by decide) rfl (fun ls hl => ?_)
            obtain ⟨o68, ho68, hf⟩ := b_d hf
            refine lp_rule (b := bd_X8_digest_68 v1_8) (P := fun w : Int32 × Mem => ∀ (H : Heap) (locs : List Loc) (ls : Array Slot), wd X w.2 H → va_S X.A s.heap H locs → lv_has ls 3 [(2, .int w.1), (1, .int v1_8), (0, .ref (X.ad 61))] → WW p l e 6 144 s m [.ref (X.ad 61)] below meth c X (Ql X r M9) H locs 68 ls []) (K := fun o => ∀ (M_20 : Mem), o = M_20 → ∀ (H : Heap) (locs : List Loc) (ls : Array Slot), wd X M_20 H → va_S X.A s.heap H locs → lv_has ls 3 [(1, .int v1_8), (0, .ref (X.ad 61))] → WW p l e 6 144 s m [.ref (X.ad 61)] below meth c X (Ql X r M9) H locs 90 ls []) ?_ g ((0 : Int32), M_14) o68 ho68 ?_ H locs ls hP hS (lv_sub hl [0, 1, 2] rfl)
            · rintro ⟨v2_18, M_19⟩ o hf hkc68 hke68 H locs ls hP hS hl
              have hf := u2_e hf
              refine lv_iload_n hx hb dX8_digest_68 rfl (lv_at hl 0 rfl) ?_
              refine lv_bipush (v := (6 : Int32)) hx hb dX8_digest_69 (by decide) ?_
              refine lv_icmp_ge (tgt := 90) hx hb dX8_digest_71 (by decide) (fun c_21 => ?_) (fun c_21 => ?_)
              · have hf := i_t c_21 hf
                exact hke68 _ (Option.some.inj hf).symm _ rfl H locs ls hP hS (lv_sub hl [1, 2] rfl)
              · have hf := i_f c_21 hf
                refine lv_aload_n hx hb dX8_digest_74 rfl (lv_at hl 2 rfl) ?_
                refine lv_aload_n hx hb dX8_digest_75 rfl (lv_at hl 2 rfl) ?_
                refine lv_iload_n hx hb dX8_digest_76 rfl (lv_at hl 1 rfl) ?_
                refine lv_iload_n hx hb dX8_digest_77 rfl (lv_at hl 0 rfl) ?_
                obtain ⟨r_22, h_r_22, hf⟩ := b_d hf
                refine k_X8_blockers hZ hP hS hl.1 wd_5_25 ⟨Nat.le_of_ble_eq_true rfl, Nat.le_of_ble_eq_true rfl⟩ (Nat.le_of_ble_eq_true rfl) dX8_digest_78 ⟨Nat.zero_le _, Nat.zero_le _⟩ h_r_22 (fun H locs hP hS => ?_)
                obtain ⟨M_23, h_M_23, hf⟩ := b_d hf
                refine k_X8_mixes hZ hP hS hl.1 wd_5_19 ⟨Nat.le_of_ble_eq_true rfl, Nat.le_of_ble_eq_true rfl⟩ (Nat.le_of_ble_eq_true rfl) dX8_digest_81 ⟨Nat.zero_le _, Nat.zero_le _⟩ h_M_23 (fun H locs hP hS => ?_)
                refine lv_iinc (v := v2_18 + (1 : Int32)) (lv' := [(2, .int (v2_18 + (1 : Int32))), (1, .int v1_8), (0, .ref (X.ad 61))]) hx hb dX8_digest_84 hl (k := 0) rfl rfl (by decide) rfl (fun ls hl => ?_)
                refine lv_goto (tgt := 68) hx hb dX8_digest_87 (by decide) ?_
                exact hkc68 _ (Option.some.inj hf).symm H locs ls hP hS (lv_sub hl [0, 1, 2] rfl)
            · intro M_20 e H locs ls hP hS hl
              subst o68
              have hf := u1_e hf
              refine lv_iinc (v := v1_8 + (1 : Int32)) (lv' := [(1, .int (v1_8 + (1 : Int32))), (0, .ref (X.ad 61))]) hx hb dX8_digest_90 hl (k := 0) rfl rfl (by decide) rfl (fun ls hl => ?_)
              refine lv_goto (tgt := 32) hx hb dX8_digest_93 (by decide) ?_
              exact hkc32 _ (Option.some.inj hf).symm H locs ls hP hS (lv_sub hl [0, 1] rfl)
      · intro M_10 e H locs ls hP hS hl
        subst o32
        have hf := u1_e hf
        refine lv_aload_n hx hb dX8_digest_96 rfl (lv_at hl 0 rfl) ?_
        refine lv_aload_n hx hb dX8_digest_97 rfl (lv_at hl 0 rfl) ?_
        refine k_X8_all hZ hP hS hl.1 wd_4_125 ⟨Nat.le_of_ble_eq_true rfl, Nat.le_of_ble_eq_true rfl⟩ (Nat.le_of_ble_eq_true rfl) dX8_digest_98 ⟨Nat.zero_le _, Nat.zero_le _⟩ (fun H locs hP hS => ?_)
        obtain ⟨M_24, h_M_24, hf⟩ := b_d hf
        refine k_X8_mixesSet hZ hP hS hl.1 wd_5_26 ⟨Nat.le_of_ble_eq_true rfl, Nat.le_of_ble_eq_true rfl⟩ (Nat.le_of_ble_eq_true rfl) dX8_digest_101 ⟨Nat.zero_le _, Nat.zero_le _⟩ h_M_24 (fun H locs hP hS => ?_)
        refine lv_aload_n hx hb dX8_digest_104 rfl (lv_at hl 0 rfl) ?_
        refine lv_aload_n hx hb dX8_digest_105 rfl (lv_at hl 0 rfl) ?_
        refine gX8_0 hx hb hts hown hk hP wd_3_192 dX8_digest_106 ?_
        refine lv_iconst (v := (1 : Int32)) hx hb dX8_digest_109 (by decide) ?_
        refine ald hx hb hk hP (by decide) rfl (show inb _ _ from by decide) dX8_digest_110 ?_
        obtain ⟨M_25, h_M_25, hf⟩ := b_d hf
        refine k_X8_mixesSet hZ hP hS hl.1 wd_5_26 ⟨Nat.le_of_ble_eq_true rfl, Nat.le_of_ble_eq_true rfl⟩ (Nat.le_of_ble_eq_true rfl) dX8_digest_111 ⟨Nat.zero_le _, Nat.zero_le _⟩ h_M_25 (fun H locs hP hS => ?_)
        refine lv_aload_n hx hb dX8_digest_114 rfl (lv_at hl 0 rfl) ?_
        refine gX8_13 hx hb hts hown hk hP wd_3_205 dX8_digest_115 ?_
        have hf := Option.some.inj hf
        obtain ⟨e1, e2⟩ := Prod.mk.inj hf
        rw [e2] at hP
        exact ret_l hx hb hr hlocks hP hS e1 dX8_digest_118
  exact key s.heap [] hP hS
theorem hd_X8_digest : Hd yX8_digest 0 := by decide +kernel
theorem k_X8_digest {p : Program} {l : Launch} {e : Env} {R : Room} {s : State} {m : MethodId} {args : Array Value} {below : List Frame} {meth : Method} {c : Code} {H : Heap} {locs : List Loc} {cells slots : Nat} {Q : State → Prop} {cc : ByteArray} {nL pc index : Nat} {ls : Array Slot} {rest : List Value} {X : En} {M : Mem} {H0 : Heap} {own : String} {g : Nat} {r : Int64} {M9 : Mem} (hZ : Fx p c m s args X cc nL own) (hP : wd X M H) (hS : va_S X.A H0 H locs) (hsz : ls.size = nL) (hlk : Cond.methodLink own index yX8_digest ∈ lw_u) (hR : 6 + 1 ≤ R.frames ∧ 8 + (3 + 11) + 144 ≤ R.locals) (hW : (rest.map fun v => v.category).sum ≤ 8) (hdg : decode cc pc = .ok (.invokevirtual index, 3)) (hcs : cells ≤ R.cells ∧ slots ≤ R.slots) (hf : fn_X8_digest g M = some (r, M9))
    (kk : ∀ (H1 : Heap) (locs1 : List Loc), wd X M9 H1 → va_S X.A H0 H1 locs1 → W p l e R s m args below meth c H1 locs1 cells slots Q (F0 m (pc + 3) ls (.long r :: rest))) : W p l e R s m args below meth c H locs cells slots Q (F0 m pc ls (.ref (X.ad 61) :: rest)) :=
  cal_l (runV (As := []) (rest := rest) hZ.1 hZ.2.1 hZ.2.2.1 hZ.2.2.2.1 hZ.2.2.2.2.1 hZ.2.2.2.2.2 hP (c_X8_digest g M r M9 hf) wd_5_16 wd_5_14 wd_5_15 wd_1_9 hd_X8_digest (by decide) rfl rfl rfl hlk hR hsz rfl hW hdg hcs) hS kk
