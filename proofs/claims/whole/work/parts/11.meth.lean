/-! FrameRaiser.drop -/
def fn_X7_drop (g : Nat) (x1 : Int32) (M : Mem) : Option (Int32 × Mem) :=
  if (fn_X7_isPiece x1 M) = 0 then
    (some ((-1 : Int32), M))
  else
    ((fn_X2_remember 1 M).bind fun M_2 =>
    (fn_X1_remove g 1 x1 M_2).bind fun M_3 =>
    (fn_X7_forgetPieces M_3).bind fun M_4 =>
    some (M_4 1 2, M_4))
theorem dX7_drop_0 : decode cX7_drop 0 = .ok (.aload_n 0, 1) := by decide +kernel
theorem dX7_drop_1 : decode cX7_drop 1 = .ok (.iload_n 1, 1) := by decide +kernel
theorem dX7_drop_2 : decode cX7_drop 2 = .ok (.invokevirtual 109, 3) := by decide +kernel
theorem dX7_drop_5 : decode cX7_drop 5 = .ok (.ifCond .ne 5, 3) := by decide +kernel
theorem dX7_drop_8 : decode cX7_drop 8 = .ok (.iconst (-1), 1) := by decide +kernel
theorem dX7_drop_9 : decode cX7_drop 9 = .ok (.ireturn, 1) := by decide +kernel
theorem dX7_drop_10 : decode cX7_drop 10 = .ok (.aload_n 0, 1) := by decide +kernel
theorem dX7_drop_11 : decode cX7_drop 11 = .ok (.getfield 42, 3) := by decide +kernel
theorem dX7_drop_14 : decode cX7_drop 14 = .ok (.aload_n 0, 1) := by decide +kernel
theorem dX7_drop_15 : decode cX7_drop 15 = .ok (.getfield 10, 3) := by decide +kernel
theorem dX7_drop_18 : decode cX7_drop 18 = .ok (.invokevirtual 81, 3) := by decide +kernel
theorem dX7_drop_21 : decode cX7_drop 21 = .ok (.aload_n 0, 1) := by decide +kernel
theorem dX7_drop_22 : decode cX7_drop 22 = .ok (.getfield 10, 3) := by decide +kernel
theorem dX7_drop_25 : decode cX7_drop 25 = .ok (.iload_n 1, 1) := by decide +kernel
theorem dX7_drop_26 : decode cX7_drop 26 = .ok (.invokevirtual 124, 3) := by decide +kernel
theorem dX7_drop_29 : decode cX7_drop 29 = .ok (.aload_n 0, 1) := by decide +kernel
theorem dX7_drop_30 : decode cX7_drop 30 = .ok (.invokevirtual 88, 3) := by decide +kernel
theorem dX7_drop_33 : decode cX7_drop 33 = .ok (.aload_n 0, 1) := by decide +kernel
theorem dX7_drop_34 : decode cX7_drop 34 = .ok (.getfield 10, 3) := by decide +kernel
theorem dX7_drop_37 : decode cX7_drop 37 = .ok (.getfield 91, 3) := by decide +kernel
theorem dX7_drop_40 : decode cX7_drop 40 = .ok (.ireturn, 1) := by decide +kernel
set_option maxHeartbeats 4000000 in
set_option maxRecDepth 100000 in
theorem c_X7_drop {l : Launch} {X : En} (g : Nat) (x1 : Int32) (M : Mem) (r : Int32) (M9 : Mem) (hf : fn_X7_drop g x1 M = some (r, M9)) : Cn l X yX7_drop cX7_drop 2 (some .int) 3 82 [.ref (X.ad 0), .int x1] M (Qi X r M9) := by
  refine Met.ofW (cc := cX7_drop) (maxL := 2) (ret := (some .int)) (by decide) rfl ?_
  intro p e s m args below meth c s₁ B hml hv
  obtain ⟨rfl, hP, hk⟩ := hv
  have hx := B.exec
  have hb := B.bytes
  have hr := B.returns
  have hlocks := B.notSynchronized
  have hts : ∀ w ∈ lw_u, w.before ([.ref (X.ad 0), .int x1] : List Value).toArray s = true := fun w hw => atoms_spec (ws := Cond.code yX7_drop cX7_drop 2 (some .int) :: lw_u) B.pre w (List.mem_cons_of_mem _ hw)
  have hown : s.vm.findClass RX7 = some m.cls := findClass_of_methodNamed B.named
  have hZ : Fx p c m s ([.ref (X.ad 0), .int x1] : List Value).toArray X cX7_drop 2 RX7 := ⟨hx, hb, hml, hts, hown, hk⟩
  have hS : va_S X.A s.heap s.heap [] := va_S.rf
  have hl := lv_entry ([.ref (X.ad 0), .int x1]) (n := 2) (Nat.le_of_ble_eq_true rfl)
  rw [lg_entry_eq]
  generalize (lg_sl ([.ref (X.ad 0), .int x1]) ++ List.replicate (2 - (lg_sl ([.ref (X.ad 0), .int x1])).length) Slot.unset).toArray = ls at hl ⊢
  have hl : lv_has ls 2 [(0, .ref (X.ad 0)), (1, .int x1)] := hl
  show WW p l e 3 82 s m [.ref (X.ad 0), .int x1] below meth c X (Qi X r M9) s.heap [] 0 ls []
  have hP : wd X M s.heap := hP
  unfold fn_X7_drop at hf
  have key : ∀ (H : Heap) (locs : List Loc), wd X M H → va_S X.A s.heap H locs → WW p l e 3 82 s m [.ref (X.ad 0), .int x1] below meth c X (Qi X r M9) H locs 0 ls [] := by
    intro H locs hP hS
    refine lv_aload_n hx hb dX7_drop_0 rfl (lv_at hl 0 rfl) ?_
    refine lv_iload_n hx hb dX7_drop_1 rfl (lv_at hl 1 rfl) ?_
    refine k_X7_isPiece hZ hP hS hl.1 wd_2_106 ⟨Nat.le_of_ble_eq_true rfl, Nat.le_of_ble_eq_true rfl⟩ (Nat.le_of_ble_eq_true rfl) dX7_drop_2 ⟨Nat.zero_le _, Nat.zero_le _⟩ (fun H locs hP hS => ?_)
    refine lv_if_ne (tgt := 10) hx hb dX7_drop_5 (by decide) (fun c_1 => ?_) (fun c_1 => ?_)
    · have hf := i_f c_1 hf
      refine lv_aload_n hx hb dX7_drop_10 rfl (lv_at hl 0 rfl) ?_
      refine gX7_4 hx hb hts hown hk hP wd_1_217 dX7_drop_11 ?_
      refine lv_aload_n hx hb dX7_drop_14 rfl (lv_at hl 0 rfl) ?_
      refine gX7_0 hx hb hts hown hk hP wd_1_213 dX7_drop_15 ?_
      obtain ⟨M_2, h_M_2, hf⟩ := b_d hf
      refine k_X2_remember hZ hP hS hl.1 wd_2_66 ⟨Nat.le_of_ble_eq_true rfl, Nat.le_of_ble_eq_true rfl⟩ (Nat.le_of_ble_eq_true rfl) dX7_drop_18 ⟨Nat.zero_le _, Nat.zero_le _⟩ isF_1 h_M_2 (fun H locs hP hS => ?_)
      refine lv_aload_n hx hb dX7_drop_21 rfl (lv_at hl 0 rfl) ?_
      refine gX7_0 hx hb hts hown hk hP wd_1_213 dX7_drop_22 ?_
      refine lv_iload_n hx hb dX7_drop_25 rfl (lv_at hl 1 rfl) ?_
      obtain ⟨M_3, h_M_3, hf⟩ := b_d hf
      refine k_X1_remove hZ hP hS hl.1 wd_2_133 ⟨Nat.le_of_ble_eq_true rfl, Nat.le_of_ble_eq_true rfl⟩ (Nat.le_of_ble_eq_true rfl) dX7_drop_26 ⟨Nat.zero_le _, Nat.zero_le _⟩ isF_1 h_M_3 (fun H locs hP hS => ?_)
      refine lv_aload_n hx hb dX7_drop_29 rfl (lv_at hl 0 rfl) ?_
      obtain ⟨M_4, h_M_4, hf⟩ := b_d hf
      refine k_X7_forgetPieces hZ hP hS hl.1 wd_2_78 ⟨Nat.le_of_ble_eq_true rfl, Nat.le_of_ble_eq_true rfl⟩ (Nat.le_of_ble_eq_true rfl) dX7_drop_30 ⟨Nat.zero_le _, Nat.zero_le _⟩ h_M_4 (fun H locs hP hS => ?_)
      refine lv_aload_n hx hb dX7_drop_33 rfl (lv_at hl 0 rfl) ?_
      refine gX7_0 hx hb hts hown hk hP wd_1_213 dX7_drop_34 ?_
      refine gX1_2 hx hb hts hown hk hP isF_1 wd_1_40 dX7_drop_37 ?_
      have hf := Option.some.inj hf
      obtain ⟨e1, e2⟩ := Prod.mk.inj hf
      rw [e2] at hP
      exact ret_i hx hb hr hlocks hP hS e1 dX7_drop_40
    · have hf := i_t c_1 hf
      refine lv_iconst (v := (-1 : Int32)) hx hb dX7_drop_8 (by decide) ?_
      have hf := Option.some.inj hf
      obtain ⟨e1, e2⟩ := Prod.mk.inj hf
      rw [e2] at hP
      exact ret_i hx hb hr hlocks hP hS e1 dX7_drop_9
  exact key s.heap [] hP hS
theorem hd_X7_drop : Hd yX7_drop 1 := by decide +kernel
theorem k_X7_drop {p : Program} {l : Launch} {e : Env} {R : Room} {s : State} {m : MethodId} {args : Array Value} {below : List Frame} {meth : Method} {c : Code} {H : Heap} {locs : List Loc} {cells slots : Nat} {Q : State → Prop} {cc : ByteArray} {nL pc index : Nat} {ls : Array Slot} {rest : List Value} {X : En} {M : Mem} {H0 : Heap} {own : String} {g : Nat} {x1 : Int32} {r : Int32} {M9 : Mem} (hZ : Fx p c m s args X cc nL own) (hP : wd X M H) (hS : va_S X.A H0 H locs) (hsz : ls.size = nL) (hlk : Cond.methodLink own index yX7_drop ∈ lw_u) (hR : 3 + 1 ≤ R.frames ∧ 8 + (2 + 11) + 82 ≤ R.locals) (hW : (rest.map fun v => v.category).sum ≤ 8) (hdg : decode cc pc = .ok (.invokevirtual index, 3)) (hcs : cells ≤ R.cells ∧ slots ≤ R.slots) (hf : fn_X7_drop g x1 M = some (r, M9))
    (kk : ∀ (H1 : Heap) (locs1 : List Loc), wd X M9 H1 → va_S X.A H0 H1 locs1 → W p l e R s m args below meth c H1 locs1 cells slots Q (F0 m (pc + 3) ls (.int r :: rest))) : W p l e R s m args below meth c H locs cells slots Q (F0 m pc ls (.int x1 :: .ref (X.ad 0) :: rest)) :=
  cal_i (runV (As := [.int x1]) (rest := rest) hZ.1 hZ.2.1 hZ.2.2.1 hZ.2.2.2.1 hZ.2.2.2.2.1 hZ.2.2.2.2.2 hP (c_X7_drop g x1 M r M9 hf) wd_2_132 wd_2_130 wd_2_131 wd_1_1 hd_X7_drop (by decide) rfl rfl rfl hlk hR hsz rfl hW hdg hcs) hS kk
/-! FrameRaiser.isDirection -/
def fn_X7_isDirection (x0 : Int32) : Int32 :=
  if x0 < 0 then
    ((0 : Int32))
  else
    (if (6 : Int32) ≤ x0 then
      ((0 : Int32))
    else
      ((1 : Int32)))
theorem dX7_isDirection_0 : decode cX7_isDirection 0 = .ok (.iload_n 0, 1) := by decide +kernel
theorem dX7_isDirection_1 : decode cX7_isDirection 1 = .ok (.ifCond .lt 13, 3) := by decide +kernel
theorem dX7_isDirection_4 : decode cX7_isDirection 4 = .ok (.iload_n 0, 1) := by decide +kernel
theorem dX7_isDirection_5 : decode cX7_isDirection 5 = .ok (.bipush 6, 2) := by decide +kernel
theorem dX7_isDirection_7 : decode cX7_isDirection 7 = .ok (.if_icmp .ge 7, 3) := by decide +kernel
theorem dX7_isDirection_10 : decode cX7_isDirection 10 = .ok (.iconst 1, 1) := by decide +kernel
theorem dX7_isDirection_11 : decode cX7_isDirection 11 = .ok (.goto 4, 3) := by decide +kernel
theorem dX7_isDirection_14 : decode cX7_isDirection 14 = .ok (.iconst 0, 1) := by decide +kernel
theorem dX7_isDirection_15 : decode cX7_isDirection 15 = .ok (.ireturn, 1) := by decide +kernel
theorem z_X7_isDirection (x0 : Int32) : isZ (fn_X7_isDirection x0) := by
  unfold fn_X7_isDirection
  repeat' (first | exact isZ_0 | exact isZ_1 | split)
set_option maxHeartbeats 4000000 in
set_option maxRecDepth 100000 in
theorem c_X7_isDirection {l : Launch} {X : En} (x0 : Int32) (M : Mem) (r : Int32) (hf : fn_X7_isDirection x0 = r) : Cn l X yX7_isDirection cX7_isDirection 1 (some .boolean) 0 0 [.int x0] M (Qi X r M) := by
  refine Met.ofW (cc := cX7_isDirection) (maxL := 1) (ret := (some .boolean)) (by decide) rfl ?_
  intro p e s m args below meth c s₁ B hml hv
  obtain ⟨rfl, hP, hk⟩ := hv
  have hx := B.exec
  have hb := B.bytes
  have hr := B.returns
  have hlocks := B.notSynchronized
  have hts : ∀ w ∈ lw_u, w.before ([.int x0] : List Value).toArray s = true := fun w hw => atoms_spec (ws := Cond.code yX7_isDirection cX7_isDirection 1 (some .boolean) :: lw_u) B.pre w (List.mem_cons_of_mem _ hw)
  have hown : s.vm.findClass RX7 = some m.cls := findClass_of_methodNamed B.named
  have hZ : Fx p c m s ([.int x0] : List Value).toArray X cX7_isDirection 1 RX7 := ⟨hx, hb, hml, hts, hown, hk⟩
  have hS : va_S X.A s.heap s.heap [] := va_S.rf
  have hl := lv_entry ([.int x0]) (n := 1) (Nat.le_of_ble_eq_true rfl)
  rw [lg_entry_eq]
  generalize (lg_sl ([.int x0]) ++ List.replicate (1 - (lg_sl ([.int x0])).length) Slot.unset).toArray = ls at hl ⊢
  have hl : lv_has ls 1 [(0, .int x0)] := hl
  show WW p l e 0 0 s m [.int x0] below meth c X (Qi X r M) s.heap [] 0 ls []
  have hP : wd X M s.heap := hP
  unfold fn_X7_isDirection at hf
  have key : ∀ (H : Heap) (locs : List Loc), wd X M H → va_S X.A s.heap H locs → WW p l e 0 0 s m [.int x0] below meth c X (Qi X r M) H locs 0 ls [] := by
    intro H locs hP hS
    refine lv_iload_n hx hb dX7_isDirection_0 rfl (lv_at hl 0 rfl) ?_
    refine lv_if_lt (tgt := 14) hx hb dX7_isDirection_1 (by decide) (fun c_1 => ?_) (fun c_1 => ?_)
    · have hf := i_t c_1 hf
      refine lv_iconst (v := (0 : Int32)) hx hb dX7_isDirection_14 (by decide) ?_
      exact ret_z hx hb hr hlocks hP hS isZ_0 hf dX7_isDirection_15
    · have hf := i_f c_1 hf
      refine lv_iload_n hx hb dX7_isDirection_4 rfl (lv_at hl 0 rfl) ?_
      refine lv_bipush (v := (6 : Int32)) hx hb dX7_isDirection_5 (by decide) ?_
      refine lv_icmp_ge (tgt := 14) hx hb dX7_isDirection_7 (by decide) (fun c_2 => ?_) (fun c_2 => ?_)
      · have hf := i_t c_2 hf
        refine lv_iconst (v := (0 : Int32)) hx hb dX7_isDirection_14 (by decide) ?_
        exact ret_z hx hb hr hlocks hP hS isZ_0 hf dX7_isDirection_15
      · have hf := i_f c_2 hf
        refine lv_iconst (v := (1 : Int32)) hx hb dX7_isDirection_10 (by decide) ?_
        refine lv_goto (tgt := 15) hx hb dX7_isDirection_11 (by decide) ?_
        exact ret_z hx hb hr hlocks hP hS isZ_1 hf dX7_isDirection_15
  exact key s.heap [] hP hS
theorem hd_X7_isDirection : Hd yX7_isDirection 1 := by decide +kernel
theorem k_X7_isDirection {p : Program} {l : Launch} {e : Env} {R : Room} {s : State} {m : MethodId} {args : Array Value} {below : List Frame} {meth : Method} {c : Code} {H : Heap} {locs : List Loc} {cells slots : Nat} {Q : State → Prop} {cc : ByteArray} {nL pc index : Nat} {ls : Array Slot} {rest : List Value} {X : En} {M : Mem} {H0 : Heap} {own : String} {x0 : Int32} (hZ : Fx p c m s args X cc nL own) (hP : wd X M H) (hS : va_S X.A H0 H locs) (hsz : ls.size = nL) (hlk : Cond.methodLink own index yX7_isDirection ∈ lw_u) (hR : 0 + 1 ≤ R.frames ∧ 8 + (1 + 11) + 0 ≤ R.locals) (hW : (rest.map fun v => v.category).sum ≤ 8) (hdg : decode cc pc = .ok (.invokestatic index, 3)) (hcs : cells ≤ R.cells ∧ slots ≤ R.slots)
    (kk : ∀ (H1 : Heap) (locs1 : List Loc), wd X M H1 → va_S X.A H0 H1 locs1 → W p l e R s m args below meth c H1 locs1 cells slots Q (F0 m (pc + 3) ls (.int (fn_X7_isDirection x0) :: rest))) : W p l e R s m args below meth c H locs cells slots Q (F0 m pc ls (.int x0 :: rest)) :=
  cal_i (runS (As := [.int x0]) (rest := rest) hZ.1 hZ.2.1 hZ.2.2.1 hZ.2.2.2.1 hZ.2.2.2.2.1 hZ.2.2.2.2.2 hP (c_X7_isDirection x0 M _ rfl) wd_2_147 wd_2_146 wd_1_1 hd_X7_isDirection rfl hlk hR hsz rfl hW hdg hcs) hS kk
/-! FrameRaiser.stride -/
def fn_X7_stride (x0 : Int32) : Int32 :=
  if x0 = 0 then
    ((1 : Int32))
  else
    (if x0 = (1 : Int32) then
      ((6 : Int32))
    else
      ((36 : Int32)))
theorem dX7_stride_0 : decode cX7_stride 0 = .ok (.iload_n 0, 1) := by decide +kernel
theorem dX7_stride_1 : decode cX7_stride 1 = .ok (.ifCond .ne 5, 3) := by decide +kernel
theorem dX7_stride_4 : decode cX7_stride 4 = .ok (.iconst 1, 1) := by decide +kernel
theorem dX7_stride_5 : decode cX7_stride 5 = .ok (.ireturn, 1) := by decide +kernel
theorem dX7_stride_6 : decode cX7_stride 6 = .ok (.iload_n 0, 1) := by decide +kernel
theorem dX7_stride_7 : decode cX7_stride 7 = .ok (.iconst 1, 1) := by decide +kernel
theorem dX7_stride_8 : decode cX7_stride 8 = .ok (.if_icmp .ne 8, 3) := by decide +kernel
theorem dX7_stride_11 : decode cX7_stride 11 = .ok (.bipush 6, 2) := by decide +kernel
theorem dX7_stride_13 : decode cX7_stride 13 = .ok (.goto 5, 3) := by decide +kernel
theorem dX7_stride_16 : decode cX7_stride 16 = .ok (.bipush 36, 2) := by decide +kernel
theorem dX7_stride_18 : decode cX7_stride 18 = .ok (.ireturn, 1) := by decide +kernel
set_option maxHeartbeats 4000000 in
set_option maxRecDepth 100000 in
theorem c_X7_stride {l : Launch} {X : En} (x0 : Int32) (M : Mem) (r : Int32) (hf : fn_X7_stride x0 = r) : Cn l X yX7_stride cX7_stride 1 (some .int) 0 0 [.int x0] M (Qi X r M) := by
  refine Met.ofW (cc := cX7_stride) (maxL := 1) (ret := (some .int)) (by decide) rfl ?_
  intro p e s m args below meth c s₁ B hml hv
  obtain ⟨rfl, hP, hk⟩ := hv
  have hx := B.exec
  have hb := B.bytes
  have hr := B.returns
  have hlocks := B.notSynchronized
  have hts : ∀ w ∈ lw_u, w.before ([.int x0] : List Value).toArray s = true := fun w hw => atoms_spec (ws := Cond.code yX7_stride cX7_stride 1 (some .int) :: lw_u) B.pre w (List.mem_cons_of_mem _ hw)
  have hown : s.vm.findClass RX7 = some m.cls := findClass_of_methodNamed B.named
  have hZ : Fx p c m s ([.int x0] : List Value).toArray X cX7_stride 1 RX7 := ⟨hx, hb, hml, hts, hown, hk⟩
  have hS : va_S X.A s.heap s.heap [] := va_S.rf
  have hl := lv_entry ([.int x0]) (n := 1) (Nat.le_of_ble_eq_true rfl)
  rw [lg_entry_eq]
  generalize (lg_sl ([.int x0]) ++ List.replicate (1 - (lg_sl ([.int x0])).length) Slot.unset).toArray = ls at hl ⊢
  have hl : lv_has ls 1 [(0, .int x0)] := hl
  show WW p l e 0 0 s m [.int x0] below meth c X (Qi X r M) s.heap [] 0 ls []
  have hP : wd X M s.heap := hP
  unfold fn_X7_stride at hf
  have key : ∀ (H : Heap) (locs : List Loc), wd X M H → va_S X.A s.heap H locs → WW p l e 0 0 s m [.int x0] below meth c X (Qi X r M) H locs 0 ls [] := by
    intro H locs hP hS
    refine lv_iload_n hx hb dX7_stride_0 rfl (lv_at hl 0 rfl) ?_
    refine lv_if_ne (tgt := 6) hx hb dX7_stride_1 (by decide) (fun c_1 => ?_) (fun c_1 => ?_)
    · have hf := i_f c_1 hf
      refine lv_iload_n hx hb dX7_stride_6 rfl (lv_at hl 0 rfl) ?_
      refine lv_iconst (v := (1 : Int32)) hx hb dX7_stride_7 (by decide) ?_
      refine lv_icmp_ne (tgt := 16) hx hb dX7_stride_8 (by decide) (fun c_2 => ?_) (fun c_2 => ?_)
      · have hf := i_f c_2 hf
        refine lv_bipush (v := (36 : Int32)) hx hb dX7_stride_16 (by decide) ?_
        exact ret_i hx hb hr hlocks hP hS hf dX7_stride_18
      · have hf := i_t c_2 hf
        refine lv_bipush (v := (6 : Int32)) hx hb dX7_stride_11 (by decide) ?_
        refine lv_goto (tgt := 18) hx hb dX7_stride_13 (by decide) ?_
        exact ret_i hx hb hr hlocks hP hS hf dX7_stride_18
    · have hf := i_t c_1 hf
      refine lv_iconst (v := (1 : Int32)) hx hb dX7_stride_4 (by decide) ?_
      exact ret_i hx hb hr hlocks hP hS hf dX7_stride_5
  exact key s.heap [] hP hS
theorem hd_X7_stride : Hd yX7_stride 1 := by decide +kernel
theorem k_X7_stride {p : Program} {l : Launch} {e : Env} {R : Room} {s : State} {m : MethodId} {args : Array Value} {below : List Frame} {meth : Method} {c : Code} {H : Heap} {locs : List Loc} {cells slots : Nat} {Q : State → Prop} {cc : ByteArray} {nL pc index : Nat} {ls : Array Slot} {rest : List Value} {X : En} {M : Mem} {H0 : Heap} {own : String} {x0 : Int32} (hZ : Fx p c m s args X cc nL own) (hP : wd X M H) (hS : va_S X.A H0 H locs) (hsz : ls.size = nL) (hlk : Cond.methodLink own index yX7_stride ∈ lw_u) (hR : 0 + 1 ≤ R.frames ∧ 8 + (1 + 11) + 0 ≤ R.locals) (hW : (rest.map fun v => v.category).sum ≤ 8) (hdg : decode cc pc = .ok (.invokestatic index, 3)) (hcs : cells ≤ R.cells ∧ slots ≤ R.slots)
    (kk : ∀ (H1 : Heap) (locs1 : List Loc), wd X M H1 → va_S X.A H0 H1 locs1 → W p l e R s m args below meth c H1 locs1 cells slots Q (F0 m (pc + 3) ls (.int (fn_X7_stride x0) :: rest))) : W p l e R s m args below meth c H locs cells slots Q (F0 m pc ls (.int x0 :: rest)) :=
  cal_i (runS (As := [.int x0]) (rest := rest) hZ.1 hZ.2.1 hZ.2.2.1 hZ.2.2.2.1 hZ.2.2.2.2.1 hZ.2.2.2.2.2 hP (c_X7_stride x0 M _ rfl) wd_2_158 wd_2_157 wd_1_1 hd_X7_stride rfl hlk hR hsz rfl hW hdg hcs) hS kk
theorem kn_X7_stride {p : Program} {l : Launch} {e : Env} {R : Room} {s : State} {m : MethodId} {args : Array Value} {below : List Frame} {meth : Method} {c : Code} {H : Heap} {locs : List Loc} {cells slots : Nat} {Q : State → Prop} {cc : ByteArray} {nL pc index : Nat} {ls : Array Slot} {rest : List Value} {X : En} {M : Mem} {H0 : Heap} {own : String} {x0 : Int32} (hZ : Fx p c m s args X cc nL own) (hP : wd X M H) (hS : va_S X.A H0 H locs) (hsz : ls.size = nL) (hlk : va_Nw (Cond.methodLinkNest own index yX7_stride RX7) s) (hR : 0 + 1 ≤ R.frames ∧ 8 + (1 + 11) + 0 ≤ R.locals) (hW : (rest.map fun v => v.category).sum ≤ 8) (hdg : decode cc pc = .ok (.invokestatic index, 3)) (hcs : cells ≤ R.cells ∧ slots ≤ R.slots)
    (kk : ∀ (H1 : Heap) (locs1 : List Loc), wd X M H1 → va_S X.A H0 H1 locs1 → W p l e R s m args below meth c H1 locs1 cells slots Q (F0 m (pc + 3) ls (.int (fn_X7_stride x0) :: rest))) : W p l e R s m args below meth c H locs cells slots Q (F0 m pc ls (.int x0 :: rest)) :=
  cal_i (runSN (As := [.int x0]) (rest := rest) hZ.1 hZ.2.1 hZ.2.2.1 hZ.2.2.2.1 hZ.2.2.2.2.1 hZ.2.2.2.2.2 hP (c_X7_stride x0 M _ rfl) wd_2_158 wd_2_157 wd_1_1 hd_X7_stride rfl hlk hR hsz rfl hW hdg hcs) hS kk
/-! FrameRaiser.neighbor -/
def fn_X7_neighbor (x0 : Int32) (x1 : Int32) : Int32 :=
  bv (x1 / (2 : Int32)) fun v2_1 =>
  bv (fn_X7_coordinate x0 v2_1) fun v3_2 =>
  if (rm x1 (2 : Int32)) = 0 then
    (if v3_2 = (5 : Int32) then
      ((-1 : Int32))
    else
      (x0 + (fn_X7_stride v2_1)))
  else
    (if v3_2 = 0 then
      ((-1 : Int32))
    else
      (x0 - (fn_X7_stride v2_1)))
theorem dX7_neighbor_0 : decode cX7_neighbor 0 = .ok (.iload_n 1, 1) := by decide +kernel
theorem dX7_neighbor_1 : decode cX7_neighbor 1 = .ok (.iconst 2, 1) := by decide +kernel
theorem dX7_neighbor_2 : decode cX7_neighbor 2 = .ok (.idiv, 1) := by decide +kernel
theorem dX7_neighbor_3 : decode cX7_neighbor 3 = .ok (.istore_n 2, 1) := by decide +kernel
theorem dX7_neighbor_4 : decode cX7_neighbor 4 = .ok (.iload_n 0, 1) := by decide +kernel
theorem dX7_neighbor_5 : decode cX7_neighbor 5 = .ok (.iload_n 2, 1) := by decide +kernel
theorem dX7_neighbor_6 : decode cX7_neighbor 6 = .ok (.invokestatic 311, 3) := by decide +kernel
theorem dX7_neighbor_9 : decode cX7_neighbor 9 = .ok (.istore_n 3, 1) := by decide +kernel
theorem dX7_neighbor_10 : decode cX7_neighbor 10 = .ok (.iload_n 1, 1) := by decide +kernel
theorem dX7_neighbor_11 : decode cX7_neighbor 11 = .ok (.iconst 2, 1) := by decide +kernel
theorem dX7_neighbor_12 : decode cX7_neighbor 12 = .ok (.irem, 1) := by decide +kernel
theorem dX7_neighbor_13 : decode cX7_neighbor 13 = .ok (.ifCond .ne 19, 3) := by decide +kernel
theorem dX7_neighbor_16 : decode cX7_neighbor 16 = .ok (.iload_n 3, 1) := by decide +kernel
theorem dX7_neighbor_17 : decode cX7_neighbor 17 = .ok (.iconst 5, 1) := by decide +kernel
theorem dX7_neighbor_18 : decode cX7_neighbor 18 = .ok (.if_icmp .ne 7, 3) := by decide +kernel
theorem dX7_neighbor_21 : decode cX7_neighbor 21 = .ok (.iconst (-1), 1) := by decide +kernel
theorem dX7_neighbor_22 : decode cX7_neighbor 22 = .ok (.goto 9, 3) := by decide +kernel
theorem dX7_neighbor_25 : decode cX7_neighbor 25 = .ok (.iload_n 0, 1) := by decide +kernel
theorem dX7_neighbor_26 : decode cX7_neighbor 26 = .ok (.iload_n 2, 1) := by decide +kernel
theorem dX7_neighbor_27 : decode cX7_neighbor 27 = .ok (.invokestatic 314, 3) := by decide +kernel
theorem dX7_neighbor_30 : decode cX7_neighbor 30 = .ok (.iadd, 1) := by decide +kernel
theorem dX7_neighbor_31 : decode cX7_neighbor 31 = .ok (.ireturn, 1) := by decide +kernel
theorem dX7_neighbor_32 : decode cX7_neighbor 32 = .ok (.iload_n 3, 1) := by decide +kernel
theorem dX7_neighbor_33 : decode cX7_neighbor 33 = .ok (.ifCond .ne 7, 3) := by decide +kernel
theorem dX7_neighbor_36 : decode cX7_neighbor 36 = .ok (.iconst (-1), 1) := by decide +kernel
theorem dX7_neighbor_37 : decode cX7_neighbor 37 = .ok (.goto 9, 3) := by decide +kernel
theorem dX7_neighbor_40 : decode cX7_neighbor 40 = .ok (.iload_n 0, 1) := by decide +kernel
theorem dX7_neighbor_41 : decode cX7_neighbor 41 = .ok (.iload_n 2, 1) := by decide +kernel
theorem dX7_neighbor_42 : decode cX7_neighbor 42 = .ok (.invokestatic 314, 3) := by decide +kernel
theorem dX7_neighbor_45 : decode cX7_neighbor 45 = .ok (.isub, 1) := by decide +kernel
theorem dX7_neighbor_46 : decode cX7_neighbor 46 = .ok (.ireturn, 1) := by decide +kernel
set_option maxHeartbeats 4000000 in
set_option maxRecDepth 100000 in
theorem c_X7_neighbor {l : Launch} {X : En} (x0 : Int32) (x1 : Int32) (M : Mem) (r : Int32) (hf : fn_X7_neighbor x0 x1 = r) : Cn l X yX7_neighbor cX7_neighbor 4 (some .int) 1 21 [.int x0, .int x1] M (Qi X r M) := by
  refine Met.ofW (cc := cX7_neighbor) (maxL := 4) (ret := (some .int)) (by decide) rfl ?_
  intro p e s m args below meth c s₁ B hml hv
  obtain ⟨rfl, hP, hk⟩ := hv
  have hx := B.exec
  have hb := B.bytes
  have hr := B.returns
  have hlocks := B.notSynchronized
  have hts : ∀ w ∈ lw_u, w.before ([.int x0, .int x1] : List Value).toArray s = true := fun w hw => atoms_spec (ws := Cond.code yX7_neighbor cX7_neighbor 4 (some .int) :: lw_u) B.pre w (List.mem_cons_of_mem _ hw)
  have hown : s.vm.findClass RX7 = some m.cls := findClass_of_methodNamed B.named
  have hZ : Fx p c m s ([.int x0, .int x1] : List Value).toArray X cX7_neighbor 4 RX7 := ⟨hx, hb, hml, hts, hown, hk⟩
  have hS : va_S X.A s.heap s.heap [] := va_S.rf
  have hl := lv_entry ([.int x0, .int x1]) (n := 4) (Nat.le_of_ble_eq_true rfl)
  rw [lg_entry_eq]
  generalize (lg_sl ([.int x0, .int x1]) ++ List.replicate (4 - (lg_sl ([.int x0, .int x1])).length) Slot.unset).toArray = ls at hl ⊢
  have hl : lv_has ls 4 [(0, .int x0), (1, .int x1)] := hl
  show WW p l e 1 21 s m [.int x0, .int x1] below meth c X (Qi X r M) s.heap [] 0 ls []
  have hP : wd X M s.heap := hP
  unfold fn_X7_neighbor at hf
  have key : ∀ (H : Heap) (locs : List Loc), wd X M H → va_S X.A s.heap H locs → WW p l e 1 21 s m [.int x0, .int x1] below meth c X (Qi X r M) H locs 0 ls [] := by
    intro H locs hP hS
    refine lv_iload_n hx hb dX7_neighbor_0 rfl (lv_at hl 1 rfl) ?_
    refine lv_iconst (v := (2 : Int32)) hx hb dX7_neighbor_1 (by decide) ?_
    refine lv_idiv hx hb dX7_neighbor_2 (by decide) ?_
    refine lv_topi (fun v2_1 e_v2_1 => ?_)
    have hf := b_v hf e_v2_1
    refine lv_istore_n (lv' := [(2, .int v2_1), (0, .int x0), (1, .int x1)]) hx hb dX7_neighbor_3 rfl hl (by decide) rfl (fun ls hl => ?_)
    refine lv_iload_n hx hb dX7_neighbor_4 rfl (lv_at hl 1 rfl) ?_
    refine lv_iload_n hx hb dX7_neighbor_5 rfl (lv_at hl 0 rfl) ?_
    refine k_X7_coordinate hZ hP hS hl.1 wd_2_155 ⟨Nat.le_of_ble_eq_true rfl, Nat.le_of_ble_eq_true rfl⟩ (Nat.le_of_ble_eq_true rfl) dX7_neighbor_6 ⟨Nat.zero_le _, Nat.zero_le _⟩ (fun H locs hP hS => ?_)
    refine lv_topi (fun v3_2 e_v3_2 => ?_)
    have hf := b_v hf e_v3_2
    refine lv_istore_n (lv' := [(3, .int v3_2), (2, .int v2_1), (0, .int x0), (1, .int x1)]) hx hb dX7_neighbor_9 rfl hl (by decide) rfl (fun ls hl => ?_)
    refine lv_iload_n hx hb dX7_neighbor_10 rfl (lv_at hl 3 rfl) ?_
    refine lv_iconst (v := (2 : Int32)) hx hb dX7_neighbor_11 (by decide) ?_
    refine rw_irem hx hb dX7_neighbor_12 (by decide) ?_
    refine lv_if_ne (tgt := 32) hx hb dX7_neighbor_13 (by decide) (fun c_3 => ?_) (fun c_3 => ?_)
    · have hf := i_f c_3 hf
      refine lv_iload_n hx hb dX7_neighbor_32 rfl (lv_at hl 0 rfl) ?_
      refine lv_if_ne (tgt := 40) hx hb dX7_neighbor_33 (by decide) (fun c_4 => ?_) (fun c_4 => ?_)
      · have hf := i_f c_4 hf
        refine lv_iload_n hx hb dX7_neighbor_40 rfl (lv_at hl 2 rfl) ?_
        refine lv_iload_n hx hb dX7_neighbor_41 rfl (lv_at hl 1 rfl) ?_
        refine k_X7_stride hZ hP hS hl.1 wd_2_156 ⟨Nat.le_of_ble_eq_true rfl, Nat.le_of_ble_eq_true rfl⟩ (Nat.le_of_ble_eq_true rfl) dX7_neighbor_42 ⟨Nat.zero_le _, Nat.zero_le _⟩ (fun H locs hP hS => ?_)
        refine lv_isub hx hb dX7_neighbor_45 ?_
        exact ret_i hx hb hr hlocks hP hS hf dX7_neighbor_46
      · have hf := i_t c_4 hf
        refine lv_iconst (v := (-1 : Int32)) hx hb dX7_neighbor_36 (by decide) ?_
        refine lv_goto (tgt := 46) hx hb dX7_neighbor_37 (by decide) ?_
        exact ret_i hx hb hr hlocks hP hS hf dX7_neighbor_46
    · have hf := i_t c_3 hf
      refine lv_iload_n hx hb dX7_neighbor_16 rfl (lv_at hl 0 rfl) ?_
      refine lv_iconst (v := (5 : Int32)) hx hb dX7_neighbor_17 (by decide) ?_
      refine lv_icmp_ne (tgt := 25) hx hb dX7_neighbor_18 (by decide) (fun c_5 => ?_) (fun c_5 => ?_)
      · have hf := i_f c_5 hf
        refine lv_iload_n hx hb dX7_neighbor_25 rfl (lv_at hl 2 rfl) ?_
        refine lv_iload_n hx hb dX7_neighbor_26 rfl (lv_at hl 1 rfl) ?_
        refine k_X7_stride hZ hP hS hl.1 wd_2_156 ⟨Nat.le_of_ble_eq_true rfl, Nat.le_of_ble_eq_true rfl⟩ (Nat.le_of_ble_eq_true rfl) dX7_neighbor_27 ⟨Nat.zero_le _, Nat.zero_le _⟩ (fun H locs hP hS => ?_)
        refine lv_iadd hx hb dX7_neighbor_30 ?_
        exact ret_i hx hb hr hlocks hP hS hf dX7_neighbor_31
      · have hf := i_t c_5 hf
        refine lv_iconst (v := (-1 : Int32)) hx hb dX7_neighbor_21 (by decide) ?_
        refine lv_goto (tgt := 31) hx hb dX7_neighbor_22 (by decide) ?_
        exact ret_i hx hb hr hlocks hP hS hf dX7_neighbor_31
  exact key s.heap [] hP hS
theorem hd_X7_neighbor : Hd yX7_neighbor 2 := by decide +kernel
theorem k_X7_neighbor {p : Program} {l : Launch} {e : Env} {R : Room} {s : State} {m : MethodId} {args : Array Value} {below : List Frame} {meth : Method} {c : Code} {H : Heap} {locs : List Loc} {cells slots : Nat} {Q : State → Prop} {cc : ByteArray} {nL pc index : Nat} {ls : Array Slot} {rest : List Value} {X : En} {M : Mem} {H0 : Heap} {own : String} {x0 : Int32} {x1 : Int32} (hZ : Fx p c m s args X cc nL own) (hP : wd X M H) (hS : va_S X.A H0 H locs) (hsz : ls.size = nL) (hlk : Cond.methodLink own index yX7_neighbor ∈ lw_u) (hR : 1 + 1 ≤ R.frames ∧ 8 + (4 + 11) + 21 ≤ R.locals) (hW : (rest.map fun v => v.category).sum ≤ 8) (hdg : decode cc pc = .ok (.invokestatic index, 3)) (hcs : cells ≤ R.cells ∧ slots ≤ R.slots)
    (kk : ∀ (H1 : Heap) (locs1 : List Loc), wd X M H1 → va_S X.A H0 H1 locs1 → W p l e R s m args below meth c H1 locs1 cells slots Q (F0 m (pc + 3) ls (.int (fn_X7_neighbor x0 x1) :: rest))) : W p l e R s m args below meth c H locs cells slots Q (F0 m pc ls (.int x1 :: .int x0 :: rest)) :=
  cal_i (runS (As := [.int x0, .int x1]) (rest := rest) hZ.1 hZ.2.1 hZ.2.2.1 hZ.2.2.2.1 hZ.2.2.2.2.1 hZ.2.2.2.2.2 hP (c_X7_neighbor x0 x1 M _ rfl) wd_2_154 wd_2_153 wd_1_1 hd_X7_neighbor rfl hlk hR hsz rfl hW hdg hcs) hS kk
theorem kn_X7_neighbor {p : Program} {l : Launch} {e : Env} {R : Room} {s : State} {m : MethodId} {args : Array Value} {below : List Frame} {meth : Method} {c : Code} {H : Heap} {locs : List Loc} {cells slots : Nat} {Q : State → Prop} {cc : ByteArray} {nL pc index : Nat} {ls : Array Slot} {rest : List Value} {X : En} {M : Mem} {H0 : Heap} {own : String} {x0 : Int32} {x1 : Int32} (hZ : Fx p c m s args X cc nL own) (hP : wd X M H) (hS : va_S X.A H0 H locs) (hsz : ls.size = nL) (hlk : va_Nw (Cond.methodLinkNest own index yX7_neighbor RX7) s) (hR : 1 + 1 ≤ R.frames ∧ 8 + (4 + 11) + 21 ≤ R.locals) (hW : (rest.map fun v => v.category).sum ≤ 8) (hdg : decode cc pc = .ok (.invokestatic index, 3)) (hcs : cells ≤ R.cells ∧ slots ≤ R.slots)
    (kk : ∀ (H1 : Heap) (locs1 : List Loc), wd X M H1 → va_S X.A H0 H1 locs1 → W p l e R s m args below meth c H1 locs1 cells slots Q (F0 m (pc + 3) ls (.int (fn_X7_neighbor x0 x1) :: rest))) : W p l e R s m args below meth c H locs cells slots Q (F0 m pc ls (.int x1 :: .int x0 :: rest)) :=
  cal_i (runSN (As := [.int x0, .int x1]) (rest := rest) hZ.1 hZ.2.1 hZ.2.2.1 hZ.2.2.2.1 hZ.2.2.2.2.1 hZ.2.2.2.2.2 hP (c_X7_neighbor x0 x1 M _ rfl) wd_2_154 wd_2_153 wd_1_1 hd_X7_neighbor rfl hlk hR hsz rfl hW hdg hcs) hS kk
/-! FrameRaiser$Frame.isOpen -/
def jn_X1_isOpen_25 : Option (Int32) :=
  some (1 : Int32)
def fn_X1_isOpen (k0 : Nat) (x1 : Int32) (x2 : Int32) (M : Mem) : Option (Int32) :=
  if x1 = (-1 : Int32) then
    (some (0 : Int32))
  else
    (if inb x1 216 then
    if (M (k0 + 1) (ix x1)) = (-1 : Int32) then
      (jn_X1_isOpen_25)
    else
      (if inb x1 216 then
      if (M (k0 + 1) (ix x1)) = x2 then
        (jn_X1_isOpen_25)
      else
        (some (0 : Int32))
      else none)
    else none)
theorem dX1_isOpen_0 : decode cX1_isOpen 0 = .ok (.iload_n 1, 1) := by decide +kernel
theorem dX1_isOpen_1 : decode cX1_isOpen 1 = .ok (.iconst (-1), 1) := by decide +kernel
theorem dX1_isOpen_2 : decode cX1_isOpen 2 = .ok (.if_icmp .eq 27, 3) := by decide +kernel
theorem dX1_isOpen_5 : decode cX1_isOpen 5 = .ok (.aload_n 0, 1) := by decide +kernel
theorem dX1_isOpen_6 : decode cX1_isOpen 6 = .ok (.getfield 9, 3) := by decide +kernel
theorem dX1_isOpen_9 : decode cX1_isOpen 9 = .ok (.iload_n 1, 1) := by decide +kernel
theorem dX1_isOpen_10 : decode cX1_isOpen 10 = .ok (.iaload, 1) := by decide +kernel
theorem dX1_isOpen_11 : decode cX1_isOpen 11 = .ok (.iconst (-1), 1) := by decide +kernel
theorem dX1_isOpen_12 : decode cX1_isOpen 12 = .ok (.if_icmp .eq 13, 3) := by decide +kernel
theorem dX1_isOpen_15 : decode cX1_isOpen 15 = .ok (.aload_n 0, 1) := by decide +kernel
theorem dX1_isOpen_16 : decode cX1_isOpen 16 = .ok (.getfield 9, 3) := by decide +kernel
theorem dX1_isOpen_19 : decode cX1_isOpen 19 = .ok (.iload_n 1, 1) := by decide +kernel
theorem dX1_isOpen_20 : decode cX1_isOpen 20 = .ok (.iaload, 1) := by decide +kernel
theorem dX1_isOpen_21 : decode cX1_isOpen 21 = .ok (.iload_n 2, 1) := by decide +kernel
theorem dX1_isOpen_22 : decode cX1_isOpen 22 = .ok (.if_icmp .ne 7, 3) := by decide +kernel
theorem dX1_isOpen_25 : decode cX1_isOpen 25 = .ok (.iconst 1, 1) := by decide +kernel
theorem dX1_isOpen_26 : decode cX1_isOpen 26 = .ok (.goto 4, 3) := by decide +kernel
theorem dX1_isOpen_29 : decode cX1_isOpen 29 = .ok (.iconst 0, 1) := by decide +kernel
theorem dX1_isOpen_30 : decode cX1_isOpen 30 = .ok (.ireturn, 1) := by decide +kernel
set_option maxHeartbeats 4000000 in
set_option maxRecDepth 100000 in
theorem c_X1_isOpen {l : Launch} {X : En} (k0 : Nat) (x1 : Int32) (x2 : Int32) (M : Mem) (hk0 : isF k0) (r : Int32) (hf : fn_X1_isOpen k0 x1 x2 M = some r) : Cn l X yX1_isOpen cX1_isOpen 3 (some .boolean) 0 0 [.ref (X.ad k0), .int x1, .int x2] M (Qi X r M) := by
  refine Met.ofW (cc := cX1_isOpen) (maxL := 3) (ret := (some .boolean)) (by decide) rfl ?_
  intro p e s m args below meth c s₁ B hml hv
  obtain ⟨rfl, hP, hk⟩ := hv
  have hx := B.exec
  have hb := B.bytes
  have hr := B.returns
  have hlocks := B.notSynchronized
  have hts : ∀ w ∈ lw_u, w.before ([.ref (X.ad k0), .int x1, .int x2] : List Value).toArray s = true := fun w hw => atoms_spec (ws := Cond.code yX1_isOpen cX1_isOpen 3 (some .boolean) :: lw_u) B.pre w (List.mem_cons_of_mem _ hw)
  have hown : s.vm.findClass RX1 = some m.cls := findClass_of_methodNamed B.named
  have hZ : Fx p c m s ([.ref (X.ad k0), .int x1, .int x2] : List Value).toArray X cX1_isOpen 3 RX1 := ⟨hx, hb, hml, hts, hown, hk⟩
  have hS : va_S X.A s.heap s.heap [] := va_S.rf
  have hl := lv_entry ([.ref (X.ad k0), .int x1, .int x2]) (n := 3) (Nat.le_of_ble_eq_true rfl)
  rw [lg_entry_eq]
  generalize (lg_sl ([.ref (X.ad k0), .int x1, .int x2]) ++ List.replicate (3 - (lg_sl ([.ref (X.ad k0), .int x1, .int x2])).length) Slot.unset).toArray = ls at hl ⊢
  have hl : lv_has ls 3 [(0, .ref (X.ad k0)), (1, .int x1), (2, .int x2)] := hl
  show WW p l e 0 0 s m [.ref (X.ad k0), .int x1, .int x2] below meth c X (Qi X r M) s.heap [] 0 ls []
  have hP : wd X M s.heap := hP
  have jn25 : jn_X1_isOpen_25 = some r → ∀ (H : Heap) (locs : List Loc) (ls : Array Slot), wd X M H → va_S X.A s.heap H locs → lv_has ls 3 [] → WW p l e 0 0 s m [.ref (X.ad k0), .int x1, .int x2] below meth c X (Qi X r M) H locs 25 ls [] := by
    intro   hf H locs ls hP hS hl
    unfold jn_X1_isOpen_25 at hf
    refine lv_iconst (v := (1 : Int32)) hx hb dX1_isOpen_25 (by decide) ?_
    refine lv_goto (tgt := 30) hx hb dX1_isOpen_26 (by decide) ?_
    have hf := Option.some.inj hf
    exact ret_z hx hb hr hlocks hP hS isZ_1 hf dX1_isOpen_30
  unfold fn_X1_isOpen at hf
  have key : ∀ (H : Heap) (locs : List Loc), wd X M H → va_S X.A s.heap H locs → WW p l e 0 0 s m [.ref (X.ad k0), .int x1, .int x2] below meth c X (Qi X r M) H locs 0 ls [] := by
    intro H locs hP hS
    refine lv_iload_n hx hb dX1_isOpen_0 rfl (lv_at hl 1 rfl) ?_
    refine lv_iconst (v := (-1 : Int32)) hx hb dX1_isOpen_1 (by decide) ?_
    refine lv_icmp_eq (tgt := 29) hx hb dX1_isOpen_2 (by decide) (fun c_1 => ?_) (fun c_1 => ?_)
    · have hf := i_t c_1 hf
      refine lv_iconst (v := (0 : Int32)) hx hb dX1_isOpen_29 (by decide) ?_
      have hf := Option.some.inj hf
      exact ret_z hx hb hr hlocks hP hS isZ_0 hf dX1_isOpen_30
    · have hf := i_f c_1 hf
      refine lv_aload_n hx hb dX1_isOpen_5 rfl (lv_at hl 0 rfl) ?_
      refine gX1_0 hx hb hts hown hk hP hk0 wd_1_31 dX1_isOpen_6 ?_
      refine lv_iload_n hx hb dX1_isOpen_9 rfl (lv_at hl 1 rfl) ?_
      obtain ⟨q_2, hf⟩ := g_if hf
      refine ald hx hb hk hP (isF_lt1 hk0) (rd_F1 hk0 _) q_2 dX1_isOpen_10 ?_
      refine lv_iconst (v := (-1 : Int32)) hx hb dX1_isOpen_11 (by decide) ?_
      refine lv_icmp_eq (tgt := 25) hx hb dX1_isOpen_12 (by decide) (fun c_3 => ?_) (fun c_3 => ?_)
      · have hf := i_t c_3 hf
        exact jn25  hf H locs ls hP hS (lv_sub hl [] rfl)
      · have hf := i_f c_3 hf
        refine lv_aload_n hx hb dX1_isOpen_15 rfl (lv_at hl 0 rfl) ?_
        refine gX1_0 hx hb hts hown hk hP hk0 wd_1_31 dX1_isOpen_16 ?_
        refine lv_iload_n hx hb dX1_isOpen_19 rfl (lv_at hl 1 rfl) ?_
        obtain ⟨q_4, hf⟩ := g_if hf
        refine ald hx hb hk hP (isF_lt1 hk0) (rd_F1 hk0 _) q_4 dX1_isOpen_20 ?_
        refine lv_iload_n hx hb dX1_isOpen_21 rfl (lv_at hl 2 rfl) ?_
        refine lv_icmp_ne (tgt := 29) hx hb dX1_isOpen_22 (by decide) (fun c_5 => ?_) (fun c_5 => ?_)
        · have hf := i_f c_5 hf
          refine lv_iconst (v := (0 : Int32)) hx hb dX1_isOpen_29 (by decide) ?_
          have hf := Option.some.inj hf
          exact ret_z hx hb hr hlocks hP hS isZ_0 hf dX1_isOpen_30
        · have hf := i_t c_5 hf
          exact jn25  hf H locs ls hP hS (lv_sub hl [] rfl)
  exact key s.heap [] hP hS
theorem hd_X1_isOpen : Hd yX1_isOpen 2 := by decide +kernel
theorem k_X1_isOpen {p : Program} {l : Launch} {e : Env} {R : Room} {s : State} {m : MethodId} {args : Array Value} {below : List Frame} {meth : Method} {c : Code} {H : Heap} {locs : List Loc} {cells slots : Nat} {Q : State → Prop} {cc : ByteArray} {nL pc index : Nat} {ls : Array Slot} {rest : List Value} {X : En} {M : Mem} {H0 : Heap} {own : String} {k0 : Nat} {x1 : Int32} {x2 : Int32} {r : Int32} (hZ : Fx p c m s args X cc nL own) (hP : wd X M H) (hS : va_S X.A H0 H locs) (hsz : ls.size = nL) (hlk : Cond.methodLink own index yX1_isOpen ∈ lw_u) (hR : 0 + 1 ≤ R.frames ∧ 8 + (3 + 11) + 0 ≤ R.locals) (hW : (rest.map fun v => v.category).sum ≤ 8) (hdg : decode cc pc = .ok (.invokevirtual index, 3)) (hcs : cells ≤ R.cells ∧ slots ≤ R.slots) (hk0 : isF k0) (hf : fn_X1_isOpen k0 x1 x2 M = some r)
    (kk : ∀ (H1 : Heap) (locs1 : List Loc), wd X M H1 → va_S X.A H0 H1 locs1 → W p l e R s m args below meth c H1 locs1 cells slots Q (F0 m (pc + 3) ls (.int r :: rest))) : W p l e R s m args below meth c H locs cells slots Q (F0 m pc ls (.int x2 :: .int x1 :: .ref (X.ad k0) :: rest)) :=
  cal_i (runV (As := [.int x1, .int x2]) (rest := rest) hZ.1 hZ.2.1 hZ.2.2.1 hZ.2.2.2.1 hZ.2.2.2.2.1 hZ.2.2.2.2.2 hP (c_X1_isOpen k0 x1 x2 M hk0 r hf) wd_2_162 wd_2_161 wd_p_9 wd_1_2 hd_X1_isOpen (isF_lt0 hk0) (rd_F0 hk0 _) rfl rfl hlk hR hsz rfl hW hdg hcs) hS kk
/-! FrameRaiser$Frame.canMove -/
def bd_X1_canMove_2 (k0 : Nat) (x1 : Int32) (x2 : Int32) (M : Mem) : (Int32) → Option ((Int32) ⊕ ((Unit) ⊕ (Int32))) :=
  u1 fun v3_1 =>
  if (216 : Int32) ≤ v3_1 then
    (some (.inr (.inl ())))
  else
    (if inb v3_1 216 then
    if (M (k0 + 1) (ix v3_1)) = x1 then
      ((fn_X1_isOpen k0 (fn_X7_neighbor v3_1 x2) x1 M).bind fun r_5 =>
      if r_5 = 0 then
        (some (.inr (.inr (0 : Int32))))
      else
        (some (.inl (v3_1 + (1 : Int32)))))
    else
      (some (.inl (v3_1 + (1 : Int32))))
    else none)
def fn_X1_canMove (g : Nat) (k0 : Nat) (x1 : Int32) (x2 : Int32) (M : Mem) : Option (Int32) :=
  (lpN g (bd_X1_canMove_2 k0 x1 x2 M) (0 : Int32)).bind (el (fun (_ : Unit) =>
    some (1 : Int32)) (fun rr => some rr))
theorem dX1_canMove_0 : decode cX1_canMove 0 = .ok (.iconst 0, 1) := by decide +kernel
theorem dX1_canMove_1 : decode cX1_canMove 1 = .ok (.istore_n 3, 1) := by decide +kernel
theorem dX1_canMove_2 : decode cX1_canMove 2 = .ok (.iload_n 3, 1) := by decide +kernel
theorem dX1_canMove_3 : decode cX1_canMove 3 = .ok (.sipush 216, 3) := by decide +kernel
theorem dX1_canMove_6 : decode cX1_canMove 6 = .ok (.if_icmp .ge 34, 3) := by decide +kernel
theorem dX1_canMove_9 : decode cX1_canMove 9 = .ok (.aload_n 0, 1) := by decide +kernel
theorem dX1_canMove_10 : decode cX1_canMove 10 = .ok (.getfield 9, 3) := by decide +kernel
theorem dX1_canMove_13 : decode cX1_canMove 13 = .ok (.iload_n 3, 1) := by decide +kernel
theorem dX1_canMove_14 : decode cX1_canMove 14 = .ok (.iaload, 1) := by decide +kernel
theorem dX1_canMove_15 : decode cX1_canMove 15 = .ok (.iload_n 1, 1) := by decide +kernel
theorem dX1_canMove_16 : decode cX1_canMove 16 = .ok (.if_icmp .ne 18, 3) := by decide +kernel
theorem dX1_canMove_19 : decode cX1_canMove 19 = .ok (.aload_n 0, 1) := by decide +kernel
theorem dX1_canMove_20 : decode cX1_canMove 20 = .ok (.iload_n 3, 1) := by decide +kernel
theorem dX1_canMove_21 : decode cX1_canMove 21 = .ok (.iload_n 2, 1) := by decide +kernel
theorem dX1_canMove_22 : decode cX1_canMove 22 = .ok (.invokestatic 43, 3) := by decide +kernel
theorem dX1_canMove_25 : decode cX1_canMove 25 = .ok (.iload_n 1, 1) := by decide +kernel
theorem dX1_canMove_26 : decode cX1_canMove 26 = .ok (.invokevirtual 47, 3) := by decide +kernel
theorem dX1_canMove_29 : decode cX1_canMove 29 = .ok (.ifCond .ne 5, 3) := by decide +kernel
theorem dX1_canMove_32 : decode cX1_canMove 32 = .ok (.iconst 0, 1) := by decide +kernel
theorem dX1_canMove_33 : decode cX1_canMove 33 = .ok (.ireturn, 1) := by decide +kernel
theorem dX1_canMove_34 : decode cX1_canMove 34 = .ok (.iinc 3 1, 3) := by decide +kernel
theorem dX1_canMove_37 : decode cX1_canMove 37 = .ok (.goto (-35), 3) := by decide +kernel
theorem dX1_canMove_40 : decode cX1_canMove 40 = .ok (.iconst 1, 1) := by decide +kernel
theorem dX1_canMove_41 : decode cX1_canMove 41 = .ok (.ireturn, 1) := by decide +kernel
set_option maxHeartbeats 4000000 in
set_option maxRecDepth 100000 in
theorem c_X1_canMove {l : Launch} {X : En} (g : Nat) (k0 : Nat) (x1 : Int32) (x2 : Int32) (M : Mem) (hk0 : isF k0) (r : Int32) (hf : fn_X1_canMove g k0 x1 x2 M = some r) : Cn l X yX1_canMove cX1_canMove 4 (some .boolean) 2 44 [.ref (X.ad k0), .int x1, .int x2] M (Qi X r M) := by
  refine Met.ofW (cc := cX1_canMove) (maxL := 4) (ret := (some .boolean)) (by decide) rfl ?_
  intro p e s m args below meth c s₁ B hml hv
  obtain ⟨rfl, hP, hk⟩ := hv
  have hx := B.exec
  have hb := B.bytes
  have hr := B.returns
  have hlocks := B.notSynchronized
  have hts : ∀ w ∈ lw_u, w.before ([.ref (X.ad k0), .int x1, .int x2] : List Value).toArray s = true := fun w hw => atoms_spec (ws := Cond.code yX1_canMove cX1_canMove 4 (some .boolean) :: lw_u) B.pre w (List.mem_cons_of_mem _ hw)
  have hown : s.vm.findClass RX1 = some m.cls := findClass_of_methodNamed B.named
  have hZ : Fx p c m s ([.ref (X.ad k0), .int x1, .int x2] : List Value).toArray X cX1_canMove 4 RX1 := ⟨hx, hb, hml, hts, hown, hk⟩
  have hS : va_S X.A s.heap s.heap [] := va_S.rf
  have hl := lv_entry ([.ref (X.ad k0), .int x1, .int x2]) (n := 4) (Nat.le_of_ble_eq_true rfl)
  rw [lg_entry_eq]
  generalize (lg_sl ([.ref (X.ad k0), .int x1, .int x2]) ++ List.replicate (4 - (lg_sl ([.ref (X.ad k0), .int x1, .int x2])).length) Slot.unset).toArray = ls at hl ⊢
  have hl : lv_has ls 4 [(0, .ref (X.ad k0)), (1, .int x1), (2, .int x2)] := hl
  show WW p l e 2 44 s m [.ref (X.ad k0), .int x1, .int x2] below meth c X (Qi X r M) s.heap [] 0 ls []
  have hP : wd X M s.heap := hP
  unfold fn_X1_canMove at hf
  have key : ∀ (H : Heap) (locs : List Loc), wd X M H → va_S X.A s.heap H locs → WW p l e 2 44 s m [.ref (X.ad k0), .int x1, .int x2] below meth c X (Qi X r M) H locs 0 ls [] := by
    intro H locs hP hS
    refine lv_iconst (v := (0 : Int32)) hx hb dX1_canMove_0 (by decide) ?_
    refine lv_istore_n (lv' := [(3, .int (0 : Int32)), (0, .ref (X.ad k0)), (1, .int x1), (2, .int x2)]) hx hb dX1_canMove_1 rfl hl (by decide) rfl (fun ls hl => ?_)
    obtain ⟨o2, ho2, hf⟩ := b_d hf
    refine lp_rule (b := bd_X1_canMove_2 k0 x1 x2 M) (P := fun w : Int32 => ∀ (H : Heap) (locs : List Loc) (ls : Array Slot), wd X M H → va_S X.A s.heap H locs → lv_has ls 4 [(3, .int w), (0, .ref (X.ad k0)), (1, .int x1), (2, .int x2)] → WW p l e 2 44 s m [.ref (X.ad k0), .int x1, .int x2] below meth c X (Qi X r M) H locs 2 ls []) (K := fun o => (o = .inl () → ∀ (H : Heap) (locs : List Loc) (ls : Array Slot), wd X M H → va_S X.A s.heap H locs → lv_has ls 4 [] → WW p l e 2 44 s m [.ref (X.ad k0), .int x1, .int x2] below meth c X (Qi X r M) H locs 40 ls []) ∧ (∀ rr : Int32, o = .inr rr → rr = r)) ?_ g (0 : Int32) o2 ho2 ?_ H locs ls hP hS (lv_sub hl [0, 1, 2, 3] rfl)
    · rintro v3_1 o hf hkc2 hke2 H locs ls hP hS hl
      have hf := u1_e hf
      refine lv_iload_n hx hb dX1_canMove_2 rfl (lv_at hl 0 rfl) ?_
      refine lv_sipush (v := (216 : Int32)) hx hb dX1_canMove_3 (by decide) ?_
      refine lv_icmp_ge (tgt := 40) hx hb dX1_canMove_6 (by decide) (fun c_2 => ?_) (fun c_2 => ?_)
      · have hf := i_t c_2 hf
        exact (hke2 _ (Option.some.inj hf).symm).1  rfl H locs ls hP hS (lv_sub hl [] rfl)
      · have hf := i_f c_2 hf
        refine lv_aload_n hx hb dX1_canMove_9 rfl (lv_at hl 1 rfl) ?_
        refine gX1_0 hx hb hts hown hk hP hk0 wd_1_31 dX1_canMove_10 ?_
        refine lv_iload_n hx hb dX1_canMove_13 rfl (lv_at hl 0 rfl) ?_
        obtain ⟨q_3, hf⟩ := g_if hf
        refine ald hx hb hk hP (isF_lt1 hk0) (rd_F1 hk0 _) q_3 dX1_canMove_14 ?_
        refine lv_iload_n hx hb dX1_canMove_15 rfl (lv_at hl 2 rfl) ?_
        refine lv_icmp_ne (tgt := 34) hx hb dX1_canMove_16 (by decide) (fun c_4 => ?_) (fun c_4 => ?_)
        · have hf := i_f c_4 hf
          refine lv_iinc (v := v3_1 + (1 : Int32)) (lv' := [(3, .int (v3_1 + (1 : Int32))), (0, .ref (X.ad k0)), (1, .int x1), (2, .int x2)]) hx hb dX1_canMove_34 hl (k := 0) rfl rfl (by decide) rfl (fun ls hl => ?_)
          refine lv_goto (tgt := 2) hx hb dX1_canMove_37 (by decide) ?_
          exact hkc2 _ (Option.some.inj hf).symm H locs ls hP hS (lv_sub hl [0, 1, 2, 3] rfl)
        · have hf := i_t c_4 hf
          refine lv_aload_n hx hb dX1_canMove_19 rfl (lv_at hl 1 rfl) ?_
          refine lv_iload_n hx hb dX1_canMove_20 rfl (lv_at hl 0 rfl) ?_
          refine lv_iload_n hx hb dX1_canMove_21 rfl (lv_at hl 3 rfl) ?_
          refine kn_X7_neighbor hZ hP hS hl.1 (nest_8 hk.2.1) ⟨Nat.le_of_ble_eq_true rfl, Nat.le_of_ble_eq_true rfl⟩ (Nat.le_of_ble_eq_true rfl) dX1_canMove_22 ⟨Nat.zero_le _, Nat.zero_le _⟩ (fun H locs hP hS => ?_)
          refine lv_iload_n hx hb dX1_canMove_25 rfl (lv_at hl 2 rfl) ?_
          obtain ⟨r_5, h_r_5, hf⟩ := b_d hf
          refine k_X1_isOpen hZ hP hS hl.1 wd_2_159 ⟨Nat.le_of_ble_eq_true rfl, Nat.le_of_ble_eq_true rfl⟩ (Nat.le_of_ble_eq_true rfl) dX1_canMove_26 ⟨Nat.zero_le _, Nat.zero_le _⟩ hk0 h_r_5 (fun H locs hP hS => ?_)
          refine lv_if_ne (tgt := 34) hx hb dX1_canMove_29 (by decide) (fun c_6 => ?_) (fun c_6 => ?_)
          · have hf := i_f c_6 hf
            refine lv_iinc (v := v3_1 + (1 : Int32)) (lv' := [(3, .int (v3_1 + (1 : Int32))), (0, .ref (X.ad k0)), (1, .int x1), (2, .int x2)]) hx hb dX1_canMove_34 hl (k := 0) rfl rfl (by decide) rfl (fun ls hl => ?_)
            refine lv_goto (tgt := 2) hx hb dX1_canMove_37 (by decide) ?_
            exact hkc2 _ (Option.some.inj hf).symm H locs ls hP hS (lv_sub hl [0, 1, 2, 3] rfl)
          · have hf := i_t c_6 hf
            refine lv_iconst (v := (0 : Int32)) hx hb dX1_canMove_32 (by decide) ?_
            have hf := (hke2 _ (Option.some.inj hf).symm).2 _ rfl
            exact ret_z hx hb hr hlocks hP hS isZ_0 hf dX1_canMove_33
    · refine ⟨?_, ?_⟩
      · intro  e H locs ls hP hS hl
        subst o2
        have hf := el_l hf
        refine lv_iconst (v := (1 : Int32)) hx hb dX1_canMove_40 (by decide) ?_
        have hf := Option.some.inj hf
        exact ret_z hx hb hr hlocks hP hS isZ_1 hf dX1_canMove_41
      · intro rr e
        subst o2
        have hf := el_r hf
        exact Option.some.inj hf
  exact key s.heap [] hP hS
theorem hd_X1_canMove : Hd yX1_canMove 2 := by decide +kernel
theorem k_X1_canMove {p : Program} {l : Launch} {e : Env} {R : Room} {s : State} {m : MethodId} {args : Array Value} {below : List Frame} {meth : Method} {c : Code} {H : Heap} {locs : List Loc} {cells slots : Nat} {Q : State → Prop} {cc : ByteArray} {nL pc index : Nat} {ls : Array Slot} {rest : List Value} {X : En} {M : Mem} {H0 : Heap} {own : String} {g : Nat} {k0 : Nat} {x1 : Int32} {x2 : Int32} {r : Int32} (hZ : Fx p c m s args X cc nL own) (hP : wd X M H) (hS : va_S X.A H0 H locs) (hsz : ls.size = nL) (hlk : Cond.methodLink own index yX1_canMove ∈ lw_u) (hR : 2 + 1 ≤ R.frames ∧ 8 + (4 + 11) + 44 ≤ R.locals) (hW : (rest.map fun v => v.category).sum ≤ 8) (hdg : decode cc pc = .ok (.invokevirtual index, 3)) (hcs : cells ≤ R.cells ∧ slots ≤ R.slots) (hk0 : isF k0) (hf : fn_X1_canMove g k0 x1 x2 M = some r)
    (kk : ∀ (H1 : Heap) (locs1 : List Loc), wd X M H1 → va_S X.A H0 H1 locs1 → W p l e R s m args below meth c H1 locs1 cells slots Q (F0 m (pc + 3) ls (.int r :: rest))) : W p l e R s m args below meth c H locs cells slots Q (F0 m pc ls (.int x2 :: .int x1 :: .ref (X.ad k0) :: rest)) :=
  cal_i (runV (As := [.int x1, .int x2]) (rest := rest) hZ.1 hZ.2.1 hZ.2.2.1 hZ.2.2.2.1 hZ.2.2.2.2.1 hZ.2.2.2.2.2 hP (c_X1_canMove g k0 x1 x2 M hk0 r hf) wd_2_151 wd_2_149 wd_2_150 wd_1_2 hd_X1_canMove (isF_lt0 hk0) (rd_F0 hk0 _) rfl rfl hlk hR hsz rfl hW hdg hcs) hS kk
/-! FrameRaiser.shiftFault -/
def fn_X7_shiftFault (g : Nat) (x1 : Int32) (x2 : Int32) (M : Mem) : Option (Int32) :=
  if (fn_X7_isPiece x1 M) = 0 then
    (some (-1 : Int32))
  else
    (if (fn_X7_isDirection x2) = 0 then
      (some (-1 : Int32))
    else
      ((fn_X1_canMove g 1 x1 x2 M).bind fun r_3 =>
      if r_3 = 0 then
        (some (-2 : Int32))
      else
        (some (0 : Int32))))
theorem dX7_shiftFault_0 : decode cX7_shiftFault 0 = .ok (.aload_n 0, 1) := by decide +kernel
theorem dX7_shiftFault_1 : decode cX7_shiftFault 1 = .ok (.iload_n 1, 1) := by decide +kernel
theorem dX7_shiftFault_2 : decode cX7_shiftFault 2 = .ok (.invokevirtual 109, 3) := by decide +kernel
theorem dX7_shiftFault_5 : decode cX7_shiftFault 5 = .ok (.ifCond .eq 10, 3) := by decide +kernel
theorem dX7_shiftFault_8 : decode cX7_shiftFault 8 = .ok (.iload_n 2, 1) := by decide +kernel
theorem dX7_shiftFault_9 : decode cX7_shiftFault 9 = .ok (.invokestatic 157, 3) := by decide +kernel
theorem dX7_shiftFault_12 : decode cX7_shiftFault 12 = .ok (.ifCond .ne 5, 3) := by decide +kernel
theorem dX7_shiftFault_15 : decode cX7_shiftFault 15 = .ok (.iconst (-1), 1) := by decide +kernel
theorem dX7_shiftFault_16 : decode cX7_shiftFault 16 = .ok (.ireturn, 1) := by decide +kernel
theorem dX7_shiftFault_17 : decode cX7_shiftFault 17 = .ok (.aload_n 0, 1) := by decide +kernel
theorem dX7_shiftFault_18 : decode cX7_shiftFault 18 = .ok (.getfield 10, 3) := by decide +kernel
theorem dX7_shiftFault_21 : decode cX7_shiftFault 21 = .ok (.iload_n 1, 1) := by decide +kernel
theorem dX7_shiftFault_22 : decode cX7_shiftFault 22 = .ok (.iload_n 2, 1) := by decide +kernel
theorem dX7_shiftFault_23 : decode cX7_shiftFault 23 = .ok (.invokevirtual 294, 3) := by decide +kernel
theorem dX7_shiftFault_26 : decode cX7_shiftFault 26 = .ok (.ifCond .eq 7, 3) := by decide +kernel
theorem dX7_shiftFault_29 : decode cX7_shiftFault 29 = .ok (.iconst 0, 1) := by decide +kernel
theorem dX7_shiftFault_30 : decode cX7_shiftFault 30 = .ok (.goto 5, 3) := by decide +kernel
theorem dX7_shiftFault_33 : decode cX7_shiftFault 33 = .ok (.bipush (-2), 2) := by decide +kernel
theorem dX7_shiftFault_35 : decode cX7_shiftFault 35 = .ok (.ireturn, 1) := by decide +kernel
set_option maxHeartbeats 4000000 in
set_option maxRecDepth 100000 in
theorem c_X7_shiftFault {l : Launch} {X : En} (g : Nat) (x1 : Int32) (x2 : Int32) (M : Mem) (r : Int32) (hf : fn_X7_shiftFault g x1 x2 M = some r) : Cn l X yX7_shiftFault cX7_shiftFault 3 (some .int) 3 67 [.ref (X.ad 0), .int x1, .int x2] M (Qi X r M) := by
  refine Met.ofW (cc := cX7_shiftFault) (maxL := 3) (ret := (some .int)) (by decide) rfl ?_
  intro p e s m args below meth c s₁ B hml hv
  obtain ⟨rfl, hP, hk⟩ := hv
  have hx := B.exec
  have hb := B.bytes
  have hr := B.returns
  have hlocks := B.notSynchronized
  have hts : ∀ w ∈ lw_u, w.before ([.ref (X.ad 0), .int x1, .int x2] : List Value).toArray s = true := fun w hw => atoms_spec (ws := Cond.code yX7_shiftFault cX7_shiftFault 3 (some .int) :: lw_u) B.pre w (List.mem_cons_of_mem _ hw)
  have hown : s.vm.findClass RX7 = some m.cls := findClass_of_methodNamed B.named
  have hZ : Fx p c m s ([.ref (X.ad 0), .int x1, .int x2] : List Value).toArray X cX7_shiftFault 3 RX7 := ⟨hx, hb, hml, hts, hown, hk⟩
  have hS : va_S X.A s.heap s.heap [] := va_S.rf
  have hl := lv_entry ([.ref (X.ad 0), .int x1, .int x2]) (n := 3) (Nat.le_of_ble_eq_true rfl)
  rw [lg_entry_eq]
  generalize (lg_sl ([.ref (X.ad 0), .int x1, .int x2]) ++ List.replicate (3 - (lg_sl ([.ref (X.ad 0), .int x1, .int x2])).length) Slot.unset).toArray = ls at hl ⊢
  have hl : lv_has ls 3 [(0, .ref (X.ad 0)), (1, .int x1), (2, .int x2)] := hl
  show WW p l e 3 67 s m [.ref (X.ad 0), .int x1, .int x2] below meth c X (Qi X r M) s.heap [] 0 ls []
  have hP : wd X M s.heap := hP
  unfold fn_X7_shiftFault at hf
  have key : ∀ (H : Heap) (locs : List Loc), wd X M H → va_S X.A s.heap H locs → WW p l e 3 67 s m [.ref (X.ad 0), .int x1, .int x2] below meth c X (Qi X r M) H locs 0 ls [] := by
    intro H locs hP hS
    refine lv_aload_n hx hb dX7_shiftFault_0 rfl (lv_at hl 0 rfl) ?_
    refine lv_iload_n hx hb dX7_shiftFault_1 rfl (lv_at hl 1 rfl) ?_
    refine k_X7_isPiece hZ hP hS hl.1 wd_2_106 ⟨Nat.le_of_ble_eq_true rfl, Nat.le_of_ble_eq_true rfl⟩ (Nat.le_of_ble_eq_true rfl) dX7_shiftFault_2 ⟨Nat.zero_le _, Nat.zero_le _⟩ (fun H locs hP hS => ?_)
    refine lv_if_eq (tgt := 15) hx hb dX7_shiftFault_5 (by decide) (fun c_1 => ?_) (fun c_1 => ?_)
    · have hf := i_t c_1 hf
      refine lv_iconst (v := (-1 : Int32)) hx hb dX7_shiftFault_15 (by decide) ?_
      have hf := Option.some.inj hf
      exact ret_i hx hb hr hlocks hP hS hf dX7_shiftFault_16
    · have hf := i_f c_1 hf
      refine lv_iload_n hx hb dX7_shiftFault_8 rfl (lv_at hl 2 rfl) ?_
      refine k_X7_isDirection hZ hP hS hl.1 wd_2_145 ⟨Nat.le_of_ble_eq_true rfl, Nat.le_of_ble_eq_true rfl⟩ (Nat.le_of_ble_eq_true rfl) dX7_shiftFault_9 ⟨Nat.zero_le _, Nat.zero_le _⟩ (fun H locs hP hS => ?_)
      refine lv_if_ne (tgt := 17) hx hb dX7_shiftFault_12 (by decide) (fun c_2 => ?_) (fun c_2 => ?_)
      · have hf := i_f c_2 hf
        refine lv_aload_n hx hb dX7_shiftFault_17 rfl (lv_at hl 0 rfl) ?_
        refine gX7_0 hx hb hts hown hk hP wd_1_213 dX7_shiftFault_18 ?_
        refine lv_iload_n hx hb dX7_shiftFault_21 rfl (lv_at hl 1 rfl) ?_
        refine lv_iload_n hx hb dX7_shiftFault_22 rfl (lv_at hl 2 rfl) ?_
        obtain ⟨r_3, h_r_3, hf⟩ := b_d hf
        refine k_X1_canMove hZ hP hS hl.1 wd_2_148 ⟨Nat.le_of_ble_eq_true rfl, Nat.le_of_ble_eq_true rfl⟩ (Nat.le_of_ble_eq_true rfl) dX7_shiftFault_23 ⟨Nat.zero_le _, Nat.zero_le _⟩ isF_1 h_r_3 (fun H locs hP hS => ?_)
        refine lv_if_eq (tgt := 33) hx hb dX7_shiftFault_26 (by decide) (fun c_4 => ?_) (fun c_4 => ?_)
        · have hf := i_t c_4 hf
          refine lv_bipush (v := (-2 : Int32)) hx hb dX7_shiftFault_33 (by decide) ?_
          have hf := Option.some.inj hf
          exact ret_i hx hb hr hlocks hP hS hf dX7_shiftFault_35
        · have hf := i_f c_4 hf
          refine lv_iconst (v := (0 : Int32)) hx hb dX7_shiftFault_29 (by decide) ?_
          refine lv_goto (tgt := 35) hx hb dX7_shiftFault_30 (by decide) ?_
          have hf := Option.some.inj hf
          exact ret_i hx hb hr hlocks hP hS hf dX7_shiftFault_35
      · have hf := i_t c_2 hf
        refine lv_iconst (v := (-1 : Int32)) hx hb dX7_shiftFault_15 (by decide) ?_
        have hf := Option.some.inj hf
        exact ret_i hx hb hr hlocks hP hS hf dX7_shiftFault_16
  exact key s.heap [] hP hS
theorem hd_X7_shiftFault : Hd yX7_shiftFault 2 := by decide +kernel
theorem k_X7_shiftFault {p : Program} {l : Launch} {e : Env} {R : Room} {s : State} {m : MethodId} {args : Array Value} {below : List Frame} {meth : Method} {c : Code} {H : Heap} {locs : List Loc} {cells slots : Nat} {Q : State → Prop} {cc : ByteArray} {nL pc index : Nat} {ls : Array Slot} {rest : List Value} {X : En} {M : Mem} {H0 : Heap} {own : String} {g : Nat} {x1 : Int32} {x2 : Int32} {r : Int32} (hZ : Fx p c m s args X cc nL own) (hP : wd X M H) (hS : va_S X.A H0 H locs) (hsz : ls.size = nL) (hlk : Cond.methodLink own index yX7_shiftFault ∈ lw_u) (hR : 3 + 1 ≤ R.frames ∧ 8 + (3 + 11) + 67 ≤ R.locals) (hW : (rest.map fun v => v.category).sum ≤ 8) (hdg : decode cc pc = .ok (.invokevirtual index, 3)) (hcs : cells ≤ R.cells ∧ slots ≤ R.slots) (hf : fn_X7_shiftFault g x1 x2 M = some r)
    (kk : ∀ (H1 : Heap) (locs1 : List Loc), wd X M H1 → va_S X.A H0 H1 locs1 → W p l e R s m args below meth c H1 locs1 cells slots Q (F0 m (pc + 3) ls (.int r :: rest))) : W p l e R s m args below meth c H locs cells slots Q (F0 m pc ls (.int x2 :: .int x1 :: .ref (X.ad 0) :: rest)) :=
  cal_i (runV (As := [.int x1, .int x2]) (rest := rest) hZ.1 hZ.2.1 hZ.2.2.1 hZ.2.2.2.1 hZ.2.2.2.2.1 hZ.2.2.2.2.2 hP (c_X7_shiftFault g x1 x2 M r hf) wd_2_144 wd_2_143 wd_p_8 wd_1_1 hd_X7_shiftFault (by decide) rfl rfl rfl hlk hR hsz rfl hW hdg hcs) hS kk
/-! FrameRaiser$Frame.move -/
def jn_X1_move_61 (k0 : Nat) (s_16 : Int32) (v4_14 : Int32) (v5_15 : Int32) (x1 : Int32) (M_17 : Mem) : Option ((Int32 × Mem) ⊕ (Mem)) :=
  if s_16 = (-1 : Int32) then
    (some (.inl (v4_14 + (1 : Int32), M_17)))
  else
    (if inb v5_15 216 then
    bv (st M_17 (k0 + 1) (ix v5_15) (-1 : Int32)) fun M_19 =>
    if inb s_16 216 then
    bv (st M_19 (k0 + 1) (ix s_16) x1) fun M_21 =>
    some (.inl (v4_14 + (1 : Int32), M_21))
    else none
    else none)
def jn_X1_move_38 (k0 : Nat) (s_10 : Int32) (v4_9 : Int32) (x1 : Int32) (x2 : Int32) (M_11 : Mem) : Option ((Int32 × Mem) ⊕ (Mem)) :=
  if inb s_10 216 then
  if (M_11 (k0 + 1) (ix s_10)) = x1 then
    (jn_X1_move_61 k0 (fn_X7_neighbor s_10 x2) v4_9 s_10 x1 M_11)
  else
    (jn_X1_move_61 k0 (-1 : Int32) v4_9 s_10 x1 M_11)
  else none
def bd_X1_move_15 (k0 : Nat) (s_2 : Int32) (x1 : Int32) (x2 : Int32) : (Int32 × Mem) → Option ((Int32 × Mem) ⊕ (Mem)) :=
  u2 fun v4_4 M_5 =>
  if (216 : Int32) ≤ v4_4 then
    (some (.inr M_5))
  else
    (if s_2 = 0 then
      (jn_X1_move_38 k0 v4_4 v4_4 x1 x2 M_5)
    else
      (jn_X1_move_38 k0 ((215 : Int32) - v4_4) v4_4 x1 x2 M_5))
def jn_X1_move_11 (g : Nat) (k0 : Nat) (s_2 : Int32) (x1 : Int32) (x2 : Int32) (M_3 : Mem) : Option (Mem) :=
  (lpN g (bd_X1_move_15 k0 s_2 x1 x2) ((0 : Int32), M_3)).bind (u1 fun M_6 =>
    some M_6)
def fn_X1_move (g : Nat) (k0 : Nat) (x1 : Int32) (x2 : Int32) (M : Mem) : Option (Mem) :=
  if (rm x2 (2 : Int32)) = 0 then
    (jn_X1_move_11 g k0 (1 : Int32) x1 x2 M)
  else
    (jn_X1_move_11 g k0 (0 : Int32) x1 x2 M)
theorem dX1_move_0 : decode cX1_move 0 = .ok (.iload_n 2, 1) := by decide +kernel
theorem dX1_move_1 : decode cX1_move 1 = .ok (.iconst 2, 1) := by decide +kernel
theorem dX1_move_2 : decode cX1_move 2 = .ok (.irem, 1) := by decide +kernel
theorem dX1_move_3 : decode cX1_move 3 = .ok (.ifCond .ne 7, 3) := by decide +kernel
theorem dX1_move_6 : decode cX1_move 6 = .ok (.iconst 1, 1) := by decide +kernel
theorem dX1_move_7 : decode cX1_move 7 = .ok (.goto 4, 3) := by decide +kernel
theorem dX1_move_10 : decode cX1_move 10 = .ok (.iconst 0, 1) := by decide +kernel
theorem dX1_move_11 : decode cX1_move 11 = .ok (.istore_n 3, 1) := by decide +kernel
theorem dX1_move_12 : decode cX1_move 12 = .ok (.iconst 0, 1) := by decide +kernel
theorem dX1_move_13 : decode cX1_move 13 = .ok (.istore 4, 2) := by decide +kernel
theorem dX1_move_15 : decode cX1_move 15 = .ok (.iload 4, 2) := by decide +kernel
theorem dX1_move_17 : decode cX1_move 17 = .ok (.sipush 216, 3) := by decide +kernel
theorem dX1_move_20 : decode cX1_move 20 = .ok (.if_icmp .ge 71, 3) := by decide +kernel
theorem dX1_move_23 : decode cX1_move 23 = .ok (.iload_n 3, 1) := by decide +kernel
theorem dX1_move_24 : decode cX1_move 24 = .ok (.ifCond .eq 12, 3) := by decide +kernel
theorem dX1_move_27 : decode cX1_move 27 = .ok (.sipush 215, 3) := by decide +kernel
theorem dX1_move_30 : decode cX1_move 30 = .ok (.iload 4, 2) := by decide +kernel
theorem dX1_move_32 : decode cX1_move 32 = .ok (.isub, 1) := by decide +kernel
theorem dX1_move_33 : decode cX1_move 33 = .ok (.goto 5, 3) := by decide +kernel
theorem dX1_move_36 : decode cX1_move 36 = .ok (.iload 4, 2) := by decide +kernel
theorem dX1_move_38 : decode cX1_move 38 = .ok (.istore 5, 2) := by decide +kernel
theorem dX1_move_40 : decode cX1_move 40 = .ok (.aload_n 0, 1) := by decide +kernel
theorem dX1_move_41 : decode cX1_move 41 = .ok (.getfield 9, 3) := by decide +kernel
theorem dX1_move_44 : decode cX1_move 44 = .ok (.iload 5, 2) := by decide +kernel
theorem dX1_move_46 : decode cX1_move 46 = .ok (.iaload, 1) := by decide +kernel
theorem dX1_move_47 : decode cX1_move 47 = .ok (.iload_n 1, 1) := by decide +kernel
theorem dX1_move_48 : decode cX1_move 48 = .ok (.if_icmp .ne 12, 3) := by decide +kernel
theorem dX1_move_51 : decode cX1_move 51 = .ok (.iload 5, 2) := by decide +kernel
theorem dX1_move_53 : decode cX1_move 53 = .ok (.iload_n 2, 1) := by decide +kernel
theorem dX1_move_54 : decode cX1_move 54 = .ok (.invokestatic 43, 3) := by decide +kernel
theorem dX1_move_57 : decode cX1_move 57 = .ok (.goto 4, 3) := by decide +kernel
theorem dX1_move_60 : decode cX1_move 60 = .ok (.iconst (-1), 1) := by decide +kernel
theorem dX1_move_61 : decode cX1_move 61 = .ok (.istore 6, 2) := by decide +kernel
theorem dX1_move_63 : decode cX1_move 63 = .ok (.iload 6, 2) := by decide +kernel
theorem dX1_move_65 : decode cX1_move 65 = .ok (.iconst (-1), 1) := by decide +kernel
theorem dX1_move_66 : decode cX1_move 66 = .ok (.if_icmp .eq 19, 3) := by decide +kernel
theorem dX1_move_69 : decode cX1_move 69 = .ok (.aload_n 0, 1) := by decide +kernel
theorem dX1_move_70 : decode cX1_move 70 = .ok (.getfield 9, 3) := by decide +kernel
theorem dX1_move_73 : decode cX1_move 73 = .ok (.iload 5, 2) := by decide +kernel
theorem dX1_move_75 : decode cX1_move 75 = .ok (.iconst (-1), 1) := by decide +kernel
theorem dX1_move_76 : decode cX1_move 76 = .ok (.iastore, 1) := by decide +kernel
theorem dX1_move_77 : decode cX1_move 77 = .ok (.aload_n 0, 1) := by decide +kernel
theorem dX1_move_78 : decode cX1_move 78 = .ok (.getfield 9, 3) := by decide +kernel
theorem dX1_move_81 : decode cX1_move 81 = .ok (.iload 6, 2) := by decide +kernel
theorem dX1_move_83 : decode cX1_move 83 = .ok (.iload_n 1, 1) := by decide +kernel
theorem dX1_move_84 : decode cX1_move 84 = .ok (.iastore, 1) := by decide +kernel
theorem dX1_move_85 : decode cX1_move 85 = .ok (.iinc 4 1, 3) := by decide +kernel
theorem dX1_move_88 : decode cX1_move 88 = .ok (.goto (-73), 3) := by decide +kernel
theorem dX1_move_91 : decode cX1_move 91 = .ok (.return_, 1) := by decide +kernel
set_option maxHeartbeats 4000000 in
set_option maxRecDepth 100000 in
theorem c_X1_move {l : Launch} {X : En} (g : Nat) (k0 : Nat) (x1 : Int32) (x2 : Int32) (M : Mem) (hk0 : isF k0) (M9 : Mem) (hf : fn_X1_move g k0 x1 x2 M = some M9) : Cn l X yX1_move cX1_move 7 none 2 44 [.ref (X.ad k0), .int x1, .int x2] M (Qv X M9) := by
  refine Met.ofW (cc := cX1_move) (maxL := 7) (ret := none) (by decide) rfl ?_
  intro p e s m args below meth c s₁ B hml hv
  obtain ⟨rfl, hP, hk⟩ := hv
  have hx := B.exec
  have hb := B.bytes
  have hr := B.returns
  have hlocks := B.notSynchronized
  have hts : ∀ w ∈ lw_u, w.before ([.ref (X.ad k0), .int x1, .int x2] : List Value).toArray s = true := fun w hw => atoms_spec (ws := Cond.code yX1_move cX1_move 7 none :: lw_u) B.pre w (List.mem_cons_of_mem _ hw)
  have hown : s.vm.findClass RX1 = some m.cls := findClass_of_methodNamed B.named
  have hZ : Fx p c m s ([.ref (X.ad k0), .int x1, .int x2] : List Value).toArray X cX1_move 7 RX1 := ⟨hx, hb, hml, hts, hown, hk⟩
  have hS : va_S X.A s.heap s.heap [] := va_S.rf
  have hl := lv_entry ([.ref (X.ad k0), .int x1, .int x2]) (n := 7) (Nat.le_of_ble_eq_true rfl)
  rw [lg_entry_eq]
  generalize (lg_sl ([.ref (X.ad k0), .int x1, .int x2]) ++ List.replicate (7 - (lg_sl ([.ref (X.ad k0), .int x1, .int x2])).length) Slot.unset).toArray = ls at hl ⊢
  have hl : lv_has ls 7 [(0, .ref (X.ad k0)), (1, .int x1), (2, .int x2)] := hl
  show WW p l e 2 44 s m [.ref (X.ad k0), .int x1, .int x2] below meth c X (Qv X M9) s.heap [] 0 ls []
  have hP : wd X M s.heap := hP
  have jn11 : ∀ (s_2 : Int32) (M_3 : Mem), jn_X1_move_11 g k0 s_2 x1 x2 M_3 = some M9 → ∀ (H : Heap) (locs : List Loc) (ls : Array Slot), wd X M_3 H → va_S X.A s.heap H locs → lv_has ls 7 [(0, .ref (X.ad k0)), (1, .int x1), (2, .int x2)] → WW p l e 2 44 s m [.ref (X.ad k0), .int x1, .int x2] below meth c X (Qv X M9) H locs 11 ls [.int s_2] := by
    intro s_2 M_3 hf H locs ls hP hS hl
    unfold jn_X1_move_11 at hf
    refine lv_istore_n (lv' := [(3, .int s_2), (0, .ref (X.ad k0)), (1, .int x1), (2, .int x2)]) hx hb dX1_move_11 rfl hl (by decide) rfl (fun ls hl => ?_)
    refine lv_iconst (v := (0 : Int32)) hx hb dX1_move_12 (by decide) ?_
    refine lv_istore (lv' := [(4, .int (0 : Int32)), (3, .int s_2), (0, .ref (X.ad k0)), (1, .int x1), (2, .int x2)]) hx hb dX1_move_13 hl (by decide) rfl (fun ls hl => ?_)
    obtain ⟨o15, ho15, hf⟩ := b_d hf
    refine lp_rule (b := bd_X1_move_15 k0 s_2 x1 x2) (P := fun w : Int32 × Mem => ∀ (H : Heap) (locs : List Loc) (ls : Array Slot), wd X w.2 H → va_S X.A s.heap H locs → lv_has ls 7 [(4, .int w.1), (3, .int s_2), (0, .ref (X.ad k0)), (1, .int x1), (2, .int x2)] → WW p l e 2 44 s m [.ref (X.ad k0), .int x1, .int x2] below meth c X (Qv X M9) H locs 15 ls []) (K := fun o => ∀ (M_6 : Mem), o = M_6 → ∀ (H : Heap) (locs : List Loc) (ls : Array Slot), wd X M_6 H → va_S X.A s.heap H locs → lv_has ls 7 [] → WW p l e 2 44 s m [.ref (X.ad k0), .int x1, .int x2] below meth c X (Qv X M9) H locs 91 ls []) ?_ g ((0 : Int32), M_3) o15 ho15 ?_ H locs ls hP hS (lv_sub hl [0, 1, 2, 3, 4] rfl)
    · rintro ⟨v4_4, M_5⟩ o hf hkc15 hke15 H locs ls hP hS hl
      have hf := u2_e hf
      have jn61 : ∀ (v4_14 : Int32) (v5_15 : Int32) (s_16 : Int32) (M_17 : Mem), jn_X1_move_61 k0 s_16 v4_14 v5_15 x1 M_17 = some o → ∀ (H : Heap) (locs : List Loc) (ls : Array Slot), wd X M_17 H → va_S X.A s.heap H locs → lv_has ls 7 [(0, .ref (X.ad k0)), (1, .int x1), (2, .int x2), (3, .int s_2), (4, .int v4_14), (5, .int v5_15)] → WW p l e 2 44 s m [.ref (X.ad k0), .int x1, .int x2] below meth c X (Qv X M9) H locs 61 ls [.int s_16] := by
        intro v4_14 v5_15 s_16 M_17 hf H locs ls hP hS hl
        unfold jn_X1_move_61 at hf
        refine lv_istore (lv' := [(6, .int s_16), (0, .ref (X.ad k0)), (1, .int x1), (2, .int x2), (3, .int s_2), (4, .int v4_14), (5, .int v5_15)]) hx hb dX1_move_61 hl (by decide) rfl (fun ls hl => ?_)
        refine lv_iload hx hb dX1_move_63 (lv_at hl 0 rfl) ?_
        refine lv_iconst (v := (-1 : Int32)) hx hb dX1_move_65 (by decide) ?_
        refine lv_icmp_eq (tgt := 85) hx hb dX1_move_66 (by decide) (fun c_18 => ?_) (fun c_18 => ?_)
        · have hf := i_t c_18 hf
          refine lv_iinc (v := v4_14 + (1 : Int32)) (lv' := [(4, .int (v4_14 + (1 : Int32))), (6, .int s_16), (0, .ref (X.ad k0)), (1, .int x1), (2, .int x2), (3, .int s_2), (5, .int v5_15)]) hx hb dX1_move_85 hl (k := 5) rfl rfl (by decide) rfl (fun ls hl => ?_)
          refine lv_goto (tgt := 15) hx hb dX1_move_88 (by decide) ?_
          exact hkc15 _ (Option.some.inj hf).symm H locs ls hP hS (lv_sub hl [0, 5, 2, 3, 4] rfl)
        · have hf := i_f c_18 hf
          refine lv_aload_n hx hb dX1_move_69 rfl (lv_at hl 1 rfl) ?_
          refine gX1_0 hx hb hts hown hk hP hk0 wd_1_31 dX1_move_70 ?_
          refine lv_iload hx hb dX1_move_73 (lv_at hl 6 rfl) ?_
          refine lv_iconst (v := (-1 : Int32)) hx hb dX1_move_75 (by decide) ?_
          obtain ⟨q_20, hf⟩ := g_if hf
          refine ast hx hb hk hP hS (isF_lt1 hk0) (rd_F1 hk0) q_20 dX1_move_76 (fun H locs M_19 e_M_19 hP hS => ?_)
          have hf := b_v hf e_M_19
          refine lv_aload_n hx hb dX1_move_77 rfl (lv_at hl 1 rfl) ?_
          refine gX1_0 hx hb hts hown hk hP hk0 wd_1_31 dX1_move_78 ?_
          refine lv_iload hx hb dX1_move_81 (lv_at hl 0 rfl) ?_
          refine lv_iload_n hx hb dX1_move_83 rfl (lv_at hl 2 rfl) ?_
          obtain ⟨q_22, hf⟩ := g_if hf
          refine ast hx hb hk hP hS (isF_lt1 hk0) (rd_F1 hk0) q_22 dX1_move_84 (fun H locs M_21 e_M_21 hP hS => ?_)
          have hf := b_v hf e_M_21
          refine lv_iinc (v := v4_14 + (1 : Int32)) (lv' := [(4, .int (v4_14 + (1 : Int32))), (6, .int s_16), (0, .ref (X.ad k0)), (1, .int x1), (2, .int x2), (3, .int s_2), (5, .int v5_15)]) hx hb dX1_move_85 hl (k := 5) rfl rfl (by decide) rfl (fun ls hl => ?_)
          refine lv_goto (tgt := 15) hx hb dX1_move_88 (by decide) ?_
          exact hkc15 _ (Option.some.inj hf).symm H locs ls hP hS (lv_sub hl [0, 5, 2, 3, 4] rfl)
      have jn38 : ∀ (v4_9 : Int32) (s_10 : Int32) (M_11 : Mem), jn_X1_move_38 k0 s_10 v4_9 x1 x2 M_11 = some o → ∀ (H : Heap) (locs : List Loc) (ls : Array Slot), wd X M_11 H → va_S X.A s.heap H locs → lv_has ls 7 [(0, .ref (X.ad k0)), (1, .int x1), (2, .int x2), (3, .int s_2), (4, .int v4_9)] → WW p l e 2 44 s m [.ref (X.ad k0), .int x1, .int x2] below meth c X (Qv X M9) H locs 38 ls [.int s_10] := by
        intro v4_9 s_10 M_11 hf H locs ls hP hS hl
        unfold jn_X1_move_38 at hf
        refine lv_istore (lv' := [(5, .int s_10), (0, .ref (X.ad k0)), (1, .int x1), (2, .int x2), (3, .int s_2), (4, .int v4_9)]) hx hb dX1_move_38 hl (by decide) rfl (fun ls hl => ?_)
        refine lv_aload_n hx hb dX1_move_40 rfl (lv_at hl 1 rfl) ?_
        refine gX1_0 hx hb hts hown hk hP hk0 wd_1_31 dX1_move_41 ?_
        refine lv_iload hx hb dX1_move_44 (lv_at hl 0 rfl) ?_
        obtain ⟨q_12, hf⟩ := g_if hf
        refine ald hx hb hk hP (isF_lt1 hk0) (rd_F1 hk0 _) q_12 dX1_move_46 ?_
        refine lv_iload_n hx hb dX1_move_47 rfl (lv_at hl 2 rfl) ?_
        refine lv_icmp_ne (tgt := 60) hx hb dX1_move_48 (by decide) (fun c_13 => ?_) (fun c_13 => ?_)
        · have hf := i_f c_13 hf
          refine lv_iconst (v := (-1 : Int32)) hx hb dX1_move_60 (by decide) ?_
          exact jn61 v4_9 s_10 (-1 : Int32) M_11 hf H locs ls hP hS (lv_sub hl [1, 2, 3, 4, 5, 0] rfl)
        · have hf := i_t c_13 hf
          refine lv_iload hx hb dX1_move_51 (lv_at hl 0 rfl) ?_
          refine lv_iload_n hx hb dX1_move_53 rfl (lv_at hl 3 rfl) ?_
          refine kn_X7_neighbor hZ hP hS hl.1 (nest_8 hk.2.1) ⟨Nat.le_of_ble_eq_true rfl, Nat.le_of_ble_eq_true rfl⟩ (Nat.le_of_ble_eq_true rfl) dX1_move_54 ⟨Nat.zero_le _, Nat.zero_le _⟩ (fun H locs hP hS => ?_)
          refine lv_goto (tgt := 61) hx hb dX1_move_57 (by decide) ?_
          exact jn61 v4_9 s_10 (fn_X7_neighbor s_10 x2) M_11 hf H locs ls hP hS (lv_sub hl [1, 2, 3, 4, 5, 0] rfl)
      refine lv_iload hx hb dX1_move_15 (lv_at hl 0 rfl) ?_
      refine lv_sipush (v := (216 : Int32)) hx hb dX1_move_17 (by decide) ?_
      refine lv_icmp_ge (tgt := 91) hx hb dX1_move_20 (by decide) (fun c_7 => ?_) (fun c_7 => ?_)
      · have hf := i_t c_7 hf
        exact hke15 _ (Option.some.inj hf).symm _ rfl H locs ls hP hS (lv_sub hl [] rfl)
      · have hf := i_f c_7 hf
        refine lv_iload_n hx hb dX1_move_23 rfl (lv_at hl 1 rfl) ?_
        refine lv_if_eq (tgt := 36) hx hb dX1_move_24 (by decide) (fun c_8 => ?_) (fun c_8 => ?_)
        · have hf := i_t c_8 hf
          refine lv_iload hx hb dX1_move_36 (lv_at hl 0 rfl) ?_
          exact jn38 v4_4 v4_4 M_5 hf H locs ls hP hS (lv_sub hl [2, 3, 4, 1, 0] rfl)
        · have hf := i_f c_8 hf
          refine lv_sipush (v := (215 : Int32)) hx hb dX1_move_27 (by decide) ?_
          refine lv_iload hx hb dX1_move_30 (lv_at hl 0 rfl) ?_
          refine lv_isub hx hb dX1_move_32 ?_
          refine lv_goto (tgt := 38) hx hb dX1_move_33 (by decide) ?_
          exact jn38 v4_4 ((215 : Int32) - v4_4) M_5 hf H locs ls hP hS (lv_sub hl [2, 3, 4, 1, 0] rfl)
    · intro M_6 e H locs ls hP hS hl
      subst o15
      have hf := u1_e hf
      have hf := Option.some.inj hf
      rw [hf] at hP
      exact ret_v hx hb hr hlocks hP hS dX1_move_91
  unfold fn_X1_move at hf
  have key : ∀ (H : Heap) (locs : List Loc), wd X M H → va_S X.A s.heap H locs → WW p l e 2 44 s m [.ref (X.ad k0), .int x1, .int x2] below meth c X (Qv X M9) H locs 0 ls [] := by
    intro H locs hP hS
    refine lv_iload_n hx hb dX1_move_0 rfl (lv_at hl 2 rfl) ?_
    refine lv_iconst (v := (2 : Int32)) hx hb dX1_move_1 (by decide) ?_
    refine rw_irem hx hb dX1_move_2 (by decide) ?_
    refine lv_if_ne (tgt := 10) hx hb dX1_move_3 (by decide) (fun c_1 => ?_) (fun c_1 => ?_)
    · have hf := i_f c_1 hf
      refine lv_iconst (v := (0 : Int32)) hx hb dX1_move_10 (by decide) ?_
      exact jn11 (0 : Int32) M hf H locs ls hP hS (lv_sub hl [0, 1, 2] rfl)
    · have hf := i_t c_1 hf
      refine lv_iconst (v := (1 : Int32)) hx hb dX1_move_6 (by decide) ?_
      refine lv_goto (tgt := 11) hx hb dX1_move_7 (by decide) ?_
      exact jn11 (1 : Int32) M hf H locs ls hP hS (lv_sub hl [0, 1, 2] rfl)
  exact key s.heap [] hP hS
theorem hd_X1_move : Hd yX1_move 2 := by decide +kernel
theorem k_X1_move {p : Program} {l : Launch} {e : Env} {R : Room} {s : State} {m : MethodId} {args : Array Value} {below : List Frame} {meth : Method} {c : Code} {H : Heap} {locs : List Loc} {cells slots : Nat} {Q : State → Prop} {cc : ByteArray} {nL pc index : Nat} {ls : Array Slot} {rest : List Value} {X : En} {M : Mem} {H0 : Heap} {own : String} {g : Nat} {k0 : Nat} {x1 : Int32} {x2 : Int32} {M9 : Mem} (hZ : Fx p c m s args X cc nL own) (hP : wd X M H) (hS : va_S X.A H0 H locs) (hsz : ls.size = nL) (hlk : Cond.methodLink own index yX1_move ∈ lw_u) (hR : 2 + 1 ≤ R.frames ∧ 8 + (7 + 11) + 44 ≤ R.locals) (hW : (rest.map fun v => v.category).sum ≤ 8) (hdg : decode cc pc = .ok (.invokevirtual index, 3)) (hcs : cells ≤ R.cells ∧ slots ≤ R.slots) (hk0 : isF k0) (hf : fn_X1_move g k0 x1 x2 M = some M9)
    (kk : ∀ (H1 : Heap) (locs1 : List Loc), wd X M9 H1 → va_S X.A H0 H1 locs1 → W p l e R s m args below meth c H1 locs1 cells slots Q (F0 m (pc + 3) ls rest)) : W p l e R s m args below meth c H locs cells slots Q (F0 m pc ls (.int x2 :: .int x1 :: .ref (X.ad k0) :: rest)) :=
  cal_v (runV (As := [.int x1, .int x2]) (rest := rest) hZ.1 hZ.2.1 hZ.2.2.1 hZ.2.2.2.1 hZ.2.2.2.2.1 hZ.2.2.2.2.2 hP (c_X1_move g k0 x1 x2 M hk0 M9 hf) wd_2_166 wd_2_164 wd_2_165 wd_1_2 hd_X1_move (isF_lt0 hk0) (rd_F0 hk0 _) rfl rfl hlk hR hsz rfl hW hdg hcs) hS kk
/-! FrameRaiser.shift -/
def fn_X7_shift (g : Nat) (x1 : Int32) (x2 : Int32) (M : Mem) : Option (Int32 × Mem) :=
  (fn_X7_shiftFault g x1 x2 M).bind fun r_1 =>
  if r_1 = 0 then
    ((fn_X2_remember 1 M).bind fun M_3 =>
    (fn_X1_move g 1 x1 x2 M_3).bind fun M_4 =>
    (fn_X7_forgetPieces M_4).bind fun M_5 =>
    some ((1 : Int32), M_5))
  else
    (some (r_1, M))
theorem dX7_shift_0 : decode cX7_shift 0 = .ok (.aload_n 0, 1) := by decide +kernel
theorem dX7_shift_1 : decode cX7_shift 1 = .ok (.iload_n 1, 1) := by decide +kernel
theorem dX7_shift_2 : decode cX7_shift 2 = .ok (.iload_n 2, 1) := by decide +kernel
theorem dX7_shift_3 : decode cX7_shift 3 = .ok (.invokevirtual 127, 3) := by decide +kernel
theorem dX7_shift_6 : decode cX7_shift 6 = .ok (.istore_n 3, 1) := by decide +kernel
theorem dX7_shift_7 : decode cX7_shift 7 = .ok (.iload_n 3, 1) := by decide +kernel
theorem dX7_shift_8 : decode cX7_shift 8 = .ok (.ifCond .eq 5, 3) := by decide +kernel
theorem dX7_shift_11 : decode cX7_shift 11 = .ok (.iload_n 3, 1) := by decide +kernel
theorem dX7_shift_12 : decode cX7_shift 12 = .ok (.ireturn, 1) := by decide +kernel
theorem dX7_shift_13 : decode cX7_shift 13 = .ok (.aload_n 0, 1) := by decide +kernel
theorem dX7_shift_14 : decode cX7_shift 14 = .ok (.getfield 42, 3) := by decide +kernel
theorem dX7_shift_17 : decode cX7_shift 17 = .ok (.aload_n 0, 1) := by decide +kernel
theorem dX7_shift_18 : decode cX7_shift 18 = .ok (.getfield 10, 3) := by decide +kernel
theorem dX7_shift_21 : decode cX7_shift 21 = .ok (.invokevirtual 81, 3) := by decide +kernel
theorem dX7_shift_24 : decode cX7_shift 24 = .ok (.aload_n 0, 1) := by decide +kernel
theorem dX7_shift_25 : decode cX7_shift 25 = .ok (.getfield 10, 3) := by decide +kernel
theorem dX7_shift_28 : decode cX7_shift 28 = .ok (.iload_n 1, 1) := by decide +kernel
theorem dX7_shift_29 : decode cX7_shift 29 = .ok (.iload_n 2, 1) := by decide +kernel
theorem dX7_shift_30 : decode cX7_shift 30 = .ok (.invokevirtual 131, 3) := by decide +kernel
theorem dX7_shift_33 : decode cX7_shift 33 = .ok (.aload_n 0, 1) := by decide +kernel
theorem dX7_shift_34 : decode cX7_shift 34 = .ok (.invokevirtual 88, 3) := by decide +kernel
theorem dX7_shift_37 : decode cX7_shift 37 = .ok (.iconst 1, 1) := by decide +kernel
theorem dX7_shift_38 : decode cX7_shift 38 = .ok (.ireturn, 1) := by decide +kernel
set_option maxHeartbeats 4000000 in
set_option maxRecDepth 100000 in
theorem c_X7_shift {l : Launch} {X : En} (g : Nat) (x1 : Int32) (x2 : Int32) (M : Mem) (r : Int32) (M9 : Mem) (hf : fn_X7_shift g x1 x2 M = some (r, M9)) : Cn l X yX7_shift cX7_shift 4 (some .int) 4 89 [.ref (X.ad 0), .int x1, .int x2] M (Qi X r M9) := by
  refine Met.ofW (cc := cX7_shift) (maxL := 4) (ret := (some .int)) (by decide) rfl ?_
  intro p e s m args below meth c s₁ B hml hv
  obtain ⟨rfl, hP, hk⟩ := hv
  have hx := B.exec
  have hb := B.bytes
  have hr := B.returns
  have hlocks := B.notSynchronized
  have hts : ∀ w ∈ lw_u, w.before ([.ref (X.ad 0), .int x1, .int x2] : List Value).toArray s = true := fun w hw => atoms_spec (ws := Cond.code yX7_shift cX7_shift 4 (some .int) :: lw_u) B.pre w (List.mem_cons_of_mem _ hw)
  have hown : s.vm.findClass RX7 = some m.cls := findClass_of_methodNamed B.named
  have hZ : Fx p c m s ([.ref (X.ad 0), .int x1, .int x2] : List Value).toArray X cX7_shift 4 RX7 := ⟨hx, hb, hml, hts, hown, hk⟩
  have hS : va_S X.A s.heap s.heap [] := va_S.rf
  have hl := lv_entry ([.ref (X.ad 0), .int x1, .int x2]) (n := 4) (Nat.le_of_ble_eq_true rfl)
  rw [lg_entry_eq]
  generalize (lg_sl ([.ref (X.ad 0), .int x1, .int x2]) ++ List.replicate (4 - (lg_sl ([.ref (X.ad 0), .int x1, .int x2])).length) Slot.unset).toArray = ls at hl ⊢
  have hl : lv_has ls 4 [(0, .ref (X.ad 0)), (1, .int x1), (2, .int x2)] := hl
  show WW p l e 4 89 s m [.ref (X.ad 0), .int x1, .int x2] below meth c X (Qi X r M9) s.heap [] 0 ls []
  have hP : wd X M s.heap := hP
  unfold fn_X7_shift at hf
  have key : ∀ (H : Heap) (locs : List Loc), wd X M H → va_S X.A s.heap H locs → WW p l e 4 89 s m [.ref (X.ad 0), .int x1, .int x2] below meth c X (Qi X r M9) H locs 0 ls [] := by
    intro H locs hP hS
    refine lv_aload_n hx hb dX7_shift_0 rfl (lv_at hl 0 rfl) ?_
    refine lv_iload_n hx hb dX7_shift_1 rfl (lv_at hl 1 rfl) ?_
    refine lv_iload_n hx hb dX7_shift_2 rfl (lv_at hl 2 rfl) ?_
    obtain ⟨r_1, h_r_1, hf⟩ := b_d hf
    refine k_X7_shiftFault hZ hP hS hl.1 wd_2_141 ⟨Nat.le_of_ble_eq_true rfl, Nat.le_of_ble_eq_true rfl⟩ (Nat.le_of_ble_eq_true rfl) dX7_shift_3 ⟨Nat.zero_le _, Nat.zero_le _⟩ h_r_1 (fun H locs hP hS => ?_)
    refine lv_istore_n (lv' := [(3, .int r_1), (0, .ref (X.ad 0)), (1, .int x1), (2, .int x2)]) hx hb dX7_shift_6 rfl hl (by decide) rfl (fun ls hl => ?_)
    refine lv_iload_n hx hb dX7_shift_7 rfl (lv_at hl 0 rfl) ?_
    refine lv_if_eq (tgt := 13) hx hb dX7_shift_8 (by decide) (fun c_2 => ?_) (fun c_2 => ?_)
    · have hf := i_t c_2 hf
      refine lv_aload_n hx hb dX7_shift_13 rfl (lv_at hl 1 rfl) ?_
      refine gX7_4 hx hb hts hown hk hP wd_1_217 dX7_shift_14 ?_
      refine lv_aload_n hx hb dX7_shift_17 rfl (lv_at hl 1 rfl) ?_
      refine gX7_0 hx hb hts hown hk hP wd_1_213 dX7_shift_18 ?_
      obtain ⟨M_3, h_M_3, hf⟩ := b_d hf
      refine k_X2_remember hZ hP hS hl.1 wd_2_66 ⟨Nat.le_of_ble_eq_true rfl, Nat.le_of_ble_eq_true rfl⟩ (Nat.le_of_ble_eq_true rfl) dX7_shift_21 ⟨Nat.zero_le _, Nat.zero_le _⟩ isF_1 h_M_3 (fun H locs hP hS => ?_)
      refine lv_aload_n hx hb dX7_shift_24 rfl (lv_at hl 1 rfl) ?_
      refine gX7_0 hx hb hts hown hk hP wd_1_213 dX7_shift_25 ?_
      refine lv_iload_n hx hb dX7_shift_28 rfl (lv_at hl 2 rfl) ?_
      refine lv_iload_n hx hb dX7_shift_29 rfl (lv_at hl 3 rfl) ?_
      obtain ⟨M_4, h_M_4, hf⟩ := b_d hf
      refine k_X1_move hZ hP hS hl.1 wd_2_163 ⟨Nat.le_of_ble_eq_true rfl, Nat.le_of_ble_eq_true rfl⟩ (Nat.le_of_ble_eq_true rfl) dX7_shift_30 ⟨Nat.zero_le _, Nat.zero_le _⟩ isF_1 h_M_4 (fun H locs hP hS => ?_)
      refine lv_aload_n hx hb dX7_shift_33 rfl (lv_at hl 1 rfl) ?_
      obtain ⟨M_5, h_M_5, hf⟩ := b_d hf
      refine k_X7_forgetPieces hZ hP hS hl.1 wd_2_78 ⟨Nat.le_of_ble_eq_true rfl, Nat.le_of_ble_eq_true rfl⟩ (Nat.le_of_ble_eq_true rfl) dX7_shift_34 ⟨Nat.zero_le _, Nat.zero_le _⟩ h_M_5 (fun H locs hP hS => ?_)
      refine lv_iconst (v := (1 : Int32)) hx hb dX7_shift_37 (by decide) ?_
      have hf := Option.some.inj hf
      obtain ⟨e1, e2⟩ := Prod.mk.inj hf
      rw [e2] at hP
      exact ret_i hx hb hr hlocks hP hS e1 dX7_shift_38
    · have hf := i_f c_2 hf
      refine lv_iload_n hx hb dX7_shift_11 rfl (lv_at hl 0 rfl) ?_
      have hf := Option.some.inj hf
      obtain ⟨e1, e2⟩ := Prod.mk.inj hf
      rw [e2] at hP
      exact ret_i hx hb hr hlocks hP hS e1 dX7_shift_12
  exact key s.heap [] hP hS
theorem hd_X7_shift : Hd yX7_shift 2 := by decide +kernel
theorem k_X7_shift {p : Program} {l : Launch} {e : Env} {R : Room} {s : State} {m : MethodId} {args : Array Value} {below : List Frame} {meth : Method} {c : Code} {H : Heap} {locs : List Loc} {cells slots : Nat} {Q : State → Prop} {cc : ByteArray} {nL pc index : Nat} {ls : Array Slot} {rest : List Value} {X : En} {M : Mem} {H0 : Heap} {own : String} {g : Nat} {x1 : Int32} {x2 : Int32} {r : Int32} {M9 : Mem} (hZ : Fx p c m s args X cc nL own) (hP : wd X M H) (hS : va_S X.A H0 H locs) (hsz : ls.size = nL) (hlk : Cond.methodLink own index yX7_shift ∈ lw_u) (hR : 4 + 1 ≤ R.frames ∧ 8 + (4 + 11) + 89 ≤ R.locals) (hW : (rest.map fun v => v.category).sum ≤ 8) (hdg : decode cc pc = .ok (.invokevirtual index, 3)) (hcs : cells ≤ R.cells ∧ slots ≤ R.slots) (hf : fn_X7_shift g x1 x2 M = some (r, M9))
    (kk : ∀ (H1 : Heap) (locs1 : List Loc), wd X M9 H1 → va_S X.A H0 H1 locs1 → W p l e R s m args below meth c H1 locs1 cells slots Q (F0 m (pc + 3) ls (.int r :: rest))) : W p l e R s m args below meth c H locs cells slots Q (F0 m pc ls (.int x2 :: .int x1 :: .ref (X.ad 0) :: rest)) :=
  cal_i (runV (As := [.int x1, .int x2]) (rest := rest) hZ.1 hZ.2.1 hZ.2.2.1 hZ.2.2.2.1 hZ.2.2.2.2.1 hZ.2.2.2.2.2 hP (c_X7_shift g x1 x2 M r M9 hf) wd_2_140 wd_2_138 wd_2_139 wd_1_1 hd_X7_shift (by decide) rfl rfl rfl hlk hR hsz rfl hW hdg hcs) hS kk
/-! FrameRaiser.isCoordinate -/
def fn_X7_isCoordinate (x0 : Int32) : Int32 :=
  if x0 < 0 then
    ((0 : Int32))
  else
    (if (6 : Int32) ≤ x0 then
      ((0 : Int32))
    else
      ((1 : Int32)))
theorem dX7_isCoordinate_0 : decode cX7_isCoordinate 0 = .ok (.iload_n 0, 1) := by decide +kernel
theorem dX7_isCoordinate_1 : decode cX7_isCoordinate 1 = .ok (.ifCond .lt 13, 3) := by decide +kernel
theorem dX7_isCoordinate_4 : decode cX7_isCoordinate 4 = .ok (.iload_n 0, 1) := by decide +kernel
theorem dX7_isCoordinate_5 : decode cX7_isCoordinate 5 = .ok (.bipush 6, 2) := by decide +kernel
theorem dX7_isCoordinate_7 : decode cX7_isCoordinate 7 = .ok (.if_icmp .ge 7, 3) := by decide +kernel
theorem dX7_isCoordinate_10 : decode cX7_isCoordinate 10 = .ok (.iconst 1, 1) := by decide +kernel
theorem dX7_isCoordinate_11 : decode cX7_isCoordinate 11 = .ok (.goto 4, 3) := by decide +kernel
theorem dX7_isCoordinate_14 : decode cX7_isCoordinate 14 = .ok (.iconst 0, 1) := by decide +kernel
theorem dX7_isCoordinate_15 : decode cX7_isCoordinate 15 = .ok (.ireturn, 1) := by decide +kernel
theorem z_X7_isCoordinate (x0 : Int32) : isZ (fn_X7_isCoordinate x0) := by
  unfold fn_X7_isCoordinate
  repeat' (first | exact isZ_0 | exact isZ_1 | split)
set_option maxHeartbeats 4000000 in
set_option maxRecDepth 100000 in
theorem c_X7_isCoordinate {l : Launch} {X : En} (x0 : Int32) (M : Mem) (r : Int32) (hf : fn_X7_isCoordinate x0 = r) : Cn l X yX7_isCoordinate cX7_isCoordinate 1 (some .boolean) 0 0 [.int x0] M (Qi X r M) := by
  refine Met.ofW (cc := cX7_isCoordinate) (maxL := 1) (ret := (some .boolean)) (by decide) rfl ?_
  intro p e s m args below meth c s₁ B hml hv
  obtain ⟨rfl, hP, hk⟩ := hv
  have hx := B.exec
  have hb := B.bytes
  have hr := B.returns
  have hlocks := B.notSynchronized
  have hts : ∀ w ∈ lw_u, w.before ([.int x0] : List Value).toArray s = true := fun w hw => atoms_spec (ws := Cond.code yX7_isCoordinate cX7_isCoordinate 1 (some .boolean) :: lw_u) B.pre w (List.mem_cons_of_mem _ hw)
  have hown : s.vm.findClass RX7 = some m.cls := findClass_of_methodNamed B.named
  have hZ : Fx p c m s ([.int x0] : List Value).toArray X cX7_isCoordinate 1 RX7 := ⟨hx, hb, hml, hts, hown, hk⟩
  have hS : va_S X.A s.heap s.heap [] := va_S.rf
  have hl := lv_entry ([.int x0]) (n := 1) (Nat.le_of_ble_eq_true rfl)
  rw [lg_entry_eq]
  generalize (lg_sl ([.int x0]) ++ List.replicate (1 - (lg_sl ([.int x0])).length) Slot.unset).toArray = ls at hl ⊢
  have hl : lv_has ls 1 [(0, .int x0)] := hl
  show WW p l e 0 0 s m [.int x0] below meth c X (Qi X r M) s.heap [] 0 ls []
  have hP : wd X M s.heap := hP
  unfold fn_X7_isCoordinate at hf
  have key : ∀ (H : Heap) (locs : List Loc), wd X M H → va_S X.A s.heap H locs → WW p l e 0 0 s m [.int x0] below meth c X (Qi X r M) H locs 0 ls [] := by
    intro H locs hP hS
    refine lv_iload_n hx hb dX7_isCoordinate_0 rfl (lv_at hl 0 rfl) ?_
    refine lv_if_lt (tgt := 14) hx hb dX7_isCoordinate_1 (by decide) (fun c_1 => ?_) (fun c_1 => ?_)
    · have hf := i_t c_1 hf
      refine lv_iconst (v := (0 : Int32)) hx hb dX7_isCoordinate_14 (by decide) ?_
      exact ret_z hx hb hr hlocks hP hS isZ_0 hf dX7_isCoordinate_15
    · have hf := i_f c_1 hf
      refine lv_iload_n hx hb dX7_isCoordinate_4 rfl (lv_at hl 0 rfl) ?_
      refine lv_bipush (v := (6 : Int32)) hx hb dX7_isCoordinate_5 (by decide) ?_
      refine lv_icmp_ge (tgt := 14) hx hb dX7_isCoordinate_7 (by decide) (fun c_2 => ?_) (fun c_2 => ?_)
      · have hf := i_t c_2 hf
        refine lv_iconst (v := (0 : Int32)) hx hb dX7_isCoordinate_14 (by decide) ?_
        exact ret_z hx hb hr hlocks hP hS isZ_0 hf dX7_isCoordinate_15
      · have hf := i_f c_2 hf
        refine lv_iconst (v := (1 : Int32)) hx hb dX7_isCoordinate_10 (by decide) ?_
        refine lv_goto (tgt := 15) hx hb dX7_isCoordinate_11 (by decide) ?_
        exact ret_z hx hb hr hlocks hP hS isZ_1 hf dX7_isCoordinate_15
  exact key s.heap [] hP hS
theorem hd_X7_isCoordinate : Hd yX7_isCoordinate 1 := by decide +kernel
theorem k_X7_isCoordinate {p : Program} {l : Launch} {e : Env} {R : Room} {s : State} {m : MethodId} {args : Array Value} {below : List Frame} {meth : Method} {c : Code} {H : Heap} {locs : List Loc} {cells slots : Nat} {Q : State → Prop} {cc : ByteArray} {nL pc index : Nat} {ls : Array Slot} {rest : List Value} {X : En} {M : Mem} {H0 : Heap} {own : String} {x0 : Int32} (hZ : Fx p c m s args X cc nL own) (hP : wd X M H) (hS : va_S X.A H0 H locs) (hsz : ls.size = nL) (hlk : Cond.methodLink own index yX7_isCoordinate ∈ lw_u) (hR : 0 + 1 ≤ R.frames ∧ 8 + (1 + 11) + 0 ≤ R.locals) (hW : (rest.map fun v => v.category).sum ≤ 8) (hdg : decode cc pc = .ok (.invokestatic index, 3)) (hcs : cells ≤ R.cells ∧ slots ≤ R.slots)
    (kk : ∀ (H1 : Heap) (locs1 : List Loc), wd X M H1 → va_S X.A H0 H1 locs1 → W p l e R s m args below meth c H1 locs1 cells slots Q (F0 m (pc + 3) ls (.int (fn_X7_isCoordinate x0) :: rest))) : W p l e R s m args below meth c H locs cells slots Q (F0 m pc ls (.int x0 :: rest)) :=
  cal_i (runS (As := [.int x0]) (rest := rest) hZ.1 hZ.2.1 hZ.2.2.1 hZ.2.2.2.1 hZ.2.2.2.2.1 hZ.2.2.2.2.2 hP (c_X7_isCoordinate x0 M _ rfl) wd_2_173 wd_2_172 wd_1_1 hd_X7_isCoordinate rfl hlk hR hsz rfl hW hdg hcs) hS kk
/-! FrameRaiser.pieceAt -/
def fn_X7_pieceAt (x1 : Int32) (x2 : Int32) (x3 : Int32) (M : Mem) : Option (Int32) :=
  if (fn_X7_isCoordinate x1) = 0 then
    (some (-1 : Int32))
  else
    (if (fn_X7_isCoordinate x2) = 0 then
      (some (-1 : Int32))
    else
      (if (fn_X7_isCoordinate x3) = 0 then
        (some (-1 : Int32))
      else
        (if inb ((x1 + ((6 : Int32) * x2)) + ((36 : Int32) * x3)) 216 then
        bv (M 2 (ix ((x1 + ((6 : Int32) * x2)) + ((36 : Int32) * x3)))) fun v4_5 =>
        if v4_5 = (-1 : Int32) then
          (some (-9 : Int32))
        else
          (some v4_5)
        else none)))
theorem dX7_pieceAt_0 : decode cX7_pieceAt 0 = .ok (.iload_n 1, 1) := by decide +kernel
theorem dX7_pieceAt_1 : decode cX7_pieceAt 1 = .ok (.invokestatic 135, 3) := by decide +kernel
theorem dX7_pieceAt_4 : decode cX7_pieceAt 4 = .ok (.ifCond .eq 17, 3) := by decide +kernel
theorem dX7_pieceAt_7 : decode cX7_pieceAt 7 = .ok (.iload_n 2, 1) := by decide +kernel
theorem dX7_pieceAt_8 : decode cX7_pieceAt 8 = .ok (.invokestatic 135, 3) := by decide +kernel
theorem dX7_pieceAt_11 : decode cX7_pieceAt 11 = .ok (.ifCond .eq 10, 3) := by decide +kernel
theorem dX7_pieceAt_14 : decode cX7_pieceAt 14 = .ok (.iload_n 3, 1) := by decide +kernel
theorem dX7_pieceAt_15 : decode cX7_pieceAt 15 = .ok (.invokestatic 135, 3) := by decide +kernel
theorem dX7_pieceAt_18 : decode cX7_pieceAt 18 = .ok (.ifCond .ne 5, 3) := by decide +kernel
theorem dX7_pieceAt_21 : decode cX7_pieceAt 21 = .ok (.iconst (-1), 1) := by decide +kernel
theorem dX7_pieceAt_22 : decode cX7_pieceAt 22 = .ok (.ireturn, 1) := by decide +kernel
theorem dX7_pieceAt_23 : decode cX7_pieceAt 23 = .ok (.aload_n 0, 1) := by decide +kernel
theorem dX7_pieceAt_24 : decode cX7_pieceAt 24 = .ok (.getfield 10, 3) := by decide +kernel
theorem dX7_pieceAt_27 : decode cX7_pieceAt 27 = .ok (.getfield 138, 3) := by decide +kernel
theorem dX7_pieceAt_30 : decode cX7_pieceAt 30 = .ok (.iload_n 1, 1) := by decide +kernel
theorem dX7_pieceAt_31 : decode cX7_pieceAt 31 = .ok (.bipush 6, 2) := by decide +kernel
theorem dX7_pieceAt_33 : decode cX7_pieceAt 33 = .ok (.iload_n 2, 1) := by decide +kernel
theorem dX7_pieceAt_34 : decode cX7_pieceAt 34 = .ok (.imul, 1) := by decide +kernel
theorem dX7_pieceAt_35 : decode cX7_pieceAt 35 = .ok (.iadd, 1) := by decide +kernel
theorem dX7_pieceAt_36 : decode cX7_pieceAt 36 = .ok (.bipush 36, 2) := by decide +kernel
theorem dX7_pieceAt_38 : decode cX7_pieceAt 38 = .ok (.iload_n 3, 1) := by decide +kernel
theorem dX7_pieceAt_39 : decode cX7_pieceAt 39 = .ok (.imul, 1) := by decide +kernel
theorem dX7_pieceAt_40 : decode cX7_pieceAt 40 = .ok (.iadd, 1) := by decide +kernel
theorem dX7_pieceAt_41 : decode cX7_pieceAt 41 = .ok (.iaload, 1) := by decide +kernel
theorem dX7_pieceAt_42 : decode cX7_pieceAt 42 = .ok (.istore 4, 2) := by decide +kernel
theorem dX7_pieceAt_44 : decode cX7_pieceAt 44 = .ok (.iload 4, 2) := by decide +kernel
theorem dX7_pieceAt_46 : decode cX7_pieceAt 46 = .ok (.iconst (-1), 1) := by decide +kernel
theorem dX7_pieceAt_47 : decode cX7_pieceAt 47 = .ok (.if_icmp .ne 8, 3) := by decide +kernel
theorem dX7_pieceAt_50 : decode cX7_pieceAt 50 = .ok (.bipush (-9), 2) := by decide +kernel
theorem dX7_pieceAt_52 : decode cX7_pieceAt 52 = .ok (.goto 5, 3) := by decide +kernel
theorem dX7_pieceAt_55 : decode cX7_pieceAt 55 = .ok (.iload 4, 2) := by decide +kernel
theorem dX7_pieceAt_57 : decode cX7_pieceAt 57 = .ok (.ireturn, 1) := by decide +kernel
set_option maxHeartbeats 4000000 in
set_option maxRecDepth 100000 in
theorem c_X7_pieceAt {l : Launch} {X : En} (x1 : Int32) (x2 : Int32) (x3 : Int32) (M : Mem) (r : Int32) (hf : fn_X7_pieceAt x1 x2 x3 M = some r) : Cn l X yX7_pieceAt cX7_pieceAt 5 (some .int) 1 20 [.ref (X.ad 0), .int x1, .int x2, .int x3] M (Qi X r M) := by
  refine Met.ofW (cc := cX7_pieceAt) (maxL := 5) (ret := (some .int)) (by decide) rfl ?_
  intro p e s m args below meth c s₁ B hml hv
  obtain ⟨rfl, hP, hk⟩ := hv
  have hx := B.exec
  have hb := B.bytes
  have hr := B.returns
  have hlocks := B.notSynchronized
  have hts : ∀ w ∈ lw_u, w.before ([.ref (X.ad 0), .int x1, .int x2, .int x3] : List Value).toArray s = true := fun w hw => atoms_spec (ws := Cond.code yX7_pieceAt cX7_pieceAt 5 (some .int) :: lw_u) B.pre w (List.mem_cons_of_mem _ hw)
  have hown : s.vm.findClass RX7 = some m.cls := findClass_of_methodNamed B.named
  have hZ : Fx p c m s ([.ref (X.ad 0), .int x1, .int x2, .int x3] : List Value).toArray X cX7_pieceAt 5 RX7 := ⟨hx, hb, hml, hts, hown, hk⟩
  have hS : va_S X.A s.heap s.heap [] := va_S.rf
  have hl := lv_entry ([.ref (X.ad 0), .int x1, .int x2, .int x3]) (n := 5) (Nat.le_of_ble_eq_true rfl)
  rw [lg_entry_eq]
  generalize (lg_sl ([.ref (X.ad 0), .int x1, .int x2, .int x3]) ++ List.replicate (5 - (lg_sl ([.ref (X.ad 0), .int x1, .int x2, .int x3])).length) Slot.unset).toArray = ls at hl ⊢
  have hl : lv_has ls 5 [(0, .ref (X.ad 0)), (1, .int x1), (2, .int x2), (3, .int x3)] := hl
  show WW p l e 1 20 s m [.ref (X.ad 0), .int x1, .int x2, .int x3] below meth c X (Qi X r M) s.heap [] 0 ls []
  have hP : wd X M s.heap := hP
  unfold fn_X7_pieceAt at hf
  have key : ∀ (H : Heap) (locs : List Loc), wd X M H → va_S X.A s.heap H locs → WW p l e 1 20 s m [.ref (X.ad 0), .int x1, .int x2, .int x3] below meth c X (Qi X r M) H locs 0 ls [] := by
    intro H locs hP hS
    refine lv_iload_n hx hb dX7_pieceAt_0 rfl (lv_at hl 1 rfl) ?_
    refine k_X7_isCoordinate hZ hP hS hl.1 wd_2_171 ⟨Nat.le_of_ble_eq_true rfl, Nat.le_of_ble_eq_true rfl⟩ (Nat.le_of_ble_eq_true rfl) dX7_pieceAt_1 ⟨Nat.zero_le _, Nat.zero_le _⟩ (fun H locs hP hS => ?_)
    refine lv_if_eq (tgt := 21) hx hb dX7_pieceAt_4 (by decide) (fun c_1 => ?_) (fun c_1 => ?_)
    · have hf := i_t c_1 hf
      refine lv_iconst (v := (-1 : Int32)) hx hb dX7_pieceAt_21 (by decide) ?_
      have hf := Option.some.inj hf
      exact ret_i hx hb hr hlocks hP hS hf dX7_pieceAt_22
    · have hf := i_f c_1 hf
      refine lv_iload_n hx hb dX7_pieceAt_7 rfl (lv_at hl 2 rfl) ?_
      refine k_X7_isCoordinate hZ hP hS hl.1 wd_2_171 ⟨Nat.le_of_ble_eq_true rfl, Nat.le_of_ble_eq_true rfl⟩ (Nat.le_of_ble_eq_true rfl) dX7_pieceAt_8 ⟨Nat.zero_le _, Nat.zero_le _⟩ (fun H locs hP hS => ?_)
      refine lv_if_eq (tgt := 21) hx hb dX7_pieceAt_11 (by decide) (fun c_2 => ?_) (fun c_2 => ?_)
      · have hf := i_t c_2 hf
        refine lv_iconst (v := (-1 : Int32)) hx hb dX7_pieceAt_21 (by decide) ?_
        have hf := Option.some.inj hf
        exact ret_i hx hb hr hlocks hP hS hf dX7_pieceAt_22
      · have hf := i_f c_2 hf
        refine lv_iload_n hx hb dX7_pieceAt_14 rfl (lv_at hl 3 rfl) ?_
        refine k_X7_isCoordinate hZ hP hS hl.1 wd_2_171 ⟨Nat.le_of_ble_eq_true rfl, Nat.le_of_ble_eq_true rfl⟩ (Nat.le_of_ble_eq_true rfl) dX7_pieceAt_15 ⟨Nat.zero_le _, Nat.zero_le _⟩ (fun H locs hP hS => ?_)
        refine lv_if_ne (tgt := 23) hx hb dX7_pieceAt_18 (by decide) (fun c_3 => ?_) (fun c_3 => ?_)
        · have hf := i_f c_3 hf
          refine lv_aload_n hx hb dX7_pieceAt_23 rfl (lv_at hl 0 rfl) ?_
          refine gX7_0 hx hb hts hown hk hP wd_1_213 dX7_pieceAt_24 ?_
          refine gX1_0 hx hb hts hown hk hP isF_1 wd_1_34 dX7_pieceAt_27 ?_
          refine lv_iload_n hx hb dX7_pieceAt_30 rfl (lv_at hl 1 rfl) ?_
          refine lv_bipush (v := (6 : Int32)) hx hb dX7_pieceAt_31 (by decide) ?_
          refine lv_iload_n hx hb dX7_pieceAt_33 rfl (lv_at hl 2 rfl) ?_
          refine lv_imul hx hb dX7_pieceAt_34 ?_
          refine lv_iadd hx hb dX7_pieceAt_35 ?_
          refine lv_bipush (v := (36 : Int32)) hx hb dX7_pieceAt_36 (by decide) ?_
          refine lv_iload_n hx hb dX7_pieceAt_38 rfl (lv_at hl 3 rfl) ?_
          refine lv_imul hx hb dX7_pieceAt_39 ?_
          refine lv_iadd hx hb dX7_pieceAt_40 ?_
          obtain ⟨q_4, hf⟩ := g_if hf
          refine ald hx hb hk hP (by decide) rfl q_4 dX7_pieceAt_41 ?_
          refine lv_topi (fun v4_5 e_v4_5 => ?_)
          have hf := b_v hf e_v4_5
          refine lv_istore (lv' := [(4, .int v4_5), (0, .ref (X.ad 0)), (1, .int x1), (2, .int x2), (3, .int x3)]) hx hb dX7_pieceAt_42 hl (by decide) rfl (fun ls hl => ?_)
          refine lv_iload hx hb dX7_pieceAt_44 (lv_at hl 0 rfl) ?_
          refine lv_iconst (v := (-1 : Int32)) hx hb dX7_pieceAt_46 (by decide) ?_
          refine lv_icmp_ne (tgt := 55) hx hb dX7_pieceAt_47 (by decide) (fun c_6 => ?_) (fun c_6 => ?_)
          · have hf := i_f c_6 hf
            refine lv_iload hx hb dX7_pieceAt_55 (lv_at hl 0 rfl) ?_
            have hf := Option.some.inj hf
            exact ret_i hx hb hr hlocks hP hS hf dX7_pieceAt_57
          · have hf := i_t c_6 hf
            refine lv_bipush (v := (-9 : Int32)) hx hb dX7_pieceAt_50 (by decide) ?_
            refine lv_goto (tgt := 57) hx hb dX7_pieceAt_52 (by decide) ?_
            have hf := Option.some.inj hf
            exact ret_i hx hb hr hlocks hP hS hf dX7_pieceAt_57
        · have hf := i_t c_3 hf
          refine lv_iconst (v := (-1 : Int32)) hx hb dX7_pieceAt_21 (by decide) ?_
          have hf := Option.some.inj hf
          exact ret_i hx hb hr hlocks hP hS hf dX7_pieceAt_22
  exact key s.heap [] hP hS
theorem hd_X7_pieceAt : Hd yX7_pieceAt 3 := by decide +kernel
theorem k_X7_pieceAt {p : Program} {l : Launch} {e : Env} {R : Room} {s : State} {m : MethodId} {args : Array Value} {below : List Frame} {meth : Method} {c : Code} {H : Heap} {locs : List Loc} {cells slots : Nat} {Q : State → Prop} {cc : ByteArray} {nL pc index : Nat} {ls : Array Slot} {rest : List Value} {X : En} {M : Mem} {H0 : Heap} {own : String} {x1 : Int32} {x2 : Int32} {x3 : Int32} {r : Int32} (hZ : Fx p c m s args X cc nL own) (hP : wd X M H) (hS : va_S X.A H0 H locs) (hsz : ls.size = nL) (hlk : Cond.methodLink own index yX7_pieceAt ∈ lw_u) (hR : 1 + 1 ≤ R.frames ∧ 8 + (5 + 11) + 20 ≤ R.locals) (hW : (rest.map fun v => v.category).sum ≤ 8) (hdg : decode cc pc = .ok (.invokevirtual index, 3)) (hcs : cells ≤ R.cells ∧ slots ≤ R.slots) (hf : fn_X7_pieceAt x1 x2 x3 M = some r)
    (kk : ∀ (H1 : Heap) (locs1 : List Loc), wd X M H1 → va_S X.A H0 H1 locs1 → W p l e R s m args below meth c H1 locs1 cells slots Q (F0 m (pc + 3) ls (.int r :: rest))) : W p l e R s m args below meth c H locs cells slots Q (F0 m pc ls (.int x3 :: .int x2 :: .int x1 :: .ref (X.ad 0) :: rest)) :=
  cal_i (runV (As := [.int x1, .int x2, .int x3]) (rest := rest) hZ.1 hZ.2.1 hZ.2.2.1 hZ.2.2.2.1 hZ.2.2.2.2.1 hZ.2.2.2.2.2 hP (c_X7_pieceAt x1 x2 x3 M r hf) wd_2_170 wd_2_168 wd_2_169 wd_1_1 hd_X7_pieceAt (by decide) rfl rfl rfl hlk hR hsz rfl hW hdg hcs) hS kk
/-! FrameRaiser.has -/
def fn_X7_has (x0 : Int32) (x1 : Int32) : Int32 :=
  if ((sr x0 x1) &&& (1 : Int32)) = (1 : Int32) then
    ((1 : Int32))
  else
    ((0 : Int32))
theorem dX7_has_0 : decode cX7_has 0 = .ok (.iload_n 0, 1) := by decide +kernel
theorem dX7_has_1 : decode cX7_has 1 = .ok (.iload_n 1, 1) := by decide +kernel
theorem dX7_has_2 : decode cX7_has 2 = .ok (.ishr, 1) := by decide +kernel
theorem dX7_has_3 : decode cX7_has 3 = .ok (.iconst 1, 1) := by decide +kernel
theorem dX7_has_4 : decode cX7_has 4 = .ok (.iand, 1) := by decide +kernel
theorem dX7_has_5 : decode cX7_has 5 = .ok (.iconst 1, 1) := by decide +kernel
theorem dX7_has_6 : decode cX7_has 6 = .ok (.if_icmp .ne 7, 3) := by decide +kernel
theorem dX7_has_9 : decode cX7_has 9 = .ok (.iconst 1, 1) := by decide +kernel
theorem dX7_has_10 : decode cX7_has 10 = .ok (.goto 4, 3) := by decide +kernel
theorem dX7_has_13 : decode cX7_has 13 = .ok (.iconst 0, 1) := by decide +kernel
theorem dX7_has_14 : decode cX7_has 14 = .ok (.ireturn, 1) := by decide +kernel
theorem z_X7_has (x0 : Int32) (x1 : Int32) : isZ (fn_X7_has x0 x1) := by
  unfold fn_X7_has
  repeat' (first | exact isZ_0 | exact isZ_1 | split)
set_option maxHeartbeats 4000000 in
set_option maxRecDepth 100000 in
theorem c_X7_has {l : Launch} {X : En} (x0 : Int32) (x1 : Int32) (M : Mem) (r : Int32) (hf : fn_X7_has x0 x1 = r) : Cn l X yX7_has cX7_has 2 (some .boolean) 0 0 [.int x0, .int x1] M (Qi X r M) := by
  refine Met.ofW (cc := cX7_has) (maxL := 2) (ret := (some .boolean)) (by decide) rfl ?_
  intro p e s m args below meth c s₁ B hml hv
  obtain ⟨rfl, hP, hk⟩ := hv
  have hx := B.exec
  have hb := B.bytes
  have hr := B.returns
  have hlocks := B.notSynchronized
  have hts : ∀ w ∈ lw_u, w.before ([.int x0, .int x1] : List Value).toArray s = true := fun w hw => atoms_spec (ws := Cond.code yX7_has cX7_has 2 (some .boolean) :: lw_u) B.pre w (List.mem_cons_of_mem _ hw)
  have hown : s.vm.findClass RX7 = some m.cls := findClass_of_methodNamed B.named
  have hZ : Fx p c m s ([.int x0, .int x1] : List Value).toArray X cX7_has 2 RX7 := ⟨hx, hb, hml, hts, hown, hk⟩
  have hS : va_S X.A s.heap s.heap [] := va_S.rf
  have hl := lv_entry ([.int x0, .int x1]) (n := 2) (Nat.le_of_ble_eq_true rfl)
  rw [lg_entry_eq]
  generalize (lg_sl ([.int x0, .int x1]) ++ List.replicate (2 - (lg_sl ([.int x0, .int x1])).length) Slot.unset).toArray = ls at hl ⊢
  have hl : lv_has ls 2 [(0, .int x0), (1, .int x1)] := hl
  show WW p l e 0 0 s m [.int x0, .int x1] below meth c X (Qi X r M) s.heap [] 0 ls []
  have hP : wd X M s.heap := hP
  unfold fn_X7_has at hf
  have key : ∀ (H : Heap) (locs : List Loc), wd X M H → va_S X.A s.heap H locs → WW p l e 0 0 s m [.int x0, .int x1] below meth c X (Qi X r M) H locs 0 ls [] := by
    intro H locs hP hS
    refine lv_iload_n hx hb dX7_has_0 rfl (lv_at hl 0 rfl) ?_
    refine lv_iload_n hx hb dX7_has_1 rfl (lv_at hl 1 rfl) ?_
    refine rw_ishr hx hb dX7_has_2 ?_
    refine lv_iconst (v := (1 : Int32)) hx hb dX7_has_3 (by decide) ?_
    refine lv_iand hx hb dX7_has_4 ?_
    refine lv_iconst (v := (1 : Int32)) hx hb dX7_has_5 (by decide) ?_
    refine lv_icmp_ne (tgt := 13) hx hb dX7_has_6 (by decide) (fun c_1 => ?_) (fun c_1 => ?_)
    · have hf := i_f c_1 hf
      refine lv_iconst (v := (0 : Int32)) hx hb dX7_has_13 (by decide) ?_
      exact ret_z hx hb hr hlocks hP hS isZ_0 hf dX7_has_14
    · have hf := i_t c_1 hf
      refine lv_iconst (v := (1 : Int32)) hx hb dX7_has_9 (by decide) ?_
      refine lv_goto (tgt := 14) hx hb dX7_has_10 (by decide) ?_
      exact ret_z hx hb hr hlocks hP hS isZ_1 hf dX7_has_14
  exact key s.heap [] hP hS
theorem hd_X7_has : Hd yX7_has 2 := by decide +kernel
theorem k_X7_has {p : Program} {l : Launch} {e : Env} {R : Room} {s : State} {m : MethodId} {args : Array Value} {below : List Frame} {meth : Method} {c : Code} {H : Heap} {locs : List Loc} {cells slots : Nat} {Q : State → Prop} {cc : ByteArray} {nL pc index : Nat} {ls : Array Slot} {rest : List Value} {X : En} {M : Mem} {H0 : Heap} {own : String} {x0 : Int32} {x1 : Int32} (hZ : Fx p c m s args X cc nL own) (hP : wd X M H) (hS : va_S X.A H0 H locs) (hsz : ls.size = nL) (hlk : Cond.methodLink own index yX7_has ∈ lw_u) (hR : 0 + 1 ≤ R.frames ∧ 8 + (2 + 11) + 0 ≤ R.locals) (hW : (rest.map fun v => v.category).sum ≤ 8) (hdg : decode cc pc = .ok (.invokestatic index, 3)) (hcs : cells ≤ R.cells ∧ slots ≤ R.slots)
    (kk : ∀ (H1 : Heap) (locs1 : List Loc), wd X M H1 → va_S X.A H0 H1 locs1 → W p l e R s m args below meth c H1 locs1 cells slots Q (F0 m (pc + 3) ls (.int (fn_X7_has x0 x1) :: rest))) : W p l e R s m args below meth c H locs cells slots Q (F0 m pc ls (.int x1 :: .int x0 :: rest)) :=
  cal_i (runS (As := [.int x0, .int x1]) (rest := rest) hZ.1 hZ.2.1 hZ.2.2.1 hZ.2.2.2.1 hZ.2.2.2.2.1 hZ.2.2.2.2.2 hP (c_X7_has x0 x1 M _ rfl) wd_2_180 wd_2_179 wd_1_1 hd_X7_has rfl hlk hR hsz rfl hW hdg hcs) hS kk
theorem kn_X7_has {p : Program} {l : Launch} {e : Env} {R : Room} {s : State} {m : MethodId} {args : Array Value} {below : List Frame} {meth : Method} {c : Code} {H : Heap} {locs : List Loc} {cells slots : Nat} {Q : State → Prop} {cc : ByteArray} {nL pc index : Nat} {ls : Array Slot} {rest : List Value} {X : En} {M : Mem} {H0 : Heap} {own : String} {x0 : Int32} {x1 : Int32} (hZ : Fx p c m s args X cc nL own) (hP : wd X M H) (hS : va_S X.A H0 H locs) (hsz : ls.size = nL) (hlk : va_Nw (Cond.methodLinkNest own index yX7_has RX7) s) (hR : 0 + 1 ≤ R.frames ∧ 8 + (2 + 11) + 0 ≤ R.locals) (hW : (rest.map fun v => v.category).sum ≤ 8) (hdg : decode cc pc = .ok (.invokestatic index, 3)) (hcs : cells ≤ R.cells ∧ slots ≤ R.slots)
    (kk : ∀ (H1 : Heap) (locs1 : List Loc), wd X M H1 → va_S X.A H0 H1 locs1 → W p l e R s m args below meth c H1 locs1 cells slots Q (F0 m (pc + 3) ls (.int (fn_X7_has x0 x1) :: rest))) : W p l e R s m args below meth c H locs cells slots Q (F0 m pc ls (.int x1 :: .int x0 :: rest)) :=
  cal_i (runSN (As := [.int x0, .int x1]) (rest := rest) hZ.1 hZ.2.1 hZ.2.2.1 hZ.2.2.2.1 hZ.2.2.2.2.1 hZ.2.2.2.2.2 hP (c_X7_has x0 x1 M _ rfl) wd_2_180 wd_2_179 wd_1_1 hd_X7_has rfl hlk hR hsz rfl hW hdg hcs) hS kk
/-! FrameRaiser.piece -/
def fn_X7_piece (g : Nat) (x1 : Int32) (x2 : Int32) (M : Mem) : Option (Int32 × Mem) :=
  if (fn_X7_isPiece x1 M) = 0 then
    (some ((-1 : Int32), M))
  else
    (if x2 < 0 then
      (some ((-1 : Int32), M))
    else
      (if x2 < (10 : Int32) then
        (if x2 = (1 : Int32) then
          (if inb x1 8 then
          some (M 3 (ix x1), M)
          else none)
        else
          (if x2 = (9 : Int32) then
            (if (fn_X7_has (M 1 3) x1) = 0 then
              (some ((0 : Int32), M))
            else
              (some ((1 : Int32), M)))
          else
            ((fn_X7_knownMeasures g M).bind fun M_6 =>
            if x2 = 0 then
              (if inb x1 8 then
              some (M_6 5 (ix x1), M_6)
              else none)
            else
              (if x2 = (8 : Int32) then
                (if inb x1 8 then
                some (M_6 6 (ix x1), M_6)
                else none)
              else
                (if (5 : Int32) ≤ x2 then
                  (if inb ((((3 : Int32) * x1) + x2) - (5 : Int32)) 24 then
                  some (M_6 8 (ix ((((3 : Int32) * x1) + x2) - (5 : Int32))), M_6)
                  else none)
                else
                  (if inb ((((3 : Int32) * x1) + x2) - (2 : Int32)) 24 then
                  some (M_6 7 (ix ((((3 : Int32) * x1) + x2) - (2 : Int32))), M_6)
                  else none))))))
      else
        (some ((-1 : Int32), M))))
theorem dX7_piece_0 : decode cX7_piece 0 = .ok (.aload_n 0, 1) := by decide +kernel
theorem dX7_piece_1 : decode cX7_piece 1 = .ok (.iload_n 1, 1) := by decide +kernel
theorem dX7_piece_2 : decode cX7_piece 2 = .ok (.invokevirtual 109, 3) := by decide +kernel
theorem dX7_piece_5 : decode cX7_piece 5 = .ok (.ifCond .eq 13, 3) := by decide +kernel
theorem dX7_piece_8 : decode cX7_piece 8 = .ok (.iload_n 2, 1) := by decide +kernel
theorem dX7_piece_9 : decode cX7_piece 9 = .ok (.ifCond .lt 9, 3) := by decide +kernel
theorem dX7_piece_12 : decode cX7_piece 12 = .ok (.iload_n 2, 1) := by decide +kernel
theorem dX7_piece_13 : decode cX7_piece 13 = .ok (.bipush 10, 2) := by decide +kernel
theorem dX7_piece_15 : decode cX7_piece 15 = .ok (.if_icmp .lt 5, 3) := by decide +kernel
theorem dX7_piece_18 : decode cX7_piece 18 = .ok (.iconst (-1), 1) := by decide +kernel
theorem dX7_piece_19 : decode cX7_piece 19 = .ok (.ireturn, 1) := by decide +kernel
theorem dX7_piece_20 : decode cX7_piece 20 = .ok (.iload_n 2, 1) := by decide +kernel
theorem dX7_piece_21 : decode cX7_piece 21 = .ok (.iconst 1, 1) := by decide +kernel
theorem dX7_piece_22 : decode cX7_piece 22 = .ok (.if_icmp .ne 13, 3) := by decide +kernel
theorem dX7_piece_25 : decode cX7_piece 25 = .ok (.aload_n 0, 1) := by decide +kernel
theorem dX7_piece_26 : decode cX7_piece 26 = .ok (.getfield 10, 3) := by decide +kernel
theorem dX7_piece_29 : decode cX7_piece 29 = .ok (.getfield 113, 3) := by decide +kernel
theorem dX7_piece_32 : decode cX7_piece 32 = .ok (.iload_n 1, 1) := by decide +kernel
theorem dX7_piece_33 : decode cX7_piece 33 = .ok (.iaload, 1) := by decide +kernel
theorem dX7_piece_34 : decode cX7_piece 34 = .ok (.ireturn, 1) := by decide +kernel
theorem dX7_piece_35 : decode cX7_piece 35 = .ok (.iload_n 2, 1) := by decide +kernel
theorem dX7_piece_36 : decode cX7_piece 36 = .ok (.bipush 9, 2) := by decide +kernel
theorem dX7_piece_38 : decode cX7_piece 38 = .ok (.if_icmp .ne 23, 3) := by decide +kernel
theorem dX7_piece_41 : decode cX7_piece 41 = .ok (.aload_n 0, 1) := by decide +kernel
theorem dX7_piece_42 : decode cX7_piece 42 = .ok (.getfield 10, 3) := by decide +kernel
theorem dX7_piece_45 : decode cX7_piece 45 = .ok (.getfield 141, 3) := by decide +kernel
theorem dX7_piece_48 : decode cX7_piece 48 = .ok (.iload_n 1, 1) := by decide +kernel
theorem dX7_piece_49 : decode cX7_piece 49 = .ok (.invokestatic 144, 3) := by decide +kernel
theorem dX7_piece_52 : decode cX7_piece 52 = .ok (.ifCond .eq 7, 3) := by decide +kernel
theorem dX7_piece_55 : decode cX7_piece 55 = .ok (.iconst 1, 1) := by decide +kernel
theorem dX7_piece_56 : decode cX7_piece 56 = .ok (.goto 4, 3) := by decide +kernel
theorem dX7_piece_59 : decode cX7_piece 59 = .ok (.iconst 0, 1) := by decide +kernel
theorem dX7_piece_60 : decode cX7_piece 60 = .ok (.ireturn, 1) := by decide +kernel
theorem dX7_piece_61 : decode cX7_piece 61 = .ok (.aload_n 0, 1) := by decide +kernel
theorem dX7_piece_62 : decode cX7_piece 62 = .ok (.invokevirtual 117, 3) := by decide +kernel
theorem dX7_piece_65 : decode cX7_piece 65 = .ok (.astore_n 3, 1) := by decide +kernel
theorem dX7_piece_66 : decode cX7_piece 66 = .ok (.iload_n 2, 1) := by decide +kernel
theorem dX7_piece_67 : decode cX7_piece 67 = .ok (.ifCond .ne 10, 3) := by decide +kernel
theorem dX7_piece_70 : decode cX7_piece 70 = .ok (.aload_n 3, 1) := by decide +kernel
theorem dX7_piece_71 : decode cX7_piece 71 = .ok (.getfield 121, 3) := by decide +kernel
theorem dX7_piece_74 : decode cX7_piece 74 = .ok (.iload_n 1, 1) := by decide +kernel
theorem dX7_piece_75 : decode cX7_piece 75 = .ok (.iaload, 1) := by decide +kernel
theorem dX7_piece_76 : decode cX7_piece 76 = .ok (.ireturn, 1) := by decide +kernel
theorem dX7_piece_77 : decode cX7_piece 77 = .ok (.iload_n 2, 1) := by decide +kernel
theorem dX7_piece_78 : decode cX7_piece 78 = .ok (.bipush 8, 2) := by decide +kernel
theorem dX7_piece_80 : decode cX7_piece 80 = .ok (.if_icmp .ne 10, 3) := by decide +kernel
theorem dX7_piece_83 : decode cX7_piece 83 = .ok (.aload_n 3, 1) := by decide +kernel
theorem dX7_piece_84 : decode cX7_piece 84 = .ok (.getfield 148, 3) := by decide +kernel
theorem dX7_piece_87 : decode cX7_piece 87 = .ok (.iload_n 1, 1) := by decide +kernel
theorem dX7_piece_88 : decode cX7_piece 88 = .ok (.iaload, 1) := by decide +kernel
theorem dX7_piece_89 : decode cX7_piece 89 = .ok (.ireturn, 1) := by decide +kernel
theorem dX7_piece_90 : decode cX7_piece 90 = .ok (.iload_n 2, 1) := by decide +kernel
theorem dX7_piece_91 : decode cX7_piece 91 = .ok (.iconst 5, 1) := by decide +kernel
theorem dX7_piece_92 : decode cX7_piece 92 = .ok (.if_icmp .ge 18, 3) := by decide +kernel
theorem dX7_piece_95 : decode cX7_piece 95 = .ok (.aload_n 3, 1) := by decide +kernel
theorem dX7_piece_96 : decode cX7_piece 96 = .ok (.getfield 151, 3) := by decide +kernel
theorem dX7_piece_99 : decode cX7_piece 99 = .ok (.iconst 3, 1) := by decide +kernel
theorem dX7_piece_100 : decode cX7_piece 100 = .ok (.iload_n 1, 1) := by decide +kernel
theorem dX7_piece_101 : decode cX7_piece 101 = .ok (.imul, 1) := by decide +kernel
theorem dX7_piece_102 : decode cX7_piece 102 = .ok (.iload_n 2, 1) := by decide +kernel
theorem dX7_piece_103 : decode cX7_piece 103 = .ok (.iadd, 1) := by decide +kernel
theorem dX7_piece_104 : decode cX7_piece 104 = .ok (.iconst 2, 1) := by decide +kernel
theorem dX7_piece_105 : decode cX7_piece 105 = .ok (.isub, 1) := by decide +kernel
theorem dX7_piece_106 : decode cX7_piece 106 = .ok (.iaload, 1) := by decide +kernel
theorem dX7_piece_107 : decode cX7_piece 107 = .ok (.goto 15, 3) := by decide +kernel
theorem dX7_piece_110 : decode cX7_piece 110 = .ok (.aload_n 3, 1) := by decide +kernel
theorem dX7_piece_111 : decode cX7_piece 111 = .ok (.getfield 154, 3) := by decide +kernel
theorem dX7_piece_114 : decode cX7_piece 114 = .ok (.iconst 3, 1) := by decide +kernel
theorem dX7_piece_115 : decode cX7_piece 115 = .ok (.iload_n 1, 1) := by decide +kernel
theorem dX7_piece_116 : decode cX7_piece 116 = .ok (.imul, 1) := by decide +kernel
theorem dX7_piece_117 : decode cX7_piece 117 = .ok (.iload_n 2, 1) := by decide +kernel
theorem dX7_piece_118 : decode cX7_piece 118 = .ok (.iadd, 1) := by decide +kernel
theorem dX7_piece_119 : decode cX7_piece 119 = .ok (.iconst 5, 1) := by decide +kernel
theorem dX7_piece_120 : decode cX7_piece 120 = .ok (.isub, 1) := by decide +kernel
theorem dX7_piece_121 : decode cX7_piece 121 = .ok (.iaload, 1) := by decide +kernel
theorem dX7_piece_122 : decode cX7_piece 122 = .ok (.ireturn, 1) := by decide +kernel
set_option maxHeartbeats 4000000 in
set_option maxRecDepth 100000 in
theorem c_X7_piece {l : Launch} {X : En} (g : Nat) (x1 : Int32) (x2 : Int32) (M : Mem) (r : Int32) (M9 : Mem) (hf : fn_X7_piece g x1 x2 M = some (r, M9)) : Cn l X yX7_piece cX7_piece 4 (some .int) 4 87 [.ref (X.ad 0), .int x1, .int x2] M (Qi X r M9) := by
  refine Met.ofW (cc := cX7_piece) (maxL := 4) (ret := (some .int)) (by decide) rfl ?_
  intro p e s m args below meth c s₁ B hml hv
  obtain ⟨rfl, hP, hk⟩ := hv
  have hx := B.exec
  have hb := B.bytes
  have hr := B.returns
  have hlocks := B.notSynchronized
  have hts : ∀ w ∈ lw_u, w.before ([.ref (X.ad 0), .int x1, .int x2] : List Value).toArray s = true := fun w hw => atoms_spec (ws := Cond.code yX7_piece cX7_piece 4 (some .int) :: lw_u) B.pre w (List.mem_cons_of_mem _ hw)
  have hown : s.vm.findClass RX7 = some m.cls := findClass_of_methodNamed B.named
  have hZ : Fx p c m s ([.ref (X.ad 0), .int x1, .int x2] : List Value).toArray X cX7_piece 4 RX7 := ⟨hx, hb, hml, hts, hown, hk⟩
  have hS : va_S X.A s.heap s.heap [] := va_S.rf
  have hl := lv_entry ([.ref (X.ad 0), .int x1, .int x2]) (n := 4) (Nat.le_of_ble_eq_true rfl)
  rw [lg_entry_eq]
  generalize (lg_sl ([.ref (X.ad 0), .int x1, .int x2]) ++ List.replicate (4 - (lg_sl ([.ref (X.ad 0), .int x1, .int x2])).length) Slot.unset).toArray = ls at hl ⊢
  have hl : lv_has ls 4 [(0, .ref (X.ad 0)), (1, .int x1), (2, .int x2)] := hl
  show WW p l e 4 87 s m [.ref (X.ad 0), .int x1, .int x2] below meth c X (Qi X r M9) s.heap [] 0 ls []
  have hP : wd X M s.heap := hP
  unfold fn_X7_piece at hf
  have key : ∀ (H : Heap) (locs : List Loc), wd X M H → va_S X.A s.heap H locs → WW p l e 4 87 s m [.ref (X.ad 0), .int x1, .int x2] below meth c X (Qi X r M9) H locs 0 ls [] := by
    intro H locs hP hS
    refine lv_aload_n hx hb dX7_piece_0 rfl (lv_at hl 0 rfl) ?_
    refine lv_iload_n hx hb dX7_piece_1 rfl (lv_at hl 1 rfl) ?_
    refine k_X7_isPiece hZ hP hS hl.1 wd_2_106 ⟨Nat.le_of_ble_eq_true rfl, Nat.le_of_ble_eq_true rfl⟩ (Nat.le_of_ble_eq_true rfl) dX7_piece_2 ⟨Nat.zero_le _, Nat.zero_le _⟩ (fun H locs hP hS => ?_)
    refine lv_if_eq (tgt := 18) hx hb dX7_piece_5 (by decide) (fun c_1 => ?_) (fun c_1 => ?_)
    · have hf := i_t c_1 hf
      refine lv_iconst (v := (-1 : Int32)) hx hb dX7_piece_18 (by decide) ?_
      have hf := Option.some.inj hf
      obtain ⟨e1, e2⟩ := Prod.mk.inj hf
      rw [e2] at hP
      exact ret_i hx hb hr hlocks hP hS e1 dX7_piece_19
    · have hf := i_f c_1 hf
      refine lv_iload_n hx hb dX7_piece_8 rfl (lv_at hl 2 rfl) ?_
      refine lv_if_lt (tgt := 18) hx hb dX7_piece_9 (by decide) (fun c_2 => ?_) (fun c_2 => ?_)
      · have hf := i_t c_2 hf
        refine lv_iconst (v := (-1 : Int32)) hx hb dX7_piece_18 (by decide) ?_
        have hf := Option.some.inj hf
        obtain ⟨e1, e2⟩ := Prod.mk.inj hf
        rw [e2] at hP
        exact ret_i hx hb hr hlocks hP hS e1 dX7_piece_19
      · have hf := i_f c_2 hf
        refine lv_iload_n hx hb dX7_piece_12 rfl (lv_at hl 2 rfl) ?_
        refine lv_bipush (v := (10 : Int32)) hx hb dX7_piece_13 (by decide) ?_
        refine lv_icmp_lt (tgt := 20) hx hb dX7_piece_15 (by decide) (fun c_3 => ?_) (fun c_3 => ?_)
        · have hf := i_t c_3 hf
          refine lv_iload_n hx hb dX7_piece_20 rfl (lv_at hl 2 rfl) ?_
          refine lv_iconst (v := (1 : Int32)) hx hb dX7_piece_21 (by decide) ?_
          refine lv_icmp_ne (tgt := 35) hx hb dX7_piece_22 (by decide) (fun c_4 => ?_) (fun c_4 => ?_)
          · have hf := i_f c_4 hf
            refine lv_iload_n hx hb dX7_piece_35 rfl (lv_at hl 2 rfl) ?_
            refine lv_bipush (v := (9 : Int32)) hx hb dX7_piece_36 (by decide) ?_
            refine lv_icmp_ne (tgt := 61) hx hb dX7_piece_38 (by decide) (fun c_5 => ?_) (fun c_5 => ?_)
            · have hf := i_f c_5 hf
              refine lv_aload_n hx hb dX7_piece_61 rfl (lv_at hl 0 rfl) ?_
              obtain ⟨M_6, h_M_6, hf⟩ := b_d hf
              refine k_X7_knownMeasures hZ hP hS hl.1 wd_2_110 ⟨Nat.le_of_ble_eq_true rfl, Nat.le_of_ble_eq_true rfl⟩ (Nat.le_of_ble_eq_true rfl) dX7_piece_62 ⟨Nat.zero_le _, Nat.zero_le _⟩ h_M_6 (fun H locs hP hS => ?_)
              refine lv_astore_n (lv' := [(3, .ref (X.ad 4)), (0, .ref (X.ad 0)), (1, .int x1), (2, .int x2)]) hx hb dX7_piece_65 rfl hl (by decide) rfl (fun ls hl => ?_)
              refine lv_iload_n hx hb dX7_piece_66 rfl (lv_at hl 3 rfl) ?_
              refine lv_if_ne (tgt := 77) hx hb dX7_piece_67 (by decide) (fun c_7 => ?_) (fun c_7 => ?_)
              · have hf := i_f c_7 hf
                refine lv_iload_n hx hb dX7_piece_77 rfl (lv_at hl 3 rfl) ?_
                refine lv_bipush (v := (8 : Int32)) hx hb dX7_piece_78 (by decide) ?_
                refine lv_icmp_ne (tgt := 90) hx hb dX7_piece_80 (by decide) (fun c_8 => ?_) (fun c_8 => ?_)
                · have hf := i_f c_8 hf
                  refine lv_iload_n hx hb dX7_piece_90 rfl (lv_at hl 3 rfl) ?_
                  refine lv_iconst (v := (5 : Int32)) hx hb dX7_piece_91 (by decide) ?_
                  refine lv_icmp_ge (tgt := 110) hx hb dX7_piece_92 (by decide) (fun c_9 => ?_) (fun c_9 => ?_)
                  · have hf := i_t c_9 hf
                    refine lv_aload_n hx hb dX7_piece_110 rfl (lv_at hl 0 rfl) ?_
                    refine gX3_3 hx hb hts hown hk hP wd_1_70 dX7_piece_111 ?_
                    refine lv_iconst (v := (3 : Int32)) hx hb dX7_piece_114 (by decide) ?_
                    refine lv_iload_n hx hb dX7_piece_115 rfl (lv_at hl 2 rfl) ?_
                    refine lv_imul hx hb dX7_piece_116 ?_
                    refine lv_iload_n hx hb dX7_piece_117 rfl (lv_at hl 3 rfl) ?_
                    refine lv_iadd hx hb dX7_piece_118 ?_
                    refine lv_iconst (v := (5 : Int32)) hx hb dX7_piece_119 (by decide) ?_
                    refine lv_isub hx hb dX7_piece_120 ?_
                    obtain ⟨q_10, hf⟩ := g_if hf
                    refine ald hx hb hk hP (by decide) rfl q_10 dX7_piece_121 ?_
                    have hf := Option.some.inj hf
                    obtain ⟨e1, e2⟩ := Prod.mk.inj hf
                    rw [e2] at hP
                    exact ret_i hx hb hr hlocks hP hS e1 dX7_piece_122
                  · have hf := i_f c_9 hf
                    refine lv_aload_n hx hb dX7_piece_95 rfl (lv_at hl 0 rfl) ?_
                    refine gX3_2 hx hb hts hown hk hP wd_1_68 dX7_piece_96 ?_
                    refine lv_iconst (v := (3 : Int32)) hx hb dX7_piece_99 (by decide) ?_
                    refine lv_iload_n hx hb dX7_piece_100 rfl (lv_at hl 2 rfl) ?_
                    refine lv_imul hx hb dX7_piece_101 ?_
                    refine lv_iload_n hx hb dX7_piece_102 rfl (lv_at hl 3 rfl) ?_
                    refine lv_iadd hx hb dX7_piece_103 ?_
                    refine lv_iconst (v := (2 : Int32)) hx hb dX7_piece_104 (by decide) ?_
                    refine lv_isub hx hb dX7_piece_105 ?_
                    obtain ⟨q_11, hf⟩ := g_if hf
                    refine ald hx hb hk hP (by decide) rfl q_11 dX7_piece_106 ?_
                    refine lv_goto (tgt := 122) hx hb dX7_piece_107 (by decide) ?_
                    have hf := Option.some.inj hf
                    obtain ⟨e1, e2⟩ := Prod.mk.inj hf
                    rw [e2] at hP
                    exact ret_i hx hb hr hlocks hP hS e1 dX7_piece_122
                · have hf := i_t c_8 hf
                  refine lv_aload_n hx hb dX7_piece_83 rfl (lv_at hl 0 rfl) ?_
                  refine gX3_1 hx hb hts hown hk hP wd_1_66 dX7_piece_84 ?_
                  refine lv_iload_n hx hb dX7_piece_87 rfl (lv_at hl 2 rfl) ?_
                  obtain ⟨q_12, hf⟩ := g_if hf
                  refine ald hx hb hk hP (by decide) rfl q_12 dX7_piece_88 ?_
                  have hf := Option.some.inj hf
                  obtain ⟨e1, e2⟩ := Prod.mk.inj hf
                  rw [e2] at hP
                  exact ret_i hx hb hr hlocks hP hS e1 dX7_piece_89
              · have hf := i_t c_7 hf
                refine lv_aload_n hx hb dX7_piece_70 rfl (lv_at hl 0 rfl) ?_
                refine gX3_0 hx hb hts hown hk hP wd_1_64 dX7_piece_71 ?_
                refine lv_iload_n hx hb dX7_piece_74 rfl (lv_at hl 2 rfl) ?_
                obtain ⟨q_13, hf⟩ := g_if hf
                refine ald hx hb hk hP (by decide) rfl q_13 dX7_piece_75 ?_
                have hf := Option.some.inj hf
                obtain ⟨e1, e2⟩ := Prod.mk.inj hf
                rw [e2] at hP
                exact ret_i hx hb hr hlocks hP hS e1 dX7_piece_76
            · have hf := i_t c_5 hf
              refine lv_aload_n hx hb dX7_piece_41 rfl (lv_at hl 0 rfl) ?_
              refine gX7_0 hx hb hts hown hk hP wd_1_213 dX7_piece_42 ?_
              refine gX1_3 hx hb hts hown hk hP isF_1 wd_1_42 dX7_piece_45 ?_
              refine lv_iload_n hx hb dX7_piece_48 rfl (lv_at hl 1 rfl) ?_
              refine k_X7_has hZ hP hS hl.1 wd_2_178 ⟨Nat.le_of_ble_eq_true rfl, Nat.le_of_ble_eq_true rfl⟩ (Nat.le_of_ble_eq_true rfl) dX7_piece_49 ⟨Nat.zero_le _, Nat.zero_le _⟩ (fun H locs hP hS => ?_)
              refine lv_if_eq (tgt := 59) hx hb dX7_piece_52 (by decide) (fun c_14 => ?_) (fun c_14 => ?_)
              · have hf := i_t c_14 hf
                refine lv_iconst (v := (0 : Int32)) hx hb dX7_piece_59 (by decide) ?_
                have hf := Option.some.inj hf
                obtain ⟨e1, e2⟩ := Prod.mk.inj hf
                rw [e2] at hP
                exact ret_i hx hb hr hlocks hP hS e1 dX7_piece_60
              · have hf := i_f c_14 hf
                refine lv_iconst (v := (1 : Int32)) hx hb dX7_piece_55 (by decide) ?_
                refine lv_goto (tgt := 60) hx hb dX7_piece_56 (by decide) ?_
                have hf := Option.some.inj hf
                obtain ⟨e1, e2⟩ := Prod.mk.inj hf
                rw [e2] at hP
                exact ret_i hx hb hr hlocks hP hS e1 dX7_piece_60
          · have hf := i_t c_4 hf
            refine lv_aload_n hx hb dX7_piece_25 rfl (lv_at hl 0 rfl) ?_
            refine gX7_0 hx hb hts hown hk hP wd_1_213 dX7_piece_26 ?_
            refine gX1_1 hx hb hts hown hk hP isF_1 wd_1_37 dX7_piece_29 ?_
            refine lv_iload_n hx hb dX7_piece_32 rfl (lv_at hl 1 rfl) ?_
            obtain ⟨q_15, hf⟩ := g_if hf
            refine ald hx hb hk hP (by decide) rfl q_15 dX7_piece_33 ?_
            have hf := Option.some.inj hf
            obtain ⟨e1, e2⟩ := Prod.mk.inj hf
            rw [e2] at hP
            exact ret_i hx hb hr hlocks hP hS e1 dX7_piece_34
        · have hf := i_f c_3 hf
          refine lv_iconst (v := (-1 : Int32)) hx hb dX7_piece_18 (by decide) ?_
          have hf := Option.some.inj hf
          obtain ⟨e1, e2⟩ := Prod.mk.inj hf
          rw [e2] at hP
          exact ret_i hx hb hr hlocks hP hS e1 dX7_piece_19
  exact key s.heap [] hP hS
theorem hd_X7_piece : Hd yX7_piece 2 := by decide +kernel
theorem k_X7_piece {p : Program} {l : Launch} {e : Env} {R : Room} {s : State} {m : MethodId} {args : Array Value} {below : List Frame} {meth : Method} {c : Code} {H : Heap} {locs : List Loc} {cells slots : Nat} {Q : State → Prop} {cc : ByteArray} {nL pc index : Nat} {ls : Array Slot} {rest : List Value} {X : En} {M : Mem} {H0 : Heap} {own : String} {g : Nat} {x1 : Int32} {x2 : Int32} {r : Int32} {M9 : Mem} (hZ : Fx p c m s args X cc nL own) (hP : wd X M H) (hS : va_S X.A H0 H locs) (hsz : ls.size = nL) (hlk : Cond.methodLink own index yX7_piece ∈ lw_u) (hR : 4 + 1 ≤ R.frames ∧ 8 + (4 + 11) + 87 ≤ R.locals) (hW : (rest.map fun v => v.category).sum ≤ 8) (hdg : decode cc pc = .ok (.invokevirtual index, 3)) (hcs : cells ≤ R.cells ∧ slots ≤ R.slots) (hf : fn_X7_piece g x1 x2 M = some (r, M9))
    (kk : ∀ (H1 : Heap) (locs1 : List Loc), wd X M9 H1 → va_S X.A H0 H1 locs1 → W p l e R s m args below meth c H1 locs1 cells slots Q (F0 m (pc + 3) ls (.int r :: rest))) : W p l e R s m args below meth c H locs cells slots Q (F0 m pc ls (.int x2 :: .int x1 :: .ref (X.ad 0) :: rest)) :=
  cal_i (runV (As := [.int x1, .int x2]) (rest := rest) hZ.1 hZ.2.1 hZ.2.2.1 hZ.2.2.2.1 hZ.2.2.2.2.1 hZ.2.2.2.2.2 hP (c_X7_piece g x1 x2 M r M9 hf) wd_2_177 wd_2_175 wd_2_176 wd_1_1 hd_X7_piece (by decide) rfl rfl rfl hlk hR hsz rfl hW hdg hcs) hS kk
/-! FrameRaiser$Relations.reset -/
def bd_X5_reset_2 (k0 : Nat) : (Int32 × Mem) → Option ((Int32 × Mem) ⊕ (Mem)) :=
  u2 fun v1_1 M_2 =>
  if (64 : Int32) ≤ v1_1 then
    (some (.inr M_2))
  else
    (if inb v1_1 64 then
    bv (st M_2 (k0 + 1) (ix v1_1) (0 : Int32)) fun M_5 =>
    some (.inl (v1_1 + (1 : Int32), M_5))
    else none)
def bd_X5_reset_23 (k0 : Nat) : (Int32 × Mem) → Option ((Int32 × Mem) ⊕ (Mem)) :=
  u2 fun v1_7 M_8 =>
  if (48 : Int32) ≤ v1_7 then
    (some (.inr M_8))
  else
    (if inb v1_7 48 then
    bv (st M_8 (k0 + 2) (ix v1_7) (0 : Int32)) fun M_11 =>
    some (.inl (v1_7 + (1 : Int32), M_11))
    else none)
def bd_X5_reset_44 (k0 : Nat) : (Int32 × Mem) → Option ((Int32 × Mem) ⊕ (Mem)) :=
  u2 fun v1_13 M_14 =>
  if (8 : Int32) ≤ v1_13 then
    (some (.inr M_14))
  else
    (if inb v1_13 8 then
    bv (st M_14 (k0 + 3) (ix v1_13) (0 : Int32)) fun M_17 =>
    if inb v1_13 8 then
    bv (st M_17 (k0 + 4) (ix v1_13) (0 : Int32)) fun M_19 =>
    some (.inl (v1_13 + (1 : Int32), M_19))
    else none
    else none)
def fn_X5_reset (g : Nat) (k0 : Nat) (M : Mem) : Option (Mem) :=
  (lpN g (bd_X5_reset_2 k0) ((0 : Int32), M)).bind (u1 fun M_3 =>
    (lpN g (bd_X5_reset_23 k0) ((0 : Int32), M_3)).bind (u1 fun M_9 =>
      (lpN g (bd_X5_reset_44 k0) ((0 : Int32), M_9)).bind (u1 fun M_15 =>
        bv (st M_15 k0 4 (0 : Int32)) fun M_21 =>
        some M_21)))
theorem dX5_reset_0 : decode cX5_reset 0 = .ok (.iconst 0, 1) := by decide +kernel
theorem dX5_reset_1 : decode cX5_reset 1 = .ok (.istore_n 1, 1) := by decide +kernel
theorem dX5_reset_2 : decode cX5_reset 2 = .ok (.iload_n 1, 1) := by decide +kernel
theorem dX5_reset_3 : decode cX5_reset 3 = .ok (.bipush 64, 2) := by decide +kernel
theorem dX5_reset_5 : decode cX5_reset 5 = .ok (.if_icmp .ge 16, 3) := by decide +kernel
theorem dX5_reset_8 : decode cX5_reset 8 = .ok (.aload_n 0, 1) := by decide +kernel
theorem dX5_reset_9 : decode cX5_reset 9 = .ok (.getfield 9, 3) := by decide +kernel
theorem dX5_reset_12 : decode cX5_reset 12 = .ok (.iload_n 1, 1) := by decide +kernel
theorem dX5_reset_13 : decode cX5_reset 13 = .ok (.iconst 0, 1) := by decide +kernel
theorem dX5_reset_14 : decode cX5_reset 14 = .ok (.iastore, 1) := by decide +kernel
theorem dX5_reset_15 : decode cX5_reset 15 = .ok (.iinc 1 1, 3) := by decide +kernel
theorem dX5_reset_18 : decode cX5_reset 18 = .ok (.goto (-16), 3) := by decide +kernel
theorem dX5_reset_21 : decode cX5_reset 21 = .ok (.iconst 0, 1) := by decide +kernel
theorem dX5_reset_22 : decode cX5_reset 22 = .ok (.istore_n 1, 1) := by decide +kernel
theorem dX5_reset_23 : decode cX5_reset 23 = .ok (.iload_n 1, 1) := by decide +kernel
theorem dX5_reset_24 : decode cX5_reset 24 = .ok (.bipush 48, 2) := by decide +kernel
theorem dX5_reset_26 : decode cX5_reset 26 = .ok (.if_icmp .ge 16, 3) := by decide +kernel
theorem dX5_reset_29 : decode cX5_reset 29 = .ok (.aload_n 0, 1) := by decide +kernel
theorem dX5_reset_30 : decode cX5_reset 30 = .ok (.getfield 15, 3) := by decide +kernel
theorem dX5_reset_33 : decode cX5_reset 33 = .ok (.iload_n 1, 1) := by decide +kernel
theorem dX5_reset_34 : decode cX5_reset 34 = .ok (.iconst 0, 1) := by decide +kernel
theorem dX5_reset_35 : decode cX5_reset 35 = .ok (.iastore, 1) := by decide +kernel
theorem dX5_reset_36 : decode cX5_reset 36 = .ok (.iinc 1 1, 3) := by decide +kernel
theorem dX5_reset_39 : decode cX5_reset 39 = .ok (.goto (-16), 3) := by decide +kernel
theorem dX5_reset_42 : decode cX5_reset 42 = .ok (.iconst 0, 1) := by decide +kernel
theorem dX5_reset_43 : decode cX5_reset 43 = .ok (.istore_n 1, 1) := by decide +kernel
theorem dX5_reset_44 : decode cX5_reset 44 = .ok (.iload_n 1, 1) := by decide +kernel
theorem dX5_reset_45 : decode cX5_reset 45 = .ok (.bipush 8, 2) := by decide +kernel
theorem dX5_reset_47 : decode cX5_reset 47 = .ok (.if_icmp .ge 23, 3) := by decide +kernel
theorem dX5_reset_50 : decode cX5_reset 50 = .ok (.aload_n 0, 1) := by decide +kernel
theorem dX5_reset_51 : decode cX5_reset 51 = .ok (.getfield 18, 3) := by decide +kernel
theorem dX5_reset_54 : decode cX5_reset 54 = .ok (.iload_n 1, 1) := by decide +kernel
theorem dX5_reset_55 : decode cX5_reset 55 = .ok (.iconst 0, 1) := by decide +kernel
theorem dX5_reset_56 : decode cX5_reset 56 = .ok (.iastore, 1) := by decide +kernel
theorem dX5_reset_57 : decode cX5_reset 57 = .ok (.aload_n 0, 1) := by decide +kernel
theorem dX5_reset_58 : decode cX5_reset 58 = .ok (.getfield 21, 3) := by decide +kernel
theorem dX5_reset_61 : decode cX5_reset 61 = .ok (.iload_n 1, 1) := by decide +kernel
theorem dX5_reset_62 : decode cX5_reset 62 = .ok (.iconst 0, 1) := by decide +kernel
theorem dX5_reset_63 : decode cX5_reset 63 = .ok (.iastore, 1) := by decide +kernel
theorem dX5_reset_64 : decode cX5_reset 64 = .ok (.iinc 1 1, 3) := by decide +kernel
theorem dX5_reset_67 : decode cX5_reset 67 = .ok (.goto (-23), 3) := by decide +kernel
theorem dX5_reset_70 : decode cX5_reset 70 = .ok (.aload_n 0, 1) := by decide +kernel
theorem dX5_reset_71 : decode cX5_reset 71 = .ok (.iconst 0, 1) := by decide +kernel
theorem dX5_reset_72 : decode cX5_reset 72 = .ok (.putfield 37, 3) := by decide +kernel
theorem dX5_reset_75 : decode cX5_reset 75 = .ok (.return_, 1) := by decide +kernel
set_option maxHeartbeats 4000000 in
set_option maxRecDepth 100000 in
theorem c_X5_reset {l : Launch} {X : En} (g : Nat) (k0 : Nat) (M : Mem) (hk0 : isR k0) (M9 : Mem) (hf : fn_X5_reset g k0 M = some M9) : Cn l X yX5_reset cX5_reset 2 none 0 0 [.ref (X.ad k0)] M (Qv X M9) := by
  refine Met.ofW (cc := cX5_reset) (maxL := 2) (ret := none) (by decide) rfl ?_
  intro p e s m args below meth c s₁ B hml hv
  obtain ⟨rfl, hP, hk⟩ := hv
  have hx := B.exec
  have hb := B.bytes
  have hr := B.returns
  have hlocks := B.notSynchronized
  have hts : ∀ w ∈ lw_u, w.before ([.ref (X.ad k0)] : List Value).toArray s = true := fun w hw => atoms_spec (ws := Cond.code yX5_reset cX5_reset 2 none :: lw_u) B.pre w (List.mem_cons_of_mem _ hw)
  have hown : s.vm.findClass RX5 = some m.cls := findClass_of_methodNamed B.named
  have hZ : Fx p c m s ([.ref (X.ad k0)] : List Value).toArray X cX5_reset 2 RX5 := ⟨hx, hb, hml, hts, hown, hk⟩
  have hS : va_S X.A s.heap s.heap [] := va_S.rf
  have hl := lv_entry ([.ref (X.ad k0)]) (n := 2) (Nat.le_of_ble_eq_true rfl)
  rw [lg_entry_eq]
  generalize (lg_sl ([.ref (X.ad k0)]) ++ List.replicate (2 - (lg_sl ([.ref (X.ad k0)])).length) Slot.unset).toArray = ls at hl ⊢
  have hl : lv_has ls 2 [(0, .ref (X.ad k0))] := hl
  show WW p l e 0 0 s m [.ref (X.ad k0)] below meth c X (Qv X M9) s.heap [] 0 ls []
  have hP : wd X M s.heap := hP
  unfold fn_X5_reset at hf
  have key : ∀ (H : Heap) (locs : List Loc), wd X M H → va_S X.A s.heap H locs → WW p l e 0 0 s m [.ref (X.ad k0)] below meth c X (Qv X M9) H locs 0 ls [] := by
    intro H locs hP hS
    refine lv_iconst (v := (0 : Int32)) hx hb dX5_reset_0 (by decide) ?_
    refine lv_istore_n (lv' := [(1, .int (0 : Int32)), (0, .ref (X.ad k0))]) hx hb dX5_reset_1 rfl hl (by decide) rfl (fun ls hl => ?_)
    obtain ⟨o2, ho2, hf⟩ := b_d hf
    refine lp_rule (b := bd_X5_reset_2 k0) (P := fun w : Int32 × Mem => ∀ (H : Heap) (locs : List Loc) (ls : Array Slot), wd X w.2 H → va_S X.A s.heap H locs → lv_has ls 2 [(1, .int w.1), (0, .ref (X.ad k0))] → WW p l e 0 0 s m [.ref (X.ad k0)] below meth c X (Qv X M9) H locs 2 ls []) (K := fun o => ∀ (M_3 : Mem), o = M_3 → ∀ (H : Heap) (locs : List Loc) (ls : Array Slot), wd X M_3 H → va_S X.A s.heap H locs → lv_has ls 2 [(0, .ref (X.ad k0))] → WW p l e 0 0 s m [.ref (X.ad k0)] below meth c X (Qv X M9) H locs 21 ls []) ?_ g ((0 : Int32), M) o2 ho2 ?_ H locs ls hP hS (lv_sub hl [0, 1] rfl)
    · rintro ⟨v1_1, M_2⟩ o hf hkc2 hke2 H locs ls hP hS hl
      have hf := u2_e hf
      refine lv_iload_n hx hb dX5_reset_2 rfl (lv_at hl 0 rfl) ?_
      refine lv_bipush (v := (64 : Int32)) hx hb dX5_reset_3 (by decide) ?_
      refine lv_icmp_ge (tgt := 21) hx hb dX5_reset_5 (by decide) (fun c_4 => ?_) (fun c_4 => ?_)
      · have hf := i_t c_4 hf
        exact hke2 _ (Option.some.inj hf).symm _ rfl H locs ls hP hS (lv_sub hl [1] rfl)
      · have hf := i_f c_4 hf
        refine lv_aload_n hx hb dX5_reset_8 rfl (lv_at hl 1 rfl) ?_
        refine gX5_0 hx hb hts hown hk hP hk0 wd_1_90 dX5_reset_9 ?_
        refine lv_iload_n hx hb dX5_reset_12 rfl (lv_at hl 0 rfl) ?_
        refine lv_iconst (v := (0 : Int32)) hx hb dX5_reset_13 (by decide) ?_
        obtain ⟨q_6, hf⟩ := g_if hf
        refine ast hx hb hk hP hS (isR_lt1 hk0) (rd_R1 hk0) q_6 dX5_reset_14 (fun H locs M_5 e_M_5 hP hS => ?_)
        have hf := b_v hf e_M_5
        refine lv_iinc (v := v1_1 + (1 : Int32)) (lv' := [(1, .int (v1_1 + (1 : Int32))), (0, .ref (X.ad k0))]) hx hb dX5_reset_15 hl (k := 0) rfl rfl (by decide) rfl (fun ls hl => ?_)
        refine lv_goto (tgt := 2) hx hb dX5_reset_18 (by decide) ?_
        exact hkc2 _ (Option.some.inj hf).symm H locs ls hP hS (lv_sub hl [0, 1] rfl)
    · intro M_3 e H locs ls hP hS hl
      subst o2
      have hf := u1_e hf
      refine lv_iconst (v := (0 : Int32)) hx hb dX5_reset_21 (by decide) ?_
      refine lv_istore_n (lv' := [(1, .int (0 : Int32)), (0, .ref (X.ad k0))]) hx hb dX5_reset_22 rfl hl (by decide) rfl (fun ls hl => ?_)
      obtain ⟨o23, ho23, hf⟩ := b_d hf
      refine lp_rule (b := bd_X5_reset_23 k0) (P := fun w : Int32 × Mem => ∀ (H : Heap) (locs : List Loc) (ls : Array Slot), wd X w.2 H → va_S X.A s.heap H locs → lv_has ls 2 [(1, .int w.1), (0, .ref (X.ad k0))] → WW p l e 0 0 s m [.ref (X.ad k0)] below meth c X (Qv X M9) H locs 23 ls []) (K := fun o => ∀ (M_9 : Mem), o = M_9 → ∀ (H : Heap) (locs : List Loc) (ls : Array Slot), wd X M_9 H → va_S X.A s.heap H locs → lv_has ls 2 [(0, .ref (X.ad k0))] → WW p l e 0 0 s m [.ref (X.ad k0)] below meth c X (Qv X M9) H locs 42 ls []) ?_ g ((0 : Int32), M_3) o23 ho23 ?_ H locs ls hP hS (lv_sub hl [0, 1] rfl)
      · rintro ⟨v1_7, M_8⟩ o hf hkc23 hke23 H locs ls hP hS hl
        have hf := u2_e hf
        refine lv_iload_n hx hb dX5_reset_23 rfl (lv_at hl 0 rfl) ?_
        refine lv_bipush (v := (48 : Int32)) hx hb dX5_reset_24 (by decide) ?_
        refine lv_icmp_ge (tgt := 42) hx hb dX5_reset_26 (by decide) (fun c_10 => ?_) (fun c_10 => ?_)
        · have hf := i_t c_10 hf
          exact hke23 _ (Option.some.inj hf).symm _ rfl H locs ls hP hS (lv_sub hl [1] rfl)
        · have hf := i_f c_10 hf
          refine lv_aload_n hx hb dX5_reset_29 rfl (lv_at hl 1 rfl) ?_
          refine gX5_1 hx hb hts hown hk hP hk0 wd_1_92 dX5_reset_30 ?_
          refine lv_iload_n hx hb dX5_reset_33 rfl (lv_at hl 0 rfl) ?_
          refine lv_iconst (v := (0 : Int32)) hx hb dX5_reset_34 (by decide) ?_
          obtain ⟨q_12, hf⟩ := g_if hf
          refine ast hx hb hk hP hS (isR_lt2 hk0) (rd_R2 hk0) q_12 dX5_reset_35 (fun H locs M_11 e_M_11 hP hS => ?_)
          have hf := b_v hf e_M_11
          refine lv_iinc (v := v1_7 + (1 : Int32)) (lv' := [(1, .int (v1_7 + (1 : Int32))), (0, .ref (X.ad k0))]) hx hb dX5_reset_36 hl (k := 0) rfl rfl (by decide) rfl (fun ls hl => ?_)
          refine lv_goto (tgt := 23) hx hb dX5_reset_39 (by decide) ?_
          exact hkc23 _ (Option.some.inj hf).symm H locs ls hP hS (lv_sub hl [0, 1] rfl)
      · intro M_9 e H locs ls hP hS hl
        subst o23
        have hf := u1_e hf
        refine lv_iconst (v := (0 : Int32)) hx hb dX5_reset_42 (by decide) ?_
        refine lv_istore_n (lv' := [(1, .int (0 : Int32)), (0, .ref (X.ad k0))]) hx hb dX5_reset_43 rfl hl (by decide) rfl (fun ls hl => ?_)
        obtain ⟨o44, ho44, hf⟩ := b_d hf
        refine lp_rule (b := bd_X5_reset_44 k0) (P := fun w : Int32 × Mem => ∀ (H : Heap) (locs : List Loc) (ls : Array Slot), wd X w.2 H → va_S X.A s.heap H locs → lv_has ls 2 [(1, .int w.1), (0, .ref (X.ad k0))] → WW p l e 0 0 s m [.ref (X.ad k0)] below meth c X (Qv X M9) H locs 44 ls []) (K := fun o => ∀ (M_15 : Mem), o = M_15 → ∀ (H : Heap) (locs : List Loc) (ls : Array Slot), wd X M_15 H → va_S X.A s.heap H locs → lv_has ls 2 [(0, .ref (X.ad k0))] → WW p l e 0 0 s m [.ref (X.ad k0)] below meth c X (Qv X M9) H locs 70 ls []) ?_ g ((0 : Int32), M_9) o44 ho44 ?_ H locs ls hP hS (lv_sub hl [0, 1] rfl)
        · rintro ⟨v1_13, M_14⟩ o hf hkc44 hke44 H locs ls hP hS hl
          have hf := u2_e hf
          refine lv_iload_n hx hb dX5_reset_44 rfl (lv_at hl 0 rfl) ?_
          refine lv_bipush (v := (8 : Int32)) hx hb dX5_reset_45 (by decide) ?_
          refine lv_icmp_ge (tgt := 70) hx hb dX5_reset_47 (by decide) (fun c_16 => ?_) (fun c_16 => ?_)
          · have hf := i_t c_16 hf
            exact hke44 _ (Option.some.inj hf).symm _ rfl H locs ls hP hS (lv_sub hl [1] rfl)
          · have hf := i_f c_16 hf
            refine lv_aload_n hx hb dX5_reset_50 rfl (lv_at hl 1 rfl) ?_
            refine gX5_2 hx hb hts hown hk hP hk0 wd_1_93 dX5_reset_51 ?_
            refine lv_iload_n hx hb dX5_reset_54 rfl (lv_at hl 0 rfl) ?_
            refine lv_iconst (v := (0 : Int32)) hx hb dX5_reset_55 (by decide) ?_
            obtain ⟨q_18, hf⟩ := g_if hf
            refine ast hx hb hk hP hS (isR_lt3 hk0) (rd_R3 hk0) q_18 dX5_reset_56 (fun H locs M_17 e_M_17 hP hS => ?_)
            have hf := b_v hf e_M_17
            refine lv_aload_n hx hb dX5_reset_57 rfl (lv_at hl 1 rfl) ?_
            refine gX5_3 hx hb hts hown hk hP hk0 wd_1_94 dX5_reset_58 ?_
            refine lv_iload_n hx hb dX5_reset_61 rfl (lv_at hl 0 rfl) ?_
            refine lv_iconst (v := (0 : Int32)) hx hb dX5_reset_62 (by decide) ?_
            obtain ⟨q_20, hf⟩ := g_if hf
            refine ast hx hb hk hP hS (isR_lt4 hk0) (rd_R4 hk0) q_20 dX5_reset_63 (fun H locs M_19 e_M_19 hP hS => ?_)
            have hf := b_v hf e_M_19
            refine lv_iinc (v := v1_13 + (1 : Int32)) (lv' := [(1, .int (v1_13 + (1 : Int32))), (0, .ref (X.ad k0))]) hx hb dX5_reset_64 hl (k := 0) rfl rfl (by decide) rfl (fun ls hl => ?_)
            refine lv_goto (tgt := 44) hx hb dX5_reset_67 (by decide) ?_
            exact hkc44 _ (Option.some.inj hf).symm H locs ls hP hS (lv_sub hl [0, 1] rfl)
        · intro M_15 e H locs ls hP hS hl
          subst o44
          have hf := u1_e hf
          refine lv_aload_n hx hb dX5_reset_70 rfl (lv_at hl 0 rfl) ?_
          refine lv_iconst (v := (0 : Int32)) hx hb dX5_reset_71 (by decide) ?_
          refine pX5_4 hx hb hts hown hk hP hS hk0 wd_1_95 dX5_reset_72 (fun H locs M_21 e_M_21 hP hS => ?_)
          have hf := b_v hf e_M_21
          have hf := Option.some.inj hf
          rw [hf] at hP
          exact ret_v hx hb hr hlocks hP hS dX5_reset_75
  exact key s.heap [] hP hS
theorem hd_X5_reset : Hd yX5_reset 0 := by decide +kernel
theorem k_X5_reset {p : Program} {l : Launch} {e : Env} {R : Room} {s : State} {m : MethodId} {args : Array Value} {below : List Frame} {meth : Method} {c : Code} {H : Heap} {locs : List Loc} {cells slots : Nat} {Q : State → Prop} {cc : ByteArray} {nL pc index : Nat} {ls : Array Slot} {rest : List Value} {X : En} {M : Mem} {H0 : Heap} {own : String} {g : Nat} {k0 : Nat} {M9 : Mem} (hZ : Fx p c m s args X cc nL own) (hP : wd X M H) (hS : va_S X.A H0 H locs) (hsz : ls.size = nL) (hlk : Cond.methodLink own index yX5_reset ∈ lw_u) (hR : 0 + 1 ≤ R.frames ∧ 8 + (2 + 11) + 0 ≤ R.locals) (hW : (rest.map fun v => v.category).sum ≤ 8) (hdg : decode cc pc = .ok (.invokevirtual index, 3)) (hcs : cells ≤ R.cells ∧ slots ≤ R.slots) (hk0 : isR k0) (hf : fn_X5_reset g k0 M = some M9)
    (kk : ∀ (H1 : Heap) (locs1 : List Loc), wd X M9 H1 → va_S X.A H0 H1 locs1 → W p l e R s m args below meth c H1 locs1 cells slots Q (F0 m (pc + 3) ls rest)) : W p l e R s m args below meth c H locs cells slots Q (F0 m pc ls (.ref (X.ad k0) :: rest)) :=
  cal_v (runV (As := []) (rest := rest) hZ.1 hZ.2.1 hZ.2.2.1 hZ.2.2.2.1 hZ.2.2.2.2.1 hZ.2.2.2.2.2 hP (c_X5_reset g k0 M hk0 M9 hf) wd_2_196 wd_2_195 wd_p_11 wd_1_4 hd_X5_reset (isR_lt0 hk0) (rd_R0 hk0 _) rfl rfl hlk hR hsz rfl hW hdg hcs) hS kk
/-! FrameRaiser$Relations.lineStart -/
def fn_X5_lineStart (x0 : Int32) (x1 : Int32) : Int32 :=
  if x0 = 0 then
    ((6 : Int32) * x1)
  else
    (if x0 = (1 : Int32) then
      (((36 : Int32) * (x1 / (6 : Int32))) + (rm x1 (6 : Int32)))
    else
      (x1))
theorem dX5_lineStart_0 : decode cX5_lineStart 0 = .ok (.iload_n 0, 1) := by decide +kernel
theorem dX5_lineStart_1 : decode cX5_lineStart 1 = .ok (.ifCond .ne 8, 3) := by decide +kernel
theorem dX5_lineStart_4 : decode cX5_lineStart 4 = .ok (.bipush 6, 2) := by decide +kernel
theorem dX5_lineStart_6 : decode cX5_lineStart 6 = .ok (.iload_n 1, 1) := by decide +kernel
theorem dX5_lineStart_7 : decode cX5_lineStart 7 = .ok (.imul, 1) := by decide +kernel
theorem dX5_lineStart_8 : decode cX5_lineStart 8 = .ok (.ireturn, 1) := by decide +kernel
theorem dX5_lineStart_9 : decode cX5_lineStart 9 = .ok (.iload_n 0, 1) := by decide +kernel
theorem dX5_lineStart_10 : decode cX5_lineStart 10 = .ok (.iconst 1, 1) := by decide +kernel
theorem dX5_lineStart_11 : decode cX5_lineStart 11 = .ok (.if_icmp .ne 18, 3) := by decide +kernel
theorem dX5_lineStart_14 : decode cX5_lineStart 14 = .ok (.bipush 36, 2) := by decide +kernel
theorem dX5_lineStart_16 : decode cX5_lineStart 16 = .ok (.iload_n 1, 1) := by decide +kernel
theorem dX5_lineStart_17 : decode cX5_lineStart 17 = .ok (.bipush 6, 2) := by decide +kernel
theorem dX5_lineStart_19 : decode cX5_lineStart 19 = .ok (.idiv, 1) := by decide +kernel
theorem dX5_lineStart_20 : decode cX5_lineStart 20 = .ok (.imul, 1) := by decide +kernel
theorem dX5_lineStart_21 : decode cX5_lineStart 21 = .ok (.iload_n 1, 1) := by decide +kernel
theorem dX5_lineStart_22 : decode cX5_lineStart 22 = .ok (.bipush 6, 2) := by decide +kernel
theorem dX5_lineStart_24 : decode cX5_lineStart 24 = .ok (.irem, 1) := by decide +kernel
theorem dX5_lineStart_25 : decode cX5_lineStart 25 = .ok (.iadd, 1) := by decide +kernel
theorem dX5_lineStart_26 : decode cX5_lineStart 26 = .ok (.goto 4, 3) := by decide +kernel
theorem dX5_lineStart_29 : decode cX5_lineStart 29 = .ok (.iload_n 1, 1) := by decide +kernel
theorem dX5_lineStart_30 : decode cX5_lineStart 30 = .ok (.ireturn, 1) := by decide +kernel
set_option maxHeartbeats 4000000 in
set_option maxRecDepth 100000 in
theorem c_X5_lineStart {l : Launch} {X : En} (x0 : Int32) (x1 : Int32) (M : Mem) (r : Int32) (hf : fn_X5_lineStart x0 x1 = r) : Cn l X yX5_lineStart cX5_lineStart 2 (some .int) 0 0 [.int x0, .int x1] M (Qi X r M) := by
  refine Met.ofW (cc := cX5_lineStart) (maxL := 2) (ret := (some .int)) (by decide) rfl ?_
  intro p e s m args below meth c s₁ B hml hv
  obtain ⟨rfl, hP, hk⟩ := hv
  have hx := B.exec
  have hb := B.bytes
  have hr := B.returns
  have hlocks := B.notSynchronized
  have hts : ∀ w ∈ lw_u, w.before ([.int x0, .int x1] : List Value).toArray s = true := fun w hw => atoms_spec (ws := Cond.code yX5_lineStart cX5_lineStart 2 (some .int) :: lw_u) B.pre w (List.mem_cons_of_mem _ hw)
  have hown : s.vm.findClass RX5 = some m.cls := findClass_of_methodNamed B.named
  have hZ : Fx p c m s ([.int x0, .int x1] : List Value).toArray X cX5_lineStart 2 RX5 := ⟨hx, hb, hml, hts, hown, hk⟩
  have hS : va_S X.A s.heap s.heap [] := va_S.rf
  have hl := lv_entry ([.int x0, .int x1]) (n := 2) (Nat.le_of_ble_eq_true rfl)
  rw [lg_entry_eq]
  generalize (lg_sl ([.int x0, .int x1]) ++ List.replicate (2 - (lg_sl ([.int x0, .int x1])).length) Slot.unset).toArray = ls at hl ⊢
  have hl : lv_has ls 2 [(0, .int x0), (1, .int x1)] := hl
  show WW p l e 0 0 s m [.int x0, .int x1] below meth c X (Qi X r M) s.heap [] 0 ls []
  have hP : wd X M s.heap := hP
  unfold fn_X5_lineStart at hf
  have key : ∀ (H : Heap) (locs : List Loc), wd X M H → va_S X.A s.heap H locs → WW p l e 0 0 s m [.int x0, .int x1] below meth c X (Qi X r M) H locs 0 ls [] := by
    intro H locs hP hS
    refine lv_iload_n hx hb dX5_lineStart_0 rfl (lv_at hl 0 rfl) ?_
    refine lv_if_ne (tgt := 9) hx hb dX5_lineStart_1 (by decide) (fun c_1 => ?_) (fun c_1 => ?_)
    · have hf := i_f c_1 hf
      refine lv_iload_n hx hb dX5_lineStart_9 rfl (lv_at hl 0 rfl) ?_
      refine lv_iconst (v := (1 : Int32)) hx hb dX5_lineStart_10 (by decide) ?_
      refine lv_icmp_ne (tgt := 29) hx hb dX5_lineStart_11 (by decide) (fun c_2 => ?_) (fun c_2 => ?_)
      · have hf := i_f c_2 hf
        refine lv_iload_n hx hb dX5_lineStart_29 rfl (lv_at hl 1 rfl) ?_
        exact ret_i hx hb hr hlocks hP hS hf dX5_lineStart_30
      · have hf := i_t c_2 hf
        refine lv_bipush (v := (36 : Int32)) hx hb dX5_lineStart_14 (by decide) ?_
        refine lv_iload_n hx hb dX5_lineStart_16 rfl (lv_at hl 1 rfl) ?_
        refine lv_bipush (v := (6 : Int32)) hx hb dX5_lineStart_17 (by decide) ?_
        refine lv_idiv hx hb dX5_lineStart_19 (by decide) ?_
        refine lv_imul hx hb dX5_lineStart_20 ?_
        refine lv_iload_n hx hb dX5_lineStart_21 rfl (lv_at hl 1 rfl) ?_
        refine lv_bipush (v := (6 : Int32)) hx hb dX5_lineStart_22 (by decide) ?_
        refine rw_irem hx hb dX5_lineStart_24 (by decide) ?_
        refine lv_iadd hx hb dX5_lineStart_25 ?_
        refine lv_goto (tgt := 30) hx hb dX5_lineStart_26 (by decide) ?_
        exact ret_i hx hb hr hlocks hP hS hf dX5_lineStart_30
    · have hf := i_t c_1 hf
      refine lv_bipush (v := (6 : Int32)) hx hb dX5_lineStart_4 (by decide) ?_
      refine lv_iload_n hx hb dX5_lineStart_6 rfl (lv_at hl 1 rfl) ?_
      refine lv_imul hx hb dX5_lineStart_7 ?_
      exact ret_i hx hb hr hlocks hP hS hf dX5_lineStart_8
  exact key s.heap [] hP hS
theorem hd_X5_lineStart : Hd yX5_lineStart 2 := by decide +kernel
theorem k_X5_lineStart {p : Program} {l : Launch} {e : Env} {R : Room} {s : State} {m : MethodId} {args : Array Value} {below : List Frame} {meth : Method} {c : Code} {H : Heap} {locs : List Loc} {cells slots : Nat} {Q : State → Prop} {cc : ByteArray} {nL pc index : Nat} {ls : Array Slot} {rest : List Value} {X : En} {M : Mem} {H0 : Heap} {own : String} {x0 : Int32} {x1 : Int32} (hZ : Fx p c m s args X cc nL own) (hP : wd X M H) (hS : va_S X.A H0 H locs) (hsz : ls.size = nL) (hlk : Cond.methodLink own index yX5_lineStart ∈ lw_u) (hR : 0 + 1 ≤ R.frames ∧ 8 + (2 + 11) + 0 ≤ R.locals) (hW : (rest.map fun v => v.category).sum ≤ 8) (hdg : decode cc pc = .ok (.invokestatic index, 3)) (hcs : cells ≤ R.cells ∧ slots ≤ R.slots)
    (kk : ∀ (H1 : Heap) (locs1 : List Loc), wd X M H1 → va_S X.A H0 H1 locs1 → W p l e R s m args below meth c H1 locs1 cells slots Q (F0 m (pc + 3) ls (.int (fn_X5_lineStart x0 x1) :: rest))) : W p l e R s m args below meth c H locs cells slots Q (F0 m pc ls (.int x1 :: .int x0 :: rest)) :=
  cal_i (runS (As := [.int x0, .int x1]) (rest := rest) hZ.1 hZ.2.1 hZ.2.2.1 hZ.2.2.2.1 hZ.2.2.2.2.1 hZ.2.2.2.2.2 hP (c_X5_lineStart x0 x1 M _ rfl) wd_2_199 wd_2_198 wd_1_4 hd_X5_lineStart rfl hlk hR hsz rfl hW hdg hcs) hS kk
/-! FrameRaiser$Relations.block -/
def fn_X5_block (k0 : Nat) (x1 : Int32) (x2 : Int32) (x3 : Int32) (M : Mem) : Option (Int32 × Mem) :=
  if x1 = (-1 : Int32) then
    (some (x3, M))
  else
    (bv (sl (1 : Int32) x1) fun v4_2 =>
    if inb (((6 : Int32) * x1) + x2) 48 then
    if inb (((6 : Int32) * x1) + x2) 48 then
    bv (st M (k0 + 2) (ix (((6 : Int32) * x1) + x2)) ((M (k0 + 2) (ix (((6 : Int32) * x1) + x2))) ||| (x3 &&& (v4_2 ^^^ (-1 : Int32))))) fun M_4 =>
    some (x3 ||| v4_2, M_4)
    else none
    else none)
theorem dX5_block_0 : decode cX5_block 0 = .ok (.iload_n 1, 1) := by decide +kernel
theorem dX5_block_1 : decode cX5_block 1 = .ok (.iconst (-1), 1) := by decide +kernel
theorem dX5_block_2 : decode cX5_block 2 = .ok (.if_icmp .ne 5, 3) := by decide +kernel
theorem dX5_block_5 : decode cX5_block 5 = .ok (.iload_n 3, 1) := by decide +kernel
theorem dX5_block_6 : decode cX5_block 6 = .ok (.ireturn, 1) := by decide +kernel
theorem dX5_block_7 : decode cX5_block 7 = .ok (.iconst 1, 1) := by decide +kernel
theorem dX5_block_8 : decode cX5_block 8 = .ok (.iload_n 1, 1) := by decide +kernel
theorem dX5_block_9 : decode cX5_block 9 = .ok (.ishl, 1) := by decide +kernel
theorem dX5_block_10 : decode cX5_block 10 = .ok (.istore 4, 2) := by decide +kernel
theorem dX5_block_12 : decode cX5_block 12 = .ok (.aload_n 0, 1) := by decide +kernel
theorem dX5_block_13 : decode cX5_block 13 = .ok (.getfield 15, 3) := by decide +kernel
theorem dX5_block_16 : decode cX5_block 16 = .ok (.bipush 6, 2) := by decide +kernel
theorem dX5_block_18 : decode cX5_block 18 = .ok (.iload_n 1, 1) := by decide +kernel
theorem dX5_block_19 : decode cX5_block 19 = .ok (.imul, 1) := by decide +kernel
theorem dX5_block_20 : decode cX5_block 20 = .ok (.iload_n 2, 1) := by decide +kernel
theorem dX5_block_21 : decode cX5_block 21 = .ok (.iadd, 1) := by decide +kernel
theorem dX5_block_22 : decode cX5_block 22 = .ok (.dup2, 1) := by decide +kernel
theorem dX5_block_23 : decode cX5_block 23 = .ok (.iaload, 1) := by decide +kernel
theorem dX5_block_24 : decode cX5_block 24 = .ok (.iload_n 3, 1) := by decide +kernel
theorem dX5_block_25 : decode cX5_block 25 = .ok (.iload 4, 2) := by decide +kernel
theorem dX5_block_27 : decode cX5_block 27 = .ok (.iconst (-1), 1) := by decide +kernel
theorem dX5_block_28 : decode cX5_block 28 = .ok (.ixor, 1) := by decide +kernel
theorem dX5_block_29 : decode cX5_block 29 = .ok (.iand, 1) := by decide +kernel
theorem dX5_block_30 : decode cX5_block 30 = .ok (.ior, 1) := by decide +kernel
theorem dX5_block_31 : decode cX5_block 31 = .ok (.iastore, 1) := by decide +kernel
theorem dX5_block_32 : decode cX5_block 32 = .ok (.iload_n 3, 1) := by decide +kernel
theorem dX5_block_33 : decode cX5_block 33 = .ok (.iload 4, 2) := by decide +kernel
theorem dX5_block_35 : decode cX5_block 35 = .ok (.ior, 1) := by decide +kernel
theorem dX5_block_36 : decode cX5_block 36 = .ok (.ireturn, 1) := by decide +kernel
set_option maxHeartbeats 4000000 in
set_option maxRecDepth 100000 in
theorem c_X5_block {l : Launch} {X : En} (k0 : Nat) (x1 : Int32) (x2 : Int32) (x3 : Int32) (M : Mem) (hk0 : isR k0) (r : Int32) (M9 : Mem) (hf : fn_X5_block k0 x1 x2 x3 M = some (r, M9)) : Cn l X yX5_block cX5_block 5 (some .int) 0 0 [.ref (X.ad k0), .int x1, .int x2, .int x3] M (Qi X r M9) := by
  refine Met.ofW (cc := cX5_block) (maxL := 5) (ret := (some .int)) (by decide) rfl ?_
  intro p e s m args below meth c s₁ B hml hv
  obtain ⟨rfl, hP, hk⟩ := hv
  have hx := B.exec
  have hb := B.bytes
  have hr := B.returns
  have hlocks := B.notSynchronized
  have hts : ∀ w ∈ lw_u, w.before ([.ref (X.ad k0), .int x1, .int x2, .int x3] : List Value).toArray s = true := fun w hw => atoms_spec (ws := Cond.code yX5_block cX5_block 5 (some .int) :: lw_u) B.pre w (List.mem_cons_of_mem _ hw)
  have hown : s.vm.findClass RX5 = some m.cls := findClass_of_methodNamed B.named
  have hZ : Fx p c m s ([.ref (X.ad k0), .int x1, .int x2, .int x3] : List Value).toArray X cX5_block 5 RX5 := ⟨hx, hb, hml, hts, hown, hk⟩
  have hS : va_S X.A s.heap s.heap [] := va_S.rf
  have hl := lv_entry ([.ref (X.ad k0), .int x1, .int x2, .int x3]) (n := 5) (Nat.le_of_ble_eq_true rfl)
  rw [lg_entry_eq]
  generalize (lg_sl ([.ref (X.ad k0), .int x1, .int x2, .int x3]) ++ List.replicate (5 - (lg_sl ([.ref (X.ad k0), .int x1, .int x2, .int x3])).length) Slot.unset).toArray = ls at hl ⊢
  have hl : lv_has ls 5 [(0, .ref (X.ad k0)), (1, .int x1), (2, .int x2), (3, .int x3)] := hl
  show WW p l e 0 0 s m [.ref (X.ad k0), .int x1, .int x2, .int x3] below meth c X (Qi X r M9) s.heap [] 0 ls []
  have hP : wd X M s.heap := hP
  unfold fn_X5_block at hf
  have key : ∀ (H : Heap) (locs : List Loc), wd X M H → va_S X.A s.heap H locs → WW p l e 0 0 s m [.ref (X.ad k0), .int x1, .int x2, .int x3] below meth c X (Qi X r M9) H locs 0 ls [] := by
    intro H locs hP hS
    refine lv_iload_n hx hb dX5_block_0 rfl (lv_at hl 1 rfl) ?_
    refine lv_iconst (v := (-1 : Int32)) hx hb dX5_block_1 (by decide) ?_
    refine lv_icmp_ne (tgt := 7) hx hb dX5_block_2 (by decide) (fun c_1 => ?_) (fun c_1 => ?_)
    · have hf := i_f c_1 hf
      refine lv_iconst (v := (1 : Int32)) hx hb dX5_block_7 (by decide) ?_
      refine lv_iload_n hx hb dX5_block_8 rfl (lv_at hl 1 rfl) ?_
      refine rw_ishl hx hb dX5_block_9 ?_
      refine lv_topi (fun v4_2 e_v4_2 => ?_)
      have hf := b_v hf e_v4_2
      refine lv_istore (lv' := [(4, .int v4_2), (0, .ref (X.ad k0)), (1, .int x1), (2, .int x2), (3, .int x3)]) hx hb dX5_block_10 hl (by decide) rfl (fun ls hl => ?_)
      refine lv_aload_n hx hb dX5_block_12 rfl (lv_at hl 1 rfl) ?_
      refine gX5_1 hx hb hts hown hk hP hk0 wd_1_92 dX5_block_13 ?_
      refine lv_bipush (v := (6 : Int32)) hx hb dX5_block_16 (by decide) ?_
      refine lv_iload_n hx hb dX5_block_18 rfl (lv_at hl 2 rfl) ?_
      refine lv_imul hx hb dX5_block_19 ?_
      refine lv_iload_n hx hb dX5_block_20 rfl (lv_at hl 3 rfl) ?_
      refine lv_iadd hx hb dX5_block_21 ?_
      refine lv_dup2_11 hx hb dX5_block_22 rfl rfl ?_
      obtain ⟨q_3, hf⟩ := g_if hf
      refine ald hx hb hk hP (isR_lt2 hk0) (rd_R2 hk0 _) q_3 dX5_block_23 ?_
      refine lv_iload_n hx hb dX5_block_24 rfl (lv_at hl 4 rfl) ?_
      refine lv_iload hx hb dX5_block_25 (lv_at hl 0 rfl) ?_
      refine lv_iconst (v := (-1 : Int32)) hx hb dX5_block_27 (by decide) ?_
      refine lv_ixor hx hb dX5_block_28 ?_
      refine lv_iand hx hb dX5_block_29 ?_
      refine lv_ior hx hb dX5_block_30 ?_
      obtain ⟨q_5, hf⟩ := g_if hf
      refine ast hx hb hk hP hS (isR_lt2 hk0) (rd_R2 hk0) q_5 dX5_block_31 (fun H locs M_4 e_M_4 hP hS => ?_)
      have hf := b_v hf e_M_4
      refine lv_iload_n hx hb dX5_block_32 rfl (lv_at hl 4 rfl) ?_
      refine lv_iload hx hb dX5_block_33 (lv_at hl 0 rfl) ?_
      refine lv_ior hx hb dX5_block_35 ?_
      have hf := Option.some.inj hf
      obtain ⟨e1, e2⟩ := Prod.mk.inj hf
      rw [e2] at hP
      exact ret_i hx hb hr hlocks hP hS e1 dX5_block_36
    · have hf := i_t c_1 hf
      refine lv_iload_n hx hb dX5_block_5 rfl (lv_at hl 3 rfl) ?_
      have hf := Option.some.inj hf
      obtain ⟨e1, e2⟩ := Prod.mk.inj hf
      rw [e2] at hP
      exact ret_i hx hb hr hlocks hP hS e1 dX5_block_6
  exact key s.heap [] hP hS
theorem hd_X5_block : Hd yX5_block 3 := by decide +kernel
theorem k_X5_block {p : Program} {l : Launch} {e : Env} {R : Room} {s : State} {m : MethodId} {args : Array Value} {below : List Frame} {meth : Method} {c : Code} {H : Heap} {locs : List Loc} {cells slots : Nat} {Q : State → Prop} {cc : ByteArray} {nL pc index : Nat} {ls : Array Slot} {rest : List Value} {X : En} {M : Mem} {H0 : Heap} {own : String} {k0 : Nat} {x1 : Int32} {x2 : Int32} {x3 : Int32} {r : Int32} {M9 : Mem} (hZ : Fx p c m s args X cc nL own) (hP : wd X M H) (hS : va_S X.A H0 H locs) (hsz : ls.size = nL) (hlk : Cond.methodLink own index yX5_block ∈ lw_u) (hR : 0 + 1 ≤ R.frames ∧ 8 + (5 + 11) + 0 ≤ R.locals) (hW : (rest.map fun v => v.category).sum ≤ 8) (hdg : decode cc pc = .ok (.invokevirtual index, 3)) (hcs : cells ≤ R.cells ∧ slots ≤ R.slots) (hk0 : isR k0) (hf : fn_X5_block k0 x1 x2 x3 M = some (r, M9))
    (kk : ∀ (H1 : Heap) (locs1 : List Loc), wd X M9 H1 → va_S X.A H0 H1 locs1 → W p l e R s m args below meth c H1 locs1 cells slots Q (F0 m (pc + 3) ls (.int r :: rest))) : W p l e R s m args below meth c H locs cells slots Q (F0 m pc ls (.int x3 :: .int x2 :: .int x1 :: .ref (X.ad k0) :: rest)) :=
  cal_i (runV (As := [.int x1, .int x2, .int x3]) (rest := rest) hZ.1 hZ.2.1 hZ.2.2.1 hZ.2.2.2.1 hZ.2.2.2.2.1 hZ.2.2.2.2.2 hP (c_X5_block k0 x1 x2 x3 M hk0 r M9 hf) wd_2_208 wd_2_207 wd_p_13 wd_1_4 hd_X5_block (isR_lt0 hk0) (rd_R0 hk0 _) rfl rfl hlk hR hsz rfl hW hdg hcs) hS kk
/-! FrameRaiser$Relations.join -/
def fn_X5_join (k0 : Nat) (x1 : Int32) (x2 : Int32) (x3 : Int32) (M : Mem) : Option (Mem) :=
  if inb (((8 : Int32) * x1) + x2) 64 then
  if inb (((8 : Int32) * x1) + x2) 64 then
  bv (st M (k0 + 1) (ix (((8 : Int32) * x1) + x2)) ((M (k0 + 1) (ix (((8 : Int32) * x1) + x2))) + (1 : Int32))) fun M_2 =>
  if inb (((8 : Int32) * x2) + x1) 64 then
  if inb (((8 : Int32) * x2) + x1) 64 then
  bv (st M_2 (k0 + 1) (ix (((8 : Int32) * x2) + x1)) ((M_2 (k0 + 1) (ix (((8 : Int32) * x2) + x1))) + (1 : Int32))) fun M_5 =>
  if inb x1 8 then
  if inb x1 8 then
  bv (st M_5 (k0 + 3) (ix x1) ((M_5 (k0 + 3) (ix x1)) ||| (sl (1 : Int32) x2))) fun M_8 =>
  if inb x2 8 then
  if inb x2 8 then
  bv (st M_8 (k0 + 3) (ix x2) ((M_8 (k0 + 3) (ix x2)) ||| (sl (1 : Int32) x1))) fun M_11 =>
  if x3 = (2 : Int32) then
    (if inb x2 8 then
    if inb x2 8 then
    bv (st M_11 (k0 + 4) (ix x2) ((M_11 (k0 + 4) (ix x2)) ||| (sl (1 : Int32) x1))) fun M_15 =>
    some M_15
    else none
    else none)
  else
    (some M_11)
  else none
  else none
  else none
  else none
  else none
  else none
  else none
  else none
theorem dX5_join_0 : decode cX5_join 0 = .ok (.aload_n 0, 1) := by decide +kernel
theorem dX5_join_1 : decode cX5_join 1 = .ok (.getfield 9, 3) := by decide +kernel
theorem dX5_join_4 : decode cX5_join 4 = .ok (.bipush 8, 2) := by decide +kernel
theorem dX5_join_6 : decode cX5_join 6 = .ok (.iload_n 1, 1) := by decide +kernel
theorem dX5_join_7 : decode cX5_join 7 = .ok (.imul, 1) := by decide +kernel
theorem dX5_join_8 : decode cX5_join 8 = .ok (.iload_n 2, 1) := by decide +kernel
theorem dX5_join_9 : decode cX5_join 9 = .ok (.iadd, 1) := by decide +kernel
theorem dX5_join_10 : decode cX5_join 10 = .ok (.dup2, 1) := by decide +kernel
theorem dX5_join_11 : decode cX5_join 11 = .ok (.iaload, 1) := by decide +kernel
theorem dX5_join_12 : decode cX5_join 12 = .ok (.iconst 1, 1) := by decide +kernel
theorem dX5_join_13 : decode cX5_join 13 = .ok (.iadd, 1) := by decide +kernel
theorem dX5_join_14 : decode cX5_join 14 = .ok (.iastore, 1) := by decide +kernel
theorem dX5_join_15 : decode cX5_join 15 = .ok (.aload_n 0, 1) := by decide +kernel
theorem dX5_join_16 : decode cX5_join 16 = .ok (.getfield 9, 3) := by decide +kernel
theorem dX5_join_19 : decode cX5_join 19 = .ok (.bipush 8, 2) := by decide +kernel
theorem dX5_join_21 : decode cX5_join 21 = .ok (.iload_n 2, 1) := by decide +kernel
theorem dX5_join_22 : decode cX5_join 22 = .ok (.imul, 1) := by decide +kernel
theorem dX5_join_23 : decode cX5_join 23 = .ok (.iload_n 1, 1) := by decide +kernel
theorem dX5_join_24 : decode cX5_join 24 = .ok (.iadd, 1) := by decide +kernel
theorem dX5_join_25 : decode cX5_join 25 = .ok (.dup2, 1) := by decide +kernel
theorem dX5_join_26 : decode cX5_join 26 = .ok (.iaload, 1) := by decide +kernel
theorem dX5_join_27 : decode cX5_join 27 = .ok (.iconst 1, 1) := by decide +kernel
theorem dX5_join_28 : decode cX5_join 28 = .ok (.iadd, 1) := by decide +kernel
theorem dX5_join_29 : decode cX5_join 29 = .ok (.iastore, 1) := by decide +kernel
theorem dX5_join_30 : decode cX5_join 30 = .ok (.aload_n 0, 1) := by decide +kernel
theorem dX5_join_31 : decode cX5_join 31 = .ok (.getfield 18, 3) := by decide +kernel
theorem dX5_join_34 : decode cX5_join 34 = .ok (.iload_n 1, 1) := by decide +kernel
theorem dX5_join_35 : decode cX5_join 35 = .ok (.dup2, 1) := by decide +kernel
theorem dX5_join_36 : decode cX5_join 36 = .ok (.iaload, 1) := by decide +kernel
theorem dX5_join_37 : decode cX5_join 37 = .ok (.iconst 1, 1) := by decide +kernel
theorem dX5_join_38 : decode cX5_join 38 = .ok (.iload_n 2, 1) := by decide +kernel
theorem dX5_join_39 : decode cX5_join 39 = .ok (.ishl, 1) := by decide +kernel
theorem dX5_join_40 : decode cX5_join 40 = .ok (.ior, 1) := by decide +kernel
theorem dX5_join_41 : decode cX5_join 41 = .ok (.iastore, 1) := by decide +kernel
theorem dX5_join_42 : decode cX5_join 42 = .ok (.aload_n 0, 1) := by decide +kernel
theorem dX5_join_43 : decode cX5_join 43 = .ok (.getfield 18, 3) := by decide +kernel
theorem dX5_join_46 : decode cX5_join 46 = .ok (.iload_n 2, 1) := by decide +kernel
theorem dX5_join_47 : decode cX5_join 47 = .ok (.dup2, 1) := by decide +kernel
theorem dX5_join_48 : decode cX5_join 48 = .ok (.iaload, 1) := by decide +kernel
theorem dX5_join_49 : decode cX5_join 49 = .ok (.iconst 1, 1) := by decide +kernel
theorem dX5_join_50 : decode cX5_join 50 = .ok (.iload_n 1, 1) := by decide +kernel
theorem dX5_join_51 : decode cX5_join 51 = .ok (.ishl, 1) := by decide +kernel
theorem dX5_join_52 : decode cX5_join 52 = .ok (.ior, 1) := by decide +kernel
theorem dX5_join_53 : decode cX5_join 53 = .ok (.iastore, 1) := by decide +kernel
theorem dX5_join_54 : decode cX5_join 54 = .ok (.iload_n 3, 1) := by decide +kernel
theorem dX5_join_55 : decode cX5_join 55 = .ok (.iconst 2, 1) := by decide +kernel
theorem dX5_join_56 : decode cX5_join 56 = .ok (.if_icmp .ne 15, 3) := by decide +kernel
theorem dX5_join_59 : decode cX5_join 59 = .ok (.aload_n 0, 1) := by decide +kernel
theorem dX5_join_60 : decode cX5_join 60 = .ok (.getfield 21, 3) := by decide +kernel
theorem dX5_join_63 : decode cX5_join 63 = .ok (.iload_n 2, 1) := by decide +kernel
theorem dX5_join_64 : decode cX5_join 64 = .ok (.dup2, 1) := by decide +kernel
theorem dX5_join_65 : decode cX5_join 65 = .ok (.iaload, 1) := by decide +kernel
theorem dX5_join_66 : decode cX5_join 66 = .ok (.iconst 1, 1) := by decide +kernel
theorem dX5_join_67 : decode cX5_join 67 = .ok (.iload_n 1, 1) := by decide +kernel
theorem dX5_join_68 : decode cX5_join 68 = .ok (.ishl, 1) := by decide +kernel
theorem dX5_join_69 : decode cX5_join 69 = .ok (.ior, 1) := by decide +kernel
theorem dX5_join_70 : decode cX5_join 70 = .ok (.iastore, 1) := by decide +kernel
theorem dX5_join_71 : decode cX5_join 71 = .ok (.return_, 1) := by decide +kernel
set_option maxHeartbeats 4000000 in
set_option maxRecDepth 100000 in
theorem c_X5_join {l : Launch} {X : En} (k0 : Nat) (x1 : Int32) (x2 : Int32) (x3 : Int32) (M : Mem) (hk0 : isR k0) (M9 : Mem) (hf : fn_X5_join k0 x1 x2 x3 M = some M9) : Cn l X yX5_join cX5_join 4 none 0 0 [.ref (X.ad k0), .int x1, .int x2, .int x3] M (Qv X M9) := by
  refine Met.ofW (cc := cX5_join) (maxL := 4) (ret := none) (by decide) rfl ?_
  intro p e s m args below meth c s₁ B hml hv
  obtain ⟨rfl, hP, hk⟩ := hv
  have hx := B.exec
  have hb := B.bytes
  have hr := B.returns
  have hlocks := B.notSynchronized
  have hts : ∀ w ∈ lw_u, w.before ([.ref (X.ad k0), .int x1, .int x2, .int x3] : List Value).toArray s = true := fun w hw => atoms_spec (ws := Cond.code yX5_join cX5_join 4 none :: lw_u) B.pre w (List.mem_cons_of_mem _ hw)
  have hown : s.vm.findClass RX5 = some m.cls := findClass_of_methodNamed B.named
  have hZ : Fx p c m s ([.ref (X.ad k0), .int x1, .int x2, .int x3] : List Value).toArray X cX5_join 4 RX5 := ⟨hx, hb, hml, hts, hown, hk⟩
  have hS : va_S X.A s.heap s.heap [] := va_S.rf
  have hl := lv_entry ([.ref (X.ad k0), .int x1, .int x2, .int x3]) (n := 4) (Nat.le_of_ble_eq_true rfl)
  rw [lg_entry_eq]
  generalize (lg_sl ([.ref (X.ad k0), .int x1, .int x2, .int x3]) ++ List.replicate (4 - (lg_sl ([.ref (X.ad k0), .int x1, .int x2, .int x3])).length) Slot.unset).toArray = ls at hl ⊢
  have hl : lv_has ls 4 [(0, .ref (X.ad k0)), (1, .int x1), (2, .int x2), (3, .int x3)] := hl
  show WW p l e 0 0 s m [.ref (X.ad k0), .int x1, .int x2, .int x3] below meth c X (Qv X M9) s.heap [] 0 ls []
  have hP : wd X M s.heap := hP
  unfold fn_X5_join at hf
  have key : ∀ (H : Heap) (locs : List Loc), wd X M H → va_S X.A s.heap H locs → WW p l e 0 0 s m [.ref (X.ad k0), .int x1, .int x2, .int x3] below meth c X (Qv X M9) H locs 0 ls [] := by
    intro H locs hP hS
    refine lv_aload_n hx hb dX5_join_0 rfl (lv_at hl 0 rfl) ?_
    refine gX5_0 hx hb hts hown hk hP hk0 wd_1_90 dX5_join_1 ?_
    refine lv_bipush (v := (8 : Int32)) hx hb dX5_join_4 (by decide) ?_
    refine lv_iload_n hx hb dX5_join_6 rfl (lv_at hl 1 rfl) ?_
    refine lv_imul hx hb dX5_join_7 ?_
    refine lv_iload_n hx hb dX5_join_8 rfl (lv_at hl 2 rfl) ?_
    refine lv_iadd hx hb dX5_join_9 ?_
    refine lv_dup2_11 hx hb dX5_join_10 rfl rfl ?_
    obtain ⟨q_1, hf⟩ := g_if hf
    refine ald hx hb hk hP (isR_lt1 hk0) (rd_R1 hk0 _) q_1 dX5_join_11 ?_
    refine lv_iconst (v := (1 : Int32)) hx hb dX5_join_12 (by decide) ?_
    refine lv_iadd hx hb dX5_join_13 ?_
    obtain ⟨q_3, hf⟩ := g_if hf
    refine ast hx hb hk hP hS (isR_lt1 hk0) (rd_R1 hk0) q_3 dX5_join_14 (fun H locs M_2 e_M_2 hP hS => ?_)
    have hf := b_v hf e_M_2
    refine lv_aload_n hx hb dX5_join_15 rfl (lv_at hl 0 rfl) ?_
    refine gX5_0 hx hb hts hown hk hP hk0 wd_1_90 dX5_join_16 ?_
    refine lv_bipush (v := (8 : Int32)) hx hb dX5_join_19 (by decide) ?_
    refine lv_iload_n hx hb dX5_join_21 rfl (lv_at hl 2 rfl) ?_
    refine lv_imul hx hb dX5_join_22 ?_
    refine lv_iload_n hx hb dX5_join_23 rfl (lv_at hl 1 rfl) ?_
    refine lv_iadd hx hb dX5_join_24 ?_
    refine lv_dup2_11 hx hb dX5_join_25 rfl rfl ?_
    obtain ⟨q_4, hf⟩ := g_if hf
    refine ald hx hb hk hP (isR_lt1 hk0) (rd_R1 hk0 _) q_4 dX5_join_26 ?_
    refine lv_iconst (v := (1 : Int32)) hx hb dX5_join_27 (by decide) ?_
    refine lv_iadd hx hb dX5_join_28 ?_
    obtain ⟨q_6, hf⟩ := g_if hf
    refine ast hx hb hk hP hS (isR_lt1 hk0) (rd_R1 hk0) q_6 dX5_join_29 (fun H locs M_5 e_M_5 hP hS => ?_)
    have hf := b_v hf e_M_5
    refine lv_aload_n hx hb dX5_join_30 rfl (lv_at hl 0 rfl) ?_
    refine gX5_2 hx hb hts hown hk hP hk0 wd_1_93 dX5_join_31 ?_
    refine lv_iload_n hx hb dX5_join_34 rfl (lv_at hl 1 rfl) ?_
    refine lv_dup2_11 hx hb dX5_join_35 rfl rfl ?_
    obtain ⟨q_7, hf⟩ := g_if hf
    refine ald hx hb hk hP (isR_lt3 hk0) (rd_R3 hk0 _) q_7 dX5_join_36 ?_
    refine lv_iconst (v := (1 : Int32)) hx hb dX5_join_37 (by decide) ?_
    refine lv_iload_n hx hb dX5_join_38 rfl (lv_at hl 2 rfl) ?_
    refine rw_ishl hx hb dX5_join_39 ?_
    refine lv_ior hx hb dX5_join_40 ?_
    obtain ⟨q_9, hf⟩ := g_if hf
    refine ast hx hb hk hP hS (isR_lt3 hk0) (rd_R3 hk0) q_9 dX5_join_41 (fun H locs M_8 e_M_8 hP hS => ?_)
    have hf := b_v hf e_M_8
    refine lv_aload_n hx hb dX5_join_42 rfl (lv_at hl 0 rfl) ?_
    refine gX5_2 hx hb hts hown hk hP hk0 wd_1_93 dX5_join_43 ?_
    refine lv_iload_n hx hb dX5_join_46 rfl (lv_at hl 2 rfl) ?_
    refine lv_dup2_11 hx hb dX5_join_47 rfl rfl ?_
    obtain ⟨q_10, hf⟩ := g_if hf
    refine ald hx hb hk hP (isR_lt3 hk0) (rd_R3 hk0 _) q_10 dX5_join_48 ?_
    refine lv_iconst (v := (1 : Int32)) hx hb dX5_join_49 (by decide) ?_
    refine lv_iload_n hx hb dX5_join_50 rfl (lv_at hl 1 rfl) ?_
    refine rw_ishl hx hb dX5_join_51 ?_
    refine lv_ior hx hb dX5_join_52 ?_
    obtain ⟨q_12, hf⟩ := g_if hf
    refine ast hx hb hk hP hS (isR_lt3 hk0) (rd_R3 hk0) q_12 dX5_join_53 (fun H locs M_11 e_M_11 hP hS => ?_)
    have hf := b_v hf e_M_11
    refine lv_iload_n hx hb dX5_join_54 rfl (lv_at hl 3 rfl) ?_
    refine lv_iconst (v := (2 : Int32)) hx hb dX5_join_55 (by decide) ?_
    refine lv_icmp_ne (tgt := 71) hx hb dX5_join_56 (by decide) (fun c_13 => ?_) (fun c_13 => ?_)
    · have hf := i_f c_13 hf
      have hf := Option.some.inj hf
      rw [hf] at hP
      exact ret_v hx hb hr hlocks hP hS dX5_join_71
    · have hf := i_t c_13 hf
      refine lv_aload_n hx hb dX5_join_59 rfl (lv_at hl 0 rfl) ?_
      refine gX5_3 hx hb hts hown hk hP hk0 wd_1_94 dX5_join_60 ?_
      refine lv_iload_n hx hb dX5_join_63 rfl (lv_at hl 2 rfl) ?_
      refine lv_dup2_11 hx hb dX5_join_64 rfl rfl ?_
      obtain ⟨q_14, hf⟩ := g_if hf
      refine ald hx hb hk hP (isR_lt4 hk0) (rd_R4 hk0 _) q_14 dX5_join_65 ?_
      refine lv_iconst (v := (1 : Int32)) hx hb dX5_join_66 (by decide) ?_
      refine lv_iload_n hx hb dX5_join_67 rfl (lv_at hl 1 rfl) ?_
      refine rw_ishl hx hb dX5_join_68 ?_
      refine lv_ior hx hb dX5_join_69 ?_
      obtain ⟨q_16, hf⟩ := g_if hf
      refine ast hx hb hk hP hS (isR_lt4 hk0) (rd_R4 hk0) q_16 dX5_join_70 (fun H locs M_15 e_M_15 hP hS => ?_)
      have hf := b_v hf e_M_15
      have hf := Option.some.inj hf
      rw [hf] at hP
      exact ret_v hx hb hr hlocks hP hS dX5_join_71
  exact key s.heap [] hP hS
theorem hd_X5_join : Hd yX5_join 3 := by decide +kernel
theorem k_X5_join {p : Program} {l : Launch} {e : Env} {R : Room} {s : State} {m : MethodId} {args : Array Value} {below : List Frame} {meth : Method} {c : Code} {H : Heap} {locs : List Loc} {cells slots : Nat} {Q : State → Prop} {cc : ByteArray} {nL pc index : Nat} {ls : Array Slot} {rest : List Value} {X : En} {M : Mem} {H0 : Heap} {own : String} {k0 : Nat} {x1 : Int32} {x2 : Int32} {x3 : Int32} {M9 : Mem} (hZ : Fx p c m s args X cc nL own) (hP : wd X M H) (hS : va_S X.A H0 H locs) (hsz : ls.size = nL) (hlk : Cond.methodLink own index yX5_join ∈ lw_u) (hR : 0 + 1 ≤ R.frames ∧ 8 + (4 + 11) + 0 ≤ R.locals) (hW : (rest.map fun v => v.category).sum ≤ 8) (hdg : decode cc pc = .ok (.invokevirtual index, 3)) (hcs : cells ≤ R.cells ∧ slots ≤ R.slots) (hk0 : isR k0) (hf : fn_X5_join k0 x1 x2 x3 M = some M9)
    (kk : ∀ (H1 : Heap) (locs1 : List Loc), wd X M9 H1 → va_S X.A H0 H1 locs1 → W p l e R s m args below meth c H1 locs1 cells slots Q (F0 m (pc + 3) ls rest)) : W p l e R s m args below meth c H locs cells slots Q (F0 m pc ls (.int x3 :: .int x2 :: .int x1 :: .ref (X.ad k0) :: rest)) :=
  cal_v (runV (As := [.int x1, .int x2, .int x3]) (rest := rest) hZ.1 hZ.2.1 hZ.2.2.1 hZ.2.2.2.1 hZ.2.2.2.2.1 hZ.2.2.2.2.2 hP (c_X5_join k0 x1 x2 x3 M hk0 M9 hf) wd_2_212 wd_2_211 wd_p_14 wd_1_4 hd_X5_join (isR_lt0 hk0) (rd_R0 hk0 _) rfl rfl hlk hR hsz rfl hW hdg hcs) hS kk
/-! FrameRaiser$Relations.readLine -/
def jn_X5_readLine_107 (v5_17 : Int32) (v6_18 : Int32) (v8_19 : Int32) (v9_20 : Int32) (M_21 : Mem) : Option ((Int32 × Int32 × Int32 × Int32 × Mem) ⊕ (Mem)) :=
  some (.inl (v5_17, v6_18, v9_20, v8_19 + (1 : Int32), M_21))
def bd_X5_readLine_18 (k0 : Nat) (k1 : Nat) (v4_1 : Int32) (x2 : Int32) (x3 : Int32) : (Int32 × Int32 × Int32 × Int32 × Mem) → Option ((Int32 × Int32 × Int32 × Int32 × Mem) ⊕ (Mem)) :=
  u5 fun v5_5 v6_4 v7_3 v8_2 M_6 =>
  if (6 : Int32) ≤ v8_2 then
    (some (.inr M_6))
  else
    (if inb (x3 + (v8_2 * v4_1)) 216 then
    bv (M_6 (k1 + 1) (ix (x3 + (v8_2 * v4_1)))) fun v9_10 =>
    (fn_X5_block k0 v9_10 (((2 : Int32) * x2) + (1 : Int32)) v5_5 M_6).bind (u2 fun r_11 M_12 =>
    if inb (x3 + (((5 : Int32) - v8_2) * v4_1)) 216 then
    (fn_X5_block k0 (M_12 (k1 + 1) (ix (x3 + (((5 : Int32) - v8_2) * v4_1)))) ((2 : Int32) * x2) v6_4 M_12).bind (u2 fun r_14 M_15 =>
    if v9_10 = (-1 : Int32) then
      (jn_X5_readLine_107 r_11 r_14 v8_2 v9_10 M_15)
    else
      (if v7_3 = (-1 : Int32) then
        (jn_X5_readLine_107 r_11 r_14 v8_2 v9_10 M_15)
      else
        (if v9_10 = v7_3 then
          (jn_X5_readLine_107 r_11 r_14 v8_2 v9_10 M_15)
        else
          ((fn_X5_join k0 v7_3 v9_10 x2 M_15).bind fun M_24 =>
          jn_X5_readLine_107 r_11 r_14 v8_2 v9_10 M_24))))
    else none)
    else none)
def fn_X5_readLine (g : Nat) (k0 : Nat) (k1 : Nat) (x2 : Int32) (x3 : Int32) (M : Mem) : Option (Mem) :=
  bv (fn_X7_stride x2) fun v4_1 =>
  (lpN g (bd_X5_readLine_18 k0 k1 v4_1 x2 x3) ((0 : Int32), (0 : Int32), (-1 : Int32), (0 : Int32), M)).bind (u1 fun M_7 =>
    some M_7)
theorem dX5_readLine_0 : decode cX5_readLine 0 = .ok (.iload_n 2, 1) := by decide +kernel
theorem dX5_readLine_1 : decode cX5_readLine 1 = .ok (.invokestatic 48, 3) := by decide +kernel
theorem dX5_readLine_4 : decode cX5_readLine 4 = .ok (.istore 4, 2) := by decide +kernel
theorem dX5_readLine_6 : decode cX5_readLine 6 = .ok (.iconst 0, 1) := by decide +kernel
theorem dX5_readLine_7 : decode cX5_readLine 7 = .ok (.istore 5, 2) := by decide +kernel
theorem dX5_readLine_9 : decode cX5_readLine 9 = .ok (.iconst 0, 1) := by decide +kernel
theorem dX5_readLine_10 : decode cX5_readLine 10 = .ok (.istore 6, 2) := by decide +kernel
theorem dX5_readLine_12 : decode cX5_readLine 12 = .ok (.iconst (-1), 1) := by decide +kernel
theorem dX5_readLine_13 : decode cX5_readLine 13 = .ok (.istore 7, 2) := by decide +kernel
theorem dX5_readLine_15 : decode cX5_readLine 15 = .ok (.iconst 0, 1) := by decide +kernel
theorem dX5_readLine_16 : decode cX5_readLine 16 = .ok (.istore 8, 2) := by decide +kernel
theorem dX5_readLine_18 : decode cX5_readLine 18 = .ok (.iload 8, 2) := by decide +kernel
theorem dX5_readLine_20 : decode cX5_readLine 20 = .ok (.bipush 6, 2) := by decide +kernel
theorem dX5_readLine_22 : decode cX5_readLine 22 = .ok (.if_icmp .ge 95, 3) := by decide +kernel
theorem dX5_readLine_25 : decode cX5_readLine 25 = .ok (.aload_n 1, 1) := by decide +kernel
theorem dX5_readLine_26 : decode cX5_readLine 26 = .ok (.getfield 34, 3) := by decide +kernel
theorem dX5_readLine_29 : decode cX5_readLine 29 = .ok (.iload_n 3, 1) := by decide +kernel
theorem dX5_readLine_30 : decode cX5_readLine 30 = .ok (.iload 8, 2) := by decide +kernel
theorem dX5_readLine_32 : decode cX5_readLine 32 = .ok (.iload 4, 2) := by decide +kernel
theorem dX5_readLine_34 : decode cX5_readLine 34 = .ok (.imul, 1) := by decide +kernel
theorem dX5_readLine_35 : decode cX5_readLine 35 = .ok (.iadd, 1) := by decide +kernel
theorem dX5_readLine_36 : decode cX5_readLine 36 = .ok (.iaload, 1) := by decide +kernel
theorem dX5_readLine_37 : decode cX5_readLine 37 = .ok (.istore 9, 2) := by decide +kernel
theorem dX5_readLine_39 : decode cX5_readLine 39 = .ok (.aload_n 0, 1) := by decide +kernel
theorem dX5_readLine_40 : decode cX5_readLine 40 = .ok (.iload 9, 2) := by decide +kernel
theorem dX5_readLine_42 : decode cX5_readLine 42 = .ok (.iconst 2, 1) := by decide +kernel
theorem dX5_readLine_43 : decode cX5_readLine 43 = .ok (.iload_n 2, 1) := by decide +kernel
theorem dX5_readLine_44 : decode cX5_readLine 44 = .ok (.imul, 1) := by decide +kernel
theorem dX5_readLine_45 : decode cX5_readLine 45 = .ok (.iconst 1, 1) := by decide +kernel
theorem dX5_readLine_46 : decode cX5_readLine 46 = .ok (.iadd, 1) := by decide +kernel
theorem dX5_readLine_47 : decode cX5_readLine 47 = .ok (.iload 5, 2) := by decide +kernel
theorem dX5_readLine_49 : decode cX5_readLine 49 = .ok (.invokevirtual 52, 3) := by decide +kernel
theorem dX5_readLine_52 : decode cX5_readLine 52 = .ok (.istore 5, 2) := by decide +kernel
theorem dX5_readLine_54 : decode cX5_readLine 54 = .ok (.aload_n 0, 1) := by decide +kernel
theorem dX5_readLine_55 : decode cX5_readLine 55 = .ok (.aload_n 1, 1) := by decide +kernel
theorem dX5_readLine_56 : decode cX5_readLine 56 = .ok (.getfield 34, 3) := by decide +kernel
theorem dX5_readLine_59 : decode cX5_readLine 59 = .ok (.iload_n 3, 1) := by decide +kernel
theorem dX5_readLine_60 : decode cX5_readLine 60 = .ok (.iconst 5, 1) := by decide +kernel
theorem dX5_readLine_61 : decode cX5_readLine 61 = .ok (.iload 8, 2) := by decide +kernel
theorem dX5_readLine_63 : decode cX5_readLine 63 = .ok (.isub, 1) := by decide +kernel
theorem dX5_readLine_64 : decode cX5_readLine 64 = .ok (.iload 4, 2) := by decide +kernel
theorem dX5_readLine_66 : decode cX5_readLine 66 = .ok (.imul, 1) := by decide +kernel
theorem dX5_readLine_67 : decode cX5_readLine 67 = .ok (.iadd, 1) := by decide +kernel
theorem dX5_readLine_68 : decode cX5_readLine 68 = .ok (.iaload, 1) := by decide +kernel
theorem dX5_readLine_69 : decode cX5_readLine 69 = .ok (.iconst 2, 1) := by decide +kernel
theorem dX5_readLine_70 : decode cX5_readLine 70 = .ok (.iload_n 2, 1) := by decide +kernel
theorem dX5_readLine_71 : decode cX5_readLine 71 = .ok (.imul, 1) := by decide +kernel
theorem dX5_readLine_72 : decode cX5_readLine 72 = .ok (.iload 6, 2) := by decide +kernel
theorem dX5_readLine_74 : decode cX5_readLine 74 = .ok (.invokevirtual 52, 3) := by decide +kernel
theorem dX5_readLine_77 : decode cX5_readLine 77 = .ok (.istore 6, 2) := by decide +kernel
theorem dX5_readLine_79 : decode cX5_readLine 79 = .ok (.iload 9, 2) := by decide +kernel
theorem dX5_readLine_81 : decode cX5_readLine 81 = .ok (.iconst (-1), 1) := by decide +kernel
theorem dX5_readLine_82 : decode cX5_readLine 82 = .ok (.if_icmp .eq 25, 3) := by decide +kernel
theorem dX5_readLine_85 : decode cX5_readLine 85 = .ok (.iload 7, 2) := by decide +kernel
theorem dX5_readLine_87 : decode cX5_readLine 87 = .ok (.iconst (-1), 1) := by decide +kernel
theorem dX5_readLine_88 : decode cX5_readLine 88 = .ok (.if_icmp .eq 19, 3) := by decide +kernel
theorem dX5_readLine_91 : decode cX5_readLine 91 = .ok (.iload 9, 2) := by decide +kernel
theorem dX5_readLine_93 : decode cX5_readLine 93 = .ok (.iload 7, 2) := by decide +kernel
theorem dX5_readLine_95 : decode cX5_readLine 95 = .ok (.if_icmp .eq 12, 3) := by decide +kernel
theorem dX5_readLine_98 : decode cX5_readLine 98 = .ok (.aload_n 0, 1) := by decide +kernel
theorem dX5_readLine_99 : decode cX5_readLine 99 = .ok (.iload 7, 2) := by decide +kernel
theorem dX5_readLine_101 : decode cX5_readLine 101 = .ok (.iload 9, 2) := by decide +kernel
theorem dX5_readLine_103 : decode cX5_readLine 103 = .ok (.iload_n 2, 1) := by decide +kernel
theorem dX5_readLine_104 : decode cX5_readLine 104 = .ok (.invokevirtual 56, 3) := by decide +kernel
theorem dX5_readLine_107 : decode cX5_readLine 107 = .ok (.iload 9, 2) := by decide +kernel
theorem dX5_readLine_109 : decode cX5_readLine 109 = .ok (.istore 7, 2) := by decide +kernel
theorem dX5_readLine_111 : decode cX5_readLine 111 = .ok (.iinc 8 1, 3) := by decide +kernel
theorem dX5_readLine_114 : decode cX5_readLine 114 = .ok (.goto (-96), 3) := by decide +kernel
theorem dX5_readLine_117 : decode cX5_readLine 117 = .ok (.return_, 1) := by decide +kernel
set_option maxHeartbeats 4000000 in
set_option maxRecDepth 100000 in
theorem c_X5_readLine {l : Launch} {X : En} (g : Nat) (k0 : Nat) (k1 : Nat) (x2 : Int32) (x3 : Int32) (M : Mem) (hk0 : isR k0) (hk1 : isF k1) (M9 : Mem) (hf : fn_X5_readLine g k0 k1 x2 x3 M = some M9) : Cn l X yX5_readLine cX5_readLine 10 none 1 24 [.ref (X.ad k0), .ref (X.ad k1), .int x2, .int x3] M (Qv X M9) := by
  refine Met.ofW (cc := cX5_readLine) (maxL := 10) (ret := none) (by decide) rfl ?_
  intro p e s m args below meth c s₁ B hml hv
  obtain ⟨rfl, hP, hk⟩ := hv
  have hx := B.exec
  have hb := B.bytes
  have hr := B.returns
  have hlocks := B.notSynchronized
  have hts : ∀ w ∈ lw_u, w.before ([.ref (X.ad k0), .ref (X.ad k1), .int x2, .int x3] : List Value).toArray s = true := fun w hw => atoms_spec (ws := Cond.code yX5_readLine cX5_readLine 10 none :: lw_u) B.pre w (List.mem_cons_of_mem _ hw)
  have hown : s.vm.findClass RX5 = some m.cls := findClass_of_methodNamed B.named
  have hZ : Fx p c m s ([.ref (X.ad k0), .ref (X.ad k1), .int x2, .int x3] : List Value).toArray X cX5_readLine 10 RX5 := ⟨hx, hb, hml, hts, hown, hk⟩
  have hS : va_S X.A s.heap s.heap [] := va_S.rf
  have hl := lv_entry ([.ref (X.ad k0), .ref (X.ad k1), .int x2, .int x3]) (n := 10) (Nat.le_of_ble_eq_true rfl)
  rw [lg_entry_eq]
  generalize (lg_sl ([.ref (X.ad k0), .ref (X.ad k1), .int x2, .int x3]) ++ List.replicate (10 - (lg_sl ([.ref (X.ad k0), .ref (X.ad k1), .int x2, .int x3])).length) Slot.unset).toArray = ls at hl ⊢
  have hl : lv_has ls 10 [(0, .ref (X.ad k0)), (1, .ref (X.ad k1)), (2, .int x2), (3, .int x3)] := hl
  show WW p l e 1 24 s m [.ref (X.ad k0), .ref (X.ad k1), .int x2, .int x3] below meth c X (Qv X M9) s.heap [] 0 ls []
  have hP : wd X M s.heap := hP
  unfold fn_X5_readLine at hf
  have key : ∀ (H : Heap) (locs : List Loc), wd X M H → va_S X.A s.heap H locs → WW p l e 1 24 s m [.ref (X.ad k0), .ref (X.ad k1), .int x2, .int x3] below meth c X (Qv X M9) H locs 0 ls [] := by
    intro H locs hP hS
    refine lv_iload_n hx hb dX5_readLine_0 rfl (lv_at hl 2 rfl) ?_
    refine kn_X7_stride hZ hP hS hl.1 (nest_9 hk.2.1) ⟨Nat.le_of_ble_eq_true rfl, Nat.le_of_ble_eq_true rfl⟩ (Nat.le_of_ble_eq_true rfl) dX5_readLine_1 ⟨Nat.zero_le _, Nat.zero_le _⟩ (fun H locs hP hS => ?_)
    refine lv_topi (fun v4_1 e_v4_1 => ?_)
    have hf := b_v hf e_v4_1
    refine lv_istore (lv' := [(4, .int v4_1), (0, .ref (X.ad k0)), (1, .ref (X.ad k1)), (2, .int x2), (3, .int x3)]) hx hb dX5_readLine_4 hl (by decide) rfl (fun ls hl => ?_)
    refine lv_iconst (v := (0 : Int32)) hx hb dX5_readLine_6 (by decide) ?_
    refine lv_istore (lv' := [(5, .int (0 : Int32)), (4, .int v4_1), (0, .ref (X.ad k0)), (1, .ref (X.ad k1)), (2, .int x2), (3, .int x3)]) hx hb dX5_readLine_7 hl (by decide) rfl (fun ls hl => ?_)
    refine lv_iconst (v := (0 : Int32)) hx hb dX5_readLine_9 (by decide) ?_
    refine lv_istore (lv' := [(6, .int (0 : Int32)), (5, .int (0 : Int32)), (4, .int v4_1), (0, .ref (X.ad k0)), (1, .ref (X.ad k1)), (2, .int x2), (3, .int x3)]) hx hb dX5_readLine_10 hl (by decide) rfl (fun ls hl => ?_)
    refine lv_iconst (v := (-1 : Int32)) hx hb dX5_readLine_12 (by decide) ?_
    refine lv_istore (lv' := [(7, .int (-1 : Int32)), (6, .int (0 : Int32)), (5, .int (0 : Int32)), (4, .int v4_1), (0, .ref (X.ad k0)), (1, .ref (X.ad k1)), (2, .int x2), (3, .int x3)]) hx hb dX5_readLine_13 hl (by decide) rfl (fun ls hl => ?_)
    refine lv_iconst (v := (0 : Int32)) hx hb dX5_readLine_15 (by decide) ?_
    refine lv_istore (lv' := [(8, .int (0 : Int32)), (7, .int (-1 : Int32)), (6, .int (0 : Int32)), (5, .int (0 : Int32)), (4, .int v4_1), (0, .ref (X.ad k0)), (1, .ref (X.ad k1)), (2, .int x2), (3, .int x3)]) hx hb dX5_readLine_16 hl (by decide) rfl (fun ls hl => ?_)
    obtain ⟨o18, ho18, hf⟩ := b_d hf
    refine lp_rule (b := bd_X5_readLine_18 k0 k1 v4_1 x2 x3) (P := fun w : Int32 × Int32 × Int32 × Int32 × Mem => ∀ (H : Heap) (locs : List Loc) (ls : Array Slot), wd X w.2.2.2.2 H → va_S X.A s.heap H locs → lv_has ls 10 [(8, .int w.2.2.2.1), (7, .int w.2.2.1), (6, .int w.2.1), (5, .int w.1), (4, .int v4_1), (0, .ref (X.ad k0)), (1, .ref (X.ad k1)), (2, .int x2), (3, .int x3)] → WW p l e 1 24 s m [.ref (X.ad k0), .ref (X.ad k1), .int x2, .int x3] below meth c X (Qv X M9) H locs 18 ls []) (K := fun o => ∀ (M_7 : Mem), o = M_7 → ∀ (H : Heap) (locs : List Loc) (ls : Array Slot), wd X M_7 H → va_S X.A s.heap H locs → lv_has ls 10 [] → WW p l e 1 24 s m [.ref (X.ad k0), .ref (X.ad k1), .int x2, .int x3] below meth c X (Qv X M9) H locs 117 ls []) ?_ g ((0 : Int32), (0 : Int32), (-1 : Int32), (0 : Int32), M) o18 ho18 ?_ H locs ls hP hS (lv_sub hl [0, 1, 2, 3, 4, 5, 6, 7, 8] rfl)
    · rintro ⟨v5_5, v6_4, v7_3, v8_2, M_6⟩ o hf hkc18 hke18 H locs ls hP hS hl
      have hf := u5_e hf
      have jn107 : ∀ (v5_17 : Int32) (v6_18 : Int32) (v8_19 : Int32) (v9_20 : Int32) (M_21 : Mem), jn_X5_readLine_107 v5_17 v6_18 v8_19 v9_20 M_21 = some o → ∀ (H : Heap) (locs : List Loc) (ls : Array Slot), wd X M_21 H → va_S X.A s.heap H locs → lv_has ls 10 [(0, .ref (X.ad k0)), (1, .ref (X.ad k1)), (2, .int x2), (3, .int x3), (4, .int v4_1), (5, .int v5_17), (6, .int v6_18), (8, .int v8_19), (9, .int v9_20)] → WW p l e 1 24 s m [.ref (X.ad k0), .ref (X.ad k1), .int x2, .int x3] below meth c X (Qv X M9) H locs 107 ls [] := by
        intro v5_17 v6_18 v8_19 v9_20 M_21 hf H locs ls hP hS hl
        unfold jn_X5_readLine_107 at hf
        refine lv_iload hx hb dX5_readLine_107 (lv_at hl 8 rfl) ?_
        refine lv_istore (lv' := [(7, .int v9_20), (0, .ref (X.ad k0)), (1, .ref (X.ad k1)), (2, .int x2), (3, .int x3), (4, .int v4_1), (5, .int v5_17), (6, .int v6_18), (8, .int v8_19), (9, .int v9_20)]) hx hb dX5_readLine_109 hl (by decide) rfl (fun ls hl => ?_)
        refine lv_iinc (v := v8_19 + (1 : Int32)) (lv' := [(8, .int (v8_19 + (1 : Int32))), (7, .int v9_20), (0, .ref (X.ad k0)), (1, .ref (X.ad k1)), (2, .int x2), (3, .int x3), (4, .int v4_1), (5, .int v5_17), (6, .int v6_18), (9, .int v9_20)]) hx hb dX5_readLine_111 hl (k := 8) rfl rfl (by decide) rfl (fun ls hl => ?_)
        refine lv_goto (tgt := 18) hx hb dX5_readLine_114 (by decide) ?_
        exact hkc18 _ (Option.some.inj hf).symm H locs ls hP hS (lv_sub hl [0, 1, 8, 7, 6, 2, 3, 4, 5] rfl)
      refine lv_iload hx hb dX5_readLine_18 (lv_at hl 0 rfl) ?_
      refine lv_bipush (v := (6 : Int32)) hx hb dX5_readLine_20 (by decide) ?_
      refine lv_icmp_ge (tgt := 117) hx hb dX5_readLine_22 (by decide) (fun c_8 => ?_) (fun c_8 => ?_)
      · have hf := i_t c_8 hf
        exact hke18 _ (Option.some.inj hf).symm _ rfl H locs ls hP hS (lv_sub hl [] rfl)
      · have hf := i_f c_8 hf
        refine lv_aload_n hx hb dX5_readLine_25 rfl (lv_at hl 6 rfl) ?_
        refine gX1_0 hx hb hts hown hk hP hk1 wd_1_32 dX5_readLine_26 ?_
        refine lv_iload_n hx hb dX5_readLine_29 rfl (lv_at hl 8 rfl) ?_
        refine lv_iload hx hb dX5_readLine_30 (lv_at hl 0 rfl) ?_
        refine lv_iload hx hb dX5_readLine_32 (lv_at hl 4 rfl) ?_
        refine lv_imul hx hb dX5_readLine_34 ?_
        refine lv_iadd hx hb dX5_readLine_35 ?_
        obtain ⟨q_9, hf⟩ := g_if hf
        refine ald hx hb hk hP (isF_lt1 hk1) (rd_F1 hk1 _) q_9 dX5_readLine_36 ?_
        refine lv_topi (fun v9_10 e_v9_10 => ?_)
        have hf := b_v hf e_v9_10
        refine lv_istore (lv' := [(9, .int v9_10), (8, .int v8_2), (7, .int v7_3), (6, .int v6_4), (5, .int v5_5), (4, .int v4_1), (0, .ref (X.ad k0)), (1, .ref (X.ad k1)), (2, .int x2), (3, .int x3)]) hx hb dX5_readLine_37 hl (by decide) rfl (fun ls hl => ?_)
        refine lv_aload_n hx hb dX5_readLine_39 rfl (lv_at hl 6 rfl) ?_
        refine lv_iload hx hb dX5_readLine_40 (lv_at hl 0 rfl) ?_
        refine lv_iconst (v := (2 : Int32)) hx hb dX5_readLine_42 (by decide) ?_
        refine lv_iload_n hx hb dX5_readLine_43 rfl (lv_at hl 8 rfl) ?_
        refine lv_imul hx hb dX5_readLine_44 ?_
        refine lv_iconst (v := (1 : Int32)) hx hb dX5_readLine_45 (by decide) ?_
        refine lv_iadd hx hb dX5_readLine_46 ?_
        refine lv_iload hx hb dX5_readLine_47 (lv_at hl 4 rfl) ?_
        obtain ⟨⟨r_11, M_12⟩, h_r_11, hf⟩ := b_d hf
        have hf := u2_e hf
        refine k_X5_block hZ hP hS hl.1 wd_2_205 ⟨Nat.le_of_ble_eq_true rfl, Nat.le_of_ble_eq_true rfl⟩ (Nat.le_of_ble_eq_true rfl) dX5_readLine_49 ⟨Nat.zero_le _, Nat.zero_le _⟩ hk0 h_r_11 (fun H locs hP hS => ?_)
        refine lv_istore (lv' := [(5, .int r_11), (9, .int v9_10), (8, .int v8_2), (7, .int v7_3), (6, .int v6_4), (4, .int v4_1), (0, .ref (X.ad k0)), (1, .ref (X.ad k1)), (2, .int x2), (3, .int x3)]) hx hb dX5_readLine_52 hl (by decide) rfl (fun ls hl => ?_)
        refine lv_aload_n hx hb dX5_readLine_54 rfl (lv_at hl 6 rfl) ?_
        refine lv_aload_n hx hb dX5_readLine_55 rfl (lv_at hl 7 rfl) ?_
        refine gX1_0 hx hb hts hown hk hP hk1 wd_1_32 dX5_readLine_56 ?_
        refine lv_iload_n hx hb dX5_readLine_59 rfl (lv_at hl 9 rfl) ?_
        refine lv_iconst (v := (5 : Int32)) hx hb dX5_readLine_60 (by decide) ?_
        refine lv_iload hx hb dX5_readLine_61 (lv_at hl 2 rfl) ?_
        refine lv_isub hx hb dX5_readLine_63 ?_
        refine lv_iload hx hb dX5_readLine_64 (lv_at hl 5 rfl) ?_
        refine lv_imul hx hb dX5_readLine_66 ?_
        refine lv_iadd hx hb dX5_readLine_67 ?_
        obtain ⟨q_13, hf⟩ := g_if hf
        refine ald hx hb hk hP (isF_lt1 hk1) (rd_F1 hk1 _) q_13 dX5_readLine_68 ?_
        refine lv_iconst (v := (2 : Int32)) hx hb dX5_readLine_69 (by decide) ?_
        refine lv_iload_n hx hb dX5_readLine_70 rfl (lv_at hl 8 rfl) ?_
        refine lv_imul hx hb dX5_readLine_71 ?_
        refine lv_iload hx hb dX5_readLine_72 (lv_at hl 4 rfl) ?_
        obtain ⟨⟨r_14, M_15⟩, h_r_14, hf⟩ := b_d hf
        have hf := u2_e hf
        refine k_X5_block hZ hP hS hl.1 wd_2_205 ⟨Nat.le_of_ble_eq_true rfl, Nat.le_of_ble_eq_true rfl⟩ (Nat.le_of_ble_eq_true rfl) dX5_readLine_74 ⟨Nat.zero_le _, Nat.zero_le _⟩ hk0 h_r_14 (fun H locs hP hS => ?_)
        refine lv_istore (lv' := [(6, .int r_14), (5, .int r_11), (9, .int v9_10), (8, .int v8_2), (7, .int v7_3), (4, .int v4_1), (0, .ref (X.ad k0)), (1, .ref (X.ad k1)), (2, .int x2), (3, .int x3)]) hx hb dX5_readLine_77 hl (by decide) rfl (fun ls hl => ?_)
        refine lv_iload hx hb dX5_readLine_79 (lv_at hl 2 rfl) ?_
        refine lv_iconst (v := (-1 : Int32)) hx hb dX5_readLine_81 (by decide) ?_
        refine lv_icmp_eq (tgt := 107) hx hb dX5_readLine_82 (by decide) (fun c_16 => ?_) (fun c_16 => ?_)
        · have hf := i_t c_16 hf
          exact jn107 r_11 r_14 v8_2 v9_10 M_15 hf H locs ls hP hS (lv_sub hl [6, 7, 8, 9, 5, 1, 0, 3, 2] rfl)
        · have hf := i_f c_16 hf
          refine lv_iload hx hb dX5_readLine_85 (lv_at hl 4 rfl) ?_
          refine lv_iconst (v := (-1 : Int32)) hx hb dX5_readLine_87 (by decide) ?_
          refine lv_icmp_eq (tgt := 107) hx hb dX5_readLine_88 (by decide) (fun c_22 => ?_) (fun c_22 => ?_)
          · have hf := i_t c_22 hf
            exact jn107 r_11 r_14 v8_2 v9_10 M_15 hf H locs ls hP hS (lv_sub hl [6, 7, 8, 9, 5, 1, 0, 3, 2] rfl)
          · have hf := i_f c_22 hf
            refine lv_iload hx hb dX5_readLine_91 (lv_at hl 2 rfl) ?_
            refine lv_iload hx hb dX5_readLine_93 (lv_at hl 4 rfl) ?_
            refine lv_icmp_eq (tgt := 107) hx hb dX5_readLine_95 (by decide) (fun c_23 => ?_) (fun c_23 => ?_)
            · have hf := i_t c_23 hf
              exact jn107 r_11 r_14 v8_2 v9_10 M_15 hf H locs ls hP hS (lv_sub hl [6, 7, 8, 9, 5, 1, 0, 3, 2] rfl)
            · have hf := i_f c_23 hf
              refine lv_aload_n hx hb dX5_readLine_98 rfl (lv_at hl 6 rfl) ?_
              refine lv_iload hx hb dX5_readLine_99 (lv_at hl 4 rfl) ?_
              refine lv_iload hx hb dX5_readLine_101 (lv_at hl 2 rfl) ?_
              refine lv_iload_n hx hb dX5_readLine_103 rfl (lv_at hl 8 rfl) ?_
              obtain ⟨M_24, h_M_24, hf⟩ := b_d hf
              refine k_X5_join hZ hP hS hl.1 wd_2_209 ⟨Nat.le_of_ble_eq_true rfl, Nat.le_of_ble_eq_true rfl⟩ (Nat.le_of_ble_eq_true rfl) dX5_readLine_104 ⟨Nat.zero_le _, Nat.zero_le _⟩ hk0 h_M_24 (fun H locs hP hS => ?_)
              exact jn107 r_11 r_14 v8_2 v9_10 M_24 hf H locs ls hP hS (lv_sub hl [6, 7, 8, 9, 5, 1, 0, 3, 2] rfl)
    · intro M_7 e H locs ls hP hS hl
      subst o18
      have hf := u1_e hf
      have hf := Option.some.inj hf
      rw [hf] at hP
      exact ret_v hx hb hr hlocks hP hS dX5_readLine_117
  exact key s.heap [] hP hS
theorem hd_X5_readLine : Hd yX5_readLine 3 := by decide +kernel
theorem k_X5_readLine {p : Program} {l : Launch} {e : Env} {R : Room} {s : State} {m : MethodId} {args : Array Value} {below : List Frame} {meth : Method} {c : Code} {H : Heap} {locs : List Loc} {cells slots : Nat} {Q : State → Prop} {cc : ByteArray} {nL pc index : Nat} {ls : Array Slot} {rest : List Value} {X : En} {M : Mem} {H0 : Heap} {own : String} {g : Nat} {k0 : Nat} {k1 : Nat} {x2 : Int32} {x3 : Int32} {M9 : Mem} (hZ : Fx p c m s args X cc nL own) (hP : wd X M H) (hS : va_S X.A H0 H locs) (hsz : ls.size = nL) (hlk : Cond.methodLink own index yX5_readLine ∈ lw_u) (hR : 1 + 1 ≤ R.frames ∧ 8 + (10 + 11) + 24 ≤ R.locals) (hW : (rest.map fun v => v.category).sum ≤ 8) (hdg : decode cc pc = .ok (.invokevirtual index, 3)) (hcs : cells ≤ R.cells ∧ slots ≤ R.slots) (hk0 : isR k0) (hk1 : isF k1) (hf : fn_X5_readLine g k0 k1 x2 x3 M = some M9)
    (kk : ∀ (H1 : Heap) (locs1 : List Loc), wd X M9 H1 → va_S X.A H0 H1 locs1 → W p l e R s m args below meth c H1 locs1 cells slots Q (F0 m (pc + 3) ls rest)) : W p l e R s m args below meth c H locs cells slots Q (F0 m pc ls (.int x3 :: .int x2 :: .ref (X.ad k1) :: .ref (X.ad k0) :: rest)) :=
  cal_v (runV (As := [.ref (X.ad k1), .int x2, .int x3]) (rest := rest) hZ.1 hZ.2.1 hZ.2.2.1 hZ.2.2.2.1 hZ.2.2.2.2.1 hZ.2.2.2.2.2 hP (c_X5_readLine g k0 k1 x2 x3 M hk0 hk1 M9 hf) wd_2_203 wd_2_202 wd_p_12 wd_1_4 hd_X5_readLine (isR_lt0 hk0) (rd_R0 hk0 _) rfl rfl hlk hR hsz rfl hW hdg hcs) hS kk
/-! FrameRaiser$Relations.read -/
def bd_X5_read_14 (k0 : Nat) (k1 : Nat) : (Int32 × Mem) → Option ((Int32 × Mem) ⊕ (Mem)) :=
  u2 fun v2_3 M_4 =>
  if (36 : Int32) ≤ v2_3 then
    (some (.inr M_4))
  else
    (if inb v2_3 216 then
    if (M_4 (k1 + 1) (ix v2_3)) = (-1 : Int32) then
      (some (.inl (v2_3 + (1 : Int32), M_4)))
    else
      (if inb v2_3 216 then
      bv (st M_4 k0 4 ((M_4 k0 4) ||| (sl (1 : Int32) (M_4 (k1 + 1) (ix v2_3))))) fun M_10 =>
      some (.inl (v2_3 + (1 : Int32), M_10))
      else none)
    else none)
def bd_X5_read_62 (g : Nat) (k0 : Nat) (k1 : Nat) (v2_11 : Int32) : (Int32 × Mem) → Option ((Int32 × Mem) ⊕ (Mem)) :=
  u2 fun v3_15 M_16 =>
  if (36 : Int32) ≤ v3_15 then
    (some (.inr M_16))
  else
    ((fn_X5_readLine g k0 k1 v2_11 (fn_X5_lineStart v2_11 v3_15) M_16).bind fun M_19 =>
    some (.inl (v3_15 + (1 : Int32), M_19)))
def bd_X5_read_55 (g : Nat) (k0 : Nat) (k1 : Nat) : (Int32 × Mem) → Option ((Int32 × Mem) ⊕ (Mem)) :=
  u2 fun v2_11 M_12 =>
  if (3 : Int32) ≤ v2_11 then
    (some (.inr M_12))
  else
    ((lpN g (bd_X5_read_62 g k0 k1 v2_11) ((0 : Int32), M_12)).bind (u1 fun M_17 =>
      some (.inl (v2_11 + (1 : Int32), M_17))))
def fn_X5_read (g : Nat) (k0 : Nat) (k1 : Nat) (M : Mem) : Option (Mem) :=
  (fn_X5_reset g k0 M).bind fun M_1 =>
  bv (st M_1 k0 5 (M_1 k1 2)) fun M_2 =>
  (lpN g (bd_X5_read_14 k0 k1) ((0 : Int32), M_2)).bind (u1 fun M_5 =>
    (lpN g (bd_X5_read_55 g k0 k1) ((0 : Int32), M_5)).bind (u1 fun M_13 =>
      some M_13))
theorem dX5_read_0 : decode cX5_read 0 = .ok (.aload_n 0, 1) := by decide +kernel
theorem dX5_read_1 : decode cX5_read 1 = .ok (.invokevirtual 24, 3) := by decide +kernel
theorem dX5_read_4 : decode cX5_read 4 = .ok (.aload_n 0, 1) := by decide +kernel
theorem dX5_read_5 : decode cX5_read 5 = .ok (.aload_n 1, 1) := by decide +kernel
theorem dX5_read_6 : decode cX5_read 6 = .ok (.getfield 27, 3) := by decide +kernel
theorem dX5_read_9 : decode cX5_read 9 = .ok (.putfield 33, 3) := by decide +kernel
theorem dX5_read_12 : decode cX5_read 12 = .ok (.iconst 0, 1) := by decide +kernel
theorem dX5_read_13 : decode cX5_read 13 = .ok (.istore_n 2, 1) := by decide +kernel
theorem dX5_read_14 : decode cX5_read 14 = .ok (.iload_n 2, 1) := by decide +kernel
theorem dX5_read_15 : decode cX5_read 15 = .ok (.bipush 36, 2) := by decide +kernel
theorem dX5_read_17 : decode cX5_read 17 = .ok (.if_icmp .ge 36, 3) := by decide +kernel
theorem dX5_read_20 : decode cX5_read 20 = .ok (.aload_n 1, 1) := by decide +kernel
theorem dX5_read_21 : decode cX5_read 21 = .ok (.getfield 34, 3) := by decide +kernel
theorem dX5_read_24 : decode cX5_read 24 = .ok (.iload_n 2, 1) := by decide +kernel
theorem dX5_read_25 : decode cX5_read 25 = .ok (.iaload, 1) := by decide +kernel
theorem dX5_read_26 : decode cX5_read 26 = .ok (.iconst (-1), 1) := by decide +kernel
theorem dX5_read_27 : decode cX5_read 27 = .ok (.if_icmp .eq 20, 3) := by decide +kernel
theorem dX5_read_30 : decode cX5_read 30 = .ok (.aload_n 0, 1) := by decide +kernel
theorem dX5_read_31 : decode cX5_read 31 = .ok (.dup, 1) := by decide +kernel
theorem dX5_read_32 : decode cX5_read 32 = .ok (.getfield 37, 3) := by decide +kernel
theorem dX5_read_35 : decode cX5_read 35 = .ok (.iconst 1, 1) := by decide +kernel
theorem dX5_read_36 : decode cX5_read 36 = .ok (.aload_n 1, 1) := by decide +kernel
theorem dX5_read_37 : decode cX5_read 37 = .ok (.getfield 34, 3) := by decide +kernel
theorem dX5_read_40 : decode cX5_read 40 = .ok (.iload_n 2, 1) := by decide +kernel
theorem dX5_read_41 : decode cX5_read 41 = .ok (.iaload, 1) := by decide +kernel
theorem dX5_read_42 : decode cX5_read 42 = .ok (.ishl, 1) := by decide +kernel
theorem dX5_read_43 : decode cX5_read 43 = .ok (.ior, 1) := by decide +kernel
theorem dX5_read_44 : decode cX5_read 44 = .ok (.putfield 37, 3) := by decide +kernel
theorem dX5_read_47 : decode cX5_read 47 = .ok (.iinc 2 1, 3) := by decide +kernel
theorem dX5_read_50 : decode cX5_read 50 = .ok (.goto (-36), 3) := by decide +kernel
theorem dX5_read_53 : decode cX5_read 53 = .ok (.iconst 0, 1) := by decide +kernel
theorem dX5_read_54 : decode cX5_read 54 = .ok (.istore_n 2, 1) := by decide +kernel
theorem dX5_read_55 : decode cX5_read 55 = .ok (.iload_n 2, 1) := by decide +kernel
theorem dX5_read_56 : decode cX5_read 56 = .ok (.iconst 3, 1) := by decide +kernel
theorem dX5_read_57 : decode cX5_read 57 = .ok (.if_icmp .ge 34, 3) := by decide +kernel
theorem dX5_read_60 : decode cX5_read 60 = .ok (.iconst 0, 1) := by decide +kernel
theorem dX5_read_61 : decode cX5_read 61 = .ok (.istore_n 3, 1) := by decide +kernel
theorem dX5_read_62 : decode cX5_read 62 = .ok (.iload_n 3, 1) := by decide +kernel
theorem dX5_read_63 : decode cX5_read 63 = .ok (.bipush 36, 2) := by decide +kernel
theorem dX5_read_65 : decode cX5_read 65 = .ok (.if_icmp .ge 20, 3) := by decide +kernel
theorem dX5_read_68 : decode cX5_read 68 = .ok (.aload_n 0, 1) := by decide +kernel
theorem dX5_read_69 : decode cX5_read 69 = .ok (.aload_n 1, 1) := by decide +kernel
theorem dX5_read_70 : decode cX5_read 70 = .ok (.iload_n 2, 1) := by decide +kernel
theorem dX5_read_71 : decode cX5_read 71 = .ok (.iload_n 2, 1) := by decide +kernel
theorem dX5_read_72 : decode cX5_read 72 = .ok (.iload_n 3, 1) := by decide +kernel
theorem dX5_read_73 : decode cX5_read 73 = .ok (.invokestatic 40, 3) := by decide +kernel
theorem dX5_read_76 : decode cX5_read 76 = .ok (.invokevirtual 44, 3) := by decide +kernel
theorem dX5_read_79 : decode cX5_read 79 = .ok (.iinc 3 1, 3) := by decide +kernel
theorem dX5_read_82 : decode cX5_read 82 = .ok (.goto (-20), 3) := by decide +kernel
theorem dX5_read_85 : decode cX5_read 85 = .ok (.iinc 2 1, 3) := by decide +kernel
theorem dX5_read_88 : decode cX5_read 88 = .ok (.goto (-33), 3) := by decide +kernel
theorem dX5_read_91 : decode cX5_read 91 = .ok (.return_, 1) := by decide +kernel
set_option maxHeartbeats 4000000 in
set_option maxRecDepth 100000 in
theorem c_X5_read {l : Launch} {X : En} (g : Nat) (k0 : Nat) (k1 : Nat) (M : Mem) (hk0 : isR k0) (hk1 : isF k1) (M9 : Mem) (hf : fn_X5_read g k0 k1 M = some M9) : Cn l X yX5_read cX5_read 4 none 2 53 [.ref (X.ad k0), .ref (X.ad k1)] M (Qv X M9) := by
  refine Met.ofW (cc := cX5_read) (maxL := 4) (ret := none) (by decide) rfl ?_
  intro p e s m args below meth c s₁ B hml hv
  obtain ⟨rfl, hP, hk⟩ := hv
  have hx := B.exec
  have hb := B.bytes
  have hr := B.returns
  have hlocks := B.notSynchronized
  have hts : ∀ w ∈ lw_u, w.before ([.ref (X.ad k0), .ref (X.ad k1)] : List Value).toArray s = true := fun w hw => atoms_spec (ws := Cond.code yX5_read cX5_read 4 none :: lw_u) B.pre w (List.mem_cons_of_mem _ hw)
  have hown : s.vm.findClass RX5 = some m.cls := findClass_of_methodNamed B.named
  have hZ : Fx p c m s ([.ref (X.ad k0), .ref (X.ad k1)] : List Value).toArray X cX5_read 4 RX5 := ⟨hx, hb, hml, hts, hown, hk⟩
  have hS : va_S X.A s.heap s.heap [] := va_S.rf
  have hl := lv_entry ([.ref (X.ad k0), .ref (X.ad k1)]) (n := 4) (Nat.le_of_ble_eq_true rfl)
  rw [lg_entry_eq]
  generalize (lg_sl ([.ref (X.ad k0), .ref (X.ad k1)]) ++ List.replicate (4 - (lg_sl ([.ref (X.ad k0), .ref (X.ad k1)])).length) Slot.unset).toArray = ls at hl ⊢
  have hl : lv_has ls 4 [(0, .ref (X.ad k0)), (1, .ref (X.ad k1))] := hl
  show WW p l e 2 53 s m [.ref (X.ad k0), .ref (X.ad k1)] below meth c X (Qv X M9) s.heap [] 0 ls []
  have hP : wd X M s.heap := hP
  unfold fn_X5_read at hf
  have key : ∀ (H : Heap) (locs : List Loc), wd X M H → va_S X.A s.heap H locs → WW p l e 2 53 s m [.ref (X.ad k0), .ref (X.ad k1)] below meth c X (Qv X M9) H locs 0 ls [] := by
    intro H locs hP hS
    refine lv_aload_n hx hb dX5_read_0 rfl (lv_at hl 0 rfl) ?_
    obtain ⟨M_1, h_M_1, hf⟩ := b_d hf
    refine k_X5_reset hZ hP hS hl.1 wd_2_193 ⟨Nat.le_of_ble_eq_true rfl, Nat.le_of_ble_eq_true rfl⟩ (Nat.le_of_ble_eq_true rfl) dX5_read_1 ⟨Nat.zero_le _, Nat.zero_le _⟩ hk0 h_M_1 (fun H locs hP hS => ?_)
    refine lv_aload_n hx hb dX5_read_4 rfl (lv_at hl 0 rfl) ?_
    refine lv_aload_n hx hb dX5_read_5 rfl (lv_at hl 1 rfl) ?_
    refine gX1_2 hx hb hts hown hk hP hk1 wd_1_38 dX5_read_6 ?_
    refine pX5_5 hx hb hts hown hk hP hS hk0 wd_1_96 dX5_read_9 (fun H locs M_2 e_M_2 hP hS => ?_)
    have hf := b_v hf e_M_2
    refine lv_iconst (v := (0 : Int32)) hx hb dX5_read_12 (by decide) ?_
    refine lv_istore_n (lv' := [(2, .int (0 : Int32)), (0, .ref (X.ad k0)), (1, .ref (X.ad k1))]) hx hb dX5_read_13 rfl hl (by decide) rfl (fun ls hl => ?_)
    obtain ⟨o14, ho14, hf⟩ := b_d hf
    refine lp_rule (b := bd_X5_read_14 k0 k1) (P := fun w : Int32 × Mem => ∀ (H : Heap) (locs : List Loc) (ls : Array Slot), wd X w.2 H → va_S X.A s.heap H locs → lv_has ls 4 [(2, .int w.1), (0, .ref (X.ad k0)), (1, .ref (X.ad k1))] → WW p l e 2 53 s m [.ref (X.ad k0), .ref (X.ad k1)] below meth c X (Qv X M9) H locs 14 ls []) (K := fun o => ∀ (M_5 : Mem), o = M_5 → ∀ (H : Heap) (locs : List Loc) (ls : Array Slot), wd X M_5 H → va_S X.A s.heap H locs → lv_has ls 4 [(0, .ref (X.ad k0)), (1, .ref (X.ad k1))] → WW p l e 2 53 s m [.ref (X.ad k0), .ref (X.ad k1)] below meth c X (Qv X M9) H locs 53 ls []) ?_ g ((0 : Int32), M_2) o14 ho14 ?_ H locs ls hP hS (lv_sub hl [0, 1, 2] rfl)
    · rintro ⟨v2_3, M_4⟩ o hf hkc14 hke14 H locs ls hP hS hl
      have hf := u2_e hf
      refine lv_iload_n hx hb dX5_read_14 rfl (lv_at hl 0 rfl) ?_
      refine lv_bipush (v := (36 : Int32)) hx hb dX5_read_15 (by decide) ?_
      refine lv_icmp_ge (tgt := 53) hx hb dX5_read_17 (by decide) (fun c_6 => ?_) (fun c_6 => ?_)
      · have hf := i_t c_6 hf
        exact hke14 _ (Option.some.inj hf).symm _ rfl H locs ls hP hS (lv_sub hl [1, 2] rfl)
      · have hf := i_f c_6 hf
        refine lv_aload_n hx hb dX5_read_20 rfl (lv_at hl 2 rfl) ?_
        refine gX1_0 hx hb hts hown hk hP hk1 wd_1_32 dX5_read_21 ?_
        refine lv_iload_n hx hb dX5_read_24 rfl (lv_at hl 0 rfl) ?_
        obtain ⟨q_7, hf⟩ := g_if hf
        refine ald hx hb hk hP (isF_lt1 hk1) (rd_F1 hk1 _) q_7 dX5_read_25 ?_
        refine lv_iconst (v := (-1 : Int32)) hx hb dX5_read_26 (by decide) ?_
        refine lv_icmp_eq (tgt := 47) hx hb dX5_read_27 (by decide) (fun c_8 => ?_) (fun c_8 => ?_)
        · have hf := i_t c_8 hf
          refine lv_iinc (v := v2_3 + (1 : Int32)) (lv' := [(2, .int (v2_3 + (1 : Int32))), (0, .ref (X.ad k0)), (1, .ref (X.ad k1))]) hx hb dX5_read_47 hl (k := 0) rfl rfl (by decide) rfl (fun ls hl => ?_)
          refine lv_goto (tgt := 14) hx hb dX5_read_50 (by decide) ?_
          exact hkc14 _ (Option.some.inj hf).symm H locs ls hP hS (lv_sub hl [0, 1, 2] rfl)
        · have hf := i_f c_8 hf
          refine lv_aload_n hx hb dX5_read_30 rfl (lv_at hl 1 rfl) ?_
          refine lv_dup hx hb dX5_read_31 rfl ?_
          refine gX5_4 hx hb hts hown hk hP hk0 wd_1_95 dX5_read_32 ?_
          refine lv_iconst (v := (1 : Int32)) hx hb dX5_read_35 (by decide) ?_
          refine lv_aload_n hx hb dX5_read_36 rfl (lv_at hl 2 rfl) ?_
          refine gX1_0 hx hb hts hown hk hP hk1 wd_1_32 dX5_read_37 ?_
          refine lv_iload_n hx hb dX5_read_40 rfl (lv_at hl 0 rfl) ?_
          obtain ⟨q_9, hf⟩ := g_if hf
          refine ald hx hb hk hP (isF_lt1 hk1) (rd_F1 hk1 _) q_9 dX5_read_41 ?_
          refine rw_ishl hx hb dX5_read_42 ?_
          refine lv_ior hx hb dX5_read_43 ?_
          refine pX5_4 hx hb hts hown hk hP hS hk0 wd_1_95 dX5_read_44 (fun H locs M_10 e_M_10 hP hS => ?_)
          have hf := b_v hf e_M_10
          refine lv_iinc (v := v2_3 + (1 : Int32)) (lv' := [(2, .int (v2_3 + (1 : Int32))), (0, .ref (X.ad k0)), (1, .ref (X.ad k1))]) hx hb dX5_read_47 hl (k := 0) rfl rfl (by decide) rfl (fun ls hl => ?_)
          refine lv_goto (tgt := 14) hx hb dX5_read_50 (by decide) ?_
          exact hkc14 _ (Option.some.inj hf).symm H locs ls hP hS (lv_sub hl [0, 1, 2] rfl)
    · intro M_5 e H locs ls hP hS hl
      subst o14
      have hf := u1_e hf
      refine lv_iconst (v := (0 : Int32)) hx hb dX5_read_53 (by decide) ?_
      refine lv_istore_n (lv' := [(2, .int (0 : Int32)), (0, .ref (X.ad k0)), (1, .ref (X.ad k1))]) hx hb dX5_read_54 rfl hl (by decide) rfl (fun ls hl => ?_)
      obtain ⟨o55, ho55, hf⟩ := b_d hf
      refine lp_rule (b := bd_X5_read_55 g k0 k1) (P := fun w : Int32 × Mem => ∀ (H : Heap) (locs : List Loc) (ls : Array Slot), wd X w.2 H → va_S X.A s.heap H locs → lv_has ls 4 [(2, .int w.1), (0, .ref (X.ad k0)), (1, .ref (X.ad k1))] → WW p l e 2 53 s m [.ref (X.ad k0), .ref (X.ad k1)] below meth c X (Qv X M9) H locs 55 ls []) (K := fun o => ∀ (M_13 : Mem), o = M_13 → ∀ (H : Heap) (locs : List Loc) (ls : Array Slot), wd X M_13 H → va_S X.A s.heap H locs → lv_has ls 4 [] → WW p l e 2 53 s m [.ref (X.ad k0), .ref (X.ad k1)] below meth c X (Qv X M9) H locs 91 ls []) ?_ g ((0 : Int32), M_5) o55 ho55 ?_ H locs ls hP hS (lv_sub hl [0, 1, 2] rfl)
      · rintro ⟨v2_11, M_12⟩ o hf hkc55 hke55 H locs ls hP hS hl
        have hf := u2_e hf
        refine lv_iload_n hx hb dX5_read_55 rfl (lv_at hl 0 rfl) ?_
        refine lv_iconst (v := (3 : Int32)) hx hb dX5_read_56 (by decide) ?_
        refine lv_icmp_ge (tgt := 91) hx hb dX5_read_57 (by decide) (fun c_14 => ?_) (fun c_14 => ?_)
        · have hf := i_t c_14 hf
          exact hke55 _ (Option.some.inj hf).symm _ rfl H locs ls hP hS (lv_sub hl [] rfl)
        · have hf := i_f c_14 hf
          refine lv_iconst (v := (0 : Int32)) hx hb dX5_read_60 (by decide) ?_
          refine lv_istore_n (lv' := [(3, .int (0 : Int32)), (2, .int v2_11), (0, .ref (X.ad k0)), (1, .ref (X.ad k1))]) hx hb dX5_read_61 rfl hl (by decide) rfl (fun ls hl => ?_)
          obtain ⟨o62, ho62, hf⟩ := b_d hf
          refine lp_rule (b := bd_X5_read_62 g k0 k1 v2_11) (P := fun w : Int32 × Mem => ∀ (H : Heap) (locs : List Loc) (ls : Array Slot), wd X w.2 H → va_S X.A s.heap H locs → lv_has ls 4 [(3, .int w.1), (2, .int v2_11), (0, .ref (X.ad k0)), (1, .ref (X.ad k1))] → WW p l e 2 53 s m [.ref (X.ad k0), .ref (X.ad k1)] below meth c X (Qv X M9) H locs 62 ls []) (K := fun o => ∀ (M_17 : Mem), o = M_17 → ∀ (H : Heap) (locs : List Loc) (ls : Array Slot), wd X M_17 H → va_S X.A s.heap H locs → lv_has ls 4 [(2, .int v2_11), (0, .ref (X.ad k0)), (1, .ref (X.ad k1))] → WW p l e 2 53 s m [.ref (X.ad k0), .ref (X.ad k1)] below meth c X (Qv X M9) H locs 85 ls []) ?_ g ((0 : Int32), M_12) o62 ho62 ?_ H locs ls hP hS (lv_sub hl [0, 1, 2, 3] rfl)
          · rintro ⟨v3_15, M_16⟩ o hf hkc62 hke62 H locs ls hP hS hl
            have hf := u2_e hf
            refine lv_iload_n hx hb dX5_read_62 rfl (lv_at hl 0 rfl) ?_
            refine lv_bipush (v := (36 : Int32)) hx hb dX5_read_63 (by decide) ?_
            refine lv_icmp_ge (tgt := 85) hx hb dX5_read_65 (by decide) (fun c_18 => ?_) (fun c_18 => ?_)
            · have hf := i_t c_18 hf
              exact hke62 _ (Option.some.inj hf).symm _ rfl H locs ls hP hS (lv_sub hl [1, 2, 3] rfl)
            · have hf := i_f c_18 hf
              refine lv_aload_n hx hb dX5_read_68 rfl (lv_at hl 2 rfl) ?_
              refine lv_aload_n hx hb dX5_read_69 rfl (lv_at hl 3 rfl) ?_
              refine lv_iload_n hx hb dX5_read_70 rfl (lv_at hl 1 rfl) ?_
              refine lv_iload_n hx hb dX5_read_71 rfl (lv_at hl 1 rfl) ?_
              refine lv_iload_n hx hb dX5_read_72 rfl (lv_at hl 0 rfl) ?_
              refine k_X5_lineStart hZ hP hS hl.1 wd_2_197 ⟨Nat.le_of_ble_eq_true rfl, Nat.le_of_ble_eq_true rfl⟩ (Nat.le_of_ble_eq_true rfl) dX5_read_73 ⟨Nat.zero_le _, Nat.zero_le _⟩ (fun H locs hP hS => ?_)
              obtain ⟨M_19, h_M_19, hf⟩ := b_d hf
              refine k_X5_readLine hZ hP hS hl.1 wd_2_200 ⟨Nat.le_of_ble_eq_true rfl, Nat.le_of_ble_eq_true rfl⟩ (Nat.le_of_ble_eq_true rfl) dX5_read_76 ⟨Nat.zero_le _, Nat.zero_le _⟩ hk0 hk1 h_M_19 (fun H locs hP hS => ?_)
              refine lv_iinc (v := v3_15 + (1 : Int32)) (lv' := [(3, .int (v3_15 + (1 : Int32))), (2, .int v2_11), (0, .ref (X.ad k0)), (1, .ref (X.ad k1))]) hx hb dX5_read_79 hl (k := 0) rfl rfl (by decide) rfl (fun ls hl => ?_)
              refine lv_goto (tgt := 62) hx hb dX5_read_82 (by decide) ?_
              exact hkc62 _ (Option.some.inj hf).symm H locs ls hP hS (lv_sub hl [0, 1, 2, 3] rfl)
          · intro M_17 e H locs ls hP hS hl
            subst o62
            have hf := u1_e hf
            refine lv_iinc (v := v2_11 + (1 : Int32)) (lv' := [(2, .int (v2_11 + (1 : Int32))), (0, .ref (X.ad k0)), (1, .ref (X.ad k1))]) hx hb dX5_read_85 hl (k := 0) rfl rfl (by decide) rfl (fun ls hl => ?_)
            refine lv_goto (tgt := 55) hx hb dX5_read_88 (by decide) ?_
            exact hkc55 _ (Option.some.inj hf).symm H locs ls hP hS (lv_sub hl [0, 1, 2] rfl)
      · intro M_13 e H locs ls hP hS hl
        subst o55
        have hf := u1_e hf
        have hf := Option.some.inj hf
        rw [hf] at hP
        exact ret_v hx hb hr hlocks hP hS dX5_read_91
  exact key s.heap [] hP hS
theorem hd_X5_read : Hd yX5_read 1 := by decide +kernel
theorem k_X5_read {p : Program} {l : Launch} {e : Env} {R : Room} {s : State} {m : MethodId} {args : Array Value} {below : List Frame} {meth : Method} {c : Code} {H : Heap} {locs : List Loc} {cells slots : Nat} {Q : State → Prop} {cc : ByteArray} {nL pc index : Nat} {ls : Array Slot} {rest : List Value} {X : En} {M : Mem} {H0 : Heap} {own : String} {g : Nat} {k0 : Nat} {k1 : Nat} {M9 : Mem} (hZ : Fx p c m s args X cc nL own) (hP : wd X M H) (hS : va_S X.A H0 H locs) (hsz : ls.size = nL) (hlk : Cond.methodLink own index yX5_read ∈ lw_u) (hR : 2 + 1 ≤ R.frames ∧ 8 + (4 + 11) + 53 ≤ R.locals) (hW : (rest.map fun v => v.category).sum ≤ 8) (hdg : decode cc pc = .ok (.invokevirtual index, 3)) (hcs : cells ≤ R.cells ∧ slots ≤ R.slots) (hk0 : isR k0) (hk1 : isF k1) (hf : fn_X5_read g k0 k1 M = some M9)
    (kk : ∀ (H1 : Heap) (locs1 : List Loc), wd X M9 H1 → va_S X.A H0 H1 locs1 → W p l e R s m args below meth c H1 locs1 cells slots Q (F0 m (pc + 3) ls rest)) : W p l e R s m args below meth c H locs cells slots Q (F0 m pc ls (.ref (X.ad k1) :: .ref (X.ad k0) :: rest)) :=
  cal_v (runV (As := [.ref (X.ad k1)]) (rest := rest) hZ.1 hZ.2.1 hZ.2.2.1 hZ.2.2.2.1 hZ.2.2.2.2.1 hZ.2.2.2.2.2 hP (c_X5_read g k0 k1 M hk0 hk1 M9 hf) wd_2_192 wd_2_190 wd_2_191 wd_1_4 hd_X5_read (isR_lt0 hk0) (rd_R0 hk0 _) rfl rfl hlk hR hsz rfl hW hdg hcs) hS kk
/-! FrameRaiser.knownRelations -/
def jn_X7_knownRelations_23 (M_2 : Mem) : Option (Mem) :=
  some M_2
def fn_X7_knownRelations (g : Nat) (M : Mem) : Option (Mem) :=
  if (M 0 10) = 0 then
    ((fn_X5_read g 9 1 M).bind fun M_3 =>
    bv (st M_3 0 10 (1 : Int32)) fun M_4 =>
    jn_X7_knownRelations_23 M_4)
  else
    (jn_X7_knownRelations_23 M)
theorem dX7_knownRelations_0 : decode cX7_knownRelations 0 = .ok (.aload_n 0, 1) := by decide +kernel
theorem dX7_knownRelations_1 : decode cX7_knownRelations 1 = .ok (.getfield 301, 3) := by decide +kernel
theorem dX7_knownRelations_4 : decode cX7_knownRelations 4 = .ok (.ifCond .ne 19, 3) := by decide +kernel
theorem dX7_knownRelations_7 : decode cX7_knownRelations 7 = .ok (.aload_n 0, 1) := by decide +kernel
theorem dX7_knownRelations_8 : decode cX7_knownRelations 8 = .ok (.getfield 26, 3) := by decide +kernel
theorem dX7_knownRelations_11 : decode cX7_knownRelations 11 = .ok (.aload_n 0, 1) := by decide +kernel
theorem dX7_knownRelations_12 : decode cX7_knownRelations 12 = .ok (.getfield 10, 3) := by decide +kernel
theorem dX7_knownRelations_15 : decode cX7_knownRelations 15 = .ok (.invokevirtual 229, 3) := by decide +kernel
theorem dX7_knownRelations_18 : decode cX7_knownRelations 18 = .ok (.aload_n 0, 1) := by decide +kernel
theorem dX7_knownRelations_19 : decode cX7_knownRelations 19 = .ok (.iconst 1, 1) := by decide +kernel
theorem dX7_knownRelations_20 : decode cX7_knownRelations 20 = .ok (.putfield 301, 3) := by decide +kernel
theorem dX7_knownRelations_23 : decode cX7_knownRelations 23 = .ok (.aload_n 0, 1) := by decide +kernel
theorem dX7_knownRelations_24 : decode cX7_knownRelations 24 = .ok (.getfield 26, 3) := by decide +kernel
theorem dX7_knownRelations_27 : decode cX7_knownRelations 27 = .ok (.areturn, 1) := by decide +kernel
set_option maxHeartbeats 4000000 in
set_option maxRecDepth 100000 in
theorem c_X7_knownRelations {l : Launch} {X : En} (g : Nat) (M : Mem) (M9 : Mem) (hf : fn_X7_knownRelations g M = some M9) : Cn l X yX7_knownRelations cX7_knownRelations 1 (some (.object "FrameRaiser$Relations")) 3 76 [.ref (X.ad 0)] M (Qr X 9 M9) := by
  refine Met.ofW (cc := cX7_knownRelations) (maxL := 1) (ret := (some (.object "FrameRaiser$Relations"))) (by decide) rfl ?_
  intro p e s m args below meth c s₁ B hml hv
  obtain ⟨rfl, hP, hk⟩ := hv
  have hx := B.exec
  have hb := B.bytes
  have hr := B.returns
  have hlocks := B.notSynchronized
  have hts : ∀ w ∈ lw_u, w.before ([.ref (X.ad 0)] : List Value).toArray s = true := fun w hw => atoms_spec (ws := Cond.code yX7_knownRelations cX7_knownRelations 1 (some (.object "FrameRaiser$Relations")) :: lw_u) B.pre w (List.mem_cons_of_mem _ hw)
  have hown : s.vm.findClass RX7 = some m.cls := findClass_of_methodNamed B.named
  have hZ : Fx p c m s ([.ref (X.ad 0)] : List Value).toArray X cX7_knownRelations 1 RX7 := ⟨hx, hb, hml, hts, hown, hk⟩
  have hS : va_S X.A s.heap s.heap [] := va_S.rf
  have hl := lv_entry ([.ref (X.ad 0)]) (n := 1) (Nat.le_of_ble_eq_true rfl)
  rw [lg_entry_eq]
  generalize (lg_sl ([.ref (X.ad 0)]) ++ List.replicate (1 - (lg_sl ([.ref (X.ad 0)])).length) Slot.unset).toArray = ls at hl ⊢
  have hl : lv_has ls 1 [(0, .ref (X.ad 0))] := hl
  show WW p l e 3 76 s m [.ref (X.ad 0)] below meth c X (Qr X 9 M9) s.heap [] 0 ls []
  have hP : wd X M s.heap := hP
  have jn23 : ∀  (M_2 : Mem), jn_X7_knownRelations_23 M_2 = some M9 → ∀ (H : Heap) (locs : List Loc) (ls : Array Slot), wd X M_2 H → va_S X.A s.heap H locs → lv_has ls 1 [(0, .ref (X.ad 0))] → WW p l e 3 76 s m [.ref (X.ad 0)] below meth c X (Qr X 9 M9) H locs 23 ls [] := by
    intro  M_2 hf H locs ls hP hS hl
    unfold jn_X7_knownRelations_23 at hf
    refine lv_aload_n hx hb dX7_knownRelations_23 rfl (lv_at hl 0 rfl) ?_
    refine gX7_2 hx hb hts hown hk hP wd_1_215 dX7_knownRelations_24 ?_
    have hf := Option.some.inj hf
    rw [hf] at hP
    exact ret_r hx hb hr hlocks hP hS dX7_knownRelations_27
  unfold fn_X7_knownRelations at hf
  have key : ∀ (H : Heap) (locs : List Loc), wd X M H → va_S X.A s.heap H locs → WW p l e 3 76 s m [.ref (X.ad 0)] below meth c X (Qr X 9 M9) H locs 0 ls [] := by
    intro H locs hP hS
    refine lv_aload_n hx hb dX7_knownRelations_0 rfl (lv_at hl 0 rfl) ?_
    refine gX7_10 hx hb hts hown hk hP wd_1_223 dX7_knownRelations_1 ?_
    refine lv_if_ne (tgt := 23) hx hb dX7_knownRelations_4 (by decide) (fun c_1 => ?_) (fun c_1 => ?_)
    · have hf := i_f c_1 hf
      exact jn23 M hf H locs ls hP hS (lv_sub hl [0] rfl)
    · have hf := i_t c_1 hf
      refine lv_aload_n hx hb dX7_knownRelations_7 rfl (lv_at hl 0 rfl) ?_
      refine gX7_2 hx hb hts hown hk hP wd_1_215 dX7_knownRelations_8 ?_
      refine lv_aload_n hx hb dX7_knownRelations_11 rfl (lv_at hl 0 rfl) ?_
      refine gX7_0 hx hb hts hown hk hP wd_1_213 dX7_knownRelations_12 ?_
      obtain ⟨M_3, h_M_3, hf⟩ := b_d hf
      refine k_X5_read hZ hP hS hl.1 wd_2_189 ⟨Nat.le_of_ble_eq_true rfl, Nat.le_of_ble_eq_true rfl⟩ (Nat.le_of_ble_eq_true rfl) dX7_knownRelations_15 ⟨Nat.zero_le _, Nat.zero_le _⟩ isR_9 isF_1 h_M_3 (fun H locs hP hS => ?_)
      refine lv_aload_n hx hb dX7_knownRelations_18 rfl (lv_at hl 0 rfl) ?_
      refine lv_iconst (v := (1 : Int32)) hx hb dX7_knownRelations_19 (by decide) ?_
      refine pX7_10 hx hb hts hown hk hP hS isZ_1 wd_1_223 dX7_knownRelations_20 (fun H locs M_4 e_M_4 hP hS => ?_)
      have hf := b_v hf e_M_4
      exact jn23 M_4 hf H locs ls hP hS (lv_sub hl [0] rfl)
  exact key s.heap [] hP hS
theorem hd_X7_knownRelations : Hd yX7_knownRelations 0 := by decide +kernel
theorem k_X7_knownRelations {p : Program} {l : Launch} {e : Env} {R : Room} {s : State} {m : MethodId} {args : Array Value} {below : List Frame} {meth : Method} {c : Code} {H : Heap} {locs : List Loc} {cells slots : Nat} {Q : State → Prop} {cc : ByteArray} {nL pc index : Nat} {ls : Array Slot} {rest : List Value} {X : En} {M : Mem} {H0 : Heap} {own : String} {g : Nat} {M9 : Mem} (hZ : Fx p c m s args X cc nL own) (hP : wd X M H) (hS : va_S X.A H0 H locs) (hsz : ls.size = nL) (hlk : Cond.methodLink own index yX7_knownRelations ∈ lw_u) (hR : 3 + 1 ≤ R.frames ∧ 8 + (1 + 11) + 76 ≤ R.locals) (hW : (rest.map fun v => v.category).sum ≤ 8) (hdg : decode cc pc = .ok (.invokevirtual index, 3)) (hcs : cells ≤ R.cells ∧ slots ≤ R.slots) (hf : fn_X7_knownRelations g M = some M9)
    (kk : ∀ (H1 : Heap) (locs1 : List Loc), wd X M9 H1 → va_S X.A H0 H1 locs1 → W p l e R s m args below meth c H1 locs1 cells slots Q (F0 m (pc + 3) ls (.ref (X.ad 9) :: rest))) : W p l e R s m args below meth c H locs cells slots Q (F0 m pc ls (.ref (X.ad 0) :: rest)) :=
  cal_r (runV (As := []) (rest := rest) hZ.1 hZ.2.1 hZ.2.2.1 hZ.2.2.2.1 hZ.2.2.2.2.1 hZ.2.2.2.2.2 hP (c_X7_knownRelations g M M9 hf) wd_2_188 wd_2_187 wd_p_10 wd_1_1 hd_X7_knownRelations (by decide) rfl rfl rfl hlk hR hsz rfl hW hdg hcs) hS kk
/-! FrameRaiser$Relations.blockersOf -/
def fn_X5_blockersOf (k0 : Nat) (x1 : Int32) (x2 : Int32) (M : Mem) : Option (Int32) :=
  if inb (((6 : Int32) * x1) + x2) 48 then
  some (M (k0 + 2) (ix (((6 : Int32) * x1) + x2)))
  else none
theorem dX5_blockersOf_0 : decode cX5_blockersOf 0 = .ok (.aload_n 0, 1) := by decide +kernel
theorem dX5_blockersOf_1 : decode cX5_blockersOf 1 = .ok (.getfield 15, 3) := by decide +kernel
theorem dX5_blockersOf_4 : decode cX5_blockersOf 4 = .ok (.bipush 6, 2) := by decide +kernel
theorem dX5_blockersOf_6 : decode cX5_blockersOf 6 = .ok (.iload_n 1, 1) := by decide +kernel
theorem dX5_blockersOf_7 : decode cX5_blockersOf 7 = .ok (.imul, 1) := by decide +kernel
theorem dX5_blockersOf_8 : decode cX5_blockersOf 8 = .ok (.iload_n 2, 1) := by decide +kernel
theorem dX5_blockersOf_9 : decode cX5_blockersOf 9 = .ok (.iadd, 1) := by decide +kernel
theorem dX5_blockersOf_10 : decode cX5_blockersOf 10 = .ok (.iaload, 1) := by decide +kernel
theorem dX5_blockersOf_11 : decode cX5_blockersOf 11 = .ok (.ireturn, 1) := by decide +kernel
set_option maxHeartbeats 4000000 in
set_option maxRecDepth 100000 in
theorem c_X5_blockersOf {l : Launch} {X : En} (k0 : Nat) (x1 : Int32) (x2 : Int32) (M : Mem) (hk0 : isR k0) (r : Int32) (hf : fn_X5_blockersOf k0 x1 x2 M = some r) : Cn l X yX5_blockersOf cX5_blockersOf 3 (some .int) 0 0 [.ref (X.ad k0), .int x1, .int x2] M (Qi X r M) := by
  refine Met.ofW (cc := cX5_blockersOf) (maxL := 3) (ret := (some .int)) (by decide) rfl ?_
  intro p e s m args below meth c s₁ B hml hv
  obtain ⟨rfl, hP, hk⟩ := hv
  have hx := B.exec
  have hb := B.bytes
  have hr := B.returns
  have hlocks := B.notSynchronized
  have hts : ∀ w ∈ lw_u, w.before ([.ref (X.ad k0), .int x1, .int x2] : List Value).toArray s = true := fun w hw => atoms_spec (ws := Cond.code yX5_blockersOf cX5_blockersOf 3 (some .int) :: lw_u) B.pre w (List.mem_cons_of_mem _ hw)
  have hown : s.vm.findClass RX5 = some m.cls := findClass_of_methodNamed B.named
  have hZ : Fx p c m s ([.ref (X.ad k0), .int x1, .int x2] : List Value).toArray X cX5_blockersOf 3 RX5 := ⟨hx, hb, hml, hts, hown, hk⟩
  have hS : va_S X.A s.heap s.heap [] := va_S.rf
  have hl := lv_entry ([.ref (X.ad k0), .int x1, .int x2]) (n := 3) (Nat.le_of_ble_eq_true rfl)
  rw [lg_entry_eq]
  generalize (lg_sl ([.ref (X.ad k0), .int x1, .int x2]) ++ List.replicate (3 - (lg_sl ([.ref (X.ad k0), .int x1, .int x2])).length) Slot.unset).toArray = ls at hl ⊢
  have hl : lv_has ls 3 [(0, .ref (X.ad k0)), (1, .int x1), (2, .int x2)] := hl
  show WW p l e 0 0 s m [.ref (X.ad k0), .int x1, .int x2] below meth c X (Qi X r M) s.heap [] 0 ls []
  have hP : wd X M s.heap := hP
  unfold fn_X5_blockersOf at hf
  have key : ∀ (H : Heap) (locs : List Loc), wd X M H → va_S X.A s.heap H locs → WW p l e 0 0 s m [.ref (X.ad k0), .int x1, .int x2] below meth c X (Qi X r M) H locs 0 ls [] := by
    intro H locs hP hS
    refine lv_aload_n hx hb dX5_blockersOf_0 rfl (lv_at hl 0 rfl) ?_
    refine gX5_1 hx hb hts hown hk hP hk0 wd_1_92 dX5_blockersOf_1 ?_
    refine lv_bipush (v := (6 : Int32)) hx hb dX5_blockersOf_4 (by decide) ?_
    refine lv_iload_n hx hb dX5_blockersOf_6 rfl (lv_at hl 1 rfl) ?_
    refine lv_imul hx hb dX5_blockersOf_7 ?_
    refine lv_iload_n hx hb dX5_blockersOf_8 rfl (lv_at hl 2 rfl) ?_
    refine lv_iadd hx hb dX5_blockersOf_9 ?_
    obtain ⟨q_1, hf⟩ := g_if hf
    refine ald hx hb hk hP (isR_lt2 hk0) (rd_R2 hk0 _) q_1 dX5_blockersOf_10 ?_
    have hf := Option.some.inj hf
    exact ret_i hx hb hr hlocks hP hS hf dX5_blockersOf_11
  exact key s.heap [] hP hS
theorem hd_X5_blockersOf : Hd yX5_blockersOf 2 := by decide +kernel
theorem k_X5_blockersOf {p : Program} {l : Launch} {e : Env} {R : Room} {s : State} {m : MethodId} {args : Array Value} {below : List Frame} {meth : Method} {c : Code} {H : Heap} {locs : List Loc} {cells slots : Nat} {Q : State → Prop} {cc : ByteArray} {nL pc index : Nat} {ls : Array Slot} {rest : List Value} {X : En} {M : Mem} {H0 : Heap} {own : String} {k0 : Nat} {x1 : Int32} {x2 : Int32} {r : Int32} (hZ : Fx p c m s args X cc nL own) (hP : wd X M H) (hS : va_S X.A H0 H locs) (hsz : ls.size = nL) (hlk : Cond.methodLink own index yX5_blockersOf ∈ lw_u) (hR : 0 + 1 ≤ R.frames ∧ 8 + (3 + 11) + 0 ≤ R.locals) (hW : (rest.map fun v => v.category).sum ≤ 8) (hdg : decode cc pc = .ok (.invokevirtual index, 3)) (hcs : cells ≤ R.cells ∧ slots ≤ R.slots) (hk0 : isR k0) (hf : fn_X5_blockersOf k0 x1 x2 M = some r)
    (kk : ∀ (H1 : Heap) (locs1 : List Loc), wd X M H1 → va_S X.A H0 H1 locs1 → W p l e R s m args below meth c H1 locs1 cells slots Q (F0 m (pc + 3) ls (.int r :: rest))) : W p l e R s m args below meth c H locs cells slots Q (F0 m pc ls (.int x2 :: .int x1 :: .ref (X.ad k0) :: rest)) :=
  cal_i (runV (As := [.int x1, .int x2]) (rest := rest) hZ.1 hZ.2.1 hZ.2.2.1 hZ.2.2.2.1 hZ.2.2.2.2.1 hZ.2.2.2.2.2 hP (c_X5_blockersOf k0 x1 x2 M hk0 r hf) wd_2_216 wd_2_214 wd_2_215 wd_1_4 hd_X5_blockersOf (isR_lt0 hk0) (rd_R0 hk0 _) rfl rfl hlk hR hsz rfl hW hdg hcs) hS kk
/-! FrameRaiser.blockers -/
def fn_X7_blockers (g : Nat) (x1 : Int32) (x2 : Int32) (M : Mem) : Option (Int32 × Mem) :=
  if (fn_X7_isPiece x1 M) = 0 then
    (some ((-1 : Int32), M))
  else
    (if (fn_X7_isDirection x2) = 0 then
      (some ((-1 : Int32), M))
    else
      ((fn_X7_knownRelations g M).bind fun M_3 =>
      (fn_X5_blockersOf 9 x1 x2 M_3).bind fun r_4 =>
      some (r_4, M_3)))
theorem dX7_blockers_0 : decode cX7_blockers 0 = .ok (.aload_n 0, 1) := by decide +kernel
theorem dX7_blockers_1 : decode cX7_blockers 1 = .ok (.iload_n 1, 1) := by decide +kernel
theorem dX7_blockers_2 : decode cX7_blockers 2 = .ok (.invokevirtual 109, 3) := by decide +kernel
theorem dX7_blockers_5 : decode cX7_blockers 5 = .ok (.ifCond .eq 10, 3) := by decide +kernel
theorem dX7_blockers_8 : decode cX7_blockers 8 = .ok (.iload_n 2, 1) := by decide +kernel
theorem dX7_blockers_9 : decode cX7_blockers 9 = .ok (.invokestatic 157, 3) := by decide +kernel
theorem dX7_blockers_12 : decode cX7_blockers 12 = .ok (.ifCond .ne 5, 3) := by decide +kernel
theorem dX7_blockers_15 : decode cX7_blockers 15 = .ok (.iconst (-1), 1) := by decide +kernel
theorem dX7_blockers_16 : decode cX7_blockers 16 = .ok (.ireturn, 1) := by decide +kernel
theorem dX7_blockers_17 : decode cX7_blockers 17 = .ok (.aload_n 0, 1) := by decide +kernel
theorem dX7_blockers_18 : decode cX7_blockers 18 = .ok (.invokevirtual 160, 3) := by decide +kernel
theorem dX7_blockers_21 : decode cX7_blockers 21 = .ok (.iload_n 1, 1) := by decide +kernel
theorem dX7_blockers_22 : decode cX7_blockers 22 = .ok (.iload_n 2, 1) := by decide +kernel
theorem dX7_blockers_23 : decode cX7_blockers 23 = .ok (.invokevirtual 164, 3) := by decide +kernel
theorem dX7_blockers_26 : decode cX7_blockers 26 = .ok (.ireturn, 1) := by decide +kernel
set_option maxHeartbeats 4000000 in
set_option maxRecDepth 100000 in
theorem c_X7_blockers {l : Launch} {X : En} (g : Nat) (x1 : Int32) (x2 : Int32) (M : Mem) (r : Int32) (M9 : Mem) (hf : fn_X7_blockers g x1 x2 M = some (r, M9)) : Cn l X yX7_blockers cX7_blockers 3 (some .int) 4 96 [.ref (X.ad 0), .int x1, .int x2] M (Qi X r M9) := by
  refine Met.ofW (cc := cX7_blockers) (maxL := 3) (ret := (some .int)) (by decide) rfl ?_
  intro p e s m args below meth c s₁ B hml hv
  obtain ⟨rfl, hP, hk⟩ := hv
  have hx := B.exec
  have hb := B.bytes
  have hr := B.returns
  have hlocks := B.notSynchronized
  have hts : ∀ w ∈ lw_u, w.before ([.ref (X.ad 0), .int x1, .int x2] : List Value).toArray s = true := fun w hw => atoms_spec (ws := Cond.code yX7_blockers cX7_blockers 3 (some .int) :: lw_u) B.pre w (List.mem_cons_of_mem _ hw)
  have hown : s.vm.findClass RX7 = some m.cls := findClass_of_methodNamed B.named
  have hZ : Fx p c m s ([.ref (X.ad 0), .int x1, .int x2] : List Value).toArray X cX7_blockers 3 RX7 := ⟨hx, hb, hml, hts, hown, hk⟩
  have hS : va_S X.A s.heap s.heap [] := va_S.rf
  have hl := lv_entry ([.ref (X.ad 0), .int x1, .int x2]) (n := 3) (Nat.le_of_ble_eq_true rfl)
  rw [lg_entry_eq]
  generalize (lg_sl ([.ref (X.ad 0), .int x1, .int x2]) ++ List.replicate (3 - (lg_sl ([.ref (X.ad 0), .int x1, .int x2])).length) Slot.unset).toArray = ls at hl ⊢
  have hl : lv_has ls 3 [(0, .ref (X.ad 0)), (1, .int x1), (2, .int x2)] := hl
  show WW p l e 4 96 s m [.ref (X.ad 0), .int x1, .int x2] below meth c X (Qi X r M9) s.heap [] 0 ls []
  have hP : wd X M s.heap := hP
  unfold fn_X7_blockers at hf
  have key : ∀ (H : Heap) (locs : List Loc), wd X M H → va_S X.A s.heap H locs → WW p l e 4 96 s m [.ref (X.ad 0), .int x1, .int x2] below meth c X (Qi X r M9) H locs 0 ls [] := by
    intro H locs hP hS
    refine lv_aload_n hx hb dX7_blockers_0 rfl (lv_at hl 0 rfl) ?_
    refine lv_iload_n hx hb dX7_blockers_1 rfl (lv_at hl 1 rfl) ?_
    refine k_X7_isPiece hZ hP hS hl.1 wd_2_106 ⟨Nat.le_of_ble_eq_true rfl, Nat.le_of_ble_eq_true rfl⟩ (Nat.le_of_ble_eq_true rfl) dX7_blockers_2 ⟨Nat.zero_le _, Nat.zero_le _⟩ (fun H locs hP hS => ?_)
    refine lv_if_eq (tgt := 15) hx hb dX7_blockers_5 (by decide) (fun c_1 => ?_) (fun c_1 => ?_)
    · have hf := i_t c_1 hf
      refine lv_iconst (v := (-1 : Int32)) hx hb dX7_blockers_15 (by decide) ?_
      have hf := Option.some.inj hf
      obtain ⟨e1, e2⟩ := Prod.mk.inj hf
      rw [e2] at hP
      exact ret_i hx hb hr hlocks hP hS e1 dX7_blockers_16
    · have hf := i_f c_1 hf
      refine lv_iload_n hx hb dX7_blockers_8 rfl (lv_at hl 2 rfl) ?_
      refine k_X7_isDirection hZ hP hS hl.1 wd_2_145 ⟨Nat.le_of_ble_eq_true rfl, Nat.le_of_ble_eq_true rfl⟩ (Nat.le_of_ble_eq_true rfl) dX7_blockers_9 ⟨Nat.zero_le _, Nat.zero_le _⟩ (fun H locs hP hS => ?_)
      refine lv_if_ne (tgt := 17) hx hb dX7_blockers_12 (by decide) (fun c_2 => ?_) (fun c_2 => ?_)
      · have hf := i_f c_2 hf
        refine lv_aload_n hx hb dX7_blockers_17 rfl (lv_at hl 0 rfl) ?_
        obtain ⟨M_3, h_M_3, hf⟩ := b_d hf
        refine k_X7_knownRelations hZ hP hS hl.1 wd_2_185 ⟨Nat.le_of_ble_eq_true rfl, Nat.le_of_ble_eq_true rfl⟩ (Nat.le_of_ble_eq_true rfl) dX7_blockers_18 ⟨Nat.zero_le _, Nat.zero_le _⟩ h_M_3 (fun H locs hP hS => ?_)
        refine lv_iload_n hx hb dX7_blockers_21 rfl (lv_at hl 1 rfl) ?_
        refine lv_iload_n hx hb dX7_blockers_22 rfl (lv_at hl 2 rfl) ?_
        obtain ⟨r_4, h_r_4, hf⟩ := b_d hf
        refine k_X5_blockersOf hZ hP hS hl.1 wd_2_213 ⟨Nat.le_of_ble_eq_true rfl, Nat.le_of_ble_eq_true rfl⟩ (Nat.le_of_ble_eq_true rfl) dX7_blockers_23 ⟨Nat.zero_le _, Nat.zero_le _⟩ isR_9 h_r_4 (fun H locs hP hS => ?_)
        have hf := Option.some.inj hf
        obtain ⟨e1, e2⟩ := Prod.mk.inj hf
        rw [e2] at hP
        exact ret_i hx hb hr hlocks hP hS e1 dX7_blockers_26
      · have hf := i_t c_2 hf
        refine lv_iconst (v := (-1 : Int32)) hx hb dX7_blockers_15 (by decide) ?_
        have hf := Option.some.inj hf
        obtain ⟨e1, e2⟩ := Prod.mk.inj hf
        rw [e2] at hP
        exact ret_i hx hb hr hlocks hP hS e1 dX7_blockers_16
  exact key s.heap [] hP hS
theorem hd_X7_blockers : Hd yX7_blockers 2 := by decide +kernel
theorem k_X7_blockers {p : Program} {l : Launch} {e : Env} {R : Room} {s : State} {m : MethodId} {args : Array Value} {below : List Frame} {meth : Method} {c : Code} {H : Heap} {locs : List Loc} {cells slots : Nat} {Q : State → Prop} {cc : ByteArray} {nL pc index : Nat} {ls : Array Slot} {rest : List Value} {X : En} {M : Mem} {H0 : Heap} {own : String} {g : Nat} {x1 : Int32} {x2 : Int32} {r : Int32} {M9 : Mem} (hZ : Fx p c m s args X cc nL own) (hP : wd X M H) (hS : va_S X.A H0 H locs) (hsz : ls.size = nL) (hlk : Cond.methodLink own index yX7_blockers ∈ lw_u) (hR : 4 + 1 ≤ R.frames ∧ 8 + (3 + 11) + 96 ≤ R.locals) (hW : (rest.map fun v => v.category).sum ≤ 8) (hdg : decode cc pc = .ok (.invokevirtual index, 3)) (hcs : cells ≤ R.cells ∧ slots ≤ R.slots) (hf : fn_X7_blockers g x1 x2 M = some (r, M9))
    (kk : ∀ (H1 : Heap) (locs1 : List Loc), wd X M9 H1 → va_S X.A H0 H1 locs1 → W p l e R s m args below meth c H1 locs1 cells slots Q (F0 m (pc + 3) ls (.int r :: rest))) : W p l e R s m args below meth c H locs cells slots Q (F0 m pc ls (.int x2 :: .int x1 :: .ref (X.ad 0) :: rest)) :=
  cal_i (runV (As := [.int x1, .int x2]) (rest := rest) hZ.1 hZ.2.1 hZ.2.2.1 hZ.2.2.2.1 hZ.2.2.2.2.1 hZ.2.2.2.2.2 hP (c_X7_blockers g x1 x2 M r M9 hf) wd_2_184 wd_2_182 wd_2_183 wd_1_1 hd_X7_blockers (by decide) rfl rfl rfl hlk hR hsz rfl hW hdg hcs) hS kk
/-! FrameRaiser.allPieces -/
def fn_X7_allPieces (M : Mem) : Int32 :=
  (sl (1 : Int32) (M 1 2)) - (1 : Int32)
theorem dX7_allPieces_0 : decode cX7_allPieces 0 = .ok (.iconst 1, 1) := by decide +kernel
theorem dX7_allPieces_1 : decode cX7_allPieces 1 = .ok (.aload_n 0, 1) := by decide +kernel
theorem dX7_allPieces_2 : decode cX7_allPieces 2 = .ok (.getfield 10, 3) := by decide +kernel
theorem dX7_allPieces_5 : decode cX7_allPieces 5 = .ok (.getfield 91, 3) := by decide +kernel
theorem dX7_allPieces_8 : decode cX7_allPieces 8 = .ok (.ishl, 1) := by decide +kernel
theorem dX7_allPieces_9 : decode cX7_allPieces 9 = .ok (.iconst 1, 1) := by decide +kernel
theorem dX7_allPieces_10 : decode cX7_allPieces 10 = .ok (.isub, 1) := by decide +kernel
theorem dX7_allPieces_11 : decode cX7_allPieces 11 = .ok (.ireturn, 1) := by decide +kernel
set_option maxHeartbeats 4000000 in
set_option maxRecDepth 100000 in
theorem c_X7_allPieces {l : Launch} {X : En} (M : Mem) (r : Int32) (hf : fn_X7_allPieces M = r) : Cn l X yX7_allPieces cX7_allPieces 1 (some .int) 0 0 [.ref (X.ad 0)] M (Qi X r M) := by
  refine Met.ofW (cc := cX7_allPieces) (maxL := 1) (ret := (some .int)) (by decide) rfl ?_
  intro p e s m args below meth c s₁ B hml hv
  obtain ⟨rfl, hP, hk⟩ := hv
  have hx := B.exec
  have hb := B.bytes
  have hr := B.returns
  have hlocks := B.notSynchronized
  have hts : ∀ w ∈ lw_u, w.before ([.ref (X.ad 0)] : List Value).toArray s = true := fun w hw => atoms_spec (ws := Cond.code yX7_allPieces cX7_allPieces 1 (some .int) :: lw_u) B.pre w (List.mem_cons_of_mem _ hw)
  have hown : s.vm.findClass RX7 = some m.cls := findClass_of_methodNamed B.named
  have hZ : Fx p c m s ([.ref (X.ad 0)] : List Value).toArray X cX7_allPieces 1 RX7 := ⟨hx, hb, hml, hts, hown, hk⟩
  have hS : va_S X.A s.heap s.heap [] := va_S.rf
  have hl := lv_entry ([.ref (X.ad 0)]) (n := 1) (Nat.le_of_ble_eq_true rfl)
  rw [lg_entry_eq]
  generalize (lg_sl ([.ref (X.ad 0)]) ++ List.replicate (1 - (lg_sl ([.ref (X.ad 0)])).length) Slot.unset).toArray = ls at hl ⊢
  have hl : lv_has ls 1 [(0, .ref (X.ad 0))] := hl
  show WW p l e 0 0 s m [.ref (X.ad 0)] below meth c X (Qi X r M) s.heap [] 0 ls []
  have hP : wd X M s.heap := hP
  unfold fn_X7_allPieces at hf
  have key : ∀ (H : Heap) (locs : List Loc), wd X M H → va_S X.A s.heap H locs → WW p l e 0 0 s m [.ref (X.ad 0)] below meth c X (Qi X r M) H locs 0 ls [] := by
    intro H locs hP hS
    refine lv_iconst (v := (1 : Int32)) hx hb dX7_allPieces_0 (by decide) ?_
    refine lv_aload_n hx hb dX7_allPieces_1 rfl (lv_at hl 0 rfl) ?_
    refine gX7_0 hx hb hts hown hk hP wd_1_213 dX7_allPieces_2 ?_
    refine gX1_2 hx hb hts hown hk hP isF_1 wd_1_40 dX7_allPieces_5 ?_
    refine rw_ishl hx hb dX7_allPieces_8 ?_
    refine lv_iconst (v := (1 : Int32)) hx hb dX7_allPieces_9 (by decide) ?_
    refine lv_isub hx hb dX7_allPieces_10 ?_
    exact ret_i hx hb hr hlocks hP hS hf dX7_allPieces_11
  exact key s.heap [] hP hS
theorem hd_X7_allPieces : Hd yX7_allPieces 0 := by decide +kernel
theorem k_X7_allPieces {p : Program} {l : Launch} {e : Env} {R : Room} {s : State} {m : MethodId} {args : Array Value} {below : List Frame} {meth : Method} {c : Code} {H : Heap} {locs : List Loc} {cells slots : Nat} {Q : State → Prop} {cc : ByteArray} {nL pc index : Nat} {ls : Array Slot} {rest : List Value} {X : En} {M : Mem} {H0 : Heap} {own : String} (hZ : Fx p c m s args X cc nL own) (hP : wd X M H) (hS : va_S X.A H0 H locs) (hsz : ls.size = nL) (hlk : Cond.methodLink own index yX7_allPieces ∈ lw_u) (hR : 0 + 1 ≤ R.frames ∧ 8 + (1 + 11) + 0 ≤ R.locals) (hW : (rest.map fun v => v.category).sum ≤ 8) (hdg : decode cc pc = .ok (.invokevirtual index, 3)) (hcs : cells ≤ R.cells ∧ slots ≤ R.slots)
    (kk : ∀ (H1 : Heap) (locs1 : List Loc), wd X M H1 → va_S X.A H0 H1 locs1 → W p l e R s m args below meth c H1 locs1 cells slots Q (F0 m (pc + 3) ls (.int (fn_X7_allPieces M) :: rest))) : W p l e R s m args below meth c H locs cells slots Q (F0 m pc ls (.ref (X.ad 0) :: rest)) :=
  cal_i (runV (As := []) (rest := rest) hZ.1 hZ.2.1 hZ.2.2.1 hZ.2.2.2.1 hZ.2.2.2.2.1 hZ.2.2.2.2.2 hP (c_X7_allPieces M _ rfl) wd_2_228 wd_2_227 wd_p_16 wd_1_1 hd_X7_allPieces (by decide) rfl rfl rfl hlk hR hsz rfl hW hdg hcs) hS kk
/-! FrameRaiser.isSet -/
def fn_X7_isSet (x1 : Int32) (M : Mem) : Int32 :=
  if x1 < 0 then
    ((0 : Int32))
  else
    (if (fn_X7_allPieces M) < x1 then
      ((0 : Int32))
    else
      ((1 : Int32)))
theorem dX7_isSet_0 : decode cX7_isSet 0 = .ok (.iload_n 1, 1) := by decide +kernel
theorem dX7_isSet_1 : decode cX7_isSet 1 = .ok (.ifCond .lt 15, 3) := by decide +kernel
theorem dX7_isSet_4 : decode cX7_isSet 4 = .ok (.iload_n 1, 1) := by decide +kernel
theorem dX7_isSet_5 : decode cX7_isSet 5 = .ok (.aload_n 0, 1) := by decide +kernel
theorem dX7_isSet_6 : decode cX7_isSet 6 = .ok (.invokevirtual 232, 3) := by decide +kernel
theorem dX7_isSet_9 : decode cX7_isSet 9 = .ok (.if_icmp .gt 7, 3) := by decide +kernel
theorem dX7_isSet_12 : decode cX7_isSet 12 = .ok (.iconst 1, 1) := by decide +kernel
theorem dX7_isSet_13 : decode cX7_isSet 13 = .ok (.goto 4, 3) := by decide +kernel
theorem dX7_isSet_16 : decode cX7_isSet 16 = .ok (.iconst 0, 1) := by decide +kernel
theorem dX7_isSet_17 : decode cX7_isSet 17 = .ok (.ireturn, 1) := by decide +kernel
theorem z_X7_isSet (x1 : Int32) (M : Mem) : isZ (fn_X7_isSet x1 M) := by
  unfold fn_X7_isSet
  repeat' (first | exact isZ_0 | exact isZ_1 | split)
set_option maxHeartbeats 4000000 in
set_option maxRecDepth 100000 in
theorem c_X7_isSet {l : Launch} {X : En} (x1 : Int32) (M : Mem) (r : Int32) (hf : fn_X7_isSet x1 M = r) : Cn l X yX7_isSet cX7_isSet 2 (some .boolean) 1 20 [.ref (X.ad 0), .int x1] M (Qi X r M) := by
  refine Met.ofW (cc := cX7_isSet) (maxL := 2) (ret := (some .boolean)) (by decide) rfl ?_
  intro p e s m args below meth c s₁ B hml hv
  obtain ⟨rfl, hP, hk⟩ := hv
  have hx := B.exec
  have hb := B.bytes
  have hr := B.returns
  have hlocks := B.notSynchronized
  have hts : ∀ w ∈ lw_u, w.before ([.ref (X.ad 0), .int x1] : List Value).toArray s = true := fun w hw => atoms_spec (ws := Cond.code yX7_isSet cX7_isSet 2 (some .boolean) :: lw_u) B.pre w (List.mem_cons_of_mem _ hw)
  have hown : s.vm.findClass RX7 = some m.cls := findClass_of_methodNamed B.named
  have hZ : Fx p c m s ([.ref (X.ad 0), .int x1] : List Value).toArray X cX7_isSet 2 RX7 := ⟨hx, hb, hml, hts, hown, hk⟩
  have hS : va_S X.A s.heap s.heap [] := va_S.rf
  have hl := lv_entry ([.ref (X.ad 0), .int x1]) (n := 2) (Nat.le_of_ble_eq_true rfl)
  rw [lg_entry_eq]
  generalize (lg_sl ([.ref (X.ad 0), .int x1]) ++ List.replicate (2 - (lg_sl ([.ref (X.ad 0), .int x1])).length) Slot.unset).toArray = ls at hl ⊢
  have hl : lv_has ls 2 [(0, .ref (X.ad 0)), (1, .int x1)] := hl
  show WW p l e 1 20 s m [.ref (X.ad 0), .int x1] below meth c X (Qi X r M) s.heap [] 0 ls []
  have hP : wd X M s.heap := hP
  unfold fn_X7_isSet at hf
  have key : ∀ (H : Heap) (locs : List Loc), wd X M H → va_S X.A s.heap H locs → WW p l e 1 20 s m [.ref (X.ad 0), .int x1] below meth c X (Qi X r M) H locs 0 ls [] := by
    intro H locs hP hS
    refine lv_iload_n hx hb dX7_isSet_0 rfl (lv_at hl 1 rfl) ?_
    refine lv_if_lt (tgt := 16) hx hb dX7_isSet_1 (by decide) (fun c_1 => ?_) (fun c_1 => ?_)
    · have hf := i_t c_1 hf
      refine lv_iconst (v := (0 : Int32)) hx hb dX7_isSet_16 (by decide) ?_
      exact ret_z hx hb hr hlocks hP hS isZ_0 hf dX7_isSet_17
    · have hf := i_f c_1 hf
      refine lv_iload_n hx hb dX7_isSet_4 rfl (lv_at hl 1 rfl) ?_
      refine lv_aload_n hx hb dX7_isSet_5 rfl (lv_at hl 0 rfl) ?_
      refine k_X7_allPieces hZ hP hS hl.1 wd_2_225 ⟨Nat.le_of_ble_eq_true rfl, Nat.le_of_ble_eq_true rfl⟩ (Nat.le_of_ble_eq_true rfl) dX7_isSet_6 ⟨Nat.zero_le _, Nat.zero_le _⟩ (fun H locs hP hS => ?_)
      refine lv_icmp_gt (tgt := 16) hx hb dX7_isSet_9 (by decide) (fun c_2 => ?_) (fun c_2 => ?_)
      · have hf := i_t c_2 hf
        refine lv_iconst (v := (0 : Int32)) hx hb dX7_isSet_16 (by decide) ?_
        exact ret_z hx hb hr hlocks hP hS isZ_0 hf dX7_isSet_17
      · have hf := i_f c_2 hf
        refine lv_iconst (v := (1 : Int32)) hx hb dX7_isSet_12 (by decide) ?_
        refine lv_goto (tgt := 17) hx hb dX7_isSet_13 (by decide) ?_
        exact ret_z hx hb hr hlocks hP hS isZ_1 hf dX7_isSet_17
  exact key s.heap [] hP hS
theorem hd_X7_isSet : Hd yX7_isSet 1 := by decide +kernel
theorem k_X7_isSet {p : Program} {l : Launch} {e : Env} {R : Room} {s : State} {m : MethodId} {args : Array Value} {below : List Frame} {meth : Method} {c : Code} {H : Heap} {locs : List Loc} {cells slots : Nat} {Q : State → Prop} {cc : ByteArray} {nL pc index : Nat} {ls : Array Slot} {rest : List Value} {X : En} {M : Mem} {H0 : Heap} {own : String} {x1 : Int32} (hZ : Fx p c m s args X cc nL own) (hP : wd X M H) (hS : va_S X.A H0 H locs) (hsz : ls.size = nL) (hlk : Cond.methodLink own index yX7_isSet ∈ lw_u) (hR : 1 + 1 ≤ R.frames ∧ 8 + (2 + 11) + 20 ≤ R.locals) (hW : (rest.map fun v => v.category).sum ≤ 8) (hdg : decode cc pc = .ok (.invokevirtual index, 3)) (hcs : cells ≤ R.cells ∧ slots ≤ R.slots)
    (kk : ∀ (H1 : Heap) (locs1 : List Loc), wd X M H1 → va_S X.A H0 H1 locs1 → W p l e R s m args below meth c H1 locs1 cells slots Q (F0 m (pc + 3) ls (.int (fn_X7_isSet x1 M) :: rest))) : W p l e R s m args below meth c H locs cells slots Q (F0 m pc ls (.int x1 :: .ref (X.ad 0) :: rest)) :=
  cal_i (runV (As := [.int x1]) (rest := rest) hZ.1 hZ.2.1 hZ.2.2.1 hZ.2.2.2.1 hZ.2.2.2.2.1 hZ.2.2.2.2.2 hP (c_X7_isSet x1 M _ rfl) wd_2_224 wd_2_223 wd_p_15 wd_1_1 hd_X7_isSet (by decide) rfl rfl rfl hlk hR hsz rfl hW hdg hcs) hS kk
/-! FrameRaiser$Relations.isFree -/
def fn_X5_isFree (k0 : Nat) (x1 : Int32) (x2 : Int32) (x3 : Int32) (M : Mem) : Option (Int32) :=
  if inb (((6 : Int32) * x1) + x2) 48 then
  if ((M (k0 + 2) (ix (((6 : Int32) * x1) + x2))) &&& x3) = 0 then
    (some (1 : Int32))
  else
    (some (0 : Int32))
  else none
theorem dX5_isFree_0 : decode cX5_isFree 0 = .ok (.aload_n 0, 1) := by decide +kernel
theorem dX5_isFree_1 : decode cX5_isFree 1 = .ok (.getfield 15, 3) := by decide +kernel
theorem dX5_isFree_4 : decode cX5_isFree 4 = .ok (.bipush 6, 2) := by decide +kernel
theorem dX5_isFree_6 : decode cX5_isFree 6 = .ok (.iload_n 1, 1) := by decide +kernel
theorem dX5_isFree_7 : decode cX5_isFree 7 = .ok (.imul, 1) := by decide +kernel
theorem dX5_isFree_8 : decode cX5_isFree 8 = .ok (.iload_n 2, 1) := by decide +kernel
theorem dX5_isFree_9 : decode cX5_isFree 9 = .ok (.iadd, 1) := by decide +kernel
theorem dX5_isFree_10 : decode cX5_isFree 10 = .ok (.iaload, 1) := by decide +kernel
theorem dX5_isFree_11 : decode cX5_isFree 11 = .ok (.iload_n 3, 1) := by decide +kernel
theorem dX5_isFree_12 : decode cX5_isFree 12 = .ok (.iand, 1) := by decide +kernel
theorem dX5_isFree_13 : decode cX5_isFree 13 = .ok (.ifCond .ne 7, 3) := by decide +kernel
theorem dX5_isFree_16 : decode cX5_isFree 16 = .ok (.iconst 1, 1) := by decide +kernel
theorem dX5_isFree_17 : decode cX5_isFree 17 = .ok (.goto 4, 3) := by decide +kernel
theorem dX5_isFree_20 : decode cX5_isFree 20 = .ok (.iconst 0, 1) := by decide +kernel
theorem dX5_isFree_21 : decode cX5_isFree 21 = .ok (.ireturn, 1) := by decide +kernel
set_option maxHeartbeats 4000000 in
set_option maxRecDepth 100000 in
theorem c_X5_isFree {l : Launch} {X : En} (k0 : Nat) (x1 : Int32) (x2 : Int32) (x3 : Int32) (M : Mem) (hk0 : isR k0) (r : Int32) (hf : fn_X5_isFree k0 x1 x2 x3 M = some r) : Cn l X yX5_isFree cX5_isFree 4 (some .boolean) 0 0 [.ref (X.ad k0), .int x1, .int x2, .int x3] M (Qi X r M) := by
  refine Met.ofW (cc := cX5_isFree) (maxL := 4) (ret := (some .boolean)) (by decide) rfl ?_
  intro p e s m args below meth c s₁ B hml hv
  obtain ⟨rfl, hP, hk⟩ := hv
  have hx := B.exec
  have hb := B.bytes
  have hr := B.returns
  have hlocks := B.notSynchronized
  have hts : ∀ w ∈ lw_u, w.before ([.ref (X.ad k0), .int x1, .int x2, .int x3] : List Value).toArray s = true := fun w hw => atoms_spec (ws := Cond.code yX5_isFree cX5_isFree 4 (some .boolean) :: lw_u) B.pre w (List.mem_cons_of_mem _ hw)
  have hown : s.vm.findClass RX5 = some m.cls := findClass_of_methodNamed B.named
  have hZ : Fx p c m s ([.ref (X.ad k0), .int x1, .int x2, .int x3] : List Value).toArray X cX5_isFree 4 RX5 := ⟨hx, hb, hml, hts, hown, hk⟩
  have hS : va_S X.A s.heap s.heap [] := va_S.rf
  have hl := lv_entry ([.ref (X.ad k0), .int x1, .int x2, .int x3]) (n := 4) (Nat.le_of_ble_eq_true rfl)
  rw [lg_entry_eq]
  generalize (lg_sl ([.ref (X.ad k0), .int x1, .int x2, .int x3]) ++ List.replicate (4 - (lg_sl ([.ref (X.ad k0), .int x1, .int x2, .int x3])).length) Slot.unset).toArray = ls at hl ⊢
  have hl : lv_has ls 4 [(0, .ref (X.ad k0)), (1, .int x1), (2, .int x2), (3, .int x3)] := hl
  show WW p l e 0 0 s m [.ref (X.ad k0), .int x1, .int x2, .int x3] below meth c X (Qi X r M) s.heap [] 0 ls []
  have hP : wd X M s.heap := hP
  unfold fn_X5_isFree at hf
  have key : ∀ (H : Heap) (locs : List Loc), wd X M H → va_S X.A s.heap H locs → WW p l e 0 0 s m [.ref (X.ad k0), .int x1, .int x2, .int x3] below meth c X (Qi X r M) H locs 0 ls [] := by
    intro H locs hP hS
    refine lv_aload_n hx hb dX5_isFree_0 rfl (lv_at hl 0 rfl) ?_
    refine gX5_1 hx hb hts hown hk hP hk0 wd_1_92 dX5_isFree_1 ?_
    refine lv_bipush (v := (6 : Int32)) hx hb dX5_isFree_4 (by decide) ?_
    refine lv_iload_n hx hb dX5_isFree_6 rfl (lv_at hl 1 rfl) ?_
    refine lv_imul hx hb dX5_isFree_7 ?_
    refine lv_iload_n hx hb dX5_isFree_8 rfl (lv_at hl 2 rfl) ?_
    refine lv_iadd hx hb dX5_isFree_9 ?_
    obtain ⟨q_1, hf⟩ := g_if hf
    refine ald hx hb hk hP (isR_lt2 hk0) (rd_R2 hk0 _) q_1 dX5_isFree_10 ?_
    refine lv_iload_n hx hb dX5_isFree_11 rfl (lv_at hl 3 rfl) ?_
    refine lv_iand hx hb dX5_isFree_12 ?_
    refine lv_if_ne (tgt := 20) hx hb dX5_isFree_13 (by decide) (fun c_2 => ?_) (fun c_2 => ?_)
    · have hf := i_f c_2 hf
      refine lv_iconst (v := (0 : Int32)) hx hb dX5_isFree_20 (by decide) ?_
      have hf := Option.some.inj hf
      exact ret_z hx hb hr hlocks hP hS isZ_0 hf dX5_isFree_21
    · have hf := i_t c_2 hf
      refine lv_iconst (v := (1 : Int32)) hx hb dX5_isFree_16 (by decide) ?_
      refine lv_goto (tgt := 21) hx hb dX5_isFree_17 (by decide) ?_
      have hf := Option.some.inj hf
      exact ret_z hx hb hr hlocks hP hS isZ_1 hf dX5_isFree_21
  exact key s.heap [] hP hS
theorem hd_X5_isFree : Hd yX5_isFree 3 := by decide +kernel
theorem k_X5_isFree {p : Program} {l : Launch} {e : Env} {R : Room} {s : State} {m : MethodId} {args : Array Value} {below : List Frame} {meth : Method} {c : Code} {H : Heap} {locs : List Loc} {cells slots : Nat} {Q : State → Prop} {cc : ByteArray} {nL pc index : Nat} {ls : Array Slot} {rest : List Value} {X : En} {M : Mem} {H0 : Heap} {own : String} {k0 : Nat} {x1 : Int32} {x2 : Int32} {x3 : Int32} {r : Int32} (hZ : Fx p c m s args X cc nL own) (hP : wd X M H) (hS : va_S X.A H0 H locs) (hsz : ls.size = nL) (hlk : Cond.methodLink own index yX5_isFree ∈ lw_u) (hR : 0 + 1 ≤ R.frames ∧ 8 + (4 + 11) + 0 ≤ R.locals) (hW : (rest.map fun v => v.category).sum ≤ 8) (hdg : decode cc pc = .ok (.invokevirtual index, 3)) (hcs : cells ≤ R.cells ∧ slots ≤ R.slots) (hk0 : isR k0) (hf : fn_X5_isFree k0 x1 x2 x3 M = some r)
    (kk : ∀ (H1 : Heap) (locs1 : List Loc), wd X M H1 → va_S X.A H0 H1 locs1 → W p l e R s m args below meth c H1 locs1 cells slots Q (F0 m (pc + 3) ls (.int r :: rest))) : W p l e R s m args below meth c H locs cells slots Q (F0 m pc ls (.int x3 :: .int x2 :: .int x1 :: .ref (X.ad k0) :: rest)) :=
  cal_i (runV (As := [.int x1, .int x2, .int x3]) (rest := rest) hZ.1 hZ.2.1 hZ.2.2.1 hZ.2.2.2.1 hZ.2.2.2.2.1 hZ.2.2.2.2.2 hP (c_X5_isFree k0 x1 x2 x3 M hk0 r hf) wd_2_232 wd_2_230 wd_2_231 wd_1_4 hd_X5_isFree (isR_lt0 hk0) (rd_R0 hk0 _) rfl rfl hlk hR hsz rfl hW hdg hcs) hS kk
/-! FrameRaiser.ways -/
def bd_X7_ways_29 (x1 : Int32) (x2 : Int32) (M_3 : Mem) : (Int32 × Int32) → Option ((Int32 × Int32) ⊕ (Int32)) :=
  u2 fun v4_5 v5_4 =>
  if (6 : Int32) ≤ v5_4 then
    (some (.inr v4_5))
  else
    ((fn_X5_isFree 9 x1 v5_4 x2 M_3).bind fun r_8 =>
    if r_8 = 0 then
      (some (.inl (v4_5, v5_4 + (1 : Int32))))
    else
      (bv (v4_5 ||| (sl (1 : Int32) v5_4)) fun v4_10 =>
      some (.inl (v4_10, v5_4 + (1 : Int32)))))
def fn_X7_ways (g : Nat) (x1 : Int32) (x2 : Int32) (M : Mem) : Option (Int32 × Mem) :=
  if (fn_X7_isPiece x1 M) = 0 then
    (some ((-1 : Int32), M))
  else
    (if (fn_X7_isSet x2 M) = 0 then
      (some ((-1 : Int32), M))
    else
      ((fn_X7_knownRelations g M).bind fun M_3 =>
      (lpN g (bd_X7_ways_29 x1 x2 M_3) ((0 : Int32), (0 : Int32))).bind (u1 fun v4_6 =>
        some (v4_6, M_3))))
theorem dX7_ways_0 : decode cX7_ways 0 = .ok (.aload_n 0, 1) := by decide +kernel
theorem dX7_ways_1 : decode cX7_ways 1 = .ok (.iload_n 1, 1) := by decide +kernel
theorem dX7_ways_2 : decode cX7_ways 2 = .ok (.invokevirtual 109, 3) := by decide +kernel
theorem dX7_ways_5 : decode cX7_ways 5 = .ok (.ifCond .eq 11, 3) := by decide +kernel
theorem dX7_ways_8 : decode cX7_ways 8 = .ok (.aload_n 0, 1) := by decide +kernel
theorem dX7_ways_9 : decode cX7_ways 9 = .ok (.iload_n 2, 1) := by decide +kernel
theorem dX7_ways_10 : decode cX7_ways 10 = .ok (.invokevirtual 167, 3) := by decide +kernel
theorem dX7_ways_13 : decode cX7_ways 13 = .ok (.ifCond .ne 5, 3) := by decide +kernel
theorem dX7_ways_16 : decode cX7_ways 16 = .ok (.iconst (-1), 1) := by decide +kernel
theorem dX7_ways_17 : decode cX7_ways 17 = .ok (.ireturn, 1) := by decide +kernel
theorem dX7_ways_18 : decode cX7_ways 18 = .ok (.aload_n 0, 1) := by decide +kernel
theorem dX7_ways_19 : decode cX7_ways 19 = .ok (.invokevirtual 160, 3) := by decide +kernel
theorem dX7_ways_22 : decode cX7_ways 22 = .ok (.astore_n 3, 1) := by decide +kernel
theorem dX7_ways_23 : decode cX7_ways 23 = .ok (.iconst 0, 1) := by decide +kernel
theorem dX7_ways_24 : decode cX7_ways 24 = .ok (.istore 4, 2) := by decide +kernel
theorem dX7_ways_26 : decode cX7_ways 26 = .ok (.iconst 0, 1) := by decide +kernel
theorem dX7_ways_27 : decode cX7_ways 27 = .ok (.istore 5, 2) := by decide +kernel
theorem dX7_ways_29 : decode cX7_ways 29 = .ok (.iload 5, 2) := by decide +kernel
theorem dX7_ways_31 : decode cX7_ways 31 = .ok (.bipush 6, 2) := by decide +kernel
theorem dX7_ways_33 : decode cX7_ways 33 = .ok (.if_icmp .ge 29, 3) := by decide +kernel
theorem dX7_ways_36 : decode cX7_ways 36 = .ok (.aload_n 3, 1) := by decide +kernel
theorem dX7_ways_37 : decode cX7_ways 37 = .ok (.iload_n 1, 1) := by decide +kernel
theorem dX7_ways_38 : decode cX7_ways 38 = .ok (.iload 5, 2) := by decide +kernel
theorem dX7_ways_40 : decode cX7_ways 40 = .ok (.iload_n 2, 1) := by decide +kernel
theorem dX7_ways_41 : decode cX7_ways 41 = .ok (.invokevirtual 170, 3) := by decide +kernel
theorem dX7_ways_44 : decode cX7_ways 44 = .ok (.ifCond .eq 12, 3) := by decide +kernel
theorem dX7_ways_47 : decode cX7_ways 47 = .ok (.iload 4, 2) := by decide +kernel
theorem dX7_ways_49 : decode cX7_ways 49 = .ok (.iconst 1, 1) := by decide +kernel
theorem dX7_ways_50 : decode cX7_ways 50 = .ok (.iload 5, 2) := by decide +kernel
theorem dX7_ways_52 : decode cX7_ways 52 = .ok (.ishl, 1) := by decide +kernel
theorem dX7_ways_53 : decode cX7_ways 53 = .ok (.ior, 1) := by decide +kernel
theorem dX7_ways_54 : decode cX7_ways 54 = .ok (.istore 4, 2) := by decide +kernel
theorem dX7_ways_56 : decode cX7_ways 56 = .ok (.iinc 5 1, 3) := by decide +kernel
theorem dX7_ways_59 : decode cX7_ways 59 = .ok (.goto (-30), 3) := by decide +kernel
theorem dX7_ways_62 : decode cX7_ways 62 = .ok (.iload 4, 2) := by decide +kernel
theorem dX7_ways_64 : decode cX7_ways 64 = .ok (.ireturn, 1) := by decide +kernel
set_option maxHeartbeats 4000000 in
set_option maxRecDepth 100000 in
theorem c_X7_ways {l : Launch} {X : En} (g : Nat) (x1 : Int32) (x2 : Int32) (M : Mem) (r : Int32) (M9 : Mem) (hf : fn_X7_ways g x1 x2 M = some (r, M9)) : Cn l X yX7_ways cX7_ways 6 (some .int) 4 96 [.ref (X.ad 0), .int x1, .int x2] M (Qi X r M9) := by
  refine Met.ofW (cc := cX7_ways) (maxL := 6) (ret := (some .int)) (by decide) rfl ?_
  intro p e s m args below meth c s₁ B hml hv
  obtain ⟨rfl, hP, hk⟩ := hv
  have hx := B.exec
  have hb := B.bytes
  have hr := B.returns
  have hlocks := B.notSynchronized
  have hts : ∀ w ∈ lw_u, w.before ([.ref (X.ad 0), .int x1, .int x2] : List Value).toArray s = true := fun w hw => atoms_spec (ws := Cond.code yX7_ways cX7_ways 6 (some .int) :: lw_u) B.pre w (List.mem_cons_of_mem _ hw)
  have hown : s.vm.findClass RX7 = some m.cls := findClass_of_methodNamed B.named
  have hZ : Fx p c m s ([.ref (X.ad 0), .int x1, .int x2] : List Value).toArray X cX7_ways 6 RX7 := ⟨hx, hb, hml, hts, hown, hk⟩
  have hS : va_S X.A s.heap s.heap [] := va_S.rf
  have hl := lv_entry ([.ref (X.ad 0), .int x1, .int x2]) (n := 6) (Nat.le_of_ble_eq_true rfl)
  rw [lg_entry_eq]
  generalize (lg_sl ([.ref (X.ad 0), .int x1, .int x2]) ++ List.replicate (6 - (lg_sl ([.ref (X.ad 0), .int x1, .int x2])).length) Slot.unset).toArray = ls at hl ⊢
  have hl : lv_has ls 6 [(0, .ref (X.ad 0)), (1, .int x1), (2, .int x2)] := hl
  show WW p l e 4 96 s m [.ref (X.ad 0), .int x1, .int x2] below meth c X (Qi X r M9) s.heap [] 0 ls []
  have hP : wd X M s.heap := hP
  unfold fn_X7_ways at hf
  have key : ∀ (H : Heap) (locs : List Loc), wd X M H → va_S X.A s.heap H locs → WW p l e 4 96 s m [.ref (X.ad 0), .int x1, .int x2] below meth c X (Qi X r M9) H locs 0 ls [] := by
    intro H locs hP hS
    refine lv_aload_n hx hb dX7_ways_0 rfl (lv_at hl 0 rfl) ?_
    refine lv_iload_n hx hb dX7_ways_1 rfl (lv_at hl 1 rfl) ?_
    refine k_X7_isPiece hZ hP hS hl.1 wd_2_106 ⟨Nat.le_of_ble_eq_true rfl, Nat.le_of_ble_eq_true rfl⟩ (Nat.le_of_ble_eq_true rfl) dX7_ways_2 ⟨Nat.zero_le _, Nat.zero_le _⟩ (fun H locs hP hS => ?_)
    refine lv_if_eq (tgt := 16) hx hb dX7_ways_5 (by decide) (fun c_1 => ?_) (fun c_1 => ?_)
    · have hf := i_t c_1 hf
      refine lv_iconst (v := (-1 : Int32)) hx hb dX7_ways_16 (by decide) ?_
      have hf := Option.some.inj hf
      obtain ⟨e1, e2⟩ := Prod.mk.inj hf
      rw [e2] at hP
      exact ret_i hx hb hr hlocks hP hS e1 dX7_ways_17
    · have hf := i_f c_1 hf
      refine lv_aload_n hx hb dX7_ways_8 rfl (lv_at hl 0 rfl) ?_
      refine lv_iload_n hx hb dX7_ways_9 rfl (lv_at hl 2 rfl) ?_
      refine k_X7_isSet hZ hP hS hl.1 wd_2_221 ⟨Nat.le_of_ble_eq_true rfl, Nat.le_of_ble_eq_true rfl⟩ (Nat.le_of_ble_eq_true rfl) dX7_ways_10 ⟨Nat.zero_le _, Nat.zero_le _⟩ (fun H locs hP hS => ?_)
      refine lv_if_ne (tgt := 18) hx hb dX7_ways_13 (by decide) (fun c_2 => ?_) (fun c_2 => ?_)
      · have hf := i_f c_2 hf
        refine lv_aload_n hx hb dX7_ways_18 rfl (lv_at hl 0 rfl) ?_
        obtain ⟨M_3, h_M_3, hf⟩ := b_d hf
        refine k_X7_knownRelations hZ hP hS hl.1 wd_2_185 ⟨Nat.le_of_ble_eq_true rfl, Nat.le_of_ble_eq_true rfl⟩ (Nat.le_of_ble_eq_true rfl) dX7_ways_19 ⟨Nat.zero_le _, Nat.zero_le _⟩ h_M_3 (fun H locs hP hS => ?_)
        refine lv_astore_n (lv' := [(3, .ref (X.ad 9)), (0, .ref (X.ad 0)), (1, .int x1), (2, .int x2)]) hx hb dX7_ways_22 rfl hl (by decide) rfl (fun ls hl => ?_)
        refine lv_iconst (v := (0 : Int32)) hx hb dX7_ways_23 (by decide) ?_
        refine lv_istore (lv' := [(4, .int (0 : Int32)), (3, .ref (X.ad 9)), (0, .ref (X.ad 0)), (1, .int x1), (2, .int x2)]) hx hb dX7_ways_24 hl (by decide) rfl (fun ls hl => ?_)
        refine lv_iconst (v := (0 : Int32)) hx hb dX7_ways_26 (by decide) ?_
        refine lv_istore (lv' := [(5, .int (0 : Int32)), (4, .int (0 : Int32)), (3, .ref (X.ad 9)), (0, .ref (X.ad 0)), (1, .int x1), (2, .int x2)]) hx hb dX7_ways_27 hl (by decide) rfl (fun ls hl => ?_)
        obtain ⟨o29, ho29, hf⟩ := b_d hf
        refine lp_rule (b := bd_X7_ways_29 x1 x2 M_3) (P := fun w : Int32 × Int32 => ∀ (H : Heap) (locs : List Loc) (ls : Array Slot), wd X M_3 H → va_S X.A s.heap H locs → lv_has ls 6 [(5, .int w.2), (4, .int w.1), (3, .ref (X.ad 9)), (1, .int x1), (2, .int x2)] → WW p l e 4 96 s m [.ref (X.ad 0), .int x1, .int x2] below meth c X (Qi X r M9) H locs 29 ls []) (K := fun o => ∀ (v4_6 : Int32), o = v4_6 → ∀ (H : Heap) (locs : List Loc) (ls : Array Slot), wd X M_3 H → va_S X.A s.heap H locs → lv_has ls 6 [(4, .int v4_6)] → WW p l e 4 96 s m [.ref (X.ad 0), .int x1, .int x2] below meth c X (Qi X r M9) H locs 62 ls []) ?_ g ((0 : Int32), (0 : Int32)) o29 ho29 ?_ H locs ls hP hS (lv_sub hl [0, 1, 2, 4, 5] rfl)
        · rintro ⟨v4_5, v5_4⟩ o hf hkc29 hke29 H locs ls hP hS hl
          have hf := u2_e hf
          refine lv_iload hx hb dX7_ways_29 (lv_at hl 0 rfl) ?_
          refine lv_bipush (v := (6 : Int32)) hx hb dX7_ways_31 (by decide) ?_
          refine lv_icmp_ge (tgt := 62) hx hb dX7_ways_33 (by decide) (fun c_7 => ?_) (fun c_7 => ?_)
          · have hf := i_t c_7 hf
            exact hke29 _ (Option.some.inj hf).symm _ rfl H locs ls hP hS (lv_sub hl [1] rfl)
          · have hf := i_f c_7 hf
            refine lv_aload_n hx hb dX7_ways_36 rfl (lv_at hl 2 rfl) ?_
            refine lv_iload_n hx hb dX7_ways_37 rfl (lv_at hl 3 rfl) ?_
            refine lv_iload hx hb dX7_ways_38 (lv_at hl 0 rfl) ?_
            refine lv_iload_n hx hb dX7_ways_40 rfl (lv_at hl 4 rfl) ?_
            obtain ⟨r_8, h_r_8, hf⟩ := b_d hf
            refine k_X5_isFree hZ hP hS hl.1 wd_2_229 ⟨Nat.le_of_ble_eq_true rfl, Nat.le_of_ble_eq_true rfl⟩ (Nat.le_of_ble_eq_true rfl) dX7_ways_41 ⟨Nat.zero_le _, Nat.zero_le _⟩ isR_9 h_r_8 (fun H locs hP hS => ?_)
            refine lv_if_eq (tgt := 56) hx hb dX7_ways_44 (by decide) (fun c_9 => ?_) (fun c_9 => ?_)
            · have hf := i_t c_9 hf
              refine lv_iinc (v := v5_4 + (1 : Int32)) (lv' := [(5, .int (v5_4 + (1 : Int32))), (4, .int v4_5), (3, .ref (X.ad 9)), (1, .int x1), (2, .int x2)]) hx hb dX7_ways_56 hl (k := 0) rfl rfl (by decide) rfl (fun ls hl => ?_)
              refine lv_goto (tgt := 29) hx hb dX7_ways_59 (by decide) ?_
              exact hkc29 _ (Option.some.inj hf).symm H locs ls hP hS (lv_sub hl [0, 1, 2, 3, 4] rfl)
            · have hf := i_f c_9 hf
              refine lv_iload hx hb dX7_ways_47 (lv_at hl 1 rfl) ?_
              refine lv_iconst (v := (1 : Int32)) hx hb dX7_ways_49 (by decide) ?_
              refine lv_iload hx hb dX7_ways_50 (lv_at hl 0 rfl) ?_
              refine rw_ishl hx hb dX7_ways_52 ?_
              refine lv_ior hx hb dX7_ways_53 ?_
              refine lv_topi (fun v4_10 e_v4_10 => ?_)
              have hf := b_v hf e_v4_10
              refine lv_istore (lv' := [(4, .int v4_10), (5, .int v5_4), (3, .ref (X.ad 9)), (1, .int x1), (2, .int x2)]) hx hb dX7_ways_54 hl (by decide) rfl (fun ls hl => ?_)
              refine lv_iinc (v := v5_4 + (1 : Int32)) (lv' := [(5, .int (v5_4 + (1 : Int32))), (4, .int v4_10), (3, .ref (X.ad 9)), (1, .int x1), (2, .int x2)]) hx hb dX7_ways_56 hl (k := 1) rfl rfl (by decide) rfl (fun ls hl => ?_)
              refine lv_goto (tgt := 29) hx hb dX7_ways_59 (by decide) ?_
              exact hkc29 _ (Option.some.inj hf).symm H locs ls hP hS (lv_sub hl [0, 1, 2, 3, 4] rfl)
        · intro v4_6 e H locs ls hP hS hl
          subst o29
          have hf := u1_e hf
          refine lv_iload hx hb dX7_ways_62 (lv_at hl 0 rfl) ?_
          have hf := Option.some.inj hf
          obtain ⟨e1, e2⟩ := Prod.mk.inj hf
          rw [e2] at hP
          exact ret_i hx hb hr hlocks hP hS e1 dX7_ways_64
      · have hf := i_t c_2 hf
        refine lv_iconst (v := (-1 : Int32)) hx hb dX7_ways_16 (by decide) ?_
        have hf := Option.some.inj hf
        obtain ⟨e1, e2⟩ := Prod.mk.inj hf
        rw [e2] at hP
        exact ret_i hx hb hr hlocks hP hS e1 dX7_ways_17
  exact key s.heap [] hP hS
theorem hd_X7_ways : Hd yX7_ways 2 := by decide +kernel
theorem k_X7_ways {p : Program} {l : Launch} {e : Env} {R : Room} {s : State} {m : MethodId} {args : Array Value} {below : List Frame} {meth : Method} {c : Code} {H : Heap} {locs : List Loc} {cells slots : Nat} {Q : State → Prop} {cc : ByteArray} {nL pc index : Nat} {ls : Array Slot} {rest : List Value} {X : En} {M : Mem} {H0 : Heap} {own : String} {g : Nat} {x1 : Int32} {x2 : Int32} {r : Int32} {M9 : Mem} (hZ : Fx p c m s args X cc nL own) (hP : wd X M H) (hS : va_S X.A H0 H locs) (hsz : ls.size = nL) (hlk : Cond.methodLink own index yX7_ways ∈ lw_u) (hR : 4 + 1 ≤ R.frames ∧ 8 + (6 + 11) + 96 ≤ R.locals) (hW : (rest.map fun v => v.category).sum ≤ 8) (hdg : decode cc pc = .ok (.invokevirtual index, 3)) (hcs : cells ≤ R.cells ∧ slots ≤ R.slots) (hf : fn_X7_ways g x1 x2 M = some (r, M9))
    (kk : ∀ (H1 : Heap) (locs1 : List Loc), wd X M9 H1 → va_S X.A H0 H1 locs1 → W p l e R s m args below meth c H1 locs1 cells slots Q (F0 m (pc + 3) ls (.int r :: rest))) : W p l e R s m args below meth c H locs cells slots Q (F0 m pc ls (.int x2 :: .int x1 :: .ref (X.ad 0) :: rest)) :=
  cal_i (runV (As := [.int x1, .int x2]) (rest := rest) hZ.1 hZ.2.1 hZ.2.2.1 hZ.2.2.2.1 hZ.2.2.2.2.1 hZ.2.2.2.2.2 hP (c_X7_ways g x1 x2 M r M9 hf) wd_2_220 wd_2_218 wd_2_219 wd_1_1 hd_X7_ways (by decide) rfl rfl rfl hlk hR hsz rfl hW hdg hcs) hS kk
/-! FrameRaiser.contact -/
def fn_X7_contact (g : Nat) (x1 : Int32) (x2 : Int32) (M : Mem) : Option (Int32 × Mem) :=
  if (fn_X7_isPiece x1 M) = 0 then
    (some ((-1 : Int32), M))
  else
    (if (fn_X7_isPiece x2 M) = 0 then
      (some ((-1 : Int32), M))
    else
      (if x1 = x2 then
        (some ((-1 : Int32), M))
      else
        ((fn_X7_knownRelations g M).bind fun M_4 =>
        if inb (((8 : Int32) * x1) + x2) 64 then
        some (M_4 10 (ix (((8 : Int32) * x1) + x2)), M_4)
        else none)))
theorem dX7_contact_0 : decode cX7_contact 0 = .ok (.aload_n 0, 1) := by decide +kernel
theorem dX7_contact_1 : decode cX7_contact 1 = .ok (.iload_n 1, 1) := by decide +kernel
theorem dX7_contact_2 : decode cX7_contact 2 = .ok (.invokevirtual 109, 3) := by decide +kernel
theorem dX7_contact_5 : decode cX7_contact 5 = .ok (.ifCond .eq 16, 3) := by decide +kernel
theorem dX7_contact_8 : decode cX7_contact 8 = .ok (.aload_n 0, 1) := by decide +kernel
theorem dX7_contact_9 : decode cX7_contact 9 = .ok (.iload_n 2, 1) := by decide +kernel
theorem dX7_contact_10 : decode cX7_contact 10 = .ok (.invokevirtual 109, 3) := by decide +kernel
theorem dX7_contact_13 : decode cX7_contact 13 = .ok (.ifCond .eq 8, 3) := by decide +kernel
theorem dX7_contact_16 : decode cX7_contact 16 = .ok (.iload_n 1, 1) := by decide +kernel
theorem dX7_contact_17 : decode cX7_contact 17 = .ok (.iload_n 2, 1) := by decide +kernel
theorem dX7_contact_18 : decode cX7_contact 18 = .ok (.if_icmp .ne 5, 3) := by decide +kernel
theorem dX7_contact_21 : decode cX7_contact 21 = .ok (.iconst (-1), 1) := by decide +kernel
theorem dX7_contact_22 : decode cX7_contact 22 = .ok (.ireturn, 1) := by decide +kernel
theorem dX7_contact_23 : decode cX7_contact 23 = .ok (.aload_n 0, 1) := by decide +kernel
theorem dX7_contact_24 : decode cX7_contact 24 = .ok (.invokevirtual 160, 3) := by decide +kernel
theorem dX7_contact_27 : decode cX7_contact 27 = .ok (.getfield 174, 3) := by decide +kernel
theorem dX7_contact_30 : decode cX7_contact 30 = .ok (.bipush 8, 2) := by decide +kernel
theorem dX7_contact_32 : decode cX7_contact 32 = .ok (.iload_n 1, 1) := by decide +kernel
theorem dX7_contact_33 : decode cX7_contact 33 = .ok (.imul, 1) := by decide +kernel
theorem dX7_contact_34 : decode cX7_contact 34 = .ok (.iload_n 2, 1) := by decide +kernel
theorem dX7_contact_35 : decode cX7_contact 35 = .ok (.iadd, 1) := by decide +kernel
theorem dX7_contact_36 : decode cX7_contact 36 = .ok (.iaload, 1) := by decide +kernel
theorem dX7_contact_37 : decode cX7_contact 37 = .ok (.ireturn, 1) := by decide +kernel
set_option maxHeartbeats 4000000 in
set_option maxRecDepth 100000 in
theorem c_X7_contact {l : Launch} {X : En} (g : Nat) (x1 : Int32) (x2 : Int32) (M : Mem) (r : Int32) (M9 : Mem) (hf : fn_X7_contact g x1 x2 M = some (r, M9)) : Cn l X yX7_contact cX7_contact 3 (some .int) 4 96 [.ref (X.ad 0), .int x1, .int x2] M (Qi X r M9) := by
  refine Met.ofW (cc := cX7_contact) (maxL := 3) (ret := (some .int)) (by decide) rfl ?_
  intro p e s m args below meth c s₁ B hml hv
  obtain ⟨rfl, hP, hk⟩ := hv
  have hx := B.exec
  have hb := B.bytes
  have hr := B.returns
  have hlocks := B.notSynchronized
  have hts : ∀ w ∈ lw_u, w.before ([.ref (X.ad 0), .int x1, .int x2] : List Value).toArray s = true := fun w hw => atoms_spec (ws := Cond.code yX7_contact cX7_contact 3 (some .int) :: lw_u) B.pre w (List.mem_cons_of_mem _ hw)
  have hown : s.vm.findClass RX7 = some m.cls := findClass_of_methodNamed B.named
  have hZ : Fx p c m s ([.ref (X.ad 0), .int x1, .int x2] : List Value).toArray X cX7_contact 3 RX7 := ⟨hx, hb, hml, hts, hown, hk⟩
  have hS : va_S X.A s.heap s.heap [] := va_S.rf
  have hl := lv_entry ([.ref (X.ad 0), .int x1, .int x2]) (n := 3) (Nat.le_of_ble_eq_true rfl)
  rw [lg_entry_eq]
  generalize (lg_sl ([.ref (X.ad 0), .int x1, .int x2]) ++ List.replicate (3 - (lg_sl ([.ref (X.ad 0), .int x1, .int x2])).length) Slot.unset).toArray = ls at hl ⊢
  have hl : lv_has ls 3 [(0, .ref (X.ad 0)), (1, .int x1), (2, .int x2)] := hl
  show WW p l e 4 96 s m [.ref (X.ad 0), .int x1, .int x2] below meth c X (Qi X r M9) s.heap [] 0 ls []
  have hP : wd X M s.heap := hP
  unfold fn_X7_contact at hf
  have key : ∀ (H : Heap) (locs : List Loc), wd X M H → va_S X.A s.heap H locs → WW p l e 4 96 s m [.ref (X.ad 0), .int x1, .int x2] below meth c X (Qi X r M9) H locs 0 ls [] := by
    intro H locs hP hS
    refine lv_aload_n hx hb dX7_contact_0 rfl (lv_at hl 0 rfl) ?_
    refine lv_iload_n hx hb dX7_contact_1 rfl (lv_at hl 1 rfl) ?_
    refine k_X7_isPiece hZ hP hS hl.1 wd_2_106 ⟨Nat.le_of_ble_eq_true rfl, Nat.le_of_ble_eq_true rfl⟩ (Nat.le_of_ble_eq_true rfl) dX7_contact_2 ⟨Nat.zero_le _, Nat.zero_le _⟩ (fun H locs hP hS => ?_)
    refine lv_if_eq (tgt := 21) hx hb dX7_contact_5 (by decide) (fun c_1 => ?_) (fun c_1 => ?_)
    · have hf := i_t c_1 hf
      refine lv_iconst (v := (-1 : Int32)) hx hb dX7_contact_21 (by decide) ?_
      have hf := Option.some.inj hf
      obtain ⟨e1, e2⟩ := Prod.mk.inj hf
      rw [e2] at hP
      exact ret_i hx hb hr hlocks hP hS e1 dX7_contact_22
    · have hf := i_f c_1 hf
      refine lv_aload_n hx hb dX7_contact_8 rfl (lv_at hl 0 rfl) ?_
      refine lv_iload_n hx hb dX7_contact_9 rfl (lv_at hl 2 rfl) ?_
      refine k_X7_isPiece hZ hP hS hl.1 wd_2_106 ⟨Nat.le_of_ble_eq_true rfl, Nat.le_of_ble_eq_true rfl⟩ (Nat.le_of_ble_eq_true rfl) dX7_contact_10 ⟨Nat.zero_le _, Nat.zero_le _⟩ (fun H locs hP hS => ?_)
      refine lv_if_eq (tgt := 21) hx hb dX7_contact_13 (by decide) (fun c_2 => ?_) (fun c_2 => ?_)
      · have hf := i_t c_2 hf
        refine lv_iconst (v := (-1 : Int32)) hx hb dX7_contact_21 (by decide) ?_
        have hf := Option.some.inj hf
        obtain ⟨e1, e2⟩ := Prod.mk.inj hf
        rw [e2] at hP
        exact ret_i hx hb hr hlocks hP hS e1 dX7_contact_22
      · have hf := i_f c_2 hf
        refine lv_iload_n hx hb dX7_contact_16 rfl (lv_at hl 1 rfl) ?_
        refine lv_iload_n hx hb dX7_contact_17 rfl (lv_at hl 2 rfl) ?_
        refine lv_icmp_ne (tgt := 23) hx hb dX7_contact_18 (by decide) (fun c_3 => ?_) (fun c_3 => ?_)
        · have hf := i_f c_3 hf
          refine lv_aload_n hx hb dX7_contact_23 rfl (lv_at hl 0 rfl) ?_
          obtain ⟨M_4, h_M_4, hf⟩ := b_d hf
          refine k_X7_knownRelations hZ hP hS hl.1 wd_2_185 ⟨Nat.le_of_ble_eq_true rfl, Nat.le_of_ble_eq_true rfl⟩ (Nat.le_of_ble_eq_true rfl) dX7_contact_24 ⟨Nat.zero_le _, Nat.zero_le _⟩ h_M_4 (fun H locs hP hS => ?_)
          refine gX5_0 hx hb hts hown hk hP isR_9 wd_1_91 dX7_contact_27 ?_
          refine lv_bipush (v := (8 : Int32)) hx hb dX7_contact_30 (by decide) ?_
          refine lv_iload_n hx hb dX7_contact_32 rfl (lv_at hl 1 rfl) ?_
          refine lv_imul hx hb dX7_contact_33 ?_
          refine lv_iload_n hx hb dX7_contact_34 rfl (lv_at hl 2 rfl) ?_
          refine lv_iadd hx hb dX7_contact_35 ?_
          obtain ⟨q_5, hf⟩ := g_if hf
          refine ald hx hb hk hP (by decide) rfl q_5 dX7_contact_36 ?_
          have hf := Option.some.inj hf
          obtain ⟨e1, e2⟩ := Prod.mk.inj hf
          rw [e2] at hP
          exact ret_i hx hb hr hlocks hP hS e1 dX7_contact_37
        · have hf := i_t c_3 hf
          refine lv_iconst (v := (-1 : Int32)) hx hb dX7_contact_21 (by decide) ?_
          have hf := Option.some.inj hf
          obtain ⟨e1, e2⟩ := Prod.mk.inj hf
          rw [e2] at hP
          exact ret_i hx hb hr hlocks hP hS e1 dX7_contact_22
  exact key s.heap [] hP hS
theorem hd_X7_contact : Hd yX7_contact 2 := by decide +kernel
theorem k_X7_contact {p : Program} {l : Launch} {e : Env} {R : Room} {s : State} {m : MethodId} {args : Array Value} {below : List Frame} {meth : Method} {c : Code} {H : Heap} {locs : List Loc} {cells slots : Nat} {Q : State → Prop} {cc : ByteArray} {nL pc index : Nat} {ls : Array Slot} {rest : List Value} {X : En} {M : Mem} {H0 : Heap} {own : String} {g : Nat} {x1 : Int32} {x2 : Int32} {r : Int32} {M9 : Mem} (hZ : Fx p c m s args X cc nL own) (hP : wd X M H) (hS : va_S X.A H0 H locs) (hsz : ls.size = nL) (hlk : Cond.methodLink own index yX7_contact ∈ lw_u) (hR : 4 + 1 ≤ R.frames ∧ 8 + (3 + 11) + 96 ≤ R.locals) (hW : (rest.map fun v => v.category).sum ≤ 8) (hdg : decode cc pc = .ok (.invokevirtual index, 3)) (hcs : cells ≤ R.cells ∧ slots ≤ R.slots) (hf : fn_X7_contact g x1 x2 M = some (r, M9))
    (kk : ∀ (H1 : Heap) (locs1 : List Loc), wd X M9 H1 → va_S X.A H0 H1 locs1 → W p l e R s m args below meth c H1 locs1 cells slots Q (F0 m (pc + 3) ls (.int r :: rest))) : W p l e R s m args below meth c H locs cells slots Q (F0 m pc ls (.int x2 :: .int x1 :: .ref (X.ad 0) :: rest)) :=
  cal_i (runV (As := [.int x1, .int x2]) (rest := rest) hZ.1 hZ.2.1 hZ.2.2.1 hZ.2.2.2.1 hZ.2.2.2.2.1 hZ.2.2.2.2.2 hP (c_X7_contact g x1 x2 M r M9 hf) wd_2_236 wd_2_234 wd_2_235 wd_1_1 hd_X7_contact (by decide) rfl rfl rfl hlk hR hsz rfl hW hdg hcs) hS kk
/-! FrameRaiser$Relations.isConnected -/
def bd_X5_isConnected_18 (k0 : Nat) (x1 : Int32) (M : Mem) : (Int32 × Int32) → Option ((Int32 × Int32) ⊕ (Int32)) :=
  u2 fun v2_7 v4_6 =>
  if (M k0 5) ≤ v4_6 then
    (some (.inr v2_7))
  else
    (if (fn_X7_has v2_7 v4_6) = 0 then
      (some (.inl (v2_7, v4_6 + (1 : Int32))))
    else
      (if inb v4_6 8 then
      bv (v2_7 ||| ((M (k0 + 3) (ix v4_6)) &&& x1)) fun v2_12 =>
      some (.inl (v2_12, v4_6 + (1 : Int32)))
      else none))
def bd_X5_isConnected_7 (g : Nat) (k0 : Nat) (x1 : Int32) (M : Mem) : (Int32 × Int32) → Option ((Int32 × Int32) ⊕ (Int32)) :=
  u2 fun v2_3 v3_2 =>
  if (M k0 5) ≤ v3_2 then
    (some (.inr v2_3))
  else
    ((lpN g (bd_X5_isConnected_18 k0 x1 M) (v2_3, (0 : Int32))).bind (u1 fun v2_8 =>
      some (.inl (v2_8, v3_2 + (1 : Int32)))))
def fn_X5_isConnected (g : Nat) (k0 : Nat) (x1 : Int32) (M : Mem) : Option (Int32) :=
  bv (x1 &&& (-x1)) fun v2_1 =>
  (lpN g (bd_X5_isConnected_7 g k0 x1 M) (v2_1, (0 : Int32))).bind (u1 fun v2_4 =>
    if v2_4 = x1 then
      (some (1 : Int32))
    else
      (some (0 : Int32)))
theorem dX5_isConnected_0 : decode cX5_isConnected 0 = .ok (.iload_n 1, 1) := by decide +kernel
theorem dX5_isConnected_1 : decode cX5_isConnected 1 = .ok (.iload_n 1, 1) := by decide +kernel
theorem dX5_isConnected_2 : decode cX5_isConnected 2 = .ok (.ineg, 1) := by decide +kernel
theorem dX5_isConnected_3 : decode cX5_isConnected 3 = .ok (.iand, 1) := by decide +kernel
theorem dX5_isConnected_4 : decode cX5_isConnected 4 = .ok (.istore_n 2, 1) := by decide +kernel
theorem dX5_isConnected_5 : decode cX5_isConnected 5 = .ok (.iconst 0, 1) := by decide +kernel
theorem dX5_isConnected_6 : decode cX5_isConnected 6 = .ok (.istore_n 3, 1) := by decide +kernel
theorem dX5_isConnected_7 : decode cX5_isConnected 7 = .ok (.iload_n 3, 1) := by decide +kernel
theorem dX5_isConnected_8 : decode cX5_isConnected 8 = .ok (.aload_n 0, 1) := by decide +kernel
theorem dX5_isConnected_9 : decode cX5_isConnected 9 = .ok (.getfield 33, 3) := by decide +kernel
theorem dX5_isConnected_12 : decode cX5_isConnected 12 = .ok (.if_icmp .ge 48, 3) := by decide +kernel
theorem dX5_isConnected_15 : decode cX5_isConnected 15 = .ok (.iconst 0, 1) := by decide +kernel
theorem dX5_isConnected_16 : decode cX5_isConnected 16 = .ok (.istore 4, 2) := by decide +kernel
theorem dX5_isConnected_18 : decode cX5_isConnected 18 = .ok (.iload 4, 2) := by decide +kernel
theorem dX5_isConnected_20 : decode cX5_isConnected 20 = .ok (.aload_n 0, 1) := by decide +kernel
theorem dX5_isConnected_21 : decode cX5_isConnected 21 = .ok (.getfield 33, 3) := by decide +kernel
theorem dX5_isConnected_24 : decode cX5_isConnected 24 = .ok (.if_icmp .ge 30, 3) := by decide +kernel
theorem dX5_isConnected_27 : decode cX5_isConnected 27 = .ok (.iload_n 2, 1) := by decide +kernel
theorem dX5_isConnected_28 : decode cX5_isConnected 28 = .ok (.iload 4, 2) := by decide +kernel
theorem dX5_isConnected_30 : decode cX5_isConnected 30 = .ok (.invokestatic 64, 3) := by decide +kernel
theorem dX5_isConnected_33 : decode cX5_isConnected 33 = .ok (.ifCond .eq 15, 3) := by decide +kernel
theorem dX5_isConnected_36 : decode cX5_isConnected 36 = .ok (.iload_n 2, 1) := by decide +kernel
theorem dX5_isConnected_37 : decode cX5_isConnected 37 = .ok (.aload_n 0, 1) := by decide +kernel
theorem dX5_isConnected_38 : decode cX5_isConnected 38 = .ok (.getfield 18, 3) := by decide +kernel
theorem dX5_isConnected_41 : decode cX5_isConnected 41 = .ok (.iload 4, 2) := by decide +kernel
theorem dX5_isConnected_43 : decode cX5_isConnected 43 = .ok (.iaload, 1) := by decide +kernel
theorem dX5_isConnected_44 : decode cX5_isConnected 44 = .ok (.iload_n 1, 1) := by decide +kernel
theorem dX5_isConnected_45 : decode cX5_isConnected 45 = .ok (.iand, 1) := by decide +kernel
theorem dX5_isConnected_46 : decode cX5_isConnected 46 = .ok (.ior, 1) := by decide +kernel
theorem dX5_isConnected_47 : decode cX5_isConnected 47 = .ok (.istore_n 2, 1) := by decide +kernel
theorem dX5_isConnected_48 : decode cX5_isConnected 48 = .ok (.iinc 4 1, 3) := by decide +kernel
theorem dX5_isConnected_51 : decode cX5_isConnected 51 = .ok (.goto (-33), 3) := by decide +kernel
theorem dX5_isConnected_54 : decode cX5_isConnected 54 = .ok (.iinc 3 1, 3) := by decide +kernel
theorem dX5_isConnected_57 : decode cX5_isConnected 57 = .ok (.goto (-50), 3) := by decide +kernel
theorem dX5_isConnected_60 : decode cX5_isConnected 60 = .ok (.iload_n 2, 1) := by decide +kernel
theorem dX5_isConnected_61 : decode cX5_isConnected 61 = .ok (.iload_n 1, 1) := by decide +kernel
theorem dX5_isConnected_62 : decode cX5_isConnected 62 = .ok (.if_icmp .ne 7, 3) := by decide +kernel
theorem dX5_isConnected_65 : decode cX5_isConnected 65 = .ok (.iconst 1, 1) := by decide +kernel
theorem dX5_isConnected_66 : decode cX5_isConnected 66 = .ok (.goto 4, 3) := by decide +kernel
theorem dX5_isConnected_69 : decode cX5_isConnected 69 = .ok (.iconst 0, 1) := by decide +kernel
theorem dX5_isConnected_70 : decode cX5_isConnected 70 = .ok (.ireturn, 1) := by decide +kernel
set_option maxHeartbeats 4000000 in
set_option maxRecDepth 100000 in
theorem c_X5_isConnected {l : Launch} {X : En} (g : Nat) (k0 : Nat) (x1 : Int32) (M : Mem) (hk0 : isR k0) (r : Int32) (hf : fn_X5_isConnected g k0 x1 M = some r) : Cn l X yX5_isConnected cX5_isConnected 5 (some .boolean) 1 21 [.ref (X.ad k0), .int x1] M (Qi X r M) := by
  refine Met.ofW (cc := cX5_isConnected) (maxL := 5) (ret := (some .boolean)) (by decide) rfl ?_
  intro p e s m args below meth c s₁ B hml hv
  obtain ⟨rfl, hP, hk⟩ := hv
  have hx := B.exec
  have hb := B.bytes
  have hr := B.returns
  have hlocks := B.notSynchronized
  have hts : ∀ w ∈ lw_u, w.before ([.ref (X.ad k0), .int x1] : List Value).toArray s = true := fun w hw => atoms_spec (ws := Cond.code yX5_isConnected cX5_isConnected 5 (some .boolean) :: lw_u) B.pre w (List.mem_cons_of_mem _ hw)
  have hown : s.vm.findClass RX5 = some m.cls := findClass_of_methodNamed B.named
  have hZ : Fx p c m s ([.ref (X.ad k0), .int x1] : List Value).toArray X cX5_isConnected 5 RX5 := ⟨hx, hb, hml, hts, hown, hk⟩
  have hS : va_S X.A s.heap s.heap [] := va_S.rf
  have hl := lv_entry ([.ref (X.ad k0), .int x1]) (n := 5) (Nat.le_of_ble_eq_true rfl)
  rw [lg_entry_eq]
  generalize (lg_sl ([.ref (X.ad k0), .int x1]) ++ List.replicate (5 - (lg_sl ([.ref (X.ad k0), .int x1])).length) Slot.unset).toArray = ls at hl ⊢
  have hl : lv_has ls 5 [(0, .ref (X.ad k0)), (1, .int x1)] := hl
  show WW p l e 1 21 s m [.ref (X.ad k0), .int x1] below meth c X (Qi X r M) s.heap [] 0 ls []
  have hP : wd X M s.heap := hP
  unfold fn_X5_isConnected at hf
  have key : ∀ (H : Heap) (locs : List Loc), wd X M H → va_S X.A s.heap H locs → WW p l e 1 21 s m [.ref (X.ad k0), .int x1] below meth c X (Qi X r M) H locs 0 ls [] := by
    intro H locs hP hS
    refine lv_iload_n hx hb dX5_isConnected_0 rfl (lv_at hl 1 rfl) ?_
    refine lv_iload_n hx hb dX5_isConnected_1 rfl (lv_at hl 1 rfl) ?_
    refine lv_ineg hx hb dX5_isConnected_2 ?_
    refine lv_iand hx hb dX5_isConnected_3 ?_
    refine lv_topi (fun v2_1 e_v2_1 => ?_)
    have hf := b_v hf e_v2_1
    refine lv_istore_n (lv' := [(2, .int v2_1), (0, .ref (X.ad k0)), (1, .int x1)]) hx hb dX5_isConnected_4 rfl hl (by decide) rfl (fun ls hl => ?_)
    refine lv_iconst (v := (0 : Int32)) hx hb dX5_isConnected_5 (by decide) ?_
    refine lv_istore_n (lv' := [(3, .int (0 : Int32)), (2, .int v2_1), (0, .ref (X.ad k0)), (1, .int x1)]) hx hb dX5_isConnected_6 rfl hl (by decide) rfl (fun ls hl => ?_)
    obtain ⟨o7, ho7, hf⟩ := b_d hf
    refine lp_rule (b := bd_X5_isConnected_7 g k0 x1 M) (P := fun w : Int32 × Int32 => ∀ (H : Heap) (locs : List Loc) (ls : Array Slot), wd X M H → va_S X.A s.heap H locs → lv_has ls 5 [(3, .int w.2), (2, .int w.1), (0, .ref (X.ad k0)), (1, .int x1)] → WW p l e 1 21 s m [.ref (X.ad k0), .int x1] below meth c X (Qi X r M) H locs 7 ls []) (K := fun o => ∀ (v2_4 : Int32), o = v2_4 → ∀ (H : Heap) (locs : List Loc) (ls : Array Slot), wd X M H → va_S X.A s.heap H locs → lv_has ls 5 [(2, .int v2_4), (1, .int x1)] → WW p l e 1 21 s m [.ref (X.ad k0), .int x1] below meth c X (Qi X r M) H locs 60 ls []) ?_ g (v2_1, (0 : Int32)) o7 ho7 ?_ H locs ls hP hS (lv_sub hl [0, 1, 2, 3] rfl)
    · rintro ⟨v2_3, v3_2⟩ o hf hkc7 hke7 H locs ls hP hS hl
      have hf := u2_e hf
      refine lv_iload_n hx hb dX5_isConnected_7 rfl (lv_at hl 0 rfl) ?_
      refine lv_aload_n hx hb dX5_isConnected_8 rfl (lv_at hl 2 rfl) ?_
      refine gX5_5 hx hb hts hown hk hP hk0 wd_1_96 dX5_isConnected_9 ?_
      refine lv_icmp_ge (tgt := 60) hx hb dX5_isConnected_12 (by decide) (fun c_5 => ?_) (fun c_5 => ?_)
      · have hf := i_t c_5 hf
        exact hke7 _ (Option.some.inj hf).symm _ rfl H locs ls hP hS (lv_sub hl [1, 3] rfl)
      · have hf := i_f c_5 hf
        refine lv_iconst (v := (0 : Int32)) hx hb dX5_isConnected_15 (by decide) ?_
        refine lv_istore (lv' := [(4, .int (0 : Int32)), (3, .int v3_2), (2, .int v2_3), (0, .ref (X.ad k0)), (1, .int x1)]) hx hb dX5_isConnected_16 hl (by decide) rfl (fun ls hl => ?_)
        obtain ⟨o18, ho18, hf⟩ := b_d hf
        refine lp_rule (b := bd_X5_isConnected_18 k0 x1 M) (P := fun w : Int32 × Int32 => ∀ (H : Heap) (locs : List Loc) (ls : Array Slot), wd X M H → va_S X.A s.heap H locs → lv_has ls 5 [(4, .int w.2), (3, .int v3_2), (2, .int w.1), (0, .ref (X.ad k0)), (1, .int x1)] → WW p l e 1 21 s m [.ref (X.ad k0), .int x1] below meth c X (Qi X r M) H locs 18 ls []) (K := fun o => ∀ (v2_8 : Int32), o = v2_8 → ∀ (H : Heap) (locs : List Loc) (ls : Array Slot), wd X M H → va_S X.A s.heap H locs → lv_has ls 5 [(3, .int v3_2), (2, .int v2_8), (0, .ref (X.ad k0)), (1, .int x1)] → WW p l e 1 21 s m [.ref (X.ad k0), .int x1] below meth c X (Qi X r M) H locs 54 ls []) ?_ g (v2_3, (0 : Int32)) o18 ho18 ?_ H locs ls hP hS (lv_sub hl [0, 1, 2, 3, 4] rfl)
        · rintro ⟨v2_7, v4_6⟩ o hf hkc18 hke18 H locs ls hP hS hl
          have hf := u2_e hf
          refine lv_iload hx hb dX5_isConnected_18 (lv_at hl 0 rfl) ?_
          refine lv_aload_n hx hb dX5_isConnected_20 rfl (lv_at hl 3 rfl) ?_
          refine gX5_5 hx hb hts hown hk hP hk0 wd_1_96 dX5_isConnected_21 ?_
          refine lv_icmp_ge (tgt := 54) hx hb dX5_isConnected_24 (by decide) (fun c_9 => ?_) (fun c_9 => ?_)
          · have hf := i_t c_9 hf
            exact hke18 _ (Option.some.inj hf).symm _ rfl H locs ls hP hS (lv_sub hl [1, 2, 3, 4] rfl)
          · have hf := i_f c_9 hf
            refine lv_iload_n hx hb dX5_isConnected_27 rfl (lv_at hl 2 rfl) ?_
            refine lv_iload hx hb dX5_isConnected_28 (lv_at hl 0 rfl) ?_
            refine kn_X7_has hZ hP hS hl.1 (nest_10 hk.2.1) ⟨Nat.le_of_ble_eq_true rfl, Nat.le_of_ble_eq_true rfl⟩ (Nat.le_of_ble_eq_true rfl) dX5_isConnected_30 ⟨Nat.zero_le _, Nat.zero_le _⟩ (fun H locs hP hS => ?_)
            refine lv_if_eq (tgt := 48) hx hb dX5_isConnected_33 (by decide) (fun c_10 => ?_) (fun c_10 => ?_)
            · have hf := i_t c_10 hf
              refine lv_iinc (v := v4_6 + (1 : Int32)) (lv' := [(4, .int (v4_6 + (1 : Int32))), (3, .int v3_2), (2, .int v2_7), (0, .ref (X.ad k0)), (1, .int x1)]) hx hb dX5_isConnected_48 hl (k := 0) rfl rfl (by decide) rfl (fun ls hl => ?_)
              refine lv_goto (tgt := 18) hx hb dX5_isConnected_51 (by decide) ?_
              exact hkc18 _ (Option.some.inj hf).symm H locs ls hP hS (lv_sub hl [0, 1, 2, 3, 4] rfl)
            · have hf := i_f c_10 hf
              refine lv_iload_n hx hb dX5_isConnected_36 rfl (lv_at hl 2 rfl) ?_
              refine lv_aload_n hx hb dX5_isConnected_37 rfl (lv_at hl 3 rfl) ?_
              refine gX5_2 hx hb hts hown hk hP hk0 wd_1_93 dX5_isConnected_38 ?_
              refine lv_iload hx hb dX5_isConnected_41 (lv_at hl 0 rfl) ?_
              obtain ⟨q_11, hf⟩ := g_if hf
              refine ald hx hb hk hP (isR_lt3 hk0) (rd_R3 hk0 _) q_11 dX5_isConnected_43 ?_
              refine lv_iload_n hx hb dX5_isConnected_44 rfl (lv_at hl 4 rfl) ?_
              refine lv_iand hx hb dX5_isConnected_45 ?_
              refine lv_ior hx hb dX5_isConnected_46 ?_
              refine lv_topi (fun v2_12 e_v2_12 => ?_)
              have hf := b_v hf e_v2_12
              refine lv_istore_n (lv' := [(2, .int v2_12), (4, .int v4_6), (3, .int v3_2), (0, .ref (X.ad k0)), (1, .int x1)]) hx hb dX5_isConnected_47 rfl hl (by decide) rfl (fun ls hl => ?_)
              refine lv_iinc (v := v4_6 + (1 : Int32)) (lv' := [(4, .int (v4_6 + (1 : Int32))), (2, .int v2_12), (3, .int v3_2), (0, .ref (X.ad k0)), (1, .int x1)]) hx hb dX5_isConnected_48 hl (k := 1) rfl rfl (by decide) rfl (fun ls hl => ?_)
              refine lv_goto (tgt := 18) hx hb dX5_isConnected_51 (by decide) ?_
              exact hkc18 _ (Option.some.inj hf).symm H locs ls hP hS (lv_sub hl [0, 2, 1, 3, 4] rfl)
        · intro v2_8 e H locs ls hP hS hl
          subst o18
          have hf := u1_e hf
          refine lv_iinc (v := v3_2 + (1 : Int32)) (lv' := [(3, .int (v3_2 + (1 : Int32))), (2, .int v2_8), (0, .ref (X.ad k0)), (1, .int x1)]) hx hb dX5_isConnected_54 hl (k := 0) rfl rfl (by decide) rfl (fun ls hl => ?_)
          refine lv_goto (tgt := 7) hx hb dX5_isConnected_57 (by decide) ?_
          exact hkc7 _ (Option.some.inj hf).symm H locs ls hP hS (lv_sub hl [0, 1, 2, 3] rfl)
    · intro v2_4 e H locs ls hP hS hl
      subst o7
      have hf := u1_e hf
      refine lv_iload_n hx hb dX5_isConnected_60 rfl (lv_at hl 0 rfl) ?_
      refine lv_iload_n hx hb dX5_isConnected_61 rfl (lv_at hl 1 rfl) ?_
      refine lv_icmp_ne (tgt := 69) hx hb dX5_isConnected_62 (by decide) (fun c_13 => ?_) (fun c_13 => ?_)
      · have hf := i_f c_13 hf
        refine lv_iconst (v := (0 : Int32)) hx hb dX5_isConnected_69 (by decide) ?_
        have hf := Option.some.inj hf
        exact ret_z hx hb hr hlocks hP hS isZ_0 hf dX5_isConnected_70
      · have hf := i_t c_13 hf
        refine lv_iconst (v := (1 : Int32)) hx hb dX5_isConnected_65 (by decide) ?_
        refine lv_goto (tgt := 70) hx hb dX5_isConnected_66 (by decide) ?_
        have hf := Option.some.inj hf
        exact ret_z hx hb hr hlocks hP hS isZ_1 hf dX5_isConnected_70
  exact key s.heap [] hP hS
theorem hd_X5_isConnected : Hd yX5_isConnected 1 := by decide +kernel
theorem k_X5_isConnected {p : Program} {l : Launch} {e : Env} {R : Room} {s : State} {m : MethodId} {args : Array Value} {below : List Frame} {meth : Method} {c : Code} {H : Heap} {locs : List Loc} {cells slots : Nat} {Q : State → Prop} {cc : ByteArray} {nL pc index : Nat} {ls : Array Slot} {rest : List Value} {X : En} {M : Mem} {H0 : Heap} {own : String} {g : Nat} {k0 : Nat} {x1 : Int32} {r : Int32} (hZ : Fx p c m s args X cc nL own) (hP : wd X M H) (hS : va_S X.A H0 H locs) (hsz : ls.size = nL) (hlk : Cond.methodLink own index yX5_isConnected ∈ lw_u) (hR : 1 + 1 ≤ R.frames ∧ 8 + (5 + 11) + 21 ≤ R.locals) (hW : (rest.map fun v => v.category).sum ≤ 8) (hdg : decode cc pc = .ok (.invokevirtual index, 3)) (hcs : cells ≤ R.cells ∧ slots ≤ R.slots) (hk0 : isR k0) (hf : fn_X5_isConnected g k0 x1 M = some r)
    (kk : ∀ (H1 : Heap) (locs1 : List Loc), wd X M H1 → va_S X.A H0 H1 locs1 → W p l e R s m args below meth c H1 locs1 cells slots Q (F0 m (pc + 3) ls (.int r :: rest))) : W p l e R s m args below meth c H locs cells slots Q (F0 m pc ls (.int x1 :: .ref (X.ad k0) :: rest)) :=
  cal_i (runV (As := [.int x1]) (rest := rest) hZ.1 hZ.2.1 hZ.2.2.1 hZ.2.2.2.1 hZ.2.2.2.2.1 hZ.2.2.2.2.2 hP (c_X5_isConnected g k0 x1 M hk0 r hf) wd_3_4 wd_3_2 wd_3_3 wd_1_4 hd_X5_isConnected (isR_lt0 hk0) (rd_R0 hk0 _) rfl rfl hlk hR hsz rfl hW hdg hcs) hS kk
