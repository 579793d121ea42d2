/-! FrameRaiser.putAll -/
def bd_X7_putAll_15 (g : Nat) : (Int32 × Int32 × Mem) → Option ((Int32 × Int32 × Mem) ⊕ (Int32 × Mem)) :=
  u3 fun v1_3 v2_2 M_4 =>
  if (8 : Int32) ≤ v2_2 then
    (some (.inr (v1_3, M_4)))
  else
    ((fn_X7_nextToPut g M_4).bind (u2 fun r_8 M_9 =>
    if r_8 = (-9 : Int32) then
      (some (.inr (v1_3, M_9)))
    else
      ((fn_X1_turn 1 r_8 M_9).bind fun M_11 =>
      some (.inl (v1_3 + (1 : Int32), v2_2 + (1 : Int32), M_11)))))
def fn_X7_putAll (g : Nat) (M : Mem) : Option (Int32 × Mem) :=
  (fn_X2_remember 1 M).bind fun M_1 =>
  (lpN g (bd_X7_putAll_15 g) ((0 : Int32), (0 : Int32), M_1)).bind (u2 fun v1_5 M_6 =>
    some (v1_5, M_6))
theorem dX7_putAll_0 : decode cX7_putAll 0 = .ok (.aload_n 0, 1) := by decide +kernel
theorem dX7_putAll_1 : decode cX7_putAll 1 = .ok (.getfield 42, 3) := by decide +kernel
theorem dX7_putAll_4 : decode cX7_putAll 4 = .ok (.aload_n 0, 1) := by decide +kernel
theorem dX7_putAll_5 : decode cX7_putAll 5 = .ok (.getfield 10, 3) := by decide +kernel
theorem dX7_putAll_8 : decode cX7_putAll 8 = .ok (.invokevirtual 81, 3) := by decide +kernel
theorem dX7_putAll_11 : decode cX7_putAll 11 = .ok (.iconst 0, 1) := by decide +kernel
theorem dX7_putAll_12 : decode cX7_putAll 12 = .ok (.istore_n 1, 1) := by decide +kernel
theorem dX7_putAll_13 : decode cX7_putAll 13 = .ok (.iconst 0, 1) := by decide +kernel
theorem dX7_putAll_14 : decode cX7_putAll 14 = .ok (.istore_n 2, 1) := by decide +kernel
theorem dX7_putAll_15 : decode cX7_putAll 15 = .ok (.iload_n 2, 1) := by decide +kernel
theorem dX7_putAll_16 : decode cX7_putAll 16 = .ok (.bipush 8, 2) := by decide +kernel
theorem dX7_putAll_18 : decode cX7_putAll 18 = .ok (.if_icmp .ge 34, 3) := by decide +kernel
theorem dX7_putAll_21 : decode cX7_putAll 21 = .ok (.aload_n 0, 1) := by decide +kernel
theorem dX7_putAll_22 : decode cX7_putAll 22 = .ok (.invokevirtual 222, 3) := by decide +kernel
theorem dX7_putAll_25 : decode cX7_putAll 25 = .ok (.istore_n 3, 1) := by decide +kernel
theorem dX7_putAll_26 : decode cX7_putAll 26 = .ok (.iload_n 3, 1) := by decide +kernel
theorem dX7_putAll_27 : decode cX7_putAll 27 = .ok (.bipush (-9), 2) := by decide +kernel
theorem dX7_putAll_29 : decode cX7_putAll 29 = .ok (.if_icmp .ne 6, 3) := by decide +kernel
theorem dX7_putAll_32 : decode cX7_putAll 32 = .ok (.goto 20, 3) := by decide +kernel
theorem dX7_putAll_35 : decode cX7_putAll 35 = .ok (.aload_n 0, 1) := by decide +kernel
theorem dX7_putAll_36 : decode cX7_putAll 36 = .ok (.getfield 10, 3) := by decide +kernel
theorem dX7_putAll_39 : decode cX7_putAll 39 = .ok (.iload_n 3, 1) := by decide +kernel
theorem dX7_putAll_40 : decode cX7_putAll 40 = .ok (.invokevirtual 226, 3) := by decide +kernel
theorem dX7_putAll_43 : decode cX7_putAll 43 = .ok (.iinc 1 1, 3) := by decide +kernel
theorem dX7_putAll_46 : decode cX7_putAll 46 = .ok (.iinc 2 1, 3) := by decide +kernel
theorem dX7_putAll_49 : decode cX7_putAll 49 = .ok (.goto (-34), 3) := by decide +kernel
theorem dX7_putAll_52 : decode cX7_putAll 52 = .ok (.iload_n 1, 1) := by decide +kernel
theorem dX7_putAll_53 : decode cX7_putAll 53 = .ok (.ireturn, 1) := by decide +kernel
set_option maxHeartbeats 4000000 in
set_option maxRecDepth 100000 in
theorem c_X7_putAll {l : Launch} {X : En} (g : Nat) (M : Mem) (r : Int32) (M9 : Mem) (hf : fn_X7_putAll g M = some (r, M9)) : Cn l X yX7_putAll cX7_putAll 4 (some .int) 5 118 [.ref (X.ad 0)] M (Qi X r M9) := by
  refine Met.ofW (cc := cX7_putAll) (maxL := 4) (ret := (some .int)) (by decide) rfl ?_
  intro p e s m args below meth c s₁ B hml hv
  obtain ⟨rfl, hP, hk⟩ := hv
  have hx := B.exec
  have hb := B.bytes
  have hr := B.returns
  have hlocks := B.notSynchronized
  have hts : ∀ w ∈ lw_u, w.before ([.ref (X.ad 0)] : List Value).toArray s = true := fun w hw => atoms_spec (ws := Cond.code yX7_putAll cX7_putAll 4 (some .int) :: lw_u) B.pre w (List.mem_cons_of_mem _ hw)
  have hown : s.vm.findClass RX7 = some m.cls := findClass_of_methodNamed B.named
  have hZ : Fx p c m s ([.ref (X.ad 0)] : List Value).toArray X cX7_putAll 4 RX7 := ⟨hx, hb, hml, hts, hown, hk⟩
  have hS : va_S X.A s.heap s.heap [] := va_S.rf
  have hl := lv_entry ([.ref (X.ad 0)]) (n := 4) (Nat.le_of_ble_eq_true rfl)
  rw [lg_entry_eq]
  generalize (lg_sl ([.ref (X.ad 0)]) ++ List.replicate (4 - (lg_sl ([.ref (X.ad 0)])).length) Slot.unset).toArray = ls at hl ⊢
  have hl : lv_has ls 4 [(0, .ref (X.ad 0))] := hl
  show WW p l e 5 118 s m [.ref (X.ad 0)] below meth c X (Qi X r M9) s.heap [] 0 ls []
  have hP : wd X M s.heap := hP
  unfold fn_X7_putAll at hf
  have key : ∀ (H : Heap) (locs : List Loc), wd X M H → va_S X.A s.heap H locs → WW p l e 5 118 s m [.ref (X.ad 0)] below meth c X (Qi X r M9) H locs 0 ls [] := by
    intro H locs hP hS
    refine lv_aload_n hx hb dX7_putAll_0 rfl (lv_at hl 0 rfl) ?_
    refine gX7_4 hx hb hts hown hk hP wd_1_217 dX7_putAll_1 ?_
    refine lv_aload_n hx hb dX7_putAll_4 rfl (lv_at hl 0 rfl) ?_
    refine gX7_0 hx hb hts hown hk hP wd_1_213 dX7_putAll_5 ?_
    obtain ⟨M_1, h_M_1, hf⟩ := b_d hf
    refine k_X2_remember hZ hP hS hl.1 wd_2_66 ⟨Nat.le_of_ble_eq_true rfl, Nat.le_of_ble_eq_true rfl⟩ (Nat.le_of_ble_eq_true rfl) dX7_putAll_8 ⟨Nat.zero_le _, Nat.zero_le _⟩ isF_1 h_M_1 (fun H locs hP hS => ?_)
    refine lv_iconst (v := (0 : Int32)) hx hb dX7_putAll_11 (by decide) ?_
    refine lv_istore_n (lv' := [(1, .int (0 : Int32)), (0, .ref (X.ad 0))]) hx hb dX7_putAll_12 rfl hl (by decide) rfl (fun ls hl => ?_)
    refine lv_iconst (v := (0 : Int32)) hx hb dX7_putAll_13 (by decide) ?_
    refine lv_istore_n (lv' := [(2, .int (0 : Int32)), (1, .int (0 : Int32)), (0, .ref (X.ad 0))]) hx hb dX7_putAll_14 rfl hl (by decide) rfl (fun ls hl => ?_)
    obtain ⟨o15, ho15, hf⟩ := b_d hf
    refine lp_rule (b := bd_X7_putAll_15 g) (P := fun w : Int32 × Int32 × Mem => ∀ (H : Heap) (locs : List Loc) (ls : Array Slot), wd X w.2.2 H → va_S X.A s.heap H locs → lv_has ls 4 [(2, .int w.2.1), (1, .int w.1), (0, .ref (X.ad 0))] → WW p l e 5 118 s m [.ref (X.ad 0)] below meth c X (Qi X r M9) H locs 15 ls []) (K := fun o => ∀ (v1_5 : Int32) (M_6 : Mem), o = (v1_5, M_6) → ∀ (H : Heap) (locs : List Loc) (ls : Array Slot), wd X M_6 H → va_S X.A s.heap H locs → lv_has ls 4 [(1, .int v1_5)] → WW p l e 5 118 s m [.ref (X.ad 0)] below meth c X (Qi X r M9) H locs 52 ls []) ?_ g ((0 : Int32), (0 : Int32), M_1) o15 ho15 ?_ H locs ls hP hS (lv_sub hl [0, 1, 2] rfl)
    · rintro ⟨v1_3, v2_2, M_4⟩ o hf hkc15 hke15 H locs ls hP hS hl
      have hf := u3_e hf
      refine lv_iload_n hx hb dX7_putAll_15 rfl (lv_at hl 0 rfl) ?_
      refine lv_bipush (v := (8 : Int32)) hx hb dX7_putAll_16 (by decide) ?_
      refine lv_icmp_ge (tgt := 52) hx hb dX7_putAll_18 (by decide) (fun c_7 => ?_) (fun c_7 => ?_)
      · have hf := i_t c_7 hf
        exact hke15 _ (Option.some.inj hf).symm _ _ rfl H locs ls hP hS (lv_sub hl [1] rfl)
      · have hf := i_f c_7 hf
        refine lv_aload_n hx hb dX7_putAll_21 rfl (lv_at hl 2 rfl) ?_
        obtain ⟨⟨r_8, M_9⟩, h_r_8, hf⟩ := b_d hf
        have hf := u2_e hf
        refine k_X7_nextToPut hZ hP hS hl.1 wd_3_123 ⟨Nat.le_of_ble_eq_true rfl, Nat.le_of_ble_eq_true rfl⟩ (Nat.le_of_ble_eq_true rfl) dX7_putAll_22 ⟨Nat.zero_le _, Nat.zero_le _⟩ h_r_8 (fun H locs hP hS => ?_)
        refine lv_istore_n (lv' := [(3, .int r_8), (2, .int v2_2), (1, .int v1_3), (0, .ref (X.ad 0))]) hx hb dX7_putAll_25 rfl hl (by decide) rfl (fun ls hl => ?_)
        refine lv_iload_n hx hb dX7_putAll_26 rfl (lv_at hl 0 rfl) ?_
        refine lv_bipush (v := (-9 : Int32)) hx hb dX7_putAll_27 (by decide) ?_
        refine lv_icmp_ne (tgt := 35) hx hb dX7_putAll_29 (by decide) (fun c_10 => ?_) (fun c_10 => ?_)
        · have hf := i_f c_10 hf
          refine lv_aload_n hx hb dX7_putAll_35 rfl (lv_at hl 3 rfl) ?_
          refine gX7_0 hx hb hts hown hk hP wd_1_213 dX7_putAll_36 ?_
          refine lv_iload_n hx hb dX7_putAll_39 rfl (lv_at hl 0 rfl) ?_
          obtain ⟨M_11, h_M_11, hf⟩ := b_d hf
          refine k_X1_turn hZ hP hS hl.1 wd_3_111 ⟨Nat.le_of_ble_eq_true rfl, Nat.le_of_ble_eq_true rfl⟩ (Nat.le_of_ble_eq_true rfl) dX7_putAll_40 ⟨Nat.zero_le _, Nat.zero_le _⟩ isF_1 h_M_11 (fun H locs hP hS => ?_)
          refine lv_iinc (v := v1_3 + (1 : Int32)) (lv' := [(1, .int (v1_3 + (1 : Int32))), (3, .int r_8), (2, .int v2_2), (0, .ref (X.ad 0))]) hx hb dX7_putAll_43 hl (k := 2) rfl rfl (by decide) rfl (fun ls hl => ?_)
          refine lv_iinc (v := v2_2 + (1 : Int32)) (lv' := [(2, .int (v2_2 + (1 : Int32))), (1, .int (v1_3 + (1 : Int32))), (3, .int r_8), (0, .ref (X.ad 0))]) hx hb dX7_putAll_46 hl (k := 2) rfl rfl (by decide) rfl (fun ls hl => ?_)
          refine lv_goto (tgt := 15) hx hb dX7_putAll_49 (by decide) ?_
          exact hkc15 _ (Option.some.inj hf).symm H locs ls hP hS (lv_sub hl [0, 1, 3] rfl)
        · have hf := i_t c_10 hf
          refine lv_goto (tgt := 52) hx hb dX7_putAll_32 (by decide) ?_
          exact hke15 _ (Option.some.inj hf).symm _ _ rfl H locs ls hP hS (lv_sub hl [2] rfl)
    · intro v1_5 M_6 e H locs ls hP hS hl
      subst o15
      have hf := u2_e hf
      refine lv_iload_n hx hb dX7_putAll_52 rfl (lv_at hl 0 rfl) ?_
      have hf := Option.some.inj hf
      obtain ⟨e1, e2⟩ := Prod.mk.inj hf
      rw [e2] at hP
      exact ret_i hx hb hr hlocks hP hS e1 dX7_putAll_53
  exact key s.heap [] hP hS
theorem hd_X7_putAll : Hd yX7_putAll 0 := by decide +kernel
theorem k_X7_putAll {p : Program} {l : Launch} {e : Env} {R : Room} {s : State} {m : MethodId} {args : Array Value} {below : List Frame} {meth : Method} {c : Code} {H : Heap} {locs : List Loc} {cells slots : Nat} {Q : State → Prop} {cc : ByteArray} {nL pc index : Nat} {ls : Array Slot} {rest : List Value} {X : En} {M : Mem} {H0 : Heap} {own : String} {g : Nat} {r : Int32} {M9 : Mem} (hZ : Fx p c m s args X cc nL own) (hP : wd X M H) (hS : va_S X.A H0 H locs) (hsz : ls.size = nL) (hlk : Cond.methodLink own index yX7_putAll ∈ lw_u) (hR : 5 + 1 ≤ R.frames ∧ 8 + (4 + 11) + 118 ≤ R.locals) (hW : (rest.map fun v => v.category).sum ≤ 8) (hdg : decode cc pc = .ok (.invokevirtual index, 3)) (hcs : cells ≤ R.cells ∧ slots ≤ R.slots) (hf : fn_X7_putAll g M = some (r, M9))
    (kk : ∀ (H1 : Heap) (locs1 : List Loc), wd X M9 H1 → va_S X.A H0 H1 locs1 → W p l e R s m args below meth c H1 locs1 cells slots Q (F0 m (pc + 3) ls (.int r :: rest))) : W p l e R s m args below meth c H locs cells slots Q (F0 m pc ls (.ref (X.ad 0) :: rest)) :=
  cal_i (runV (As := []) (rest := rest) hZ.1 hZ.2.1 hZ.2.2.1 hZ.2.2.2.1 hZ.2.2.2.2.1 hZ.2.2.2.2.2 hP (c_X7_putAll g M r M9 hf) wd_3_122 wd_3_120 wd_3_121 wd_1_1 hd_X7_putAll (by decide) rfl rfl rfl hlk hR hsz rfl hW hdg hcs) hS kk
/-! FrameRaiser.ifShift -/
def fn_X7_ifShift (g : Nat) (x1 : Int32) (x2 : Int32) (M : Mem) : Option (Int32 × Mem) :=
  (fn_X7_shiftFault g x1 x2 M).bind fun r_1 =>
  if r_1 = 0 then
    ((fn_X1_copyFrom 53 1 M).bind fun M_3 =>
    (fn_X1_move g 53 x1 x2 M_3).bind fun M_4 =>
    (fn_X5_read g 56 53 M_4).bind fun M_5 =>
    (fn_X5_lockedOf g 56 (fn_X7_allPieces M_5) M_5).bind fun r_6 =>
    some (fn_J6_bitCount_0f7a4 r_6, M_5))
  else
    (some (r_1, M))
theorem dX7_ifShift_0 : decode cX7_ifShift 0 = .ok (.aload_n 0, 1) := by decide +kernel
theorem dX7_ifShift_1 : decode cX7_ifShift 1 = .ok (.iload_n 1, 1) := by decide +kernel
theorem dX7_ifShift_2 : decode cX7_ifShift 2 = .ok (.iload_n 2, 1) := by decide +kernel
theorem dX7_ifShift_3 : decode cX7_ifShift 3 = .ok (.invokevirtual 127, 3) := by decide +kernel
theorem dX7_ifShift_6 : decode cX7_ifShift 6 = .ok (.istore_n 3, 1) := by decide +kernel
theorem dX7_ifShift_7 : decode cX7_ifShift 7 = .ok (.iload_n 3, 1) := by decide +kernel
theorem dX7_ifShift_8 : decode cX7_ifShift 8 = .ok (.ifCond .eq 5, 3) := by decide +kernel
theorem dX7_ifShift_11 : decode cX7_ifShift 11 = .ok (.iload_n 3, 1) := by decide +kernel
theorem dX7_ifShift_12 : decode cX7_ifShift 12 = .ok (.ireturn, 1) := by decide +kernel
theorem dX7_ifShift_13 : decode cX7_ifShift 13 = .ok (.aload_n 0, 1) := by decide +kernel
theorem dX7_ifShift_14 : decode cX7_ifShift 14 = .ok (.getfield 60, 3) := by decide +kernel
theorem dX7_ifShift_17 : decode cX7_ifShift 17 = .ok (.aload_n 0, 1) := by decide +kernel
theorem dX7_ifShift_18 : decode cX7_ifShift 18 = .ok (.getfield 10, 3) := by decide +kernel
theorem dX7_ifShift_21 : decode cX7_ifShift 21 = .ok (.invokevirtual 85, 3) := by decide +kernel
theorem dX7_ifShift_24 : decode cX7_ifShift 24 = .ok (.aload_n 0, 1) := by decide +kernel
theorem dX7_ifShift_25 : decode cX7_ifShift 25 = .ok (.getfield 60, 3) := by decide +kernel
theorem dX7_ifShift_28 : decode cX7_ifShift 28 = .ok (.iload_n 1, 1) := by decide +kernel
theorem dX7_ifShift_29 : decode cX7_ifShift 29 = .ok (.iload_n 2, 1) := by decide +kernel
theorem dX7_ifShift_30 : decode cX7_ifShift 30 = .ok (.invokevirtual 131, 3) := by decide +kernel
theorem dX7_ifShift_33 : decode cX7_ifShift 33 = .ok (.aload_n 0, 1) := by decide +kernel
theorem dX7_ifShift_34 : decode cX7_ifShift 34 = .ok (.getfield 63, 3) := by decide +kernel
theorem dX7_ifShift_37 : decode cX7_ifShift 37 = .ok (.aload_n 0, 1) := by decide +kernel
theorem dX7_ifShift_38 : decode cX7_ifShift 38 = .ok (.getfield 60, 3) := by decide +kernel
theorem dX7_ifShift_41 : decode cX7_ifShift 41 = .ok (.invokevirtual 229, 3) := by decide +kernel
theorem dX7_ifShift_44 : decode cX7_ifShift 44 = .ok (.aload_n 0, 1) := by decide +kernel
theorem dX7_ifShift_45 : decode cX7_ifShift 45 = .ok (.getfield 63, 3) := by decide +kernel
theorem dX7_ifShift_48 : decode cX7_ifShift 48 = .ok (.aload_n 0, 1) := by decide +kernel
theorem dX7_ifShift_49 : decode cX7_ifShift 49 = .ok (.invokevirtual 232, 3) := by decide +kernel
theorem dX7_ifShift_52 : decode cX7_ifShift 52 = .ok (.invokevirtual 209, 3) := by decide +kernel
theorem dX7_ifShift_55 : decode cX7_ifShift 55 = .ok (.invokestatic 235, 3) := by decide +kernel
theorem dX7_ifShift_58 : decode cX7_ifShift 58 = .ok (.ireturn, 1) := by decide +kernel
set_option maxHeartbeats 4000000 in
set_option maxRecDepth 100000 in
theorem c_X7_ifShift {l : Launch} {X : En} (g : Nat) (x1 : Int32) (x2 : Int32) (M : Mem) (r : Int32) (M9 : Mem) (hf : fn_X7_ifShift g x1 x2 M = some (r, M9)) : Cn l X yX7_ifShift cX7_ifShift 4 (some .int) 4 89 [.ref (X.ad 0), .int x1, .int x2] M (Qi X r M9) := by
  refine Met.ofW (cc := cX7_ifShift) (maxL := 4) (ret := (some .int)) (by decide) rfl ?_
  intro p e s m args below meth c s₁ B hml hv
  obtain ⟨rfl, hP, hk⟩ := hv
  have hx := B.exec
  have hb := B.bytes
  have hr := B.returns
  have hlocks := B.notSynchronized
  have hts : ∀ w ∈ lw_u, w.before ([.ref (X.ad 0), .int x1, .int x2] : List Value).toArray s = true := fun w hw => atoms_spec (ws := Cond.code yX7_ifShift cX7_ifShift 4 (some .int) :: lw_u) B.pre w (List.mem_cons_of_mem _ hw)
  have hown : s.vm.findClass RX7 = some m.cls := findClass_of_methodNamed B.named
  have hZ : Fx p c m s ([.ref (X.ad 0), .int x1, .int x2] : List Value).toArray X cX7_ifShift 4 RX7 := ⟨hx, hb, hml, hts, hown, hk⟩
  have hS : va_S X.A s.heap s.heap [] := va_S.rf
  have hl := lv_entry ([.ref (X.ad 0), .int x1, .int x2]) (n := 4) (Nat.le_of_ble_eq_true rfl)
  rw [lg_entry_eq]
  generalize (lg_sl ([.ref (X.ad 0), .int x1, .int x2]) ++ List.replicate (4 - (lg_sl ([.ref (X.ad 0), .int x1, .int x2])).length) Slot.unset).toArray = ls at hl ⊢
  have hl : lv_has ls 4 [(0, .ref (X.ad 0)), (1, .int x1), (2, .int x2)] := hl
  show WW p l e 4 89 s m [.ref (X.ad 0), .int x1, .int x2] below meth c X (Qi X r M9) s.heap [] 0 ls []
  have hP : wd X M s.heap := hP
  unfold fn_X7_ifShift at hf
  have key : ∀ (H : Heap) (locs : List Loc), wd X M H → va_S X.A s.heap H locs → WW p l e 4 89 s m [.ref (X.ad 0), .int x1, .int x2] below meth c X (Qi X r M9) H locs 0 ls [] := by
    intro H locs hP hS
    refine lv_aload_n hx hb dX7_ifShift_0 rfl (lv_at hl 0 rfl) ?_
    refine lv_iload_n hx hb dX7_ifShift_1 rfl (lv_at hl 1 rfl) ?_
    refine lv_iload_n hx hb dX7_ifShift_2 rfl (lv_at hl 2 rfl) ?_
    obtain ⟨r_1, h_r_1, hf⟩ := b_d hf
    refine k_X7_shiftFault hZ hP hS hl.1 wd_2_141 ⟨Nat.le_of_ble_eq_true rfl, Nat.le_of_ble_eq_true rfl⟩ (Nat.le_of_ble_eq_true rfl) dX7_ifShift_3 ⟨Nat.zero_le _, Nat.zero_le _⟩ h_r_1 (fun H locs hP hS => ?_)
    refine lv_istore_n (lv' := [(3, .int r_1), (0, .ref (X.ad 0)), (1, .int x1), (2, .int x2)]) hx hb dX7_ifShift_6 rfl hl (by decide) rfl (fun ls hl => ?_)
    refine lv_iload_n hx hb dX7_ifShift_7 rfl (lv_at hl 0 rfl) ?_
    refine lv_if_eq (tgt := 13) hx hb dX7_ifShift_8 (by decide) (fun c_2 => ?_) (fun c_2 => ?_)
    · have hf := i_t c_2 hf
      refine lv_aload_n hx hb dX7_ifShift_13 rfl (lv_at hl 1 rfl) ?_
      refine gX7_7 hx hb hts hown hk hP wd_1_220 dX7_ifShift_14 ?_
      refine lv_aload_n hx hb dX7_ifShift_17 rfl (lv_at hl 1 rfl) ?_
      refine gX7_0 hx hb hts hown hk hP wd_1_213 dX7_ifShift_18 ?_
      obtain ⟨M_3, h_M_3, hf⟩ := b_d hf
      refine k_X1_copyFrom hZ hP hS hl.1 wd_2_77 ⟨Nat.le_of_ble_eq_true rfl, Nat.le_of_ble_eq_true rfl⟩ (Nat.le_of_ble_eq_true rfl) dX7_ifShift_21 ⟨Nat.zero_le _, Nat.zero_le _⟩ isF_53 isF_1 h_M_3 (fun H locs hP hS => ?_)
      refine lv_aload_n hx hb dX7_ifShift_24 rfl (lv_at hl 1 rfl) ?_
      refine gX7_7 hx hb hts hown hk hP wd_1_220 dX7_ifShift_25 ?_
      refine lv_iload_n hx hb dX7_ifShift_28 rfl (lv_at hl 2 rfl) ?_
      refine lv_iload_n hx hb dX7_ifShift_29 rfl (lv_at hl 3 rfl) ?_
      obtain ⟨M_4, h_M_4, hf⟩ := b_d hf
      refine k_X1_move hZ hP hS hl.1 wd_2_163 ⟨Nat.le_of_ble_eq_true rfl, Nat.le_of_ble_eq_true rfl⟩ (Nat.le_of_ble_eq_true rfl) dX7_ifShift_30 ⟨Nat.zero_le _, Nat.zero_le _⟩ isF_53 h_M_4 (fun H locs hP hS => ?_)
      refine lv_aload_n hx hb dX7_ifShift_33 rfl (lv_at hl 1 rfl) ?_
      refine gX7_8 hx hb hts hown hk hP wd_1_221 dX7_ifShift_34 ?_
      refine lv_aload_n hx hb dX7_ifShift_37 rfl (lv_at hl 1 rfl) ?_
      refine gX7_7 hx hb hts hown hk hP wd_1_220 dX7_ifShift_38 ?_
      obtain ⟨M_5, h_M_5, hf⟩ := b_d hf
      refine k_X5_read hZ hP hS hl.1 wd_2_189 ⟨Nat.le_of_ble_eq_true rfl, Nat.le_of_ble_eq_true rfl⟩ (Nat.le_of_ble_eq_true rfl) dX7_ifShift_41 ⟨Nat.zero_le _, Nat.zero_le _⟩ isR_56 isF_53 h_M_5 (fun H locs hP hS => ?_)
      refine lv_aload_n hx hb dX7_ifShift_44 rfl (lv_at hl 1 rfl) ?_
      refine gX7_8 hx hb hts hown hk hP wd_1_221 dX7_ifShift_45 ?_
      refine lv_aload_n hx hb dX7_ifShift_48 rfl (lv_at hl 1 rfl) ?_
      refine k_X7_allPieces hZ hP hS hl.1 wd_2_225 ⟨Nat.le_of_ble_eq_true rfl, Nat.le_of_ble_eq_true rfl⟩ (Nat.le_of_ble_eq_true rfl) dX7_ifShift_49 ⟨Nat.zero_le _, Nat.zero_le _⟩ (fun H locs hP hS => ?_)
      obtain ⟨r_6, h_r_6, hf⟩ := b_d hf
      refine k_X5_lockedOf hZ hP hS hl.1 wd_3_75 ⟨Nat.le_of_ble_eq_true rfl, Nat.le_of_ble_eq_true rfl⟩ (Nat.le_of_ble_eq_true rfl) dX7_ifShift_52 ⟨Nat.zero_le _, Nat.zero_le _⟩ isR_56 h_r_6 (fun H locs hP hS => ?_)
      refine k_J6_bitCount_0f7a4 hZ hP hS hl.1 wd_3_132 ⟨Nat.le_of_ble_eq_true rfl, Nat.le_of_ble_eq_true rfl⟩ (Nat.le_of_ble_eq_true rfl) dX7_ifShift_55 ⟨Nat.zero_le _, Nat.zero_le _⟩ (fun H locs hP hS => ?_)
      have hf := Option.some.inj hf
      obtain ⟨e1, e2⟩ := Prod.mk.inj hf
      rw [e2] at hP
      exact ret_i hx hb hr hlocks hP hS e1 dX7_ifShift_58
    · have hf := i_f c_2 hf
      refine lv_iload_n hx hb dX7_ifShift_11 rfl (lv_at hl 0 rfl) ?_
      have hf := Option.some.inj hf
      obtain ⟨e1, e2⟩ := Prod.mk.inj hf
      rw [e2] at hP
      exact ret_i hx hb hr hlocks hP hS e1 dX7_ifShift_12
  exact key s.heap [] hP hS
theorem hd_X7_ifShift : Hd yX7_ifShift 2 := by decide +kernel
theorem k_X7_ifShift {p : Program} {l : Launch} {e : Env} {R : Room} {s : State} {m : MethodId} {args : Array Value} {below : List Frame} {meth : Method} {c : Code} {H : Heap} {locs : List Loc} {cells slots : Nat} {Q : State → Prop} {cc : ByteArray} {nL pc index : Nat} {ls : Array Slot} {rest : List Value} {X : En} {M : Mem} {H0 : Heap} {own : String} {g : Nat} {x1 : Int32} {x2 : Int32} {r : Int32} {M9 : Mem} (hZ : Fx p c m s args X cc nL own) (hP : wd X M H) (hS : va_S X.A H0 H locs) (hsz : ls.size = nL) (hlk : Cond.methodLink own index yX7_ifShift ∈ lw_u) (hR : 4 + 1 ≤ R.frames ∧ 8 + (4 + 11) + 89 ≤ R.locals) (hW : (rest.map fun v => v.category).sum ≤ 8) (hdg : decode cc pc = .ok (.invokevirtual index, 3)) (hcs : cells ≤ R.cells ∧ slots ≤ R.slots) (hf : fn_X7_ifShift g x1 x2 M = some (r, M9))
    (kk : ∀ (H1 : Heap) (locs1 : List Loc), wd X M9 H1 → va_S X.A H0 H1 locs1 → W p l e R s m args below meth c H1 locs1 cells slots Q (F0 m (pc + 3) ls (.int r :: rest))) : W p l e R s m args below meth c H locs cells slots Q (F0 m pc ls (.int x2 :: .int x1 :: .ref (X.ad 0) :: rest)) :=
  cal_i (runV (As := [.int x1, .int x2]) (rest := rest) hZ.1 hZ.2.1 hZ.2.2.1 hZ.2.2.2.1 hZ.2.2.2.2.1 hZ.2.2.2.2.2 hP (c_X7_ifShift g x1 x2 M r M9 hf) wd_3_131 wd_3_129 wd_3_130 wd_1_1 hd_X7_ifShift (by decide) rfl rfl rfl hlk hR hsz rfl hW hdg hcs) hS kk
/-! FrameRaiser$History.restore -/
def fn_X2_restore (k1 : Nat) (M : Mem) : Option (Mem) :=
  if (M 21 0) ≤ 0 then
    (some M)
  else
    (bv (st M 21 0 ((M 21 0) - (1 : Int32))) fun M_2 =>
    if inb (rm ((M_2 21 2) + (M_2 21 0)) (8 : Int32)) 8 then
    (fn_X1_copyFrom k1 (23 + 3 * ix (rm ((M_2 21 2) + (M_2 21 0)) (8 : Int32))) M_2).bind fun M_4 =>
    some M_4
    else none)
theorem dX2_restore_0 : decode cX2_restore 0 = .ok (.aload_n 0, 1) := by decide +kernel
theorem dX2_restore_1 : decode cX2_restore 1 = .ok (.getfield 22, 3) := by decide +kernel
theorem dX2_restore_4 : decode cX2_restore 4 = .ok (.ifCond .le 34, 3) := by decide +kernel
theorem dX2_restore_7 : decode cX2_restore 7 = .ok (.aload_n 0, 1) := by decide +kernel
theorem dX2_restore_8 : decode cX2_restore 8 = .ok (.dup, 1) := by decide +kernel
theorem dX2_restore_9 : decode cX2_restore 9 = .ok (.getfield 22, 3) := by decide +kernel
theorem dX2_restore_12 : decode cX2_restore 12 = .ok (.iconst 1, 1) := by decide +kernel
theorem dX2_restore_13 : decode cX2_restore 13 = .ok (.isub, 1) := by decide +kernel
theorem dX2_restore_14 : decode cX2_restore 14 = .ok (.putfield 22, 3) := by decide +kernel
theorem dX2_restore_17 : decode cX2_restore 17 = .ok (.aload_n 1, 1) := by decide +kernel
theorem dX2_restore_18 : decode cX2_restore 18 = .ok (.aload_n 0, 1) := by decide +kernel
theorem dX2_restore_19 : decode cX2_restore 19 = .ok (.getfield 11, 3) := by decide +kernel
theorem dX2_restore_22 : decode cX2_restore 22 = .ok (.aload_n 0, 1) := by decide +kernel
theorem dX2_restore_23 : decode cX2_restore 23 = .ok (.getfield 18, 3) := by decide +kernel
theorem dX2_restore_26 : decode cX2_restore 26 = .ok (.aload_n 0, 1) := by decide +kernel
theorem dX2_restore_27 : decode cX2_restore 27 = .ok (.getfield 22, 3) := by decide +kernel
theorem dX2_restore_30 : decode cX2_restore 30 = .ok (.iadd, 1) := by decide +kernel
theorem dX2_restore_31 : decode cX2_restore 31 = .ok (.bipush 8, 2) := by decide +kernel
theorem dX2_restore_33 : decode cX2_restore 33 = .ok (.irem, 1) := by decide +kernel
theorem dX2_restore_34 : decode cX2_restore 34 = .ok (.aaload, 1) := by decide +kernel
theorem dX2_restore_35 : decode cX2_restore 35 = .ok (.invokevirtual 25, 3) := by decide +kernel
theorem dX2_restore_38 : decode cX2_restore 38 = .ok (.return_, 1) := by decide +kernel
set_option maxHeartbeats 4000000 in
set_option maxRecDepth 100000 in
theorem c_X2_restore {l : Launch} {X : En} (k1 : Nat) (M : Mem) (hk1 : isF k1) (M9 : Mem) (hf : fn_X2_restore k1 M = some M9) : Cn l X yX2_restore cX2_restore 2 none 2 61 [.ref (X.ad 21), .ref (X.ad k1)] M (Qv X M9) := by
  refine Met.ofW (cc := cX2_restore) (maxL := 2) (ret := none) (by decide) rfl ?_
  intro p e s m args below meth c s₁ B hml hv
  obtain ⟨rfl, hP, hk⟩ := hv
  have hx := B.exec
  have hb := B.bytes
  have hr := B.returns
  have hlocks := B.notSynchronized
  have hts : ∀ w ∈ lw_u, w.before ([.ref (X.ad 21), .ref (X.ad k1)] : List Value).toArray s = true := fun w hw => atoms_spec (ws := Cond.code yX2_restore cX2_restore 2 none :: lw_u) B.pre w (List.mem_cons_of_mem _ hw)
  have hown : s.vm.findClass RX2 = some m.cls := findClass_of_methodNamed B.named
  have hZ : Fx p c m s ([.ref (X.ad 21), .ref (X.ad k1)] : List Value).toArray X cX2_restore 2 RX2 := ⟨hx, hb, hml, hts, hown, hk⟩
  have hS : va_S X.A s.heap s.heap [] := va_S.rf
  have hl := lv_entry ([.ref (X.ad 21), .ref (X.ad k1)]) (n := 2) (Nat.le_of_ble_eq_true rfl)
  rw [lg_entry_eq]
  generalize (lg_sl ([.ref (X.ad 21), .ref (X.ad k1)]) ++ List.replicate (2 - (lg_sl ([.ref (X.ad 21), .ref (X.ad k1)])).length) Slot.unset).toArray = ls at hl ⊢
  have hl : lv_has ls 2 [(0, .ref (X.ad 21)), (1, .ref (X.ad k1))] := hl
  show WW p l e 2 61 s m [.ref (X.ad 21), .ref (X.ad k1)] below meth c X (Qv X M9) s.heap [] 0 ls []
  have hP : wd X M s.heap := hP
  unfold fn_X2_restore at hf
  have key : ∀ (H : Heap) (locs : List Loc), wd X M H → va_S X.A s.heap H locs → WW p l e 2 61 s m [.ref (X.ad 21), .ref (X.ad k1)] below meth c X (Qv X M9) H locs 0 ls [] := by
    intro H locs hP hS
    refine lv_aload_n hx hb dX2_restore_0 rfl (lv_at hl 0 rfl) ?_
    refine gX2_0 hx hb hts hown hk hP wd_1_160 dX2_restore_1 ?_
    refine lv_if_le (tgt := 38) hx hb dX2_restore_4 (by decide) (fun c_1 => ?_) (fun c_1 => ?_)
    · have hf := i_t c_1 hf
      have hf := Option.some.inj hf
      rw [hf] at hP
      exact ret_v hx hb hr hlocks hP hS dX2_restore_38
    · have hf := i_f c_1 hf
      refine lv_aload_n hx hb dX2_restore_7 rfl (lv_at hl 0 rfl) ?_
      refine lv_dup hx hb dX2_restore_8 rfl ?_
      refine gX2_0 hx hb hts hown hk hP wd_1_160 dX2_restore_9 ?_
      refine lv_iconst (v := (1 : Int32)) hx hb dX2_restore_12 (by decide) ?_
      refine lv_isub hx hb dX2_restore_13 ?_
      refine pX2_0 hx hb hts hown hk hP hS wd_1_160 dX2_restore_14 (fun H locs M_2 e_M_2 hP hS => ?_)
      have hf := b_v hf e_M_2
      refine lv_aload_n hx hb dX2_restore_17 rfl (lv_at hl 1 rfl) ?_
      refine lv_aload_n hx hb dX2_restore_18 rfl (lv_at hl 0 rfl) ?_
      refine gX2_1 hx hb hts hown hk hP wd_1_162 dX2_restore_19 ?_
      refine lv_aload_n hx hb dX2_restore_22 rfl (lv_at hl 0 rfl) ?_
      refine gX2_2 hx hb hts hown hk hP wd_1_163 dX2_restore_23 ?_
      refine lv_aload_n hx hb dX2_restore_26 rfl (lv_at hl 0 rfl) ?_
      refine gX2_0 hx hb hts hown hk hP wd_1_160 dX2_restore_27 ?_
      refine lv_iadd hx hb dX2_restore_30 ?_
      refine lv_bipush (v := (8 : Int32)) hx hb dX2_restore_31 (by decide) ?_
      refine rw_irem hx hb dX2_restore_33 (by decide) ?_
      obtain ⟨q_3, hf⟩ := g_if hf
      refine aald hx hb hk hP q_3 dX2_restore_34 ?_
      obtain ⟨M_4, h_M_4, hf⟩ := b_d hf
      refine k_X1_copyFrom hZ hP hS hl.1 wd_2_70 ⟨Nat.le_of_ble_eq_true rfl, Nat.le_of_ble_eq_true rfl⟩ (Nat.le_of_ble_eq_true rfl) dX2_restore_35 ⟨Nat.zero_le _, Nat.zero_le _⟩ hk1 (isF_h q_3) h_M_4 (fun H locs hP hS => ?_)
      have hf := Option.some.inj hf
      rw [hf] at hP
      exact ret_v hx hb hr hlocks hP hS dX2_restore_38
  exact key s.heap [] hP hS
theorem hd_X2_restore : Hd yX2_restore 1 := by decide +kernel
theorem k_X2_restore {p : Program} {l : Launch} {e : Env} {R : Room} {s : State} {m : MethodId} {args : Array Value} {below : List Frame} {meth : Method} {c : Code} {H : Heap} {locs : List Loc} {cells slots : Nat} {Q : State → Prop} {cc : ByteArray} {nL pc index : Nat} {ls : Array Slot} {rest : List Value} {X : En} {M : Mem} {H0 : Heap} {own : String} {k1 : Nat} {M9 : Mem} (hZ : Fx p c m s args X cc nL own) (hP : wd X M H) (hS : va_S X.A H0 H locs) (hsz : ls.size = nL) (hlk : Cond.methodLink own index yX2_restore ∈ lw_u) (hR : 2 + 1 ≤ R.frames ∧ 8 + (2 + 11) + 61 ≤ R.locals) (hW : (rest.map fun v => v.category).sum ≤ 8) (hdg : decode cc pc = .ok (.invokevirtual index, 3)) (hcs : cells ≤ R.cells ∧ slots ≤ R.slots) (hk1 : isF k1) (hf : fn_X2_restore k1 M = some M9)
    (kk : ∀ (H1 : Heap) (locs1 : List Loc), wd X M9 H1 → va_S X.A H0 H1 locs1 → W p l e R s m args below meth c H1 locs1 cells slots Q (F0 m (pc + 3) ls rest)) : W p l e R s m args below meth c H locs cells slots Q (F0 m pc ls (.ref (X.ad k1) :: .ref (X.ad 21) :: rest)) :=
  cal_v (runV (As := [.ref (X.ad k1)]) (rest := rest) hZ.1 hZ.2.1 hZ.2.2.1 hZ.2.2.2.1 hZ.2.2.2.2.1 hZ.2.2.2.2.2 hP (c_X2_restore k1 M hk1 M9 hf) wd_3_140 wd_3_138 wd_3_139 wd_1_6 hd_X2_restore (by decide) rfl rfl rfl hlk hR hsz rfl hW hdg hcs) hS kk
/-! FrameRaiser.undo -/
def fn_X7_undo (M : Mem) : Option (Int32 × Mem) :=
  if (M 21 0) = 0 then
    (some ((-2 : Int32), M))
  else
    ((fn_X2_restore 1 M).bind fun M_2 =>
    (fn_X7_forgetPieces M_2).bind fun M_3 =>
    some (M_3 21 0, M_3))
theorem dX7_undo_0 : decode cX7_undo 0 = .ok (.aload_n 0, 1) := by decide +kernel
theorem dX7_undo_1 : decode cX7_undo 1 = .ok (.getfield 42, 3) := by decide +kernel
theorem dX7_undo_4 : decode cX7_undo 4 = .ok (.getfield 240, 3) := by decide +kernel
theorem dX7_undo_7 : decode cX7_undo 7 = .ok (.ifCond .ne 6, 3) := by decide +kernel
theorem dX7_undo_10 : decode cX7_undo 10 = .ok (.bipush (-2), 2) := by decide +kernel
theorem dX7_undo_12 : decode cX7_undo 12 = .ok (.ireturn, 1) := by decide +kernel
theorem dX7_undo_13 : decode cX7_undo 13 = .ok (.aload_n 0, 1) := by decide +kernel
theorem dX7_undo_14 : decode cX7_undo 14 = .ok (.getfield 42, 3) := by decide +kernel
theorem dX7_undo_17 : decode cX7_undo 17 = .ok (.aload_n 0, 1) := by decide +kernel
theorem dX7_undo_18 : decode cX7_undo 18 = .ok (.getfield 10, 3) := by decide +kernel
theorem dX7_undo_21 : decode cX7_undo 21 = .ok (.invokevirtual 243, 3) := by decide +kernel
theorem dX7_undo_24 : decode cX7_undo 24 = .ok (.aload_n 0, 1) := by decide +kernel
theorem dX7_undo_25 : decode cX7_undo 25 = .ok (.invokevirtual 88, 3) := by decide +kernel
theorem dX7_undo_28 : decode cX7_undo 28 = .ok (.aload_n 0, 1) := by decide +kernel
theorem dX7_undo_29 : decode cX7_undo 29 = .ok (.getfield 42, 3) := by decide +kernel
theorem dX7_undo_32 : decode cX7_undo 32 = .ok (.getfield 240, 3) := by decide +kernel
theorem dX7_undo_35 : decode cX7_undo 35 = .ok (.ireturn, 1) := by decide +kernel
set_option maxHeartbeats 4000000 in
set_option maxRecDepth 100000 in
theorem c_X7_undo {l : Launch} {X : En} (M : Mem) (r : Int32) (M9 : Mem) (hf : fn_X7_undo M = some (r, M9)) : Cn l X yX7_undo cX7_undo 1 (some .int) 3 82 [.ref (X.ad 0)] M (Qi X r M9) := by
  refine Met.ofW (cc := cX7_undo) (maxL := 1) (ret := (some .int)) (by decide) rfl ?_
  intro p e s m args below meth c s₁ B hml hv
  obtain ⟨rfl, hP, hk⟩ := hv
  have hx := B.exec
  have hb := B.bytes
  have hr := B.returns
  have hlocks := B.notSynchronized
  have hts : ∀ w ∈ lw_u, w.before ([.ref (X.ad 0)] : List Value).toArray s = true := fun w hw => atoms_spec (ws := Cond.code yX7_undo cX7_undo 1 (some .int) :: lw_u) B.pre w (List.mem_cons_of_mem _ hw)
  have hown : s.vm.findClass RX7 = some m.cls := findClass_of_methodNamed B.named
  have hZ : Fx p c m s ([.ref (X.ad 0)] : List Value).toArray X cX7_undo 1 RX7 := ⟨hx, hb, hml, hts, hown, hk⟩
  have hS : va_S X.A s.heap s.heap [] := va_S.rf
  have hl := lv_entry ([.ref (X.ad 0)]) (n := 1) (Nat.le_of_ble_eq_true rfl)
  rw [lg_entry_eq]
  generalize (lg_sl ([.ref (X.ad 0)]) ++ List.replicate (1 - (lg_sl ([.ref (X.ad 0)])).length) Slot.unset).toArray = ls at hl ⊢
  have hl : lv_has ls 1 [(0, .ref (X.ad 0))] := hl
  show WW p l e 3 82 s m [.ref (X.ad 0)] below meth c X (Qi X r M9) s.heap [] 0 ls []
  have hP : wd X M s.heap := hP
  unfold fn_X7_undo at hf
  have key : ∀ (H : Heap) (locs : List Loc), wd X M H → va_S X.A s.heap H locs → WW p l e 3 82 s m [.ref (X.ad 0)] below meth c X (Qi X r M9) H locs 0 ls [] := by
    intro H locs hP hS
    refine lv_aload_n hx hb dX7_undo_0 rfl (lv_at hl 0 rfl) ?_
    refine gX7_4 hx hb hts hown hk hP wd_1_217 dX7_undo_1 ?_
    refine gX2_0 hx hb hts hown hk hP wd_1_161 dX7_undo_4 ?_
    refine lv_if_ne (tgt := 13) hx hb dX7_undo_7 (by decide) (fun c_1 => ?_) (fun c_1 => ?_)
    · have hf := i_f c_1 hf
      refine lv_aload_n hx hb dX7_undo_13 rfl (lv_at hl 0 rfl) ?_
      refine gX7_4 hx hb hts hown hk hP wd_1_217 dX7_undo_14 ?_
      refine lv_aload_n hx hb dX7_undo_17 rfl (lv_at hl 0 rfl) ?_
      refine gX7_0 hx hb hts hown hk hP wd_1_213 dX7_undo_18 ?_
      obtain ⟨M_2, h_M_2, hf⟩ := b_d hf
      refine k_X2_restore hZ hP hS hl.1 wd_3_137 ⟨Nat.le_of_ble_eq_true rfl, Nat.le_of_ble_eq_true rfl⟩ (Nat.le_of_ble_eq_true rfl) dX7_undo_21 ⟨Nat.zero_le _, Nat.zero_le _⟩ isF_1 h_M_2 (fun H locs hP hS => ?_)
      refine lv_aload_n hx hb dX7_undo_24 rfl (lv_at hl 0 rfl) ?_
      obtain ⟨M_3, h_M_3, hf⟩ := b_d hf
      refine k_X7_forgetPieces hZ hP hS hl.1 wd_2_78 ⟨Nat.le_of_ble_eq_true rfl, Nat.le_of_ble_eq_true rfl⟩ (Nat.le_of_ble_eq_true rfl) dX7_undo_25 ⟨Nat.zero_le _, Nat.zero_le _⟩ h_M_3 (fun H locs hP hS => ?_)
      refine lv_aload_n hx hb dX7_undo_28 rfl (lv_at hl 0 rfl) ?_
      refine gX7_4 hx hb hts hown hk hP wd_1_217 dX7_undo_29 ?_
      refine gX2_0 hx hb hts hown hk hP wd_1_161 dX7_undo_32 ?_
      have hf := Option.some.inj hf
      obtain ⟨e1, e2⟩ := Prod.mk.inj hf
      rw [e2] at hP
      exact ret_i hx hb hr hlocks hP hS e1 dX7_undo_35
    · have hf := i_t c_1 hf
      refine lv_bipush (v := (-2 : Int32)) hx hb dX7_undo_10 (by decide) ?_
      have hf := Option.some.inj hf
      obtain ⟨e1, e2⟩ := Prod.mk.inj hf
      rw [e2] at hP
      exact ret_i hx hb hr hlocks hP hS e1 dX7_undo_12
  exact key s.heap [] hP hS
theorem hd_X7_undo : Hd yX7_undo 0 := by decide +kernel
theorem k_X7_undo {p : Program} {l : Launch} {e : Env} {R : Room} {s : State} {m : MethodId} {args : Array Value} {below : List Frame} {meth : Method} {c : Code} {H : Heap} {locs : List Loc} {cells slots : Nat} {Q : State → Prop} {cc : ByteArray} {nL pc index : Nat} {ls : Array Slot} {rest : List Value} {X : En} {M : Mem} {H0 : Heap} {own : String} {r : Int32} {M9 : Mem} (hZ : Fx p c m s args X cc nL own) (hP : wd X M H) (hS : va_S X.A H0 H locs) (hsz : ls.size = nL) (hlk : Cond.methodLink own index yX7_undo ∈ lw_u) (hR : 3 + 1 ≤ R.frames ∧ 8 + (1 + 11) + 82 ≤ R.locals) (hW : (rest.map fun v => v.category).sum ≤ 8) (hdg : decode cc pc = .ok (.invokevirtual index, 3)) (hcs : cells ≤ R.cells ∧ slots ≤ R.slots) (hf : fn_X7_undo M = some (r, M9))
    (kk : ∀ (H1 : Heap) (locs1 : List Loc), wd X M9 H1 → va_S X.A H0 H1 locs1 → W p l e R s m args below meth c H1 locs1 cells slots Q (F0 m (pc + 3) ls (.int r :: rest))) : W p l e R s m args below meth c H locs cells slots Q (F0 m pc ls (.ref (X.ad 0) :: rest)) :=
  cal_i (runV (As := []) (rest := rest) hZ.1 hZ.2.1 hZ.2.2.1 hZ.2.2.2.1 hZ.2.2.2.2.1 hZ.2.2.2.2.2 hP (c_X7_undo M r M9 hf) wd_3_136 wd_3_134 wd_3_135 wd_1_1 hd_X7_undo (by decide) rfl rfl rfl hlk hR hsz rfl hW hdg hcs) hS kk
/-! FrameRaiser.count -/
def fn_X7_count (g : Nat) (x1 : Int32) (M : Mem) : Option (Int32 × Mem) :=
  if x1 = (0 : Int32) then
    (some (M 1 2, M))
  else if x1 = (1 : Int32) then
    ((fn_X7_knownMeasures g M).bind fun M_1 =>
    some (M_1 4 4, M_1))
  else if x1 = (2 : Int32) then
    (some (M 1 3, M))
  else if x1 = (3 : Int32) then
    (some (M 1 4, M))
  else if x1 = (4 : Int32) then
    ((fn_X7_knownRelations g M).bind fun M_2 =>
    (fn_X5_propsOf g 9 (M_2 1 3) M_2).bind fun r_3 =>
    some (r_3, M_2))
  else if x1 = (5 : Int32) then
    (some (M 47 0, M))
  else if x1 = (6 : Int32) then
    (some (M 21 0, M))
  else 
    (some ((-1 : Int32), M))
theorem dX7_count_0 : decode cX7_count 0 = .ok (.iload_n 1, 1) := by decide +kernel
theorem dX7_count_1 : decode cX7_count 1 = .ok (.tableswitch 106 0 6 #[43, 51, 59, 67, 75, 90, 98], 43) := by decide +kernel
theorem dX7_count_44 : decode cX7_count 44 = .ok (.aload_n 0, 1) := by decide +kernel
theorem dX7_count_45 : decode cX7_count 45 = .ok (.getfield 10, 3) := by decide +kernel
theorem dX7_count_48 : decode cX7_count 48 = .ok (.getfield 91, 3) := by decide +kernel
theorem dX7_count_51 : decode cX7_count 51 = .ok (.ireturn, 1) := by decide +kernel
theorem dX7_count_52 : decode cX7_count 52 = .ok (.aload_n 0, 1) := by decide +kernel
theorem dX7_count_53 : decode cX7_count 53 = .ok (.invokevirtual 117, 3) := by decide +kernel
theorem dX7_count_56 : decode cX7_count 56 = .ok (.getfield 246, 3) := by decide +kernel
theorem dX7_count_59 : decode cX7_count 59 = .ok (.ireturn, 1) := by decide +kernel
theorem dX7_count_60 : decode cX7_count 60 = .ok (.aload_n 0, 1) := by decide +kernel
theorem dX7_count_61 : decode cX7_count 61 = .ok (.getfield 10, 3) := by decide +kernel
theorem dX7_count_64 : decode cX7_count 64 = .ok (.getfield 141, 3) := by decide +kernel
theorem dX7_count_67 : decode cX7_count 67 = .ok (.ireturn, 1) := by decide +kernel
theorem dX7_count_68 : decode cX7_count 68 = .ok (.aload_n 0, 1) := by decide +kernel
theorem dX7_count_69 : decode cX7_count 69 = .ok (.getfield 10, 3) := by decide +kernel
theorem dX7_count_72 : decode cX7_count 72 = .ok (.getfield 249, 3) := by decide +kernel
theorem dX7_count_75 : decode cX7_count 75 = .ok (.ireturn, 1) := by decide +kernel
theorem dX7_count_76 : decode cX7_count 76 = .ok (.aload_n 0, 1) := by decide +kernel
theorem dX7_count_77 : decode cX7_count 77 = .ok (.invokevirtual 160, 3) := by decide +kernel
theorem dX7_count_80 : decode cX7_count 80 = .ok (.aload_n 0, 1) := by decide +kernel
theorem dX7_count_81 : decode cX7_count 81 = .ok (.getfield 10, 3) := by decide +kernel
theorem dX7_count_84 : decode cX7_count 84 = .ok (.getfield 141, 3) := by decide +kernel
theorem dX7_count_87 : decode cX7_count 87 = .ok (.invokevirtual 180, 3) := by decide +kernel
theorem dX7_count_90 : decode cX7_count 90 = .ok (.ireturn, 1) := by decide +kernel
theorem dX7_count_91 : decode cX7_count 91 = .ok (.aload_n 0, 1) := by decide +kernel
theorem dX7_count_92 : decode cX7_count 92 = .ok (.getfield 49, 3) := by decide +kernel
theorem dX7_count_95 : decode cX7_count 95 = .ok (.getfield 66, 3) := by decide +kernel
theorem dX7_count_98 : decode cX7_count 98 = .ok (.ireturn, 1) := by decide +kernel
theorem dX7_count_99 : decode cX7_count 99 = .ok (.aload_n 0, 1) := by decide +kernel
theorem dX7_count_100 : decode cX7_count 100 = .ok (.getfield 42, 3) := by decide +kernel
theorem dX7_count_103 : decode cX7_count 103 = .ok (.getfield 240, 3) := by decide +kernel
theorem dX7_count_106 : decode cX7_count 106 = .ok (.ireturn, 1) := by decide +kernel
theorem dX7_count_107 : decode cX7_count 107 = .ok (.iconst (-1), 1) := by decide +kernel
theorem dX7_count_108 : decode cX7_count 108 = .ok (.ireturn, 1) := by decide +kernel
set_option maxHeartbeats 4000000 in
set_option maxRecDepth 100000 in
theorem c_X7_count {l : Launch} {X : En} (g : Nat) (x1 : Int32) (M : Mem) (r : Int32) (M9 : Mem) (hf : fn_X7_count g x1 M = some (r, M9)) : Cn l X yX7_count cX7_count 2 (some .int) 4 96 [.ref (X.ad 0), .int x1] M (Qi X r M9) := by
  refine Met.ofW (cc := cX7_count) (maxL := 2) (ret := (some .int)) (by decide) rfl ?_
  intro p e s m args below meth c s₁ B hml hv
  obtain ⟨rfl, hP, hk⟩ := hv
  have hx := B.exec
  have hb := B.bytes
  have hr := B.returns
  have hlocks := B.notSynchronized
  have hts : ∀ w ∈ lw_u, w.before ([.ref (X.ad 0), .int x1] : List Value).toArray s = true := fun w hw => atoms_spec (ws := Cond.code yX7_count cX7_count 2 (some .int) :: lw_u) B.pre w (List.mem_cons_of_mem _ hw)
  have hown : s.vm.findClass RX7 = some m.cls := findClass_of_methodNamed B.named
  have hZ : Fx p c m s ([.ref (X.ad 0), .int x1] : List Value).toArray X cX7_count 2 RX7 := ⟨hx, hb, hml, hts, hown, hk⟩
  have hS : va_S X.A s.heap s.heap [] := va_S.rf
  have hl := lv_entry ([.ref (X.ad 0), .int x1]) (n := 2) (Nat.le_of_ble_eq_true rfl)
  rw [lg_entry_eq]
  generalize (lg_sl ([.ref (X.ad 0), .int x1]) ++ List.replicate (2 - (lg_sl ([.ref (X.ad 0), .int x1])).length) Slot.unset).toArray = ls at hl ⊢
  have hl : lv_has ls 2 [(0, .ref (X.ad 0)), (1, .int x1)] := hl
  show WW p l e 4 96 s m [.ref (X.ad 0), .int x1] below meth c X (Qi X r M9) s.heap [] 0 ls []
  have hP : wd X M s.heap := hP
  unfold fn_X7_count at hf
  have key : ∀ (H : Heap) (locs : List Loc), wd X M H → va_S X.A s.heap H locs → WW p l e 4 96 s m [.ref (X.ad 0), .int x1] below meth c X (Qi X r M9) H locs 0 ls [] := by
    intro H locs hP hS
    refine lv_iload_n hx hb dX7_count_0 rfl (lv_at hl 1 rfl) ?_
    by_cases c_4_0 : x1 = (0 : Int32)
    · have hf := i_t c_4_0 hf
      refine lv_tableIn (tgt := 44) hx hb dX7_count_1 (by rw [c_4_0]; decide) (by rw [c_4_0]; decide) (by rw [c_4_0]; rfl) (by decide) ?_
      refine lv_aload_n hx hb dX7_count_44 rfl (lv_at hl 0 rfl) ?_
      refine gX7_0 hx hb hts hown hk hP wd_1_213 dX7_count_45 ?_
      refine gX1_2 hx hb hts hown hk hP isF_1 wd_1_40 dX7_count_48 ?_
      have hf := Option.some.inj hf
      obtain ⟨e1, e2⟩ := Prod.mk.inj hf
      rw [e2] at hP
      exact ret_i hx hb hr hlocks hP hS e1 dX7_count_51
    · have hf := i_f c_4_0 hf
      by_cases c_4_1 : x1 = (1 : Int32)
      · have hf := i_t c_4_1 hf
        refine lv_tableIn (tgt := 52) hx hb dX7_count_1 (by rw [c_4_1]; decide) (by rw [c_4_1]; decide) (by rw [c_4_1]; rfl) (by decide) ?_
        refine lv_aload_n hx hb dX7_count_52 rfl (lv_at hl 0 rfl) ?_
        obtain ⟨M_1, h_M_1, hf⟩ := b_d hf
        refine k_X7_knownMeasures hZ hP hS hl.1 wd_2_110 ⟨Nat.le_of_ble_eq_true rfl, Nat.le_of_ble_eq_true rfl⟩ (Nat.le_of_ble_eq_true rfl) dX7_count_53 ⟨Nat.zero_le _, Nat.zero_le _⟩ h_M_1 (fun H locs hP hS => ?_)
        refine gX3_4 hx hb hts hown hk hP wd_1_72 dX7_count_56 ?_
        have hf := Option.some.inj hf
        obtain ⟨e1, e2⟩ := Prod.mk.inj hf
        rw [e2] at hP
        exact ret_i hx hb hr hlocks hP hS e1 dX7_count_59
      · have hf := i_f c_4_1 hf
        by_cases c_4_2 : x1 = (2 : Int32)
        · have hf := i_t c_4_2 hf
          refine lv_tableIn (tgt := 60) hx hb dX7_count_1 (by rw [c_4_2]; decide) (by rw [c_4_2]; decide) (by rw [c_4_2]; rfl) (by decide) ?_
          refine lv_aload_n hx hb dX7_count_60 rfl (lv_at hl 0 rfl) ?_
          refine gX7_0 hx hb hts hown hk hP wd_1_213 dX7_count_61 ?_
          refine gX1_3 hx hb hts hown hk hP isF_1 wd_1_42 dX7_count_64 ?_
          have hf := Option.some.inj hf
          obtain ⟨e1, e2⟩ := Prod.mk.inj hf
          rw [e2] at hP
          exact ret_i hx hb hr hlocks hP hS e1 dX7_count_67
        · have hf := i_f c_4_2 hf
          by_cases c_4_3 : x1 = (3 : Int32)
          · have hf := i_t c_4_3 hf
            refine lv_tableIn (tgt := 68) hx hb dX7_count_1 (by rw [c_4_3]; decide) (by rw [c_4_3]; decide) (by rw [c_4_3]; rfl) (by decide) ?_
            refine lv_aload_n hx hb dX7_count_68 rfl (lv_at hl 0 rfl) ?_
            refine gX7_0 hx hb hts hown hk hP wd_1_213 dX7_count_69 ?_
            refine gX1_4 hx hb hts hown hk hP isF_1 wd_1_44 dX7_count_72 ?_
            have hf := Option.some.inj hf
            obtain ⟨e1, e2⟩ := Prod.mk.inj hf
            rw [e2] at hP
            exact ret_i hx hb hr hlocks hP hS e1 dX7_count_75
          · have hf := i_f c_4_3 hf
            by_cases c_4_4 : x1 = (4 : Int32)
            · have hf := i_t c_4_4 hf
              refine lv_tableIn (tgt := 76) hx hb dX7_count_1 (by rw [c_4_4]; decide) (by rw [c_4_4]; decide) (by rw [c_4_4]; rfl) (by decide) ?_
              refine lv_aload_n hx hb dX7_count_76 rfl (lv_at hl 0 rfl) ?_
              obtain ⟨M_2, h_M_2, hf⟩ := b_d hf
              refine k_X7_knownRelations hZ hP hS hl.1 wd_2_185 ⟨Nat.le_of_ble_eq_true rfl, Nat.le_of_ble_eq_true rfl⟩ (Nat.le_of_ble_eq_true rfl) dX7_count_77 ⟨Nat.zero_le _, Nat.zero_le _⟩ h_M_2 (fun H locs hP hS => ?_)
              refine lv_aload_n hx hb dX7_count_80 rfl (lv_at hl 0 rfl) ?_
              refine gX7_0 hx hb hts hown hk hP wd_1_213 dX7_count_81 ?_
              refine gX1_3 hx hb hts hown hk hP isF_1 wd_1_42 dX7_count_84 ?_
              obtain ⟨r_3, h_r_3, hf⟩ := b_d hf
              refine k_X5_propsOf hZ hP hS hl.1 wd_3_10 ⟨Nat.le_of_ble_eq_true rfl, Nat.le_of_ble_eq_true rfl⟩ (Nat.le_of_ble_eq_true rfl) dX7_count_87 ⟨Nat.zero_le _, Nat.zero_le _⟩ isR_9 h_r_3 (fun H locs hP hS => ?_)
              have hf := Option.some.inj hf
              obtain ⟨e1, e2⟩ := Prod.mk.inj hf
              rw [e2] at hP
              exact ret_i hx hb hr hlocks hP hS e1 dX7_count_90
            · have hf := i_f c_4_4 hf
              by_cases c_4_5 : x1 = (5 : Int32)
              · have hf := i_t c_4_5 hf
                refine lv_tableIn (tgt := 91) hx hb dX7_count_1 (by rw [c_4_5]; decide) (by rw [c_4_5]; decide) (by rw [c_4_5]; rfl) (by decide) ?_
                refine lv_aload_n hx hb dX7_count_91 rfl (lv_at hl 0 rfl) ?_
                refine gX7_5 hx hb hts hown hk hP wd_1_218 dX7_count_92 ?_
                refine gX6_0 hx hb hts hown hk hP wd_1_188 dX7_count_95 ?_
                have hf := Option.some.inj hf
                obtain ⟨e1, e2⟩ := Prod.mk.inj hf
                rw [e2] at hP
                exact ret_i hx hb hr hlocks hP hS e1 dX7_count_98
              · have hf := i_f c_4_5 hf
                by_cases c_4_6 : x1 = (6 : Int32)
                · have hf := i_t c_4_6 hf
                  refine lv_tableIn (tgt := 99) hx hb dX7_count_1 (by rw [c_4_6]; decide) (by rw [c_4_6]; decide) (by rw [c_4_6]; rfl) (by decide) ?_
                  refine lv_aload_n hx hb dX7_count_99 rfl (lv_at hl 0 rfl) ?_
                  refine gX7_4 hx hb hts hown hk hP wd_1_217 dX7_count_100 ?_
                  refine gX2_0 hx hb hts hown hk hP wd_1_161 dX7_count_103 ?_
                  have hf := Option.some.inj hf
                  obtain ⟨e1, e2⟩ := Prod.mk.inj hf
                  rw [e2] at hP
                  exact ret_i hx hb hr hlocks hP hS e1 dX7_count_106
                · have hf := i_f c_4_6 hf
                  refine lv_tableOut (tgt := 107) hx hb dX7_count_1 (sw_out7 c_4_0 c_4_1 c_4_2 c_4_3 c_4_4 c_4_5 c_4_6) (by decide) ?_
                  refine lv_iconst (v := (-1 : Int32)) hx hb dX7_count_107 (by decide) ?_
                  have hf := Option.some.inj hf
                  obtain ⟨e1, e2⟩ := Prod.mk.inj hf
                  rw [e2] at hP
                  exact ret_i hx hb hr hlocks hP hS e1 dX7_count_108
  exact key s.heap [] hP hS
theorem hd_X7_count : Hd yX7_count 1 := by decide +kernel
theorem k_X7_count {p : Program} {l : Launch} {e : Env} {R : Room} {s : State} {m : MethodId} {args : Array Value} {below : List Frame} {meth : Method} {c : Code} {H : Heap} {locs : List Loc} {cells slots : Nat} {Q : State → Prop} {cc : ByteArray} {nL pc index : Nat} {ls : Array Slot} {rest : List Value} {X : En} {M : Mem} {H0 : Heap} {own : String} {g : Nat} {x1 : Int32} {r : Int32} {M9 : Mem} (hZ : Fx p c m s args X cc nL own) (hP : wd X M H) (hS : va_S X.A H0 H locs) (hsz : ls.size = nL) (hlk : Cond.methodLink own index yX7_count ∈ lw_u) (hR : 4 + 1 ≤ R.frames ∧ 8 + (2 + 11) + 96 ≤ R.locals) (hW : (rest.map fun v => v.category).sum ≤ 8) (hdg : decode cc pc = .ok (.invokevirtual index, 3)) (hcs : cells ≤ R.cells ∧ slots ≤ R.slots) (hf : fn_X7_count g x1 M = some (r, M9))
    (kk : ∀ (H1 : Heap) (locs1 : List Loc), wd X M9 H1 → va_S X.A H0 H1 locs1 → W p l e R s m args below meth c H1 locs1 cells slots Q (F0 m (pc + 3) ls (.int r :: rest))) : W p l e R s m args below meth c H locs cells slots Q (F0 m pc ls (.int x1 :: .ref (X.ad 0) :: rest)) :=
  cal_i (runV (As := [.int x1]) (rest := rest) hZ.1 hZ.2.1 hZ.2.2.1 hZ.2.2.2.1 hZ.2.2.2.2.1 hZ.2.2.2.2.2 hP (c_X7_count g x1 M r M9 hf) wd_3_144 wd_3_142 wd_3_143 wd_1_1 hd_X7_count (by decide) rfl rfl rfl hlk hR hsz rfl hW hdg hcs) hS kk
/-! FrameRaiser.mixPiece -/
def bd_X7_mixPiece_6 (g : Nat) (x3 : Int32) : (Int64 × Int32 × Mem) → Option ((Int64 × Int32 × Mem) ⊕ (Int64 × Mem)) :=
  u3 fun v4_2 v6_1 M_3 =>
  if (10 : Int32) ≤ v6_1 then
    (some (.inr (v4_2, M_3)))
  else
    ((fn_X7_piece g x3 v6_1 M_3).bind (u2 fun r_7 M_8 =>
    bv (((31 : Int64) * v4_2) + r_7.toInt64) fun v4_9 =>
    some (.inl (v4_9, v6_1 + (1 : Int32), M_8))))
def bd_X7_mixPiece_39 (g : Nat) (x3 : Int32) : (Int64 × Int32 × Mem) → Option ((Int64 × Int32 × Mem) ⊕ (Int64 × Mem)) :=
  u3 fun v4_11 v6_10 M_12 =>
  if (6 : Int32) ≤ v6_10 then
    (some (.inr (v4_11, M_12)))
  else
    ((fn_X7_blockers g x3 v6_10 M_12).bind (u2 fun r_16 M_17 =>
    bv (((31 : Int64) * v4_11) + r_16.toInt64) fun v4_18 =>
    some (.inl (v4_18, v6_10 + (1 : Int32), M_17))))
def fn_X7_mixPiece (g : Nat) (x1 : Int64) (x3 : Int32) (M : Mem) : Option (Int64 × Mem) :=
  (lpN g (bd_X7_mixPiece_6 g x3) (x1, (0 : Int32), M)).bind (u2 fun v4_4 M_5 =>
    (lpN g (bd_X7_mixPiece_39 g x3) (v4_4, (0 : Int32), M_5)).bind (u2 fun v4_13 M_14 =>
      some (v4_13, M_14)))
theorem dX7_mixPiece_0 : decode cX7_mixPiece 0 = .ok (.lload_n 1, 1) := by decide +kernel
theorem dX7_mixPiece_1 : decode cX7_mixPiece 1 = .ok (.lstore 4, 2) := by decide +kernel
theorem dX7_mixPiece_3 : decode cX7_mixPiece 3 = .ok (.iconst 0, 1) := by decide +kernel
theorem dX7_mixPiece_4 : decode cX7_mixPiece 4 = .ok (.istore 6, 2) := by decide +kernel
theorem dX7_mixPiece_6 : decode cX7_mixPiece 6 = .ok (.iload 6, 2) := by decide +kernel
theorem dX7_mixPiece_8 : decode cX7_mixPiece 8 = .ok (.bipush 10, 2) := by decide +kernel
theorem dX7_mixPiece_10 : decode cX7_mixPiece 10 = .ok (.if_icmp .ge 26, 3) := by decide +kernel
theorem dX7_mixPiece_13 : decode cX7_mixPiece 13 = .ok (.ldc2_w 254, 3) := by decide +kernel
theorem dX7_mixPiece_16 : decode cX7_mixPiece 16 = .ok (.lload 4, 2) := by decide +kernel
theorem dX7_mixPiece_18 : decode cX7_mixPiece 18 = .ok (.lmul, 1) := by decide +kernel
theorem dX7_mixPiece_19 : decode cX7_mixPiece 19 = .ok (.aload_n 0, 1) := by decide +kernel
theorem dX7_mixPiece_20 : decode cX7_mixPiece 20 = .ok (.iload_n 3, 1) := by decide +kernel
theorem dX7_mixPiece_21 : decode cX7_mixPiece 21 = .ok (.iload 6, 2) := by decide +kernel
theorem dX7_mixPiece_23 : decode cX7_mixPiece 23 = .ok (.invokevirtual 285, 3) := by decide +kernel
theorem dX7_mixPiece_26 : decode cX7_mixPiece 26 = .ok (.i2l, 1) := by decide +kernel
theorem dX7_mixPiece_27 : decode cX7_mixPiece 27 = .ok (.ladd, 1) := by decide +kernel
theorem dX7_mixPiece_28 : decode cX7_mixPiece 28 = .ok (.lstore 4, 2) := by decide +kernel
theorem dX7_mixPiece_30 : decode cX7_mixPiece 30 = .ok (.iinc 6 1, 3) := by decide +kernel
theorem dX7_mixPiece_33 : decode cX7_mixPiece 33 = .ok (.goto (-27), 3) := by decide +kernel
theorem dX7_mixPiece_36 : decode cX7_mixPiece 36 = .ok (.iconst 0, 1) := by decide +kernel
theorem dX7_mixPiece_37 : decode cX7_mixPiece 37 = .ok (.istore 6, 2) := by decide +kernel
theorem dX7_mixPiece_39 : decode cX7_mixPiece 39 = .ok (.iload 6, 2) := by decide +kernel
theorem dX7_mixPiece_41 : decode cX7_mixPiece 41 = .ok (.bipush 6, 2) := by decide +kernel
theorem dX7_mixPiece_43 : decode cX7_mixPiece 43 = .ok (.if_icmp .ge 26, 3) := by decide +kernel
theorem dX7_mixPiece_46 : decode cX7_mixPiece 46 = .ok (.ldc2_w 254, 3) := by decide +kernel
theorem dX7_mixPiece_49 : decode cX7_mixPiece 49 = .ok (.lload 4, 2) := by decide +kernel
theorem dX7_mixPiece_51 : decode cX7_mixPiece 51 = .ok (.lmul, 1) := by decide +kernel
theorem dX7_mixPiece_52 : decode cX7_mixPiece 52 = .ok (.aload_n 0, 1) := by decide +kernel
theorem dX7_mixPiece_53 : decode cX7_mixPiece 53 = .ok (.iload_n 3, 1) := by decide +kernel
theorem dX7_mixPiece_54 : decode cX7_mixPiece 54 = .ok (.iload 6, 2) := by decide +kernel
theorem dX7_mixPiece_56 : decode cX7_mixPiece 56 = .ok (.invokevirtual 288, 3) := by decide +kernel
theorem dX7_mixPiece_59 : decode cX7_mixPiece 59 = .ok (.i2l, 1) := by decide +kernel
theorem dX7_mixPiece_60 : decode cX7_mixPiece 60 = .ok (.ladd, 1) := by decide +kernel
theorem dX7_mixPiece_61 : decode cX7_mixPiece 61 = .ok (.lstore 4, 2) := by decide +kernel
theorem dX7_mixPiece_63 : decode cX7_mixPiece 63 = .ok (.iinc 6 1, 3) := by decide +kernel
theorem dX7_mixPiece_66 : decode cX7_mixPiece 66 = .ok (.goto (-27), 3) := by decide +kernel
theorem dX7_mixPiece_69 : decode cX7_mixPiece 69 = .ok (.lload 4, 2) := by decide +kernel
theorem dX7_mixPiece_71 : decode cX7_mixPiece 71 = .ok (.lreturn, 1) := by decide +kernel
set_option maxHeartbeats 4000000 in
set_option maxRecDepth 100000 in
theorem c_X7_mixPiece {l : Launch} {X : En} (g : Nat) (x1 : Int64) (x3 : Int32) (M : Mem) (r : Int64) (M9 : Mem) (hf : fn_X7_mixPiece g x1 x3 M = some (r, M9)) : Cn l X yX7_mixPiece cX7_mixPiece 7 (some .long) 5 118 [.ref (X.ad 0), .long x1, .int x3] M (Ql X r M9) := by
  refine Met.ofW (cc := cX7_mixPiece) (maxL := 7) (ret := (some .long)) (by decide) rfl ?_
  intro p e s m args below meth c s₁ B hml hv
  obtain ⟨rfl, hP, hk⟩ := hv
  have hx := B.exec
  have hb := B.bytes
  have hr := B.returns
  have hlocks := B.notSynchronized
  have hts : ∀ w ∈ lw_u, w.before ([.ref (X.ad 0), .long x1, .int x3] : List Value).toArray s = true := fun w hw => atoms_spec (ws := Cond.code yX7_mixPiece cX7_mixPiece 7 (some .long) :: lw_u) B.pre w (List.mem_cons_of_mem _ hw)
  have hown : s.vm.findClass RX7 = some m.cls := findClass_of_methodNamed B.named
  have hZ : Fx p c m s ([.ref (X.ad 0), .long x1, .int x3] : List Value).toArray X cX7_mixPiece 7 RX7 := ⟨hx, hb, hml, hts, hown, hk⟩
  have hS : va_S X.A s.heap s.heap [] := va_S.rf
  have hl := lv_entry ([.ref (X.ad 0), .long x1, .int x3]) (n := 7) (Nat.le_of_ble_eq_true rfl)
  rw [lg_entry_eq]
  generalize (lg_sl ([.ref (X.ad 0), .long x1, .int x3]) ++ List.replicate (7 - (lg_sl ([.ref (X.ad 0), .long x1, .int x3])).length) Slot.unset).toArray = ls at hl ⊢
  have hl : lv_has ls 7 [(0, .ref (X.ad 0)), (1, .long x1), (3, .int x3)] := hl
  show WW p l e 5 118 s m [.ref (X.ad 0), .long x1, .int x3] below meth c X (Ql X r M9) s.heap [] 0 ls []
  have hP : wd X M s.heap := hP
  unfold fn_X7_mixPiece at hf
  have key : ∀ (H : Heap) (locs : List Loc), wd X M H → va_S X.A s.heap H locs → WW p l e 5 118 s m [.ref (X.ad 0), .long x1, .int x3] below meth c X (Ql X r M9) H locs 0 ls [] := by
    intro H locs hP hS
    refine lv_lload_n hx hb dX7_mixPiece_0 rfl (lv_at hl 1 rfl) ?_
    refine lv_lstore (lv' := [(4, .long x1), (0, .ref (X.ad 0)), (1, .long x1), (3, .int x3)]) hx hb dX7_mixPiece_1 hl (by decide) rfl (fun ls hl => ?_)
    refine lv_iconst (v := (0 : Int32)) hx hb dX7_mixPiece_3 (by decide) ?_
    refine lv_istore (lv' := [(6, .int (0 : Int32)), (4, .long x1), (0, .ref (X.ad 0)), (1, .long x1), (3, .int x3)]) hx hb dX7_mixPiece_4 hl (by decide) rfl (fun ls hl => ?_)
    obtain ⟨o6, ho6, hf⟩ := b_d hf
    refine lp_rule (b := bd_X7_mixPiece_6 g x3) (P := fun w : Int64 × Int32 × Mem => ∀ (H : Heap) (locs : List Loc) (ls : Array Slot), wd X w.2.2 H → va_S X.A s.heap H locs → lv_has ls 7 [(6, .int w.2.1), (4, .long w.1), (0, .ref (X.ad 0)), (3, .int x3)] → WW p l e 5 118 s m [.ref (X.ad 0), .long x1, .int x3] below meth c X (Ql X r M9) H locs 6 ls []) (K := fun o => ∀ (v4_4 : Int64) (M_5 : Mem), o = (v4_4, M_5) → ∀ (H : Heap) (locs : List Loc) (ls : Array Slot), wd X M_5 H → va_S X.A s.heap H locs → lv_has ls 7 [(4, .long v4_4), (0, .ref (X.ad 0)), (3, .int x3)] → WW p l e 5 118 s m [.ref (X.ad 0), .long x1, .int x3] below meth c X (Ql X r M9) H locs 36 ls []) ?_ g (x1, (0 : Int32), M) o6 ho6 ?_ H locs ls hP hS (lv_sub hl [0, 1, 2, 4] rfl)
    · rintro ⟨v4_2, v6_1, M_3⟩ o hf hkc6 hke6 H locs ls hP hS hl
      have hf := u3_e hf
      refine lv_iload hx hb dX7_mixPiece_6 (lv_at hl 0 rfl) ?_
      refine lv_bipush (v := (10 : Int32)) hx hb dX7_mixPiece_8 (by decide) ?_
      refine lv_icmp_ge (tgt := 36) hx hb dX7_mixPiece_10 (by decide) (fun c_6 => ?_) (fun c_6 => ?_)
      · have hf := i_t c_6 hf
        exact hke6 _ (Option.some.inj hf).symm _ _ rfl H locs ls hP hS (lv_sub hl [1, 2, 3] rfl)
      · have hf := i_f c_6 hf
        refine lv_ldc2 hx hb hown (hts _ wd_3_150) dX7_mixPiece_13 ?_
        refine lv_lload hx hb dX7_mixPiece_16 (lv_at hl 1 rfl) ?_
        refine lv_lmul hx hb dX7_mixPiece_18 ?_
        refine lv_aload_n hx hb dX7_mixPiece_19 rfl (lv_at hl 2 rfl) ?_
        refine lv_iload_n hx hb dX7_mixPiece_20 rfl (lv_at hl 3 rfl) ?_
        refine lv_iload hx hb dX7_mixPiece_21 (lv_at hl 0 rfl) ?_
        obtain ⟨⟨r_7, M_8⟩, h_r_7, hf⟩ := b_d hf
        have hf := u2_e hf
        refine k_X7_piece hZ hP hS hl.1 wd_3_156 ⟨Nat.le_of_ble_eq_true rfl, Nat.le_of_ble_eq_true rfl⟩ (Nat.le_of_ble_eq_true rfl) dX7_mixPiece_23 ⟨Nat.zero_le _, Nat.zero_le _⟩ h_r_7 (fun H locs hP hS => ?_)
        refine lv_i2l hx hb dX7_mixPiece_26 rfl ?_
        refine lv_ladd hx hb dX7_mixPiece_27 ?_
        refine lv_topl (fun v4_9 e_v4_9 => ?_)
        have hf := b_v hf e_v4_9
        refine lv_lstore (lv' := [(4, .long v4_9), (6, .int v6_1), (0, .ref (X.ad 0)), (3, .int x3)]) hx hb dX7_mixPiece_28 hl (by decide) rfl (fun ls hl => ?_)
        refine lv_iinc (v := v6_1 + (1 : Int32)) (lv' := [(6, .int (v6_1 + (1 : Int32))), (4, .long v4_9), (0, .ref (X.ad 0)), (3, .int x3)]) hx hb dX7_mixPiece_30 hl (k := 1) rfl rfl (by decide) rfl (fun ls hl => ?_)
        refine lv_goto (tgt := 6) hx hb dX7_mixPiece_33 (by decide) ?_
        exact hkc6 _ (Option.some.inj hf).symm H locs ls hP hS (lv_sub hl [0, 1, 2, 3] rfl)
    · intro v4_4 M_5 e H locs ls hP hS hl
      subst o6
      have hf := u2_e hf
      refine lv_iconst (v := (0 : Int32)) hx hb dX7_mixPiece_36 (by decide) ?_
      refine lv_istore (lv' := [(6, .int (0 : Int32)), (4, .long v4_4), (0, .ref (X.ad 0)), (3, .int x3)]) hx hb dX7_mixPiece_37 hl (by decide) rfl (fun ls hl => ?_)
      obtain ⟨o39, ho39, hf⟩ := b_d hf
      refine lp_rule (b := bd_X7_mixPiece_39 g x3) (P := fun w : Int64 × Int32 × Mem => ∀ (H : Heap) (locs : List Loc) (ls : Array Slot), wd X w.2.2 H → va_S X.A s.heap H locs → lv_has ls 7 [(6, .int w.2.1), (4, .long w.1), (0, .ref (X.ad 0)), (3, .int x3)] → WW p l e 5 118 s m [.ref (X.ad 0), .long x1, .int x3] below meth c X (Ql X r M9) H locs 39 ls []) (K := fun o => ∀ (v4_13 : Int64) (M_14 : Mem), o = (v4_13, M_14) → ∀ (H : Heap) (locs : List Loc) (ls : Array Slot), wd X M_14 H → va_S X.A s.heap H locs → lv_has ls 7 [(4, .long v4_13)] → WW p l e 5 118 s m [.ref (X.ad 0), .long x1, .int x3] below meth c X (Ql X r M9) H locs 69 ls []) ?_ g (v4_4, (0 : Int32), M_5) o39 ho39 ?_ H locs ls hP hS (lv_sub hl [0, 1, 2, 3] rfl)
      · rintro ⟨v4_11, v6_10, M_12⟩ o hf hkc39 hke39 H locs ls hP hS hl
        have hf := u3_e hf
        refine lv_iload hx hb dX7_mixPiece_39 (lv_at hl 0 rfl) ?_
        refine lv_bipush (v := (6 : Int32)) hx hb dX7_mixPiece_41 (by decide) ?_
        refine lv_icmp_ge (tgt := 69) hx hb dX7_mixPiece_43 (by decide) (fun c_15 => ?_) (fun c_15 => ?_)
        · have hf := i_t c_15 hf
          exact hke39 _ (Option.some.inj hf).symm _ _ rfl H locs ls hP hS (lv_sub hl [1] rfl)
        · have hf := i_f c_15 hf
          refine lv_ldc2 hx hb hown (hts _ wd_3_150) dX7_mixPiece_46 ?_
          refine lv_lload hx hb dX7_mixPiece_49 (lv_at hl 1 rfl) ?_
          refine lv_lmul hx hb dX7_mixPiece_51 ?_
          refine lv_aload_n hx hb dX7_mixPiece_52 rfl (lv_at hl 2 rfl) ?_
          refine lv_iload_n hx hb dX7_mixPiece_53 rfl (lv_at hl 3 rfl) ?_
          refine lv_iload hx hb dX7_mixPiece_54 (lv_at hl 0 rfl) ?_
          obtain ⟨⟨r_16, M_17⟩, h_r_16, hf⟩ := b_d hf
          have hf := u2_e hf
          refine k_X7_blockers hZ hP hS hl.1 wd_3_157 ⟨Nat.le_of_ble_eq_true rfl, Nat.le_of_ble_eq_true rfl⟩ (Nat.le_of_ble_eq_true rfl) dX7_mixPiece_56 ⟨Nat.zero_le _, Nat.zero_le _⟩ h_r_16 (fun H locs hP hS => ?_)
          refine lv_i2l hx hb dX7_mixPiece_59 rfl ?_
          refine lv_ladd hx hb dX7_mixPiece_60 ?_
          refine lv_topl (fun v4_18 e_v4_18 => ?_)
          have hf := b_v hf e_v4_18
          refine lv_lstore (lv' := [(4, .long v4_18), (6, .int v6_10), (0, .ref (X.ad 0)), (3, .int x3)]) hx hb dX7_mixPiece_61 hl (by decide) rfl (fun ls hl => ?_)
          refine lv_iinc (v := v6_10 + (1 : Int32)) (lv' := [(6, .int (v6_10 + (1 : Int32))), (4, .long v4_18), (0, .ref (X.ad 0)), (3, .int x3)]) hx hb dX7_mixPiece_63 hl (k := 1) rfl rfl (by decide) rfl (fun ls hl => ?_)
          refine lv_goto (tgt := 39) hx hb dX7_mixPiece_66 (by decide) ?_
          exact hkc39 _ (Option.some.inj hf).symm H locs ls hP hS (lv_sub hl [0, 1, 2, 3] rfl)
      · intro v4_13 M_14 e H locs ls hP hS hl
        subst o39
        have hf := u2_e hf
        refine lv_lload hx hb dX7_mixPiece_69 (lv_at hl 0 rfl) ?_
        have hf := Option.some.inj hf
        obtain ⟨e1, e2⟩ := Prod.mk.inj hf
        rw [e2] at hP
        exact ret_l hx hb hr hlocks hP hS e1 dX7_mixPiece_71
  exact key s.heap [] hP hS
theorem hd_X7_mixPiece : Hd yX7_mixPiece 2 := by decide +kernel
theorem k_X7_mixPiece {p : Program} {l : Launch} {e : Env} {R : Room} {s : State} {m : MethodId} {args : Array Value} {below : List Frame} {meth : Method} {c : Code} {H : Heap} {locs : List Loc} {cells slots : Nat} {Q : State → Prop} {cc : ByteArray} {nL pc index : Nat} {ls : Array Slot} {rest : List Value} {X : En} {M : Mem} {H0 : Heap} {own : String} {g : Nat} {x1 : Int64} {x3 : Int32} {r : Int64} {M9 : Mem} (hZ : Fx p c m s args X cc nL own) (hP : wd X M H) (hS : va_S X.A H0 H locs) (hsz : ls.size = nL) (hlk : Cond.methodLink own index yX7_mixPiece ∈ lw_u) (hR : 5 + 1 ≤ R.frames ∧ 8 + (7 + 11) + 118 ≤ R.locals) (hW : (rest.map fun v => v.category).sum ≤ 8) (hdg : decode cc pc = .ok (.invokevirtual index, 3)) (hcs : cells ≤ R.cells ∧ slots ≤ R.slots) (hf : fn_X7_mixPiece g x1 x3 M = some (r, M9))
    (kk : ∀ (H1 : Heap) (locs1 : List Loc), wd X M9 H1 → va_S X.A H0 H1 locs1 → W p l e R s m args below meth c H1 locs1 cells slots Q (F0 m (pc + 3) ls (.long r :: rest))) : W p l e R s m args below meth c H locs cells slots Q (F0 m pc ls (.int x3 :: .long x1 :: .ref (X.ad 0) :: rest)) :=
  cal_l (runV (As := [.long x1, .int x3]) (rest := rest) hZ.1 hZ.2.1 hZ.2.2.1 hZ.2.2.2.1 hZ.2.2.2.2.1 hZ.2.2.2.2.2 hP (c_X7_mixPiece g x1 x3 M r M9 hf) wd_3_155 wd_3_154 wd_p_25 wd_1_1 hd_X7_mixPiece (by decide) rfl rfl rfl hlk hR hsz rfl hW hdg hcs) hS kk
/-! FrameRaiser.digest -/
def bd_X7_digest_6 (g : Nat) : (Int64 × Int32 × Mem) → Option ((Int64 × Int32 × Mem) ⊕ (Int64 × Mem)) :=
  u3 fun v1_3 v3_2 M_4 =>
  if (7 : Int32) ≤ v3_2 then
    (some (.inr (v1_3, M_4)))
  else
    ((fn_X7_count g v3_2 M_4).bind (u2 fun r_8 M_9 =>
    bv (((31 : Int64) * v1_3) + r_8.toInt64) fun v1_10 =>
    some (.inl (v1_10, v3_2 + (1 : Int32), M_9))))
def bd_X7_digest_33 (g : Nat) : (Int64 × Int32 × Mem) → Option ((Int64 × Int32 × Mem) ⊕ (Int64 × Mem)) :=
  u3 fun v1_12 v3_11 M_13 =>
  if (M_13 1 2) ≤ v3_11 then
    (some (.inr (v1_12, M_13)))
  else
    ((fn_X7_mixPiece g v1_12 v3_11 M_13).bind (u2 fun r_17 M_18 =>
    some (.inl (r_17, v3_11 + (1 : Int32), M_18))))
def bd_X7_digest_115 (g : Nat) (s_28 : Int32) : (Int64 × Int32 × Mem) → Option ((Int64 × Int32 × Mem) ⊕ (Int64 × Mem)) :=
  u3 fun v1_37 v5_36 M_38 =>
  if (8 : Int32) ≤ v5_36 then
    (some (.inr (v1_37, M_38)))
  else
    ((fn_X7_planned g s_28 v5_36 (0 : Int32) M_38).bind (u2 fun r_42 M_43 =>
    bv (((31 : Int64) * v1_37) + r_42.toInt64) fun v1_44 =>
    (fn_X7_planned g s_28 v5_36 (1 : Int32) M_43).bind (u2 fun r_45 M_46 =>
    bv (((31 : Int64) * v1_44) + r_45.toInt64) fun v1_47 =>
    some (.inl (v1_47, v5_36 + (1 : Int32), M_46)))))
def jn_X7_digest_82 (g : Nat) (s_28 : Int32) (v3_27 : Int32) (v1_26 : Int64) (M_29 : Mem) : Option ((Int64 × Int32 × Mem) ⊕ (Int64 × Mem)) :=
  (fn_X7_orders g s_28 M_29).bind (u2 fun r_30 M_31 =>
  bv (((31 : Int64) * v1_26) + r_30.toInt64) fun v1_32 =>
  (fn_X7_fewestProps g s_28 M_31).bind (u2 fun r_33 M_34 =>
  bv (((31 : Int64) * v1_32) + r_33.toInt64) fun v1_35 =>
  (lpN g (bd_X7_digest_115 g s_28) (v1_35, (0 : Int32), M_34)).bind (u2 fun v1_39 M_40 =>
    (fn_X7_locked g s_28 M_40).bind (u2 fun r_48 M_49 =>
    bv (((31 : Int64) * v1_39) + r_48.toInt64) fun v1_50 =>
    (fn_X7_firstGroup g s_28 (0 : Int32) M_49).bind (u2 fun r_51 M_52 =>
    bv (((31 : Int64) * v1_50) + r_51.toInt64) fun v1_53 =>
    (fn_X7_firstGroup g s_28 (1 : Int32) M_52).bind (u2 fun r_54 M_55 =>
    bv (((31 : Int64) * v1_53) + r_54.toInt64) fun v1_56 =>
    (fn_X7_standing g s_28 M_55).bind (u2 fun r_57 M_58 =>
    bv (((31 : Int64) * v1_56) + r_57.toInt64) fun v1_59 =>
    (fn_X7_hangsTogether g s_28 M_58).bind (u2 fun r_60 M_61 =>
    bv (((31 : Int64) * v1_59) + r_60.toInt64) fun v1_62 =>
    some (.inl (v1_62, v3_27 + (1 : Int32), M_61))))))))))
def bd_X7_digest_59 (g : Nat) : (Int64 × Int32 × Mem) → Option ((Int64 × Int32 × Mem) ⊕ (Int64 × Mem)) :=
  u3 fun v1_20 v3_19 M_21 =>
  if (2 : Int32) ≤ v3_19 then
    (some (.inr (v1_20, M_21)))
  else
    (if v3_19 = 0 then
      (jn_X7_digest_82 g (fn_X7_allPieces M_21) v3_19 v1_20 M_21)
    else
      (jn_X7_digest_82 g (M_21 1 3) v3_19 v1_20 M_21))
def fn_X7_digest (g : Nat) (M : Mem) : Option (Int64 × Mem) :=
  bv ((12942 : Int64)) fun v1_1 =>
  (lpN g (bd_X7_digest_6 g) (v1_1, (0 : Int32), M)).bind (u2 fun v1_5 M_6 =>
    (lpN g (bd_X7_digest_33 g) (v1_5, (0 : Int32), M_6)).bind (u2 fun v1_14 M_15 =>
      (lpN g (bd_X7_digest_59 g) (v1_14, (0 : Int32), M_15)).bind (u2 fun v1_22 M_23 =>
        some (v1_22, M_23))))
theorem dX7_digest_0 : decode cX7_digest 0 = .ok (.ldc2_w 252, 3) := by decide +kernel
theorem dX7_digest_3 : decode cX7_digest 3 = .ok (.lstore_n 1, 1) := by decide +kernel
theorem dX7_digest_4 : decode cX7_digest 4 = .ok (.iconst 0, 1) := by decide +kernel
theorem dX7_digest_5 : decode cX7_digest 5 = .ok (.istore_n 3, 1) := by decide +kernel
theorem dX7_digest_6 : decode cX7_digest 6 = .ok (.iload_n 3, 1) := by decide +kernel
theorem dX7_digest_7 : decode cX7_digest 7 = .ok (.bipush 7, 2) := by decide +kernel
theorem dX7_digest_9 : decode cX7_digest 9 = .ok (.if_icmp .ge 22, 3) := by decide +kernel
theorem dX7_digest_12 : decode cX7_digest 12 = .ok (.ldc2_w 254, 3) := by decide +kernel
theorem dX7_digest_15 : decode cX7_digest 15 = .ok (.lload_n 1, 1) := by decide +kernel
theorem dX7_digest_16 : decode cX7_digest 16 = .ok (.lmul, 1) := by decide +kernel
theorem dX7_digest_17 : decode cX7_digest 17 = .ok (.aload_n 0, 1) := by decide +kernel
theorem dX7_digest_18 : decode cX7_digest 18 = .ok (.iload_n 3, 1) := by decide +kernel
theorem dX7_digest_19 : decode cX7_digest 19 = .ok (.invokevirtual 256, 3) := by decide +kernel
theorem dX7_digest_22 : decode cX7_digest 22 = .ok (.i2l, 1) := by decide +kernel
theorem dX7_digest_23 : decode cX7_digest 23 = .ok (.ladd, 1) := by decide +kernel
theorem dX7_digest_24 : decode cX7_digest 24 = .ok (.lstore_n 1, 1) := by decide +kernel
theorem dX7_digest_25 : decode cX7_digest 25 = .ok (.iinc 3 1, 3) := by decide +kernel
theorem dX7_digest_28 : decode cX7_digest 28 = .ok (.goto (-22), 3) := by decide +kernel
theorem dX7_digest_31 : decode cX7_digest 31 = .ok (.iconst 0, 1) := by decide +kernel
theorem dX7_digest_32 : decode cX7_digest 32 = .ok (.istore_n 3, 1) := by decide +kernel
theorem dX7_digest_33 : decode cX7_digest 33 = .ok (.iload_n 3, 1) := by decide +kernel
theorem dX7_digest_34 : decode cX7_digest 34 = .ok (.aload_n 0, 1) := by decide +kernel
theorem dX7_digest_35 : decode cX7_digest 35 = .ok (.getfield 10, 3) := by decide +kernel
theorem dX7_digest_38 : decode cX7_digest 38 = .ok (.getfield 91, 3) := by decide +kernel
theorem dX7_digest_41 : decode cX7_digest 41 = .ok (.if_icmp .ge 16, 3) := by decide +kernel
theorem dX7_digest_44 : decode cX7_digest 44 = .ok (.aload_n 0, 1) := by decide +kernel
theorem dX7_digest_45 : decode cX7_digest 45 = .ok (.lload_n 1, 1) := by decide +kernel
theorem dX7_digest_46 : decode cX7_digest 46 = .ok (.iload_n 3, 1) := by decide +kernel
theorem dX7_digest_47 : decode cX7_digest 47 = .ok (.invokevirtual 259, 3) := by decide +kernel
theorem dX7_digest_50 : decode cX7_digest 50 = .ok (.lstore_n 1, 1) := by decide +kernel
theorem dX7_digest_51 : decode cX7_digest 51 = .ok (.iinc 3 1, 3) := by decide +kernel
theorem dX7_digest_54 : decode cX7_digest 54 = .ok (.goto (-21), 3) := by decide +kernel
theorem dX7_digest_57 : decode cX7_digest 57 = .ok (.iconst 0, 1) := by decide +kernel
theorem dX7_digest_58 : decode cX7_digest 58 = .ok (.istore_n 3, 1) := by decide +kernel
theorem dX7_digest_59 : decode cX7_digest 59 = .ok (.iload_n 3, 1) := by decide +kernel
theorem dX7_digest_60 : decode cX7_digest 60 = .ok (.iconst 2, 1) := by decide +kernel
theorem dX7_digest_61 : decode cX7_digest 61 = .ok (.if_icmp .ge 179, 3) := by decide +kernel
theorem dX7_digest_64 : decode cX7_digest 64 = .ok (.iload_n 3, 1) := by decide +kernel
theorem dX7_digest_65 : decode cX7_digest 65 = .ok (.ifCond .ne 10, 3) := by decide +kernel
theorem dX7_digest_68 : decode cX7_digest 68 = .ok (.aload_n 0, 1) := by decide +kernel
theorem dX7_digest_69 : decode cX7_digest 69 = .ok (.invokevirtual 232, 3) := by decide +kernel
theorem dX7_digest_72 : decode cX7_digest 72 = .ok (.goto 10, 3) := by decide +kernel
theorem dX7_digest_75 : decode cX7_digest 75 = .ok (.aload_n 0, 1) := by decide +kernel
theorem dX7_digest_76 : decode cX7_digest 76 = .ok (.getfield 10, 3) := by decide +kernel
theorem dX7_digest_79 : decode cX7_digest 79 = .ok (.getfield 141, 3) := by decide +kernel
theorem dX7_digest_82 : decode cX7_digest 82 = .ok (.istore 4, 2) := by decide +kernel
theorem dX7_digest_84 : decode cX7_digest 84 = .ok (.ldc2_w 254, 3) := by decide +kernel
theorem dX7_digest_87 : decode cX7_digest 87 = .ok (.lload_n 1, 1) := by decide +kernel
theorem dX7_digest_88 : decode cX7_digest 88 = .ok (.lmul, 1) := by decide +kernel
theorem dX7_digest_89 : decode cX7_digest 89 = .ok (.aload_n 0, 1) := by decide +kernel
theorem dX7_digest_90 : decode cX7_digest 90 = .ok (.iload 4, 2) := by decide +kernel
theorem dX7_digest_92 : decode cX7_digest 92 = .ok (.invokevirtual 263, 3) := by decide +kernel
theorem dX7_digest_95 : decode cX7_digest 95 = .ok (.i2l, 1) := by decide +kernel
theorem dX7_digest_96 : decode cX7_digest 96 = .ok (.ladd, 1) := by decide +kernel
theorem dX7_digest_97 : decode cX7_digest 97 = .ok (.lstore_n 1, 1) := by decide +kernel
theorem dX7_digest_98 : decode cX7_digest 98 = .ok (.ldc2_w 254, 3) := by decide +kernel
theorem dX7_digest_101 : decode cX7_digest 101 = .ok (.lload_n 1, 1) := by decide +kernel
theorem dX7_digest_102 : decode cX7_digest 102 = .ok (.lmul, 1) := by decide +kernel
theorem dX7_digest_103 : decode cX7_digest 103 = .ok (.aload_n 0, 1) := by decide +kernel
theorem dX7_digest_104 : decode cX7_digest 104 = .ok (.iload 4, 2) := by decide +kernel
theorem dX7_digest_106 : decode cX7_digest 106 = .ok (.invokevirtual 266, 3) := by decide +kernel
theorem dX7_digest_109 : decode cX7_digest 109 = .ok (.i2l, 1) := by decide +kernel
theorem dX7_digest_110 : decode cX7_digest 110 = .ok (.ladd, 1) := by decide +kernel
theorem dX7_digest_111 : decode cX7_digest 111 = .ok (.lstore_n 1, 1) := by decide +kernel
theorem dX7_digest_112 : decode cX7_digest 112 = .ok (.iconst 0, 1) := by decide +kernel
theorem dX7_digest_113 : decode cX7_digest 113 = .ok (.istore 5, 2) := by decide +kernel
theorem dX7_digest_115 : decode cX7_digest 115 = .ok (.iload 5, 2) := by decide +kernel
theorem dX7_digest_117 : decode cX7_digest 117 = .ok (.bipush 8, 2) := by decide +kernel
theorem dX7_digest_119 : decode cX7_digest 119 = .ok (.if_icmp .ge 43, 3) := by decide +kernel
theorem dX7_digest_122 : decode cX7_digest 122 = .ok (.ldc2_w 254, 3) := by decide +kernel
theorem dX7_digest_125 : decode cX7_digest 125 = .ok (.lload_n 1, 1) := by decide +kernel
theorem dX7_digest_126 : decode cX7_digest 126 = .ok (.lmul, 1) := by decide +kernel
theorem dX7_digest_127 : decode cX7_digest 127 = .ok (.aload_n 0, 1) := by decide +kernel
theorem dX7_digest_128 : decode cX7_digest 128 = .ok (.iload 4, 2) := by decide +kernel
theorem dX7_digest_130 : decode cX7_digest 130 = .ok (.iload 5, 2) := by decide +kernel
theorem dX7_digest_132 : decode cX7_digest 132 = .ok (.iconst 0, 1) := by decide +kernel
theorem dX7_digest_133 : decode cX7_digest 133 = .ok (.invokevirtual 269, 3) := by decide +kernel
theorem dX7_digest_136 : decode cX7_digest 136 = .ok (.i2l, 1) := by decide +kernel
theorem dX7_digest_137 : decode cX7_digest 137 = .ok (.ladd, 1) := by decide +kernel
theorem dX7_digest_138 : decode cX7_digest 138 = .ok (.lstore_n 1, 1) := by decide +kernel
theorem dX7_digest_139 : decode cX7_digest 139 = .ok (.ldc2_w 254, 3) := by decide +kernel
theorem dX7_digest_142 : decode cX7_digest 142 = .ok (.lload_n 1, 1) := by decide +kernel
theorem dX7_digest_143 : decode cX7_digest 143 = .ok (.lmul, 1) := by decide +kernel
theorem dX7_digest_144 : decode cX7_digest 144 = .ok (.aload_n 0, 1) := by decide +kernel
theorem dX7_digest_145 : decode cX7_digest 145 = .ok (.iload 4, 2) := by decide +kernel
theorem dX7_digest_147 : decode cX7_digest 147 = .ok (.iload 5, 2) := by decide +kernel
theorem dX7_digest_149 : decode cX7_digest 149 = .ok (.iconst 1, 1) := by decide +kernel
theorem dX7_digest_150 : decode cX7_digest 150 = .ok (.invokevirtual 269, 3) := by decide +kernel
theorem dX7_digest_153 : decode cX7_digest 153 = .ok (.i2l, 1) := by decide +kernel
theorem dX7_digest_154 : decode cX7_digest 154 = .ok (.ladd, 1) := by decide +kernel
theorem dX7_digest_155 : decode cX7_digest 155 = .ok (.lstore_n 1, 1) := by decide +kernel
theorem dX7_digest_156 : decode cX7_digest 156 = .ok (.iinc 5 1, 3) := by decide +kernel
theorem dX7_digest_159 : decode cX7_digest 159 = .ok (.goto (-44), 3) := by decide +kernel
theorem dX7_digest_162 : decode cX7_digest 162 = .ok (.ldc2_w 254, 3) := by decide +kernel
theorem dX7_digest_165 : decode cX7_digest 165 = .ok (.lload_n 1, 1) := by decide +kernel
theorem dX7_digest_166 : decode cX7_digest 166 = .ok (.lmul, 1) := by decide +kernel
theorem dX7_digest_167 : decode cX7_digest 167 = .ok (.aload_n 0, 1) := by decide +kernel
theorem dX7_digest_168 : decode cX7_digest 168 = .ok (.iload 4, 2) := by decide +kernel
theorem dX7_digest_170 : decode cX7_digest 170 = .ok (.invokevirtual 272, 3) := by decide +kernel
theorem dX7_digest_173 : decode cX7_digest 173 = .ok (.i2l, 1) := by decide +kernel
theorem dX7_digest_174 : decode cX7_digest 174 = .ok (.ladd, 1) := by decide +kernel
theorem dX7_digest_175 : decode cX7_digest 175 = .ok (.lstore_n 1, 1) := by decide +kernel
theorem dX7_digest_176 : decode cX7_digest 176 = .ok (.ldc2_w 254, 3) := by decide +kernel
theorem dX7_digest_179 : decode cX7_digest 179 = .ok (.lload_n 1, 1) := by decide +kernel
theorem dX7_digest_180 : decode cX7_digest 180 = .ok (.lmul, 1) := by decide +kernel
theorem dX7_digest_181 : decode cX7_digest 181 = .ok (.aload_n 0, 1) := by decide +kernel
theorem dX7_digest_182 : decode cX7_digest 182 = .ok (.iload 4, 2) := by decide +kernel
theorem dX7_digest_184 : decode cX7_digest 184 = .ok (.iconst 0, 1) := by decide +kernel
theorem dX7_digest_185 : decode cX7_digest 185 = .ok (.invokevirtual 275, 3) := by decide +kernel
theorem dX7_digest_188 : decode cX7_digest 188 = .ok (.i2l, 1) := by decide +kernel
theorem dX7_digest_189 : decode cX7_digest 189 = .ok (.ladd, 1) := by decide +kernel
theorem dX7_digest_190 : decode cX7_digest 190 = .ok (.lstore_n 1, 1) := by decide +kernel
theorem dX7_digest_191 : decode cX7_digest 191 = .ok (.ldc2_w 254, 3) := by decide +kernel
theorem dX7_digest_194 : decode cX7_digest 194 = .ok (.lload_n 1, 1) := by decide +kernel
theorem dX7_digest_195 : decode cX7_digest 195 = .ok (.lmul, 1) := by decide +kernel
theorem dX7_digest_196 : decode cX7_digest 196 = .ok (.aload_n 0, 1) := by decide +kernel
theorem dX7_digest_197 : decode cX7_digest 197 = .ok (.iload 4, 2) := by decide +kernel
theorem dX7_digest_199 : decode cX7_digest 199 = .ok (.iconst 1, 1) := by decide +kernel
theorem dX7_digest_200 : decode cX7_digest 200 = .ok (.invokevirtual 275, 3) := by decide +kernel
theorem dX7_digest_203 : decode cX7_digest 203 = .ok (.i2l, 1) := by decide +kernel
theorem dX7_digest_204 : decode cX7_digest 204 = .ok (.ladd, 1) := by decide +kernel
theorem dX7_digest_205 : decode cX7_digest 205 = .ok (.lstore_n 1, 1) := by decide +kernel
theorem dX7_digest_206 : decode cX7_digest 206 = .ok (.ldc2_w 254, 3) := by decide +kernel
theorem dX7_digest_209 : decode cX7_digest 209 = .ok (.lload_n 1, 1) := by decide +kernel
theorem dX7_digest_210 : decode cX7_digest 210 = .ok (.lmul, 1) := by decide +kernel
theorem dX7_digest_211 : decode cX7_digest 211 = .ok (.aload_n 0, 1) := by decide +kernel
theorem dX7_digest_212 : decode cX7_digest 212 = .ok (.iload 4, 2) := by decide +kernel
theorem dX7_digest_214 : decode cX7_digest 214 = .ok (.invokevirtual 279, 3) := by decide +kernel
theorem dX7_digest_217 : decode cX7_digest 217 = .ok (.i2l, 1) := by decide +kernel
theorem dX7_digest_218 : decode cX7_digest 218 = .ok (.ladd, 1) := by decide +kernel
theorem dX7_digest_219 : decode cX7_digest 219 = .ok (.lstore_n 1, 1) := by decide +kernel
theorem dX7_digest_220 : decode cX7_digest 220 = .ok (.ldc2_w 254, 3) := by decide +kernel
theorem dX7_digest_223 : decode cX7_digest 223 = .ok (.lload_n 1, 1) := by decide +kernel
theorem dX7_digest_224 : decode cX7_digest 224 = .ok (.lmul, 1) := by decide +kernel
theorem dX7_digest_225 : decode cX7_digest 225 = .ok (.aload_n 0, 1) := by decide +kernel
theorem dX7_digest_226 : decode cX7_digest 226 = .ok (.iload 4, 2) := by decide +kernel
theorem dX7_digest_228 : decode cX7_digest 228 = .ok (.invokevirtual 282, 3) := by decide +kernel
theorem dX7_digest_231 : decode cX7_digest 231 = .ok (.i2l, 1) := by decide +kernel
theorem dX7_digest_232 : decode cX7_digest 232 = .ok (.ladd, 1) := by decide +kernel
theorem dX7_digest_233 : decode cX7_digest 233 = .ok (.lstore_n 1, 1) := by decide +kernel
theorem dX7_digest_234 : decode cX7_digest 234 = .ok (.iinc 3 1, 3) := by decide +kernel
theorem dX7_digest_237 : decode cX7_digest 237 = .ok (.goto (-178), 3) := by decide +kernel
theorem dX7_digest_240 : decode cX7_digest 240 = .ok (.lload_n 1, 1) := by decide +kernel
theorem dX7_digest_241 : decode cX7_digest 241 = .ok (.lreturn, 1) := by decide +kernel
set_option maxHeartbeats 4000000 in
set_option maxRecDepth 100000 in
theorem c_X7_digest {l : Launch} {X : En} (g : Nat) (M : Mem) (r : Int64) (M9 : Mem) (hf : fn_X7_digest g M = some (r, M9)) : Cn l X yX7_digest cX7_digest 6 (some .long) 6 144 [.ref (X.ad 0)] M (Ql X r M9) := by
  refine Met.ofW (cc := cX7_digest) (maxL := 6) (ret := (some .long)) (by decide) rfl ?_
  intro p e s m args below meth c s₁ B hml hv
  obtain ⟨rfl, hP, hk⟩ := hv
  have hx := B.exec
  have hb := B.bytes
  have hr := B.returns
  have hlocks := B.notSynchronized
  have hts : ∀ w ∈ lw_u, w.before ([.ref (X.ad 0)] : List Value).toArray s = true := fun w hw => atoms_spec (ws := Cond.code yX7_digest cX7_digest 6 (some .long) :: lw_u) B.pre w (List.mem_cons_of_mem _ hw)
  have hown : s.vm.findClass RX7 = some m.cls := findClass_of_methodNamed B.named
  have hZ : Fx p c m s ([.ref (X.ad 0)] : List Value).toArray X cX7_digest 6 RX7 := ⟨hx, hb, hml, hts, hown, hk⟩
  have hS : va_S X.A s.heap s.heap [] := va_S.rf
  have hl := lv_entry ([.ref (X.ad 0)]) (n := 6) (Nat.le_of_ble_eq_true rfl)
  rw [lg_entry_eq]
  generalize (lg_sl ([.ref (X.ad 0)]) ++ List.replicate (6 - (lg_sl ([.ref (X.ad 0)])).length) Slot.unset).toArray = ls at hl ⊢
  have hl : lv_has ls 6 [(0, .ref (X.ad 0))] := hl
  show WW p l e 6 144 s m [.ref (X.ad 0)] below meth c X (Ql X r M9) s.heap [] 0 ls []
  have hP : wd X M s.heap := hP
  unfold fn_X7_digest at hf
  have key : ∀ (H : Heap) (locs : List Loc), wd X M H → va_S X.A s.heap H locs → WW p l e 6 144 s m [.ref (X.ad 0)] below meth c X (Ql X r M9) H locs 0 ls [] := by
    intro H locs hP hS
    refine lv_ldc2 hx hb hown (hts _ wd_3_149) dX7_digest_0 ?_
    refine lv_topl (fun v1_1 e_v1_1 => ?_)
    have hf := b_v hf e_v1_1
    refine lv_lstore_n (lv' := [(1, .long v1_1), (0, .ref (X.ad 0))]) hx hb dX7_digest_3 rfl hl (by decide) rfl (fun ls hl => ?_)
    refine lv_iconst (v := (0 : Int32)) hx hb dX7_digest_4 (by decide) ?_
    refine lv_istore_n (lv' := [(3, .int (0 : Int32)), (1, .long v1_1), (0, .ref (X.ad 0))]) hx hb dX7_digest_5 rfl hl (by decide) rfl (fun ls hl => ?_)
    obtain ⟨o6, ho6, hf⟩ := b_d hf
    refine lp_rule (b := bd_X7_digest_6 g) (P := fun w : Int64 × Int32 × Mem => ∀ (H : Heap) (locs : List Loc) (ls : Array Slot), wd X w.2.2 H → va_S X.A s.heap H locs → lv_has ls 6 [(3, .int w.2.1), (1, .long w.1), (0, .ref (X.ad 0))] → WW p l e 6 144 s m [.ref (X.ad 0)] below meth c X (Ql X r M9) H locs 6 ls []) (K := fun o => ∀ (v1_5 : Int64) (M_6 : Mem), o = (v1_5, M_6) → ∀ (H : Heap) (locs : List Loc) (ls : Array Slot), wd X M_6 H → va_S X.A s.heap H locs → lv_has ls 6 [(1, .long v1_5), (0, .ref (X.ad 0))] → WW p l e 6 144 s m [.ref (X.ad 0)] below meth c X (Ql X r M9) H locs 31 ls []) ?_ g (v1_1, (0 : Int32), M) o6 ho6 ?_ H locs ls hP hS (lv_sub hl [0, 1, 2] rfl)
    · rintro ⟨v1_3, v3_2, M_4⟩ o hf hkc6 hke6 H locs ls hP hS hl
      have hf := u3_e hf
      refine lv_iload_n hx hb dX7_digest_6 rfl (lv_at hl 0 rfl) ?_
      refine lv_bipush (v := (7 : Int32)) hx hb dX7_digest_7 (by decide) ?_
      refine lv_icmp_ge (tgt := 31) hx hb dX7_digest_9 (by decide) (fun c_7 => ?_) (fun c_7 => ?_)
      · have hf := i_t c_7 hf
        exact hke6 _ (Option.some.inj hf).symm _ _ rfl H locs ls hP hS (lv_sub hl [1, 2] rfl)
      · have hf := i_f c_7 hf
        refine lv_ldc2 hx hb hown (hts _ wd_3_150) dX7_digest_12 ?_
        refine lv_lload_n hx hb dX7_digest_15 rfl (lv_at hl 1 rfl) ?_
        refine lv_lmul hx hb dX7_digest_16 ?_
        refine lv_aload_n hx hb dX7_digest_17 rfl (lv_at hl 2 rfl) ?_
        refine lv_iload_n hx hb dX7_digest_18 rfl (lv_at hl 0 rfl) ?_
        obtain ⟨⟨r_8, M_9⟩, h_r_8, hf⟩ := b_d hf
        have hf := u2_e hf
        refine k_X7_count hZ hP hS hl.1 wd_3_151 ⟨Nat.le_of_ble_eq_true rfl, Nat.le_of_ble_eq_true rfl⟩ (Nat.le_of_ble_eq_true rfl) dX7_digest_19 ⟨Nat.zero_le _, Nat.zero_le _⟩ h_r_8 (fun H locs hP hS => ?_)
        refine lv_i2l hx hb dX7_digest_22 rfl ?_
        refine lv_ladd hx hb dX7_digest_23 ?_
        refine lv_topl (fun v1_10 e_v1_10 => ?_)
        have hf := b_v hf e_v1_10
        refine lv_lstore_n (lv' := [(1, .long v1_10), (3, .int v3_2), (0, .ref (X.ad 0))]) hx hb dX7_digest_24 rfl hl (by decide) rfl (fun ls hl => ?_)
        refine lv_iinc (v := v3_2 + (1 : Int32)) (lv' := [(3, .int (v3_2 + (1 : Int32))), (1, .long v1_10), (0, .ref (X.ad 0))]) hx hb dX7_digest_25 hl (k := 1) rfl rfl (by decide) rfl (fun ls hl => ?_)
        refine lv_goto (tgt := 6) hx hb dX7_digest_28 (by decide) ?_
        exact hkc6 _ (Option.some.inj hf).symm H locs ls hP hS (lv_sub hl [0, 1, 2] rfl)
    · intro v1_5 M_6 e H locs ls hP hS hl
      subst o6
      have hf := u2_e hf
      refine lv_iconst (v := (0 : Int32)) hx hb dX7_digest_31 (by decide) ?_
      refine lv_istore_n (lv' := [(3, .int (0 : Int32)), (1, .long v1_5), (0, .ref (X.ad 0))]) hx hb dX7_digest_32 rfl hl (by decide) rfl (fun ls hl => ?_)
      obtain ⟨o33, ho33, hf⟩ := b_d hf
      refine lp_rule (b := bd_X7_digest_33 g) (P := fun w : Int64 × Int32 × Mem => ∀ (H : Heap) (locs : List Loc) (ls : Array Slot), wd X w.2.2 H → va_S X.A s.heap H locs → lv_has ls 6 [(3, .int w.2.1), (1, .long w.1), (0, .ref (X.ad 0))] → WW p l e 6 144 s m [.ref (X.ad 0)] below meth c X (Ql X r M9) H locs 33 ls []) (K := fun o => ∀ (v1_14 : Int64) (M_15 : Mem), o = (v1_14, M_15) → ∀ (H : Heap) (locs : List Loc) (ls : Array Slot), wd X M_15 H → va_S X.A s.heap H locs → lv_has ls 6 [(1, .long v1_14), (0, .ref (X.ad 0))] → WW p l e 6 144 s m [.ref (X.ad 0)] below meth c X (Ql X r M9) H locs 57 ls []) ?_ g (v1_5, (0 : Int32), M_6) o33 ho33 ?_ H locs ls hP hS (lv_sub hl [0, 1, 2] rfl)
      · rintro ⟨v1_12, v3_11, M_13⟩ o hf hkc33 hke33 H locs ls hP hS hl
        have hf := u3_e hf
        refine lv_iload_n hx hb dX7_digest_33 rfl (lv_at hl 0 rfl) ?_
        refine lv_aload_n hx hb dX7_digest_34 rfl (lv_at hl 2 rfl) ?_
        refine gX7_0 hx hb hts hown hk hP wd_1_213 dX7_digest_35 ?_
        refine gX1_2 hx hb hts hown hk hP isF_1 wd_1_40 dX7_digest_38 ?_
        refine lv_icmp_ge (tgt := 57) hx hb dX7_digest_41 (by decide) (fun c_16 => ?_) (fun c_16 => ?_)
        · have hf := i_t c_16 hf
          exact hke33 _ (Option.some.inj hf).symm _ _ rfl H locs ls hP hS (lv_sub hl [1, 2] rfl)
        · have hf := i_f c_16 hf
          refine lv_aload_n hx hb dX7_digest_44 rfl (lv_at hl 2 rfl) ?_
          refine lv_lload_n hx hb dX7_digest_45 rfl (lv_at hl 1 rfl) ?_
          refine lv_iload_n hx hb dX7_digest_46 rfl (lv_at hl 0 rfl) ?_
          obtain ⟨⟨r_17, M_18⟩, h_r_17, hf⟩ := b_d hf
          have hf := u2_e hf
          refine k_X7_mixPiece hZ hP hS hl.1 wd_3_152 ⟨Nat.le_of_ble_eq_true rfl, Nat.le_of_ble_eq_true rfl⟩ (Nat.le_of_ble_eq_true rfl) dX7_digest_47 ⟨Nat.zero_le _, Nat.zero_le _⟩ h_r_17 (fun H locs hP hS => ?_)
          refine lv_lstore_n (lv' := [(1, .long r_17), (3, .int v3_11), (0, .ref (X.ad 0))]) hx hb dX7_digest_50 rfl hl (by decide) rfl (fun ls hl => ?_)
          refine lv_iinc (v := v3_11 + (1 : Int32)) (lv' := [(3, .int (v3_11 + (1 : Int32))), (1, .long r_17), (0, .ref (X.ad 0))]) hx hb dX7_digest_51 hl (k := 1) rfl rfl (by decide) rfl (fun ls hl => ?_)
          refine lv_goto (tgt := 33) hx hb dX7_digest_54 (by decide) ?_
          exact hkc33 _ (Option.some.inj hf).symm H locs ls hP hS (lv_sub hl [0, 1, 2] rfl)
      · intro v1_14 M_15 e H locs ls hP hS hl
        subst o33
        have hf := u2_e hf
        refine lv_iconst (v := (0 : Int32)) hx hb dX7_digest_57 (by decide) ?_
        refine lv_istore_n (lv' := [(3, .int (0 : Int32)), (1, .long v1_14), (0, .ref (X.ad 0))]) hx hb dX7_digest_58 rfl hl (by decide) rfl (fun ls hl => ?_)
        obtain ⟨o59, ho59, hf⟩ := b_d hf
        refine lp_rule (b := bd_X7_digest_59 g) (P := fun w : Int64 × Int32 × Mem => ∀ (H : Heap) (locs : List Loc) (ls : Array Slot), wd X w.2.2 H → va_S X.A s.heap H locs → lv_has ls 6 [(3, .int w.2.1), (1, .long w.1), (0, .ref (X.ad 0))] → WW p l e 6 144 s m [.ref (X.ad 0)] below meth c X (Ql X r M9) H locs 59 ls []) (K := fun o => ∀ (v1_22 : Int64) (M_23 : Mem), o = (v1_22, M_23) → ∀ (H : Heap) (locs : List Loc) (ls : Array Slot), wd X M_23 H → va_S X.A s.heap H locs → lv_has ls 6 [(1, .long v1_22)] → WW p l e 6 144 s m [.ref (X.ad 0)] below meth c X (Ql X r M9) H locs 240 ls []) ?_ g (v1_14, (0 : Int32), M_15) o59 ho59 ?_ H locs ls hP hS (lv_sub hl [0, 1, 2] rfl)
        · rintro ⟨v1_20, v3_19, M_21⟩ o hf hkc59 hke59 H locs ls hP hS hl
          have hf := u3_e hf
          have jn82 : ∀ (v1_26 : Int64) (v3_27 : Int32) (s_28 : Int32) (M_29 : Mem), jn_X7_digest_82 g s_28 v3_27 v1_26 M_29 = some o → ∀ (H : Heap) (locs : List Loc) (ls : Array Slot), wd X M_29 H → va_S X.A s.heap H locs → lv_has ls 6 [(0, .ref (X.ad 0)), (1, .long v1_26), (3, .int v3_27)] → WW p l e 6 144 s m [.ref (X.ad 0)] below meth c X (Ql X r M9) H locs 82 ls [.int s_28] := by
            intro v1_26 v3_27 s_28 M_29 hf H locs ls hP hS hl
            unfold jn_X7_digest_82 at hf
            refine lv_istore (lv' := [(4, .int s_28), (0, .ref (X.ad 0)), (1, .long v1_26), (3, .int v3_27)]) hx hb dX7_digest_82 hl (by decide) rfl (fun ls hl => ?_)
            refine lv_ldc2 hx hb hown (hts _ wd_3_150) dX7_digest_84 ?_
            refine lv_lload_n hx hb dX7_digest_87 rfl (lv_at hl 2 rfl) ?_
            refine lv_lmul hx hb dX7_digest_88 ?_
            refine lv_aload_n hx hb dX7_digest_89 rfl (lv_at hl 1 rfl) ?_
            refine lv_iload hx hb dX7_digest_90 (lv_at hl 0 rfl) ?_
            obtain ⟨⟨r_30, M_31⟩, h_r_30, hf⟩ := b_d hf
            have hf := u2_e hf
            refine k_X7_orders hZ hP hS hl.1 wd_3_158 ⟨Nat.le_of_ble_eq_true rfl, Nat.le_of_ble_eq_true rfl⟩ (Nat.le_of_ble_eq_true rfl) dX7_digest_92 ⟨Nat.zero_le _, Nat.zero_le _⟩ h_r_30 (fun H locs hP hS => ?_)
            refine lv_i2l hx hb dX7_digest_95 rfl ?_
            refine lv_ladd hx hb dX7_digest_96 ?_
            refine lv_topl (fun v1_32 e_v1_32 => ?_)
            have hf := b_v hf e_v1_32
            refine lv_lstore_n (lv' := [(1, .long v1_32), (4, .int s_28), (0, .ref (X.ad 0)), (3, .int v3_27)]) hx hb dX7_digest_97 rfl hl (by decide) rfl (fun ls hl => ?_)
            refine lv_ldc2 hx hb hown (hts _ wd_3_150) dX7_digest_98 ?_
            refine lv_lload_n hx hb dX7_digest_101 rfl (lv_at hl 0 rfl) ?_
            refine lv_lmul hx hb dX7_digest_102 ?_
            refine lv_aload_n hx hb dX7_digest_103 rfl (lv_at hl 2 rfl) ?_
            refine lv_iload hx hb dX7_digest_104 (lv_at hl 1 rfl) ?_
            obtain ⟨⟨r_33, M_34⟩, h_r_33, hf⟩ := b_d hf
            have hf := u2_e hf
            refine k_X7_fewestProps hZ hP hS hl.1 wd_3_159 ⟨Nat.le_of_ble_eq_true rfl, Nat.le_of_ble_eq_true rfl⟩ (Nat.le_of_ble_eq_true rfl) dX7_digest_106 ⟨Nat.zero_le _, Nat.zero_le _⟩ h_r_33 (fun H locs hP hS => ?_)
            refine lv_i2l hx hb dX7_digest_109 rfl ?_
            refine lv_ladd hx hb dX7_digest_110 ?_
            refine lv_topl (fun v1_35 e_v1_35 => ?_)
            have hf := b_v hf e_v1_35
            refine lv_lstore_n (lv' := [(1, .long v1_35), (4, .int s_28), (0, .ref (X.ad 0)), (3, .int v3_27)]) hx hb dX7_digest_111 rfl hl (by decide) rfl (fun ls hl => ?_)
            refine lv_iconst (v := (0 : Int32)) hx hb dX7_digest_112 (by decide) ?_
            refine lv_istore (lv' := [(5, .int (0 : Int32)), (1, .long v1_35), (4, .int s_28), (0, .ref (X.ad 0)), (3, .int v3_27)]) hx hb dX7_digest_113 hl (by decide) rfl (fun ls hl => ?_)
            obtain ⟨o115, ho115, hf⟩ := b_d hf
            refine lp_rule (b := bd_X7_digest_115 g s_28) (P := fun w : Int64 × Int32 × Mem => ∀ (H : Heap) (locs : List Loc) (ls : Array Slot), wd X w.2.2 H → va_S X.A s.heap H locs → lv_has ls 6 [(5, .int w.2.1), (1, .long w.1), (4, .int s_28), (0, .ref (X.ad 0)), (3, .int v3_27)] → WW p l e 6 144 s m [.ref (X.ad 0)] below meth c X (Ql X r M9) H locs 115 ls []) (K := fun o => ∀ (v1_39 : Int64) (M_40 : Mem), o = (v1_39, M_40) → ∀ (H : Heap) (locs : List Loc) (ls : Array Slot), wd X M_40 H → va_S X.A s.heap H locs → lv_has ls 6 [(1, .long v1_39), (4, .int s_28), (0, .ref (X.ad 0)), (3, .int v3_27)] → WW p l e 6 144 s m [.ref (X.ad 0)] below meth c X (Ql X r M9) H locs 162 ls []) ?_ g (v1_35, (0 : Int32), M_34) o115 ho115 ?_ H locs ls hP hS (lv_sub hl [0, 1, 2, 3, 4] rfl)
            · rintro ⟨v1_37, v5_36, M_38⟩ o hf hkc115 hke115 H locs ls hP hS hl
              have hf := u3_e hf
              refine lv_iload hx hb dX7_digest_115 (lv_at hl 0 rfl) ?_
              refine lv_bipush (v := (8 : Int32)) hx hb dX7_digest_117 (by decide) ?_
              refine lv_icmp_ge (tgt := 162) hx hb dX7_digest_119 (by decide) (fun c_41 => ?_) (fun c_41 => ?_)
              · have hf := i_t c_41 hf
                exact hke115 _ (Option.some.inj hf).symm _ _ rfl H locs ls hP hS (lv_sub hl [1, 2, 3, 4] rfl)
              · have hf := i_f c_41 hf
                refine lv_ldc2 hx hb hown (hts _ wd_3_150) dX7_digest_122 ?_
                refine lv_lload_n hx hb dX7_digest_125 rfl (lv_at hl 1 rfl) ?_
                refine lv_lmul hx hb dX7_digest_126 ?_
                refine lv_aload_n hx hb dX7_digest_127 rfl (lv_at hl 3 rfl) ?_
                refine lv_iload hx hb dX7_digest_128 (lv_at hl 2 rfl) ?_
                refine lv_iload hx hb dX7_digest_130 (lv_at hl 0 rfl) ?_
                refine lv_iconst (v := (0 : Int32)) hx hb dX7_digest_132 (by decide) ?_
                obtain ⟨⟨r_42, M_43⟩, h_r_42, hf⟩ := b_d hf
                have hf := u2_e hf
                refine k_X7_planned hZ hP hS hl.1 wd_3_160 ⟨Nat.le_of_ble_eq_true rfl, Nat.le_of_ble_eq_true rfl⟩ (Nat.le_of_ble_eq_true rfl) dX7_digest_133 ⟨Nat.zero_le _, Nat.zero_le _⟩ h_r_42 (fun H locs hP hS => ?_)
                refine lv_i2l hx hb dX7_digest_136 rfl ?_
                refine lv_ladd hx hb dX7_digest_137 ?_
                refine lv_topl (fun v1_44 e_v1_44 => ?_)
                have hf := b_v hf e_v1_44
                refine lv_lstore_n (lv' := [(1, .long v1_44), (5, .int v5_36), (4, .int s_28), (0, .ref (X.ad 0)), (3, .int v3_27)]) hx hb dX7_digest_138 rfl hl (by decide) rfl (fun ls hl => ?_)
                refine lv_ldc2 hx hb hown (hts _ wd_3_150) dX7_digest_139 ?_
                refine lv_lload_n hx hb dX7_digest_142 rfl (lv_at hl 0 rfl) ?_
                refine lv_lmul hx hb dX7_digest_143 ?_
                refine lv_aload_n hx hb dX7_digest_144 rfl (lv_at hl 3 rfl) ?_
                refine lv_iload hx hb dX7_digest_145 (lv_at hl 2 rfl) ?_
                refine lv_iload hx hb dX7_digest_147 (lv_at hl 1 rfl) ?_
                refine lv_iconst (v := (1 : Int32)) hx hb dX7_digest_149 (by decide) ?_
                obtain ⟨⟨r_45, M_46⟩, h_r_45, hf⟩ := b_d hf
                have hf := u2_e hf
                refine k_X7_planned hZ hP hS hl.1 wd_3_160 ⟨Nat.le_of_ble_eq_true rfl, Nat.le_of_ble_eq_true rfl⟩ (Nat.le_of_ble_eq_true rfl) dX7_digest_150 ⟨Nat.zero_le _, Nat.zero_le _⟩ h_r_45 (fun H locs hP hS => ?_)
                refine lv_i2l hx hb dX7_digest_153 rfl ?_
                refine lv_ladd hx hb dX7_digest_154 ?_
                refine lv_topl (fun v1_47 e_v1_47 => ?_)
                have hf := b_v hf e_v1_47
                refine lv_lstore_n (lv' := [(1, .long v1_47), (5, .int v5_36), (4, .int s_28), (0, .ref (X.ad 0)), (3, .int v3_27)]) hx hb dX7_digest_155 rfl hl (by decide) rfl (fun ls hl => ?_)
                refine lv_iinc (v := v5_36 + (1 : Int32)) (lv' := [(5, .int (v5_36 + (1 : Int32))), (1, .long v1_47), (4, .int s_28), (0, .ref (X.ad 0)), (3, .int v3_27)]) hx hb dX7_digest_156 hl (k := 1) rfl rfl (by decide) rfl (fun ls hl => ?_)
                refine lv_goto (tgt := 115) hx hb dX7_digest_159 (by decide) ?_
                exact hkc115 _ (Option.some.inj hf).symm H locs ls hP hS (lv_sub hl [0, 1, 2, 3, 4] rfl)
            · intro v1_39 M_40 e H locs ls hP hS hl
              subst o115
              have hf := u2_e hf
              refine lv_ldc2 hx hb hown (hts _ wd_3_150) dX7_digest_162 ?_
              refine lv_lload_n hx hb dX7_digest_165 rfl (lv_at hl 0 rfl) ?_
              refine lv_lmul hx hb dX7_digest_166 ?_
              refine lv_aload_n hx hb dX7_digest_167 rfl (lv_at hl 2 rfl) ?_
              refine lv_iload hx hb dX7_digest_168 (lv_at hl 1 rfl) ?_
              obtain ⟨⟨r_48, M_49⟩, h_r_48, hf⟩ := b_d hf
              have hf := u2_e hf
              refine k_X7_locked hZ hP hS hl.1 wd_3_161 ⟨Nat.le_of_ble_eq_true rfl, Nat.le_of_ble_eq_true rfl⟩ (Nat.le_of_ble_eq_true rfl) dX7_digest_170 ⟨Nat.zero_le _, Nat.zero_le _⟩ h_r_48 (fun H locs hP hS => ?_)
              refine lv_i2l hx hb dX7_digest_173 rfl ?_
              refine lv_ladd hx hb dX7_digest_174 ?_
              refine lv_topl (fun v1_50 e_v1_50 => ?_)
              have hf := b_v hf e_v1_50
              refine lv_lstore_n (lv' := [(1, .long v1_50), (4, .int s_28), (0, .ref (X.ad 0)), (3, .int v3_27)]) hx hb dX7_digest_175 rfl hl (by decide) rfl (fun ls hl => ?_)
              refine lv_ldc2 hx hb hown (hts _ wd_3_150) dX7_digest_176 ?_
              refine lv_lload_n hx hb dX7_digest_179 rfl (lv_at hl 0 rfl) ?_
              refine lv_lmul hx hb dX7_digest_180 ?_
              refine lv_aload_n hx hb dX7_digest_181 rfl (lv_at hl 2 rfl) ?_
              refine lv_iload hx hb dX7_digest_182 (lv_at hl 1 rfl) ?_
              refine lv_iconst (v := (0 : Int32)) hx hb dX7_digest_184 (by decide) ?_
              obtain ⟨⟨r_51, M_52⟩, h_r_51, hf⟩ := b_d hf
              have hf := u2_e hf
              refine k_X7_firstGroup hZ hP hS hl.1 wd_3_162 ⟨Nat.le_of_ble_eq_true rfl, Nat.le_of_ble_eq_true rfl⟩ (Nat.le_of_ble_eq_true rfl) dX7_digest_185 ⟨Nat.zero_le _, Nat.zero_le _⟩ h_r_51 (fun H locs hP hS => ?_)
              refine lv_i2l hx hb dX7_digest_188 rfl ?_
              refine lv_ladd hx hb dX7_digest_189 ?_
              refine lv_topl (fun v1_53 e_v1_53 => ?_)
              have hf := b_v hf e_v1_53
              refine lv_lstore_n (lv' := [(1, .long v1_53), (4, .int s_28), (0, .ref (X.ad 0)), (3, .int v3_27)]) hx hb dX7_digest_190 rfl hl (by decide) rfl (fun ls hl => ?_)
              refine lv_ldc2 hx hb hown (hts _ wd_3_150) dX7_digest_191 ?_
              refine lv_lload_n hx hb dX7_digest_194 rfl (lv_at hl 0 rfl) ?_
              refine lv_lmul hx hb dX7_digest_195 ?_
              refine lv_aload_n hx hb dX7_digest_196 rfl (lv_at hl 2 rfl) ?_
              refine lv_iload hx hb dX7_digest_197 (lv_at hl 1 rfl) ?_
              refine lv_iconst (v := (1 : Int32)) hx hb dX7_digest_199 (by decide) ?_
              obtain ⟨⟨r_54, M_55⟩, h_r_54, hf⟩ := b_d hf
              have hf := u2_e hf
              refine k_X7_firstGroup hZ hP hS hl.1 wd_3_162 ⟨Nat.le_of_ble_eq_true rfl, Nat.le_of_ble_eq_true rfl⟩ (Nat.le_of_ble_eq_true rfl) dX7_digest_200 ⟨Nat.zero_le _, Nat.zero_le _⟩ h_r_54 (fun H locs hP hS => ?_)
              refine lv_i2l hx hb dX7_digest_203 rfl ?_
              refine lv_ladd hx hb dX7_digest_204 ?_
              refine lv_topl (fun v1_56 e_v1_56 => ?_)
              have hf := b_v hf e_v1_56
              refine lv_lstore_n (lv' := [(1, .long v1_56), (4, .int s_28), (0, .ref (X.ad 0)), (3, .int v3_27)]) hx hb dX7_digest_205 rfl hl (by decide) rfl (fun ls hl => ?_)
              refine lv_ldc2 hx hb hown (hts _ wd_3_150) dX7_digest_206 ?_
              refine lv_lload_n hx hb dX7_digest_209 rfl (lv_at hl 0 rfl) ?_
              refine lv_lmul hx hb dX7_digest_210 ?_
              refine lv_aload_n hx hb dX7_digest_211 rfl (lv_at hl 2 rfl) ?_
              refine lv_iload hx hb dX7_digest_212 (lv_at hl 1 rfl) ?_
              obtain ⟨⟨r_57, M_58⟩, h_r_57, hf⟩ := b_d hf
              have hf := u2_e hf
              refine k_X7_standing hZ hP hS hl.1 wd_3_163 ⟨Nat.le_of_ble_eq_true rfl, Nat.le_of_ble_eq_true rfl⟩ (Nat.le_of_ble_eq_true rfl) dX7_digest_214 ⟨Nat.zero_le _, Nat.zero_le _⟩ h_r_57 (fun H locs hP hS => ?_)
              refine lv_i2l hx hb dX7_digest_217 rfl ?_
              refine lv_ladd hx hb dX7_digest_218 ?_
              refine lv_topl (fun v1_59 e_v1_59 => ?_)
              have hf := b_v hf e_v1_59
              refine lv_lstore_n (lv' := [(1, .long v1_59), (4, .int s_28), (0, .ref (X.ad 0)), (3, .int v3_27)]) hx hb dX7_digest_219 rfl hl (by decide) rfl (fun ls hl => ?_)
              refine lv_ldc2 hx hb hown (hts _ wd_3_150) dX7_digest_220 ?_
              refine lv_lload_n hx hb dX7_digest_223 rfl (lv_at hl 0 rfl) ?_
              refine lv_lmul hx hb dX7_digest_224 ?_
              refine lv_aload_n hx hb dX7_digest_225 rfl (lv_at hl 2 rfl) ?_
              refine lv_iload hx hb dX7_digest_226 (lv_at hl 1 rfl) ?_
              obtain ⟨⟨r_60, M_61⟩, h_r_60, hf⟩ := b_d hf
              have hf := u2_e hf
              refine k_X7_hangsTogether hZ hP hS hl.1 wd_3_164 ⟨Nat.le_of_ble_eq_true rfl, Nat.le_of_ble_eq_true rfl⟩ (Nat.le_of_ble_eq_true rfl) dX7_digest_228 ⟨Nat.zero_le _, Nat.zero_le _⟩ h_r_60 (fun H locs hP hS => ?_)
              refine lv_i2l hx hb dX7_digest_231 rfl ?_
              refine lv_ladd hx hb dX7_digest_232 ?_
              refine lv_topl (fun v1_62 e_v1_62 => ?_)
              have hf := b_v hf e_v1_62
              refine lv_lstore_n (lv' := [(1, .long v1_62), (4, .int s_28), (0, .ref (X.ad 0)), (3, .int v3_27)]) hx hb dX7_digest_233 rfl hl (by decide) rfl (fun ls hl => ?_)
              refine lv_iinc (v := v3_27 + (1 : Int32)) (lv' := [(3, .int (v3_27 + (1 : Int32))), (1, .long v1_62), (4, .int s_28), (0, .ref (X.ad 0))]) hx hb dX7_digest_234 hl (k := 3) rfl rfl (by decide) rfl (fun ls hl => ?_)
              refine lv_goto (tgt := 59) hx hb dX7_digest_237 (by decide) ?_
              exact hkc59 _ (Option.some.inj hf).symm H locs ls hP hS (lv_sub hl [0, 1, 3] rfl)
          refine lv_iload_n hx hb dX7_digest_59 rfl (lv_at hl 0 rfl) ?_
          refine lv_iconst (v := (2 : Int32)) hx hb dX7_digest_60 (by decide) ?_
          refine lv_icmp_ge (tgt := 240) hx hb dX7_digest_61 (by decide) (fun c_24 => ?_) (fun c_24 => ?_)
          · have hf := i_t c_24 hf
            exact hke59 _ (Option.some.inj hf).symm _ _ rfl H locs ls hP hS (lv_sub hl [1] rfl)
          · have hf := i_f c_24 hf
            refine lv_iload_n hx hb dX7_digest_64 rfl (lv_at hl 0 rfl) ?_
            refine lv_if_ne (tgt := 75) hx hb dX7_digest_65 (by decide) (fun c_25 => ?_) (fun c_25 => ?_)
            · have hf := i_f c_25 hf
              refine lv_aload_n hx hb dX7_digest_75 rfl (lv_at hl 2 rfl) ?_
              refine gX7_0 hx hb hts hown hk hP wd_1_213 dX7_digest_76 ?_
              refine gX1_3 hx hb hts hown hk hP isF_1 wd_1_42 dX7_digest_79 ?_
              exact jn82 v1_20 v3_19 (M_21 1 3) M_21 hf H locs ls hP hS (lv_sub hl [2, 1, 0] rfl)
            · have hf := i_t c_25 hf
              refine lv_aload_n hx hb dX7_digest_68 rfl (lv_at hl 2 rfl) ?_
              refine k_X7_allPieces hZ hP hS hl.1 wd_2_225 ⟨Nat.le_of_ble_eq_true rfl, Nat.le_of_ble_eq_true rfl⟩ (Nat.le_of_ble_eq_true rfl) dX7_digest_69 ⟨Nat.zero_le _, Nat.zero_le _⟩ (fun H locs hP hS => ?_)
              refine lv_goto (tgt := 82) hx hb dX7_digest_72 (by decide) ?_
              exact jn82 v1_20 v3_19 (fn_X7_allPieces M_21) M_21 hf H locs ls hP hS (lv_sub hl [2, 1, 0] rfl)
        · intro v1_22 M_23 e H locs ls hP hS hl
          subst o59
          have hf := u2_e hf
          refine lv_lload_n hx hb dX7_digest_240 rfl (lv_at hl 0 rfl) ?_
          have hf := Option.some.inj hf
          obtain ⟨e1, e2⟩ := Prod.mk.inj hf
          rw [e2] at hP
          exact ret_l hx hb hr hlocks hP hS e1 dX7_digest_241
  exact key s.heap [] hP hS
theorem hd_X7_digest : Hd yX7_digest 0 := by decide +kernel
theorem k_X7_digest {p : Program} {l : Launch} {e : Env} {R : Room} {s : State} {m : MethodId} {args : Array Value} {below : List Frame} {meth : Method} {c : Code} {H : Heap} {locs : List Loc} {cells slots : Nat} {Q : State → Prop} {cc : ByteArray} {nL pc index : Nat} {ls : Array Slot} {rest : List Value} {X : En} {M : Mem} {H0 : Heap} {own : String} {g : Nat} {r : Int64} {M9 : Mem} (hZ : Fx p c m s args X cc nL own) (hP : wd X M H) (hS : va_S X.A H0 H locs) (hsz : ls.size = nL) (hlk : Cond.methodLink own index yX7_digest ∈ lw_u) (hR : 6 + 1 ≤ R.frames ∧ 8 + (6 + 11) + 144 ≤ R.locals) (hW : (rest.map fun v => v.category).sum ≤ 8) (hdg : decode cc pc = .ok (.invokevirtual index, 3)) (hcs : cells ≤ R.cells ∧ slots ≤ R.slots) (hf : fn_X7_digest g M = some (r, M9))
    (kk : ∀ (H1 : Heap) (locs1 : List Loc), wd X M9 H1 → va_S X.A H0 H1 locs1 → W p l e R s m args below meth c H1 locs1 cells slots Q (F0 m (pc + 3) ls (.long r :: rest))) : W p l e R s m args below meth c H locs cells slots Q (F0 m pc ls (.ref (X.ad 0) :: rest)) :=
  cal_l (runV (As := []) (rest := rest) hZ.1 hZ.2.1 hZ.2.2.1 hZ.2.2.2.1 hZ.2.2.2.2.1 hZ.2.2.2.2.2 hP (c_X7_digest g M r M9 hf) wd_3_148 wd_3_146 wd_3_147 wd_1_1 hd_X7_digest (by decide) rfl rfl rfl hlk hR hsz rfl hW hdg hcs) hS kk
/-! FrameRaiserModel.in -/
def fn_X8_in (x0 : Int32) (x1 : Int32) (x2 : Int32) : Int32 :=
  if x0 < x1 then
    ((0 : Int32))
  else
    (if x2 < x0 then
      ((0 : Int32))
    else
      ((1 : Int32)))
theorem dX8_in_0 : decode cX8_in 0 = .ok (.iload_n 0, 1) := by decide +kernel
theorem dX8_in_1 : decode cX8_in 1 = .ok (.iload_n 1, 1) := by decide +kernel
theorem dX8_in_2 : decode cX8_in 2 = .ok (.if_icmp .lt 12, 3) := by decide +kernel
theorem dX8_in_5 : decode cX8_in 5 = .ok (.iload_n 0, 1) := by decide +kernel
theorem dX8_in_6 : decode cX8_in 6 = .ok (.iload_n 2, 1) := by decide +kernel
theorem dX8_in_7 : decode cX8_in 7 = .ok (.if_icmp .gt 7, 3) := by decide +kernel
theorem dX8_in_10 : decode cX8_in 10 = .ok (.iconst 1, 1) := by decide +kernel
theorem dX8_in_11 : decode cX8_in 11 = .ok (.goto 4, 3) := by decide +kernel
theorem dX8_in_14 : decode cX8_in 14 = .ok (.iconst 0, 1) := by decide +kernel
theorem dX8_in_15 : decode cX8_in 15 = .ok (.ireturn, 1) := by decide +kernel
theorem z_X8_in (x0 : Int32) (x1 : Int32) (x2 : Int32) : isZ (fn_X8_in x0 x1 x2) := by
  unfold fn_X8_in
  repeat' (first | exact isZ_0 | exact isZ_1 | split)
set_option maxHeartbeats 4000000 in
set_option maxRecDepth 100000 in
theorem c_X8_in {l : Launch} {X : En} (x0 : Int32) (x1 : Int32) (x2 : Int32) (M : Mem) (r : Int32) (hf : fn_X8_in x0 x1 x2 = r) : Cn l X yX8_in cX8_in 3 (some .boolean) 0 0 [.int x0, .int x1, .int x2] M (Qi X r M) := by
  refine Met.ofW (cc := cX8_in) (maxL := 3) (ret := (some .boolean)) (by decide) rfl ?_
  intro p e s m args below meth c s₁ B hml hv
  obtain ⟨rfl, hP, hk⟩ := hv
  have hx := B.exec
  have hb := B.bytes
  have hr := B.returns
  have hlocks := B.notSynchronized
  have hts : ∀ w ∈ lw_u, w.before ([.int x0, .int x1, .int x2] : List Value).toArray s = true := fun w hw => atoms_spec (ws := Cond.code yX8_in cX8_in 3 (some .boolean) :: lw_u) B.pre w (List.mem_cons_of_mem _ hw)
  have hown : s.vm.findClass RX8 = some m.cls := findClass_of_methodNamed B.named
  have hZ : Fx p c m s ([.int x0, .int x1, .int x2] : List Value).toArray X cX8_in 3 RX8 := ⟨hx, hb, hml, hts, hown, hk⟩
  have hS : va_S X.A s.heap s.heap [] := va_S.rf
  have hl := lv_entry ([.int x0, .int x1, .int x2]) (n := 3) (Nat.le_of_ble_eq_true rfl)
  rw [lg_entry_eq]
  generalize (lg_sl ([.int x0, .int x1, .int x2]) ++ List.replicate (3 - (lg_sl ([.int x0, .int x1, .int x2])).length) Slot.unset).toArray = ls at hl ⊢
  have hl : lv_has ls 3 [(0, .int x0), (1, .int x1), (2, .int x2)] := hl
  show WW p l e 0 0 s m [.int x0, .int x1, .int x2] below meth c X (Qi X r M) s.heap [] 0 ls []
  have hP : wd X M s.heap := hP
  unfold fn_X8_in at hf
  have key : ∀ (H : Heap) (locs : List Loc), wd X M H → va_S X.A s.heap H locs → WW p l e 0 0 s m [.int x0, .int x1, .int x2] below meth c X (Qi X r M) H locs 0 ls [] := by
    intro H locs hP hS
    refine lv_iload_n hx hb dX8_in_0 rfl (lv_at hl 0 rfl) ?_
    refine lv_iload_n hx hb dX8_in_1 rfl (lv_at hl 1 rfl) ?_
    refine lv_icmp_lt (tgt := 14) hx hb dX8_in_2 (by decide) (fun c_1 => ?_) (fun c_1 => ?_)
    · have hf := i_t c_1 hf
      refine lv_iconst (v := (0 : Int32)) hx hb dX8_in_14 (by decide) ?_
      exact ret_z hx hb hr hlocks hP hS isZ_0 hf dX8_in_15
    · have hf := i_f c_1 hf
      refine lv_iload_n hx hb dX8_in_5 rfl (lv_at hl 0 rfl) ?_
      refine lv_iload_n hx hb dX8_in_6 rfl (lv_at hl 2 rfl) ?_
      refine lv_icmp_gt (tgt := 14) hx hb dX8_in_7 (by decide) (fun c_2 => ?_) (fun c_2 => ?_)
      · have hf := i_t c_2 hf
        refine lv_iconst (v := (0 : Int32)) hx hb dX8_in_14 (by decide) ?_
        exact ret_z hx hb hr hlocks hP hS isZ_0 hf dX8_in_15
      · have hf := i_f c_2 hf
        refine lv_iconst (v := (1 : Int32)) hx hb dX8_in_10 (by decide) ?_
        refine lv_goto (tgt := 15) hx hb dX8_in_11 (by decide) ?_
        exact ret_z hx hb hr hlocks hP hS isZ_1 hf dX8_in_15
  exact key s.heap [] hP hS
theorem hd_X8_in : Hd yX8_in 3 := by decide +kernel
theorem k_X8_in {p : Program} {l : Launch} {e : Env} {R : Room} {s : State} {m : MethodId} {args : Array Value} {below : List Frame} {meth : Method} {c : Code} {H : Heap} {locs : List Loc} {cells slots : Nat} {Q : State → Prop} {cc : ByteArray} {nL pc index : Nat} {ls : Array Slot} {rest : List Value} {X : En} {M : Mem} {H0 : Heap} {own : String} {x0 : Int32} {x1 : Int32} {x2 : Int32} (hZ : Fx p c m s args X cc nL own) (hP : wd X M H) (hS : va_S X.A H0 H locs) (hsz : ls.size = nL) (hlk : Cond.methodLink own index yX8_in ∈ lw_u) (hR : 0 + 1 ≤ R.frames ∧ 8 + (3 + 11) + 0 ≤ R.locals) (hW : (rest.map fun v => v.category).sum ≤ 8) (hdg : decode cc pc = .ok (.invokestatic index, 3)) (hcs : cells ≤ R.cells ∧ slots ≤ R.slots)
    (kk : ∀ (H1 : Heap) (locs1 : List Loc), wd X M H1 → va_S X.A H0 H1 locs1 → W p l e R s m args below meth c H1 locs1 cells slots Q (F0 m (pc + 3) ls (.int (fn_X8_in x0 x1 x2) :: rest))) : W p l e R s m args below meth c H locs cells slots Q (F0 m pc ls (.int x2 :: .int x1 :: .int x0 :: rest)) :=
  cal_i (runS (As := [.int x0, .int x1, .int x2]) (rest := rest) hZ.1 hZ.2.1 hZ.2.2.1 hZ.2.2.2.1 hZ.2.2.2.2.1 hZ.2.2.2.2.2 hP (c_X8_in x0 x1 x2 M _ rfl) wd_3_188 wd_3_187 wd_1_9 hd_X8_in rfl hlk hR hsz rfl hW hdg hcs) hS kk
/-! FrameRaiserModel.copies -/
def bd_X8_copies_2 (x1 : Int32) (x2 : Int32) : (Int32 × Mem) → Option ((Int32 × Mem) ⊕ (Mem)) :=
  u2 fun v3_1 M_2 =>
  if (227 : Int32) ≤ v3_1 then
    (some (.inr M_2))
  else
    (if inb (((227 : Int32) * x1) + v3_1) 2270 then
    if inb (((227 : Int32) * x2) + v3_1) 2270 then
    bv (st M_2 62 (ix (((227 : Int32) * x2) + v3_1)) (M_2 62 (ix (((227 : Int32) * x1) + v3_1)))) fun M_6 =>
    some (.inl (v3_1 + (1 : Int32), M_6))
    else none
    else none)
def fn_X8_copies (g : Nat) (x1 : Int32) (x2 : Int32) (M : Mem) : Option (Mem) :=
  (lpN g (bd_X8_copies_2 x1 x2) ((0 : Int32), M)).bind (u1 fun M_3 =>
    some M_3)
theorem dX8_copies_0 : decode cX8_copies 0 = .ok (.iconst 0, 1) := by decide +kernel
theorem dX8_copies_1 : decode cX8_copies 1 = .ok (.istore_n 3, 1) := by decide +kernel
theorem dX8_copies_2 : decode cX8_copies 2 = .ok (.iload_n 3, 1) := by decide +kernel
theorem dX8_copies_3 : decode cX8_copies 3 = .ok (.sipush 227, 3) := by decide +kernel
theorem dX8_copies_6 : decode cX8_copies 6 = .ok (.if_icmp .ge 33, 3) := by decide +kernel
theorem dX8_copies_9 : decode cX8_copies 9 = .ok (.aload_n 0, 1) := by decide +kernel
theorem dX8_copies_10 : decode cX8_copies 10 = .ok (.getfield 7, 3) := by decide +kernel
theorem dX8_copies_13 : decode cX8_copies 13 = .ok (.sipush 227, 3) := by decide +kernel
theorem dX8_copies_16 : decode cX8_copies 16 = .ok (.iload_n 2, 1) := by decide +kernel
theorem dX8_copies_17 : decode cX8_copies 17 = .ok (.imul, 1) := by decide +kernel
theorem dX8_copies_18 : decode cX8_copies 18 = .ok (.iload_n 3, 1) := by decide +kernel
theorem dX8_copies_19 : decode cX8_copies 19 = .ok (.iadd, 1) := by decide +kernel
theorem dX8_copies_20 : decode cX8_copies 20 = .ok (.aload_n 0, 1) := by decide +kernel
theorem dX8_copies_21 : decode cX8_copies 21 = .ok (.getfield 7, 3) := by decide +kernel
theorem dX8_copies_24 : decode cX8_copies 24 = .ok (.sipush 227, 3) := by decide +kernel
theorem dX8_copies_27 : decode cX8_copies 27 = .ok (.iload_n 1, 1) := by decide +kernel
theorem dX8_copies_28 : decode cX8_copies 28 = .ok (.imul, 1) := by decide +kernel
theorem dX8_copies_29 : decode cX8_copies 29 = .ok (.iload_n 3, 1) := by decide +kernel
theorem dX8_copies_30 : decode cX8_copies 30 = .ok (.iadd, 1) := by decide +kernel
theorem dX8_copies_31 : decode cX8_copies 31 = .ok (.iaload, 1) := by decide +kernel
theorem dX8_copies_32 : decode cX8_copies 32 = .ok (.iastore, 1) := by decide +kernel
theorem dX8_copies_33 : decode cX8_copies 33 = .ok (.iinc 3 1, 3) := by decide +kernel
theorem dX8_copies_36 : decode cX8_copies 36 = .ok (.goto (-34), 3) := by decide +kernel
theorem dX8_copies_39 : decode cX8_copies 39 = .ok (.return_, 1) := by decide +kernel
set_option maxHeartbeats 4000000 in
set_option maxRecDepth 100000 in
theorem c_X8_copies {l : Launch} {X : En} (g : Nat) (x1 : Int32) (x2 : Int32) (M : Mem) (M9 : Mem) (hf : fn_X8_copies g x1 x2 M = some M9) : Cn l X yX8_copies cX8_copies 4 none 0 0 [.ref (X.ad 61), .int x1, .int x2] M (Qv X M9) := by
  refine Met.ofW (cc := cX8_copies) (maxL := 4) (ret := none) (by decide) rfl ?_
  intro p e s m args below meth c s₁ B hml hv
  obtain ⟨rfl, hP, hk⟩ := hv
  have hx := B.exec
  have hb := B.bytes
  have hr := B.returns
  have hlocks := B.notSynchronized
  have hts : ∀ w ∈ lw_u, w.before ([.ref (X.ad 61), .int x1, .int x2] : List Value).toArray s = true := fun w hw => atoms_spec (ws := Cond.code yX8_copies cX8_copies 4 none :: lw_u) B.pre w (List.mem_cons_of_mem _ hw)
  have hown : s.vm.findClass RX8 = some m.cls := findClass_of_methodNamed B.named
  have hZ : Fx p c m s ([.ref (X.ad 61), .int x1, .int x2] : List Value).toArray X cX8_copies 4 RX8 := ⟨hx, hb, hml, hts, hown, hk⟩
  have hS : va_S X.A s.heap s.heap [] := va_S.rf
  have hl := lv_entry ([.ref (X.ad 61), .int x1, .int x2]) (n := 4) (Nat.le_of_ble_eq_true rfl)
  rw [lg_entry_eq]
  generalize (lg_sl ([.ref (X.ad 61), .int x1, .int x2]) ++ List.replicate (4 - (lg_sl ([.ref (X.ad 61), .int x1, .int x2])).length) Slot.unset).toArray = ls at hl ⊢
  have hl : lv_has ls 4 [(0, .ref (X.ad 61)), (1, .int x1), (2, .int x2)] := hl
  show WW p l e 0 0 s m [.ref (X.ad 61), .int x1, .int x2] below meth c X (Qv X M9) s.heap [] 0 ls []
  have hP : wd X M s.heap := hP
  unfold fn_X8_copies at hf
  have key : ∀ (H : Heap) (locs : List Loc), wd X M H → va_S X.A s.heap H locs → WW p l e 0 0 s m [.ref (X.ad 61), .int x1, .int x2] below meth c X (Qv X M9) H locs 0 ls [] := by
    intro H locs hP hS
    refine lv_iconst (v := (0 : Int32)) hx hb dX8_copies_0 (by decide) ?_
    refine lv_istore_n (lv' := [(3, .int (0 : Int32)), (0, .ref (X.ad 61)), (1, .int x1), (2, .int x2)]) hx hb dX8_copies_1 rfl hl (by decide) rfl (fun ls hl => ?_)
    obtain ⟨o2, ho2, hf⟩ := b_d hf
    refine lp_rule (b := bd_X8_copies_2 x1 x2) (P := fun w : Int32 × Mem => ∀ (H : Heap) (locs : List Loc) (ls : Array Slot), wd X w.2 H → va_S X.A s.heap H locs → lv_has ls 4 [(3, .int w.1), (0, .ref (X.ad 61)), (1, .int x1), (2, .int x2)] → WW p l e 0 0 s m [.ref (X.ad 61), .int x1, .int x2] below meth c X (Qv X M9) H locs 2 ls []) (K := fun o => ∀ (M_3 : Mem), o = M_3 → ∀ (H : Heap) (locs : List Loc) (ls : Array Slot), wd X M_3 H → va_S X.A s.heap H locs → lv_has ls 4 [] → WW p l e 0 0 s m [.ref (X.ad 61), .int x1, .int x2] below meth c X (Qv X M9) H locs 39 ls []) ?_ g ((0 : Int32), M) o2 ho2 ?_ H locs ls hP hS (lv_sub hl [0, 1, 2, 3] rfl)
    · rintro ⟨v3_1, M_2⟩ o hf hkc2 hke2 H locs ls hP hS hl
      have hf := u2_e hf
      refine lv_iload_n hx hb dX8_copies_2 rfl (lv_at hl 0 rfl) ?_
      refine lv_sipush (v := (227 : Int32)) hx hb dX8_copies_3 (by decide) ?_
      refine lv_icmp_ge (tgt := 39) hx hb dX8_copies_6 (by decide) (fun c_4 => ?_) (fun c_4 => ?_)
      · have hf := i_t c_4 hf
        exact hke2 _ (Option.some.inj hf).symm _ rfl H locs ls hP hS (lv_sub hl [] rfl)
      · have hf := i_f c_4 hf
        refine lv_aload_n hx hb dX8_copies_9 rfl (lv_at hl 1 rfl) ?_
        refine gX8_0 hx hb hts hown hk hP wd_3_192 dX8_copies_10 ?_
        refine lv_sipush (v := (227 : Int32)) hx hb dX8_copies_13 (by decide) ?_
        refine lv_iload_n hx hb dX8_copies_16 rfl (lv_at hl 3 rfl) ?_
        refine lv_imul hx hb dX8_copies_17 ?_
        refine lv_iload_n hx hb dX8_copies_18 rfl (lv_at hl 0 rfl) ?_
        refine lv_iadd hx hb dX8_copies_19 ?_
        refine lv_aload_n hx hb dX8_copies_20 rfl (lv_at hl 1 rfl) ?_
        refine gX8_0 hx hb hts hown hk hP wd_3_192 dX8_copies_21 ?_
        refine lv_sipush (v := (227 : Int32)) hx hb dX8_copies_24 (by decide) ?_
        refine lv_iload_n hx hb dX8_copies_27 rfl (lv_at hl 2 rfl) ?_
        refine lv_imul hx hb dX8_copies_28 ?_
        refine lv_iload_n hx hb dX8_copies_29 rfl (lv_at hl 0 rfl) ?_
        refine lv_iadd hx hb dX8_copies_30 ?_
        obtain ⟨q_5, hf⟩ := g_if hf
        refine ald hx hb hk hP (by decide) rfl q_5 dX8_copies_31 ?_
        obtain ⟨q_7, hf⟩ := g_if hf
        refine ast hx hb hk hP hS (by decide) (fun _ => rfl) q_7 dX8_copies_32 (fun H locs M_6 e_M_6 hP hS => ?_)
        have hf := b_v hf e_M_6
        refine lv_iinc (v := v3_1 + (1 : Int32)) (lv' := [(3, .int (v3_1 + (1 : Int32))), (0, .ref (X.ad 61)), (1, .int x1), (2, .int x2)]) hx hb dX8_copies_33 hl (k := 0) rfl rfl (by decide) rfl (fun ls hl => ?_)
        refine lv_goto (tgt := 2) hx hb dX8_copies_36 (by decide) ?_
        exact hkc2 _ (Option.some.inj hf).symm H locs ls hP hS (lv_sub hl [0, 1, 2, 3] rfl)
    · intro M_3 e H locs ls hP hS hl
      subst o2
      have hf := u1_e hf
      have hf := Option.some.inj hf
      rw [hf] at hP
      exact ret_v hx hb hr hlocks hP hS dX8_copies_39
  exact key s.heap [] hP hS
theorem hd_X8_copies : Hd yX8_copies 2 := by decide +kernel
theorem k_X8_copies {p : Program} {l : Launch} {e : Env} {R : Room} {s : State} {m : MethodId} {args : Array Value} {below : List Frame} {meth : Method} {c : Code} {H : Heap} {locs : List Loc} {cells slots : Nat} {Q : State → Prop} {cc : ByteArray} {nL pc index : Nat} {ls : Array Slot} {rest : List Value} {X : En} {M : Mem} {H0 : Heap} {own : String} {g : Nat} {x1 : Int32} {x2 : Int32} {M9 : Mem} (hZ : Fx p c m s args X cc nL own) (hP : wd X M H) (hS : va_S X.A H0 H locs) (hsz : ls.size = nL) (hlk : Cond.methodLink own index yX8_copies ∈ lw_u) (hR : 0 + 1 ≤ R.frames ∧ 8 + (4 + 11) + 0 ≤ R.locals) (hW : (rest.map fun v => v.category).sum ≤ 8) (hdg : decode cc pc = .ok (.invokevirtual index, 3)) (hcs : cells ≤ R.cells ∧ slots ≤ R.slots) (hf : fn_X8_copies g x1 x2 M = some M9)
    (kk : ∀ (H1 : Heap) (locs1 : List Loc), wd X M9 H1 → va_S X.A H0 H1 locs1 → W p l e R s m args below meth c H1 locs1 cells slots Q (F0 m (pc + 3) ls rest)) : W p l e R s m args below meth c H locs cells slots Q (F0 m pc ls (.int x2 :: .int x1 :: .ref (X.ad 61) :: rest)) :=
  cal_v (runV (As := [.int x1, .int x2]) (rest := rest) hZ.1 hZ.2.1 hZ.2.2.1 hZ.2.2.2.1 hZ.2.2.2.2.1 hZ.2.2.2.2.2 hP (c_X8_copies g x1 x2 M M9 hf) wd_4_2 wd_4_1 wd_p_29 wd_1_9 hd_X8_copies (by decide) rfl rfl rfl hlk hR hsz rfl hW hdg hcs) hS kk
/-! FrameRaiserModel.records -/
def bd_X8_records_11 (g : Nat) : (Int32 × Mem) → Option ((Int32 × Mem) ⊕ (Mem)) :=
  u2 fun v1_5 M_6 =>
  if (8 : Int32) ≤ v1_5 then
    (some (.inr M_6))
  else
    ((fn_X8_copies g (v1_5 + (1 : Int32)) v1_5 M_6).bind fun M_9 =>
    some (.inl (v1_5 + (1 : Int32), M_9)))
def jn_X8_records_41 (g : Nat) (M_2 : Mem) : Option (Mem) :=
  bv (st M_2 61 1 ((M_2 61 1) + (1 : Int32))) fun M_3 =>
  (fn_X8_copies g (0 : Int32) (M_3 61 1) M_3).bind fun M_4 =>
  some M_4
def fn_X8_records (g : Nat) (M : Mem) : Option (Mem) :=
  if (M 61 1) = (8 : Int32) then
    ((lpN g (bd_X8_records_11 g) ((1 : Int32), M)).bind (u1 fun M_7 =>
      bv (st M_7 61 1 ((M_7 61 1) - (1 : Int32))) fun M_10 =>
      jn_X8_records_41 g M_10))
  else
    (jn_X8_records_41 g M)
theorem dX8_records_0 : decode cX8_records 0 = .ok (.aload_n 0, 1) := by decide +kernel
theorem dX8_records_1 : decode cX8_records 1 = .ok (.getfield 41, 3) := by decide +kernel
theorem dX8_records_4 : decode cX8_records 4 = .ok (.bipush 8, 2) := by decide +kernel
theorem dX8_records_6 : decode cX8_records 6 = .ok (.if_icmp .ne 35, 3) := by decide +kernel
theorem dX8_records_9 : decode cX8_records 9 = .ok (.iconst 1, 1) := by decide +kernel
theorem dX8_records_10 : decode cX8_records 10 = .ok (.istore_n 1, 1) := by decide +kernel
theorem dX8_records_11 : decode cX8_records 11 = .ok (.iload_n 1, 1) := by decide +kernel
theorem dX8_records_12 : decode cX8_records 12 = .ok (.bipush 8, 2) := by decide +kernel
theorem dX8_records_14 : decode cX8_records 14 = .ok (.if_icmp .ge 17, 3) := by decide +kernel
theorem dX8_records_17 : decode cX8_records 17 = .ok (.aload_n 0, 1) := by decide +kernel
theorem dX8_records_18 : decode cX8_records 18 = .ok (.iload_n 1, 1) := by decide +kernel
theorem dX8_records_19 : decode cX8_records 19 = .ok (.iconst 1, 1) := by decide +kernel
theorem dX8_records_20 : decode cX8_records 20 = .ok (.iadd, 1) := by decide +kernel
theorem dX8_records_21 : decode cX8_records 21 = .ok (.iload_n 1, 1) := by decide +kernel
theorem dX8_records_22 : decode cX8_records 22 = .ok (.invokevirtual 45, 3) := by decide +kernel
theorem dX8_records_25 : decode cX8_records 25 = .ok (.iinc 1 1, 3) := by decide +kernel
theorem dX8_records_28 : decode cX8_records 28 = .ok (.goto (-17), 3) := by decide +kernel
theorem dX8_records_31 : decode cX8_records 31 = .ok (.aload_n 0, 1) := by decide +kernel
theorem dX8_records_32 : decode cX8_records 32 = .ok (.dup, 1) := by decide +kernel
theorem dX8_records_33 : decode cX8_records 33 = .ok (.getfield 41, 3) := by decide +kernel
theorem dX8_records_36 : decode cX8_records 36 = .ok (.iconst 1, 1) := by decide +kernel
theorem dX8_records_37 : decode cX8_records 37 = .ok (.isub, 1) := by decide +kernel
theorem dX8_records_38 : decode cX8_records 38 = .ok (.putfield 41, 3) := by decide +kernel
theorem dX8_records_41 : decode cX8_records 41 = .ok (.aload_n 0, 1) := by decide +kernel
theorem dX8_records_42 : decode cX8_records 42 = .ok (.dup, 1) := by decide +kernel
theorem dX8_records_43 : decode cX8_records 43 = .ok (.getfield 41, 3) := by decide +kernel
theorem dX8_records_46 : decode cX8_records 46 = .ok (.iconst 1, 1) := by decide +kernel
theorem dX8_records_47 : decode cX8_records 47 = .ok (.iadd, 1) := by decide +kernel
theorem dX8_records_48 : decode cX8_records 48 = .ok (.putfield 41, 3) := by decide +kernel
theorem dX8_records_51 : decode cX8_records 51 = .ok (.aload_n 0, 1) := by decide +kernel
theorem dX8_records_52 : decode cX8_records 52 = .ok (.iconst 0, 1) := by decide +kernel
theorem dX8_records_53 : decode cX8_records 53 = .ok (.aload_n 0, 1) := by decide +kernel
theorem dX8_records_54 : decode cX8_records 54 = .ok (.getfield 41, 3) := by decide +kernel
theorem dX8_records_57 : decode cX8_records 57 = .ok (.invokevirtual 45, 3) := by decide +kernel
theorem dX8_records_60 : decode cX8_records 60 = .ok (.return_, 1) := by decide +kernel
set_option maxHeartbeats 4000000 in
set_option maxRecDepth 100000 in
theorem c_X8_records {l : Launch} {X : En} (g : Nat) (M : Mem) (M9 : Mem) (hf : fn_X8_records g M = some M9) : Cn l X yX8_records cX8_records 2 none 1 23 [.ref (X.ad 61)] M (Qv X M9) := by
  refine Met.ofW (cc := cX8_records) (maxL := 2) (ret := none) (by decide) rfl ?_
  intro p e s m args below meth c s₁ B hml hv
  obtain ⟨rfl, hP, hk⟩ := hv
  have hx := B.exec
  have hb := B.bytes
  have hr := B.returns
  have hlocks := B.notSynchronized
  have hts : ∀ w ∈ lw_u, w.before ([.ref (X.ad 61)] : List Value).toArray s = true := fun w hw => atoms_spec (ws := Cond.code yX8_records cX8_records 2 none :: lw_u) B.pre w (List.mem_cons_of_mem _ hw)
  have hown : s.vm.findClass RX8 = some m.cls := findClass_of_methodNamed B.named
  have hZ : Fx p c m s ([.ref (X.ad 61)] : List Value).toArray X cX8_records 2 RX8 := ⟨hx, hb, hml, hts, hown, hk⟩
  have hS : va_S X.A s.heap s.heap [] := va_S.rf
  have hl := lv_entry ([.ref (X.ad 61)]) (n := 2) (Nat.le_of_ble_eq_true rfl)
  rw [lg_entry_eq]
  generalize (lg_sl ([.ref (X.ad 61)]) ++ List.replicate (2 - (lg_sl ([.ref (X.ad 61)])).length) Slot.unset).toArray = ls at hl ⊢
  have hl : lv_has ls 2 [(0, .ref (X.ad 61))] := hl
  show WW p l e 1 23 s m [.ref (X.ad 61)] below meth c X (Qv X M9) s.heap [] 0 ls []
  have hP : wd X M s.heap := hP
  have jn41 : ∀  (M_2 : Mem), jn_X8_records_41 g M_2 = some M9 → ∀ (H : Heap) (locs : List Loc) (ls : Array Slot), wd X M_2 H → va_S X.A s.heap H locs → lv_has ls 2 [(0, .ref (X.ad 61))] → WW p l e 1 23 s m [.ref (X.ad 61)] below meth c X (Qv X M9) H locs 41 ls [] := by
    intro  M_2 hf H locs ls hP hS hl
    unfold jn_X8_records_41 at hf
    refine lv_aload_n hx hb dX8_records_41 rfl (lv_at hl 0 rfl) ?_
    refine lv_dup hx hb dX8_records_42 rfl ?_
    refine gX8_1 hx hb hts hown hk hP wd_3_193 dX8_records_43 ?_
    refine lv_iconst (v := (1 : Int32)) hx hb dX8_records_46 (by decide) ?_
    refine lv_iadd hx hb dX8_records_47 ?_
    refine pX8_1 hx hb hts hown hk hP hS wd_3_193 dX8_records_48 (fun H locs M_3 e_M_3 hP hS => ?_)
    have hf := b_v hf e_M_3
    refine lv_aload_n hx hb dX8_records_51 rfl (lv_at hl 0 rfl) ?_
    refine lv_iconst (v := (0 : Int32)) hx hb dX8_records_52 (by decide) ?_
    refine lv_aload_n hx hb dX8_records_53 rfl (lv_at hl 0 rfl) ?_
    refine gX8_1 hx hb hts hown hk hP wd_3_193 dX8_records_54 ?_
    obtain ⟨M_4, h_M_4, hf⟩ := b_d hf
    refine k_X8_copies hZ hP hS hl.1 wd_3_239 ⟨Nat.le_of_ble_eq_true rfl, Nat.le_of_ble_eq_true rfl⟩ (Nat.le_of_ble_eq_true rfl) dX8_records_57 ⟨Nat.zero_le _, Nat.zero_le _⟩ h_M_4 (fun H locs hP hS => ?_)
    have hf := Option.some.inj hf
    rw [hf] at hP
    exact ret_v hx hb hr hlocks hP hS dX8_records_60
  unfold fn_X8_records at hf
  have key : ∀ (H : Heap) (locs : List Loc), wd X M H → va_S X.A s.heap H locs → WW p l e 1 23 s m [.ref (X.ad 61)] below meth c X (Qv X M9) H locs 0 ls [] := by
    intro H locs hP hS
    refine lv_aload_n hx hb dX8_records_0 rfl (lv_at hl 0 rfl) ?_
    refine gX8_1 hx hb hts hown hk hP wd_3_193 dX8_records_1 ?_
    refine lv_bipush (v := (8 : Int32)) hx hb dX8_records_4 (by decide) ?_
    refine lv_icmp_ne (tgt := 41) hx hb dX8_records_6 (by decide) (fun c_1 => ?_) (fun c_1 => ?_)
    · have hf := i_f c_1 hf
      exact jn41 M hf H locs ls hP hS (lv_sub hl [0] rfl)
    · have hf := i_t c_1 hf
      refine lv_iconst (v := (1 : Int32)) hx hb dX8_records_9 (by decide) ?_
      refine lv_istore_n (lv' := [(1, .int (1 : Int32)), (0, .ref (X.ad 61))]) hx hb dX8_records_10 rfl hl (by decide) rfl (fun ls hl => ?_)
      obtain ⟨o11, ho11, hf⟩ := b_d hf
      refine lp_rule (b := bd_X8_records_11 g) (P := fun w : Int32 × Mem => ∀ (H : Heap) (locs : List Loc) (ls : Array Slot), wd X w.2 H → va_S X.A s.heap H locs → lv_has ls 2 [(1, .int w.1), (0, .ref (X.ad 61))] → WW p l e 1 23 s m [.ref (X.ad 61)] below meth c X (Qv X M9) H locs 11 ls []) (K := fun o => ∀ (M_7 : Mem), o = M_7 → ∀ (H : Heap) (locs : List Loc) (ls : Array Slot), wd X M_7 H → va_S X.A s.heap H locs → lv_has ls 2 [(0, .ref (X.ad 61))] → WW p l e 1 23 s m [.ref (X.ad 61)] below meth c X (Qv X M9) H locs 31 ls []) ?_ g ((1 : Int32), M) o11 ho11 ?_ H locs ls hP hS (lv_sub hl [0, 1] rfl)
      · rintro ⟨v1_5, M_6⟩ o hf hkc11 hke11 H locs ls hP hS hl
        have hf := u2_e hf
        refine lv_iload_n hx hb dX8_records_11 rfl (lv_at hl 0 rfl) ?_
        refine lv_bipush (v := (8 : Int32)) hx hb dX8_records_12 (by decide) ?_
        refine lv_icmp_ge (tgt := 31) hx hb dX8_records_14 (by decide) (fun c_8 => ?_) (fun c_8 => ?_)
        · have hf := i_t c_8 hf
          exact hke11 _ (Option.some.inj hf).symm _ rfl H locs ls hP hS (lv_sub hl [1] rfl)
        · have hf := i_f c_8 hf
          refine lv_aload_n hx hb dX8_records_17 rfl (lv_at hl 1 rfl) ?_
          refine lv_iload_n hx hb dX8_records_18 rfl (lv_at hl 0 rfl) ?_
          refine lv_iconst (v := (1 : Int32)) hx hb dX8_records_19 (by decide) ?_
          refine lv_iadd hx hb dX8_records_20 ?_
          refine lv_iload_n hx hb dX8_records_21 rfl (lv_at hl 0 rfl) ?_
          obtain ⟨M_9, h_M_9, hf⟩ := b_d hf
          refine k_X8_copies hZ hP hS hl.1 wd_3_239 ⟨Nat.le_of_ble_eq_true rfl, Nat.le_of_ble_eq_true rfl⟩ (Nat.le_of_ble_eq_true rfl) dX8_records_22 ⟨Nat.zero_le _, Nat.zero_le _⟩ h_M_9 (fun H locs hP hS => ?_)
          refine lv_iinc (v := v1_5 + (1 : Int32)) (lv' := [(1, .int (v1_5 + (1 : Int32))), (0, .ref (X.ad 61))]) hx hb dX8_records_25 hl (k := 0) rfl rfl (by decide) rfl (fun ls hl => ?_)
          refine lv_goto (tgt := 11) hx hb dX8_records_28 (by decide) ?_
          exact hkc11 _ (Option.some.inj hf).symm H locs ls hP hS (lv_sub hl [0, 1] rfl)
      · intro M_7 e H locs ls hP hS hl
        subst o11
        have hf := u1_e hf
        refine lv_aload_n hx hb dX8_records_31 rfl (lv_at hl 0 rfl) ?_
        refine lv_dup hx hb dX8_records_32 rfl ?_
        refine gX8_1 hx hb hts hown hk hP wd_3_193 dX8_records_33 ?_
        refine lv_iconst (v := (1 : Int32)) hx hb dX8_records_36 (by decide) ?_
        refine lv_isub hx hb dX8_records_37 ?_
        refine pX8_1 hx hb hts hown hk hP hS wd_3_193 dX8_records_38 (fun H locs M_10 e_M_10 hP hS => ?_)
        have hf := b_v hf e_M_10
        exact jn41 M_10 hf H locs ls hP hS (lv_sub hl [0] rfl)
  exact key s.heap [] hP hS
theorem hd_X8_records : Hd yX8_records 0 := by decide +kernel
theorem k_X8_records {p : Program} {l : Launch} {e : Env} {R : Room} {s : State} {m : MethodId} {args : Array Value} {below : List Frame} {meth : Method} {c : Code} {H : Heap} {locs : List Loc} {cells slots : Nat} {Q : State → Prop} {cc : ByteArray} {nL pc index : Nat} {ls : Array Slot} {rest : List Value} {X : En} {M : Mem} {H0 : Heap} {own : String} {g : Nat} {M9 : Mem} (hZ : Fx p c m s args X cc nL own) (hP : wd X M H) (hS : va_S X.A H0 H locs) (hsz : ls.size = nL) (hlk : Cond.methodLink own index yX8_records ∈ lw_u) (hR : 1 + 1 ≤ R.frames ∧ 8 + (2 + 11) + 23 ≤ R.locals) (hW : (rest.map fun v => v.category).sum ≤ 8) (hdg : decode cc pc = .ok (.invokevirtual index, 3)) (hcs : cells ≤ R.cells ∧ slots ≤ R.slots) (hf : fn_X8_records g M = some M9)
    (kk : ∀ (H1 : Heap) (locs1 : List Loc), wd X M9 H1 → va_S X.A H0 H1 locs1 → W p l e R s m args below meth c H1 locs1 cells slots Q (F0 m (pc + 3) ls rest)) : W p l e R s m args below meth c H locs cells slots Q (F0 m pc ls (.ref (X.ad 61) :: rest)) :=
  cal_v (runV (As := []) (rest := rest) hZ.1 hZ.2.1 hZ.2.2.1 hZ.2.2.2.1 hZ.2.2.2.2.1 hZ.2.2.2.2.2 hP (c_X8_records g M M9 hf) wd_4_50 wd_4_49 wd_p_38 wd_1_9 hd_X8_records (by decide) rfl rfl rfl hlk hR hsz rfl hW hdg hcs) hS kk
/-! FrameRaiserModel.at -/
def fn_X8_at (x1 : Int32) (M : Mem) : Option (Int32) :=
  if inb ((11 : Int32) + x1) 2270 then
  some ((M 62 (ix ((11 : Int32) + x1))) - (1 : Int32))
  else none
theorem dX8_at_0 : decode cX8_at 0 = .ok (.aload_n 0, 1) := by decide +kernel
theorem dX8_at_1 : decode cX8_at 1 = .ok (.getfield 7, 3) := by decide +kernel
theorem dX8_at_4 : decode cX8_at 4 = .ok (.bipush 11, 2) := by decide +kernel
theorem dX8_at_6 : decode cX8_at 6 = .ok (.iload_n 1, 1) := by decide +kernel
theorem dX8_at_7 : decode cX8_at 7 = .ok (.iadd, 1) := by decide +kernel
theorem dX8_at_8 : decode cX8_at 8 = .ok (.iaload, 1) := by decide +kernel
theorem dX8_at_9 : decode cX8_at 9 = .ok (.iconst 1, 1) := by decide +kernel
theorem dX8_at_10 : decode cX8_at 10 = .ok (.isub, 1) := by decide +kernel
theorem dX8_at_11 : decode cX8_at 11 = .ok (.ireturn, 1) := by decide +kernel
set_option maxHeartbeats 4000000 in
set_option maxRecDepth 100000 in
theorem c_X8_at {l : Launch} {X : En} (x1 : Int32) (M : Mem) (r : Int32) (hf : fn_X8_at x1 M = some r) : Cn l X yX8_at cX8_at 2 (some .int) 0 0 [.ref (X.ad 61), .int x1] M (Qi X r M) := by
  refine Met.ofW (cc := cX8_at) (maxL := 2) (ret := (some .int)) (by decide) rfl ?_
  intro p e s m args below meth c s₁ B hml hv
  obtain ⟨rfl, hP, hk⟩ := hv
  have hx := B.exec
  have hb := B.bytes
  have hr := B.returns
  have hlocks := B.notSynchronized
  have hts : ∀ w ∈ lw_u, w.before ([.ref (X.ad 61), .int x1] : List Value).toArray s = true := fun w hw => atoms_spec (ws := Cond.code yX8_at cX8_at 2 (some .int) :: lw_u) B.pre w (List.mem_cons_of_mem _ hw)
  have hown : s.vm.findClass RX8 = some m.cls := findClass_of_methodNamed B.named
  have hZ : Fx p c m s ([.ref (X.ad 61), .int x1] : List Value).toArray X cX8_at 2 RX8 := ⟨hx, hb, hml, hts, hown, hk⟩
  have hS : va_S X.A s.heap s.heap [] := va_S.rf
  have hl := lv_entry ([.ref (X.ad 61), .int x1]) (n := 2) (Nat.le_of_ble_eq_true rfl)
  rw [lg_entry_eq]
  generalize (lg_sl ([.ref (X.ad 61), .int x1]) ++ List.replicate (2 - (lg_sl ([.ref (X.ad 61), .int x1])).length) Slot.unset).toArray = ls at hl ⊢
  have hl : lv_has ls 2 [(0, .ref (X.ad 61)), (1, .int x1)] := hl
  show WW p l e 0 0 s m [.ref (X.ad 61), .int x1] below meth c X (Qi X r M) s.heap [] 0 ls []
  have hP : wd X M s.heap := hP
  unfold fn_X8_at at hf
  have key : ∀ (H : Heap) (locs : List Loc), wd X M H → va_S X.A s.heap H locs → WW p l e 0 0 s m [.ref (X.ad 61), .int x1] below meth c X (Qi X r M) H locs 0 ls [] := by
    intro H locs hP hS
    refine lv_aload_n hx hb dX8_at_0 rfl (lv_at hl 0 rfl) ?_
    refine gX8_0 hx hb hts hown hk hP wd_3_192 dX8_at_1 ?_
    refine lv_bipush (v := (11 : Int32)) hx hb dX8_at_4 (by decide) ?_
    refine lv_iload_n hx hb dX8_at_6 rfl (lv_at hl 1 rfl) ?_
    refine lv_iadd hx hb dX8_at_7 ?_
    obtain ⟨q_1, hf⟩ := g_if hf
    refine ald hx hb hk hP (by decide) rfl q_1 dX8_at_8 ?_
    refine lv_iconst (v := (1 : Int32)) hx hb dX8_at_9 (by decide) ?_
    refine lv_isub hx hb dX8_at_10 ?_
    have hf := Option.some.inj hf
    exact ret_i hx hb hr hlocks hP hS hf dX8_at_11
  exact key s.heap [] hP hS
theorem hd_X8_at : Hd yX8_at 1 := by decide +kernel
theorem k_X8_at {p : Program} {l : Launch} {e : Env} {R : Room} {s : State} {m : MethodId} {args : Array Value} {below : List Frame} {meth : Method} {c : Code} {H : Heap} {locs : List Loc} {cells slots : Nat} {Q : State → Prop} {cc : ByteArray} {nL pc index : Nat} {ls : Array Slot} {rest : List Value} {X : En} {M : Mem} {H0 : Heap} {own : String} {x1 : Int32} {r : Int32} (hZ : Fx p c m s args X cc nL own) (hP : wd X M H) (hS : va_S X.A H0 H locs) (hsz : ls.size = nL) (hlk : Cond.methodLink own index yX8_at ∈ lw_u) (hR : 0 + 1 ≤ R.frames ∧ 8 + (2 + 11) + 0 ≤ R.locals) (hW : (rest.map fun v => v.category).sum ≤ 8) (hdg : decode cc pc = .ok (.invokevirtual index, 3)) (hcs : cells ≤ R.cells ∧ slots ≤ R.slots) (hf : fn_X8_at x1 M = some r)
    (kk : ∀ (H1 : Heap) (locs1 : List Loc), wd X M H1 → va_S X.A H0 H1 locs1 → W p l e R s m args below meth c H1 locs1 cells slots Q (F0 m (pc + 3) ls (.int r :: rest))) : W p l e R s m args below meth c H locs cells slots Q (F0 m pc ls (.int x1 :: .ref (X.ad 61) :: rest)) :=
  cal_i (runV (As := [.int x1]) (rest := rest) hZ.1 hZ.2.1 hZ.2.2.1 hZ.2.2.2.1 hZ.2.2.2.2.1 hZ.2.2.2.2.2 hP (c_X8_at x1 M r hf) wd_3_178 wd_3_177 wd_p_27 wd_1_9 hd_X8_at (by decide) rfl rfl rfl hlk hR hsz rfl hW hdg hcs) hS kk
/-! FrameRaiserModel.place -/
def fn_X8_place (x0 : Int32) (x1 : Int32) (x2 : Int32) : Int32 :=
  (((x2 * (6 : Int32)) + x1) * (6 : Int32)) + x0
theorem dX8_place_0 : decode cX8_place 0 = .ok (.iload_n 2, 1) := by decide +kernel
theorem dX8_place_1 : decode cX8_place 1 = .ok (.bipush 6, 2) := by decide +kernel
theorem dX8_place_3 : decode cX8_place 3 = .ok (.imul, 1) := by decide +kernel
theorem dX8_place_4 : decode cX8_place 4 = .ok (.iload_n 1, 1) := by decide +kernel
theorem dX8_place_5 : decode cX8_place 5 = .ok (.iadd, 1) := by decide +kernel
theorem dX8_place_6 : decode cX8_place 6 = .ok (.bipush 6, 2) := by decide +kernel
theorem dX8_place_8 : decode cX8_place 8 = .ok (.imul, 1) := by decide +kernel
theorem dX8_place_9 : decode cX8_place 9 = .ok (.iload_n 0, 1) := by decide +kernel
theorem dX8_place_10 : decode cX8_place 10 = .ok (.iadd, 1) := by decide +kernel
theorem dX8_place_11 : decode cX8_place 11 = .ok (.ireturn, 1) := by decide +kernel
set_option maxHeartbeats 4000000 in
set_option maxRecDepth 100000 in
theorem c_X8_place {l : Launch} {X : En} (x0 : Int32) (x1 : Int32) (x2 : Int32) (M : Mem) (r : Int32) (hf : fn_X8_place x0 x1 x2 = r) : Cn l X yX8_place cX8_place 3 (some .int) 0 0 [.int x0, .int x1, .int x2] M (Qi X r M) := by
  refine Met.ofW (cc := cX8_place) (maxL := 3) (ret := (some .int)) (by decide) rfl ?_
  intro p e s m args below meth c s₁ B hml hv
  obtain ⟨rfl, hP, hk⟩ := hv
  have hx := B.exec
  have hb := B.bytes
  have hr := B.returns
  have hlocks := B.notSynchronized
  have hts : ∀ w ∈ lw_u, w.before ([.int x0, .int x1, .int x2] : List Value).toArray s = true := fun w hw => atoms_spec (ws := Cond.code yX8_place cX8_place 3 (some .int) :: lw_u) B.pre w (List.mem_cons_of_mem _ hw)
  have hown : s.vm.findClass RX8 = some m.cls := findClass_of_methodNamed B.named
  have hZ : Fx p c m s ([.int x0, .int x1, .int x2] : List Value).toArray X cX8_place 3 RX8 := ⟨hx, hb, hml, hts, hown, hk⟩
  have hS : va_S X.A s.heap s.heap [] := va_S.rf
  have hl := lv_entry ([.int x0, .int x1, .int x2]) (n := 3) (Nat.le_of_ble_eq_true rfl)
  rw [lg_entry_eq]
  generalize (lg_sl ([.int x0, .int x1, .int x2]) ++ List.replicate (3 - (lg_sl ([.int x0, .int x1, .int x2])).length) Slot.unset).toArray = ls at hl ⊢
  have hl : lv_has ls 3 [(0, .int x0), (1, .int x1), (2, .int x2)] := hl
  show WW p l e 0 0 s m [.int x0, .int x1, .int x2] below meth c X (Qi X r M) s.heap [] 0 ls []
  have hP : wd X M s.heap := hP
  unfold fn_X8_place at hf
  have key : ∀ (H : Heap) (locs : List Loc), wd X M H → va_S X.A s.heap H locs → WW p l e 0 0 s m [.int x0, .int x1, .int x2] below meth c X (Qi X r M) H locs 0 ls [] := by
    intro H locs hP hS
    refine lv_iload_n hx hb dX8_place_0 rfl (lv_at hl 2 rfl) ?_
    refine lv_bipush (v := (6 : Int32)) hx hb dX8_place_1 (by decide) ?_
    refine lv_imul hx hb dX8_place_3 ?_
    refine lv_iload_n hx hb dX8_place_4 rfl (lv_at hl 1 rfl) ?_
    refine lv_iadd hx hb dX8_place_5 ?_
    refine lv_bipush (v := (6 : Int32)) hx hb dX8_place_6 (by decide) ?_
    refine lv_imul hx hb dX8_place_8 ?_
    refine lv_iload_n hx hb dX8_place_9 rfl (lv_at hl 0 rfl) ?_
    refine lv_iadd hx hb dX8_place_10 ?_
    exact ret_i hx hb hr hlocks hP hS hf dX8_place_11
  exact key s.heap [] hP hS
theorem hd_X8_place : Hd yX8_place 3 := by decide +kernel
theorem k_X8_place {p : Program} {l : Launch} {e : Env} {R : Room} {s : State} {m : MethodId} {args : Array Value} {below : List Frame} {meth : Method} {c : Code} {H : Heap} {locs : List Loc} {cells slots : Nat} {Q : State → Prop} {cc : ByteArray} {nL pc index : Nat} {ls : Array Slot} {rest : List Value} {X : En} {M : Mem} {H0 : Heap} {own : String} {x0 : Int32} {x1 : Int32} {x2 : Int32} (hZ : Fx p c m s args X cc nL own) (hP : wd X M H) (hS : va_S X.A H0 H locs) (hsz : ls.size = nL) (hlk : Cond.methodLink own index yX8_place ∈ lw_u) (hR : 0 + 1 ≤ R.frames ∧ 8 + (3 + 11) + 0 ≤ R.locals) (hW : (rest.map fun v => v.category).sum ≤ 8) (hdg : decode cc pc = .ok (.invokestatic index, 3)) (hcs : cells ≤ R.cells ∧ slots ≤ R.slots)
    (kk : ∀ (H1 : Heap) (locs1 : List Loc), wd X M H1 → va_S X.A H0 H1 locs1 → W p l e R s m args below meth c H1 locs1 cells slots Q (F0 m (pc + 3) ls (.int (fn_X8_place x0 x1 x2) :: rest))) : W p l e R s m args below meth c H locs cells slots Q (F0 m pc ls (.int x2 :: .int x1 :: .int x0 :: rest)) :=
  cal_i (runS (As := [.int x0, .int x1, .int x2]) (rest := rest) hZ.1 hZ.2.1 hZ.2.2.1 hZ.2.2.2.1 hZ.2.2.2.2.1 hZ.2.2.2.2.2 hP (c_X8_place x0 x1 x2 M _ rfl) wd_3_191 wd_3_190 wd_1_9 hd_X8_place rfl hlk hR hsz rfl hW hdg hcs) hS kk
/-! FrameRaiserModel.step -/
def jn_X8_step_75 (s_16 : Int32) (s_17 : Int32) (v2_14 : Int32) (v3_15 : Int32) : Int32 :=
  bv (s_17 + s_16) fun v4_18 =>
  if (fn_X8_in v2_14 (0 : Int32) (5 : Int32)) = 0 then
    ((-1 : Int32))
  else
    (if (fn_X8_in v3_15 (0 : Int32) (5 : Int32)) = 0 then
      ((-1 : Int32))
    else
      (if (fn_X8_in v4_18 (0 : Int32) (5 : Int32)) = 0 then
        ((-1 : Int32))
      else
        (fn_X8_place v2_14 v3_15 v4_18)))
def jn_X8_step_50 (s_9 : Int32) (s_10 : Int32) (v2_8 : Int32) (x0 : Int32) (x1 : Int32) : Int32 :=
  bv (s_10 + s_9) fun v3_11 =>
  if x1 = (4 : Int32) then
    (jn_X8_step_75 (1 : Int32) (x0 / (36 : Int32)) v2_8 v3_11)
  else
    (if x1 = (5 : Int32) then
      (jn_X8_step_75 (-1 : Int32) (x0 / (36 : Int32)) v2_8 v3_11)
    else
      (jn_X8_step_75 (0 : Int32) (x0 / (36 : Int32)) v2_8 v3_11))
def jn_X8_step_22 (s_3 : Int32) (s_4 : Int32) (x0 : Int32) (x1 : Int32) : Int32 :=
  bv (s_4 + s_3) fun v2_5 =>
  if x1 = (2 : Int32) then
    (jn_X8_step_50 (1 : Int32) (rm (x0 / (6 : Int32)) (6 : Int32)) v2_5 x0 x1)
  else
    (if x1 = (3 : Int32) then
      (jn_X8_step_50 (-1 : Int32) (rm (x0 / (6 : Int32)) (6 : Int32)) v2_5 x0 x1)
    else
      (jn_X8_step_50 (0 : Int32) (rm (x0 / (6 : Int32)) (6 : Int32)) v2_5 x0 x1))
def fn_X8_step (x0 : Int32) (x1 : Int32) : Int32 :=
  if x1 = 0 then
    (jn_X8_step_22 (1 : Int32) (rm x0 (6 : Int32)) x0 x1)
  else
    (if x1 = (1 : Int32) then
      (jn_X8_step_22 (-1 : Int32) (rm x0 (6 : Int32)) x0 x1)
    else
      (jn_X8_step_22 (0 : Int32) (rm x0 (6 : Int32)) x0 x1))
theorem dX8_step_0 : decode cX8_step 0 = .ok (.iload_n 0, 1) := by decide +kernel
theorem dX8_step_1 : decode cX8_step 1 = .ok (.bipush 6, 2) := by decide +kernel
theorem dX8_step_3 : decode cX8_step 3 = .ok (.irem, 1) := by decide +kernel
theorem dX8_step_4 : decode cX8_step 4 = .ok (.iload_n 1, 1) := by decide +kernel
theorem dX8_step_5 : decode cX8_step 5 = .ok (.ifCond .ne 7, 3) := by decide +kernel
theorem dX8_step_8 : decode cX8_step 8 = .ok (.iconst 1, 1) := by decide +kernel
theorem dX8_step_9 : decode cX8_step 9 = .ok (.goto 13, 3) := by decide +kernel
theorem dX8_step_12 : decode cX8_step 12 = .ok (.iload_n 1, 1) := by decide +kernel
theorem dX8_step_13 : decode cX8_step 13 = .ok (.iconst 1, 1) := by decide +kernel
theorem dX8_step_14 : decode cX8_step 14 = .ok (.if_icmp .ne 7, 3) := by decide +kernel
theorem dX8_step_17 : decode cX8_step 17 = .ok (.iconst (-1), 1) := by decide +kernel
theorem dX8_step_18 : decode cX8_step 18 = .ok (.goto 4, 3) := by decide +kernel
theorem dX8_step_21 : decode cX8_step 21 = .ok (.iconst 0, 1) := by decide +kernel
theorem dX8_step_22 : decode cX8_step 22 = .ok (.iadd, 1) := by decide +kernel
theorem dX8_step_23 : decode cX8_step 23 = .ok (.istore_n 2, 1) := by decide +kernel
theorem dX8_step_24 : decode cX8_step 24 = .ok (.iload_n 0, 1) := by decide +kernel
theorem dX8_step_25 : decode cX8_step 25 = .ok (.bipush 6, 2) := by decide +kernel
theorem dX8_step_27 : decode cX8_step 27 = .ok (.idiv, 1) := by decide +kernel
theorem dX8_step_28 : decode cX8_step 28 = .ok (.bipush 6, 2) := by decide +kernel
theorem dX8_step_30 : decode cX8_step 30 = .ok (.irem, 1) := by decide +kernel
theorem dX8_step_31 : decode cX8_step 31 = .ok (.iload_n 1, 1) := by decide +kernel
theorem dX8_step_32 : decode cX8_step 32 = .ok (.iconst 2, 1) := by decide +kernel
theorem dX8_step_33 : decode cX8_step 33 = .ok (.if_icmp .ne 7, 3) := by decide +kernel
theorem dX8_step_36 : decode cX8_step 36 = .ok (.iconst 1, 1) := by decide +kernel
theorem dX8_step_37 : decode cX8_step 37 = .ok (.goto 13, 3) := by decide +kernel
theorem dX8_step_40 : decode cX8_step 40 = .ok (.iload_n 1, 1) := by decide +kernel
theorem dX8_step_41 : decode cX8_step 41 = .ok (.iconst 3, 1) := by decide +kernel
theorem dX8_step_42 : decode cX8_step 42 = .ok (.if_icmp .ne 7, 3) := by decide +kernel
theorem dX8_step_45 : decode cX8_step 45 = .ok (.iconst (-1), 1) := by decide +kernel
theorem dX8_step_46 : decode cX8_step 46 = .ok (.goto 4, 3) := by decide +kernel
theorem dX8_step_49 : decode cX8_step 49 = .ok (.iconst 0, 1) := by decide +kernel
theorem dX8_step_50 : decode cX8_step 50 = .ok (.iadd, 1) := by decide +kernel
theorem dX8_step_51 : decode cX8_step 51 = .ok (.istore_n 3, 1) := by decide +kernel
theorem dX8_step_52 : decode cX8_step 52 = .ok (.iload_n 0, 1) := by decide +kernel
theorem dX8_step_53 : decode cX8_step 53 = .ok (.bipush 36, 2) := by decide +kernel
theorem dX8_step_55 : decode cX8_step 55 = .ok (.idiv, 1) := by decide +kernel
theorem dX8_step_56 : decode cX8_step 56 = .ok (.iload_n 1, 1) := by decide +kernel
theorem dX8_step_57 : decode cX8_step 57 = .ok (.iconst 4, 1) := by decide +kernel
theorem dX8_step_58 : decode cX8_step 58 = .ok (.if_icmp .ne 7, 3) := by decide +kernel
theorem dX8_step_61 : decode cX8_step 61 = .ok (.iconst 1, 1) := by decide +kernel
theorem dX8_step_62 : decode cX8_step 62 = .ok (.goto 13, 3) := by decide +kernel
theorem dX8_step_65 : decode cX8_step 65 = .ok (.iload_n 1, 1) := by decide +kernel
theorem dX8_step_66 : decode cX8_step 66 = .ok (.iconst 5, 1) := by decide +kernel
theorem dX8_step_67 : decode cX8_step 67 = .ok (.if_icmp .ne 7, 3) := by decide +kernel
theorem dX8_step_70 : decode cX8_step 70 = .ok (.iconst (-1), 1) := by decide +kernel
theorem dX8_step_71 : decode cX8_step 71 = .ok (.goto 4, 3) := by decide +kernel
theorem dX8_step_74 : decode cX8_step 74 = .ok (.iconst 0, 1) := by decide +kernel
theorem dX8_step_75 : decode cX8_step 75 = .ok (.iadd, 1) := by decide +kernel
theorem dX8_step_76 : decode cX8_step 76 = .ok (.istore 4, 2) := by decide +kernel
theorem dX8_step_78 : decode cX8_step 78 = .ok (.iload_n 2, 1) := by decide +kernel
theorem dX8_step_79 : decode cX8_step 79 = .ok (.iconst 0, 1) := by decide +kernel
theorem dX8_step_80 : decode cX8_step 80 = .ok (.iconst 5, 1) := by decide +kernel
theorem dX8_step_81 : decode cX8_step 81 = .ok (.invokestatic 49, 3) := by decide +kernel
theorem dX8_step_84 : decode cX8_step 84 = .ok (.ifCond .eq 32, 3) := by decide +kernel
theorem dX8_step_87 : decode cX8_step 87 = .ok (.iload_n 3, 1) := by decide +kernel
theorem dX8_step_88 : decode cX8_step 88 = .ok (.iconst 0, 1) := by decide +kernel
theorem dX8_step_89 : decode cX8_step 89 = .ok (.iconst 5, 1) := by decide +kernel
theorem dX8_step_90 : decode cX8_step 90 = .ok (.invokestatic 49, 3) := by decide +kernel
theorem dX8_step_93 : decode cX8_step 93 = .ok (.ifCond .eq 23, 3) := by decide +kernel
theorem dX8_step_96 : decode cX8_step 96 = .ok (.iload 4, 2) := by decide +kernel
theorem dX8_step_98 : decode cX8_step 98 = .ok (.iconst 0, 1) := by decide +kernel
theorem dX8_step_99 : decode cX8_step 99 = .ok (.iconst 5, 1) := by decide +kernel
theorem dX8_step_100 : decode cX8_step 100 = .ok (.invokestatic 49, 3) := by decide +kernel
theorem dX8_step_103 : decode cX8_step 103 = .ok (.ifCond .eq 13, 3) := by decide +kernel
theorem dX8_step_106 : decode cX8_step 106 = .ok (.iload_n 2, 1) := by decide +kernel
theorem dX8_step_107 : decode cX8_step 107 = .ok (.iload_n 3, 1) := by decide +kernel
theorem dX8_step_108 : decode cX8_step 108 = .ok (.iload 4, 2) := by decide +kernel
theorem dX8_step_110 : decode cX8_step 110 = .ok (.invokestatic 53, 3) := by decide +kernel
theorem dX8_step_113 : decode cX8_step 113 = .ok (.goto 4, 3) := by decide +kernel
theorem dX8_step_116 : decode cX8_step 116 = .ok (.iconst (-1), 1) := by decide +kernel
theorem dX8_step_117 : decode cX8_step 117 = .ok (.ireturn, 1) := by decide +kernel
set_option maxHeartbeats 4000000 in
set_option maxRecDepth 100000 in
theorem c_X8_step {l : Launch} {X : En} (x0 : Int32) (x1 : Int32) (M : Mem) (r : Int32) (hf : fn_X8_step x0 x1 = r) : Cn l X yX8_step cX8_step 5 (some .int) 1 22 [.int x0, .int x1] M (Qi X r M) := by
  refine Met.ofW (cc := cX8_step) (maxL := 5) (ret := (some .int)) (by decide) rfl ?_
  intro p e s m args below meth c s₁ B hml hv
  obtain ⟨rfl, hP, hk⟩ := hv
  have hx := B.exec
  have hb := B.bytes
  have hr := B.returns
  have hlocks := B.notSynchronized
  have hts : ∀ w ∈ lw_u, w.before ([.int x0, .int x1] : List Value).toArray s = true := fun w hw => atoms_spec (ws := Cond.code yX8_step cX8_step 5 (some .int) :: lw_u) B.pre w (List.mem_cons_of_mem _ hw)
  have hown : s.vm.findClass RX8 = some m.cls := findClass_of_methodNamed B.named
  have hZ : Fx p c m s ([.int x0, .int x1] : List Value).toArray X cX8_step 5 RX8 := ⟨hx, hb, hml, hts, hown, hk⟩
  have hS : va_S X.A s.heap s.heap [] := va_S.rf
  have hl := lv_entry ([.int x0, .int x1]) (n := 5) (Nat.le_of_ble_eq_true rfl)
  rw [lg_entry_eq]
  generalize (lg_sl ([.int x0, .int x1]) ++ List.replicate (5 - (lg_sl ([.int x0, .int x1])).length) Slot.unset).toArray = ls at hl ⊢
  have hl : lv_has ls 5 [(0, .int x0), (1, .int x1)] := hl
  show WW p l e 1 22 s m [.int x0, .int x1] below meth c X (Qi X r M) s.heap [] 0 ls []
  have hP : wd X M s.heap := hP
  have jn75 : ∀ (v2_14 : Int32) (v3_15 : Int32) (s_16 : Int32) (s_17 : Int32), jn_X8_step_75 s_16 s_17 v2_14 v3_15 = r → ∀ (H : Heap) (locs : List Loc) (ls : Array Slot), wd X M H → va_S X.A s.heap H locs → lv_has ls 5 [(2, .int v2_14), (3, .int v3_15)] → WW p l e 1 22 s m [.int x0, .int x1] below meth c X (Qi X r M) H locs 75 ls [.int s_16, .int s_17] := by
    intro v2_14 v3_15 s_16 s_17  hf H locs ls hP hS hl
    unfold jn_X8_step_75 at hf
    refine lv_iadd hx hb dX8_step_75 ?_
    refine lv_topi (fun v4_18 e_v4_18 => ?_)
    have hf := b_v hf e_v4_18
    refine lv_istore (lv' := [(4, .int v4_18), (2, .int v2_14), (3, .int v3_15)]) hx hb dX8_step_76 hl (by decide) rfl (fun ls hl => ?_)
    refine lv_iload_n hx hb dX8_step_78 rfl (lv_at hl 1 rfl) ?_
    refine lv_iconst (v := (0 : Int32)) hx hb dX8_step_79 (by decide) ?_
    refine lv_iconst (v := (5 : Int32)) hx hb dX8_step_80 (by decide) ?_
    refine k_X8_in hZ hP hS hl.1 wd_3_186 ⟨Nat.le_of_ble_eq_true rfl, Nat.le_of_ble_eq_true rfl⟩ (Nat.le_of_ble_eq_true rfl) dX8_step_81 ⟨Nat.zero_le _, Nat.zero_le _⟩ (fun H locs hP hS => ?_)
    refine lv_if_eq (tgt := 116) hx hb dX8_step_84 (by decide) (fun c_19 => ?_) (fun c_19 => ?_)
    · have hf := i_t c_19 hf
      refine lv_iconst (v := (-1 : Int32)) hx hb dX8_step_116 (by decide) ?_
      exact ret_i hx hb hr hlocks hP hS hf dX8_step_117
    · have hf := i_f c_19 hf
      refine lv_iload_n hx hb dX8_step_87 rfl (lv_at hl 2 rfl) ?_
      refine lv_iconst (v := (0 : Int32)) hx hb dX8_step_88 (by decide) ?_
      refine lv_iconst (v := (5 : Int32)) hx hb dX8_step_89 (by decide) ?_
      refine k_X8_in hZ hP hS hl.1 wd_3_186 ⟨Nat.le_of_ble_eq_true rfl, Nat.le_of_ble_eq_true rfl⟩ (Nat.le_of_ble_eq_true rfl) dX8_step_90 ⟨Nat.zero_le _, Nat.zero_le _⟩ (fun H locs hP hS => ?_)
      refine lv_if_eq (tgt := 116) hx hb dX8_step_93 (by decide) (fun c_20 => ?_) (fun c_20 => ?_)
      · have hf := i_t c_20 hf
        refine lv_iconst (v := (-1 : Int32)) hx hb dX8_step_116 (by decide) ?_
        exact ret_i hx hb hr hlocks hP hS hf dX8_step_117
      · have hf := i_f c_20 hf
        refine lv_iload hx hb dX8_step_96 (lv_at hl 0 rfl) ?_
        refine lv_iconst (v := (0 : Int32)) hx hb dX8_step_98 (by decide) ?_
        refine lv_iconst (v := (5 : Int32)) hx hb dX8_step_99 (by decide) ?_
        refine k_X8_in hZ hP hS hl.1 wd_3_186 ⟨Nat.le_of_ble_eq_true rfl, Nat.le_of_ble_eq_true rfl⟩ (Nat.le_of_ble_eq_true rfl) dX8_step_100 ⟨Nat.zero_le _, Nat.zero_le _⟩ (fun H locs hP hS => ?_)
        refine lv_if_eq (tgt := 116) hx hb dX8_step_103 (by decide) (fun c_21 => ?_) (fun c_21 => ?_)
        · have hf := i_t c_21 hf
          refine lv_iconst (v := (-1 : Int32)) hx hb dX8_step_116 (by decide) ?_
          exact ret_i hx hb hr hlocks hP hS hf dX8_step_117
        · have hf := i_f c_21 hf
          refine lv_iload_n hx hb dX8_step_106 rfl (lv_at hl 1 rfl) ?_
          refine lv_iload_n hx hb dX8_step_107 rfl (lv_at hl 2 rfl) ?_
          refine lv_iload hx hb dX8_step_108 (lv_at hl 0 rfl) ?_
          refine k_X8_place hZ hP hS hl.1 wd_3_189 ⟨Nat.le_of_ble_eq_true rfl, Nat.le_of_ble_eq_true rfl⟩ (Nat.le_of_ble_eq_true rfl) dX8_step_110 ⟨Nat.zero_le _, Nat.zero_le _⟩ (fun H locs hP hS => ?_)
          refine lv_goto (tgt := 117) hx hb dX8_step_113 (by decide) ?_
          exact ret_i hx hb hr hlocks hP hS hf dX8_step_117
  have jn50 : ∀ (v2_8 : Int32) (s_9 : Int32) (s_10 : Int32), jn_X8_step_50 s_9 s_10 v2_8 x0 x1 = r → ∀ (H : Heap) (locs : List Loc) (ls : Array Slot), wd X M H → va_S X.A s.heap H locs → lv_has ls 5 [(0, .int x0), (1, .int x1), (2, .int v2_8)] → WW p l e 1 22 s m [.int x0, .int x1] below meth c X (Qi X r M) H locs 50 ls [.int s_9, .int s_10] := by
    intro v2_8 s_9 s_10  hf H locs ls hP hS hl
    unfold jn_X8_step_50 at hf
    refine lv_iadd hx hb dX8_step_50 ?_
    refine lv_topi (fun v3_11 e_v3_11 => ?_)
    have hf := b_v hf e_v3_11
    refine lv_istore_n (lv' := [(3, .int v3_11), (0, .int x0), (1, .int x1), (2, .int v2_8)]) hx hb dX8_step_51 rfl hl (by decide) rfl (fun ls hl => ?_)
    refine lv_iload_n hx hb dX8_step_52 rfl (lv_at hl 1 rfl) ?_
    refine lv_bipush (v := (36 : Int32)) hx hb dX8_step_53 (by decide) ?_
    refine lv_idiv hx hb dX8_step_55 (by decide) ?_
    refine lv_iload_n hx hb dX8_step_56 rfl (lv_at hl 2 rfl) ?_
    refine lv_iconst (v := (4 : Int32)) hx hb dX8_step_57 (by decide) ?_
    refine lv_icmp_ne (tgt := 65) hx hb dX8_step_58 (by decide) (fun c_12 => ?_) (fun c_12 => ?_)
    · have hf := i_f c_12 hf
      refine lv_iload_n hx hb dX8_step_65 rfl (lv_at hl 2 rfl) ?_
      refine lv_iconst (v := (5 : Int32)) hx hb dX8_step_66 (by decide) ?_
      refine lv_icmp_ne (tgt := 74) hx hb dX8_step_67 (by decide) (fun c_13 => ?_) (fun c_13 => ?_)
      · have hf := i_f c_13 hf
        refine lv_iconst (v := (0 : Int32)) hx hb dX8_step_74 (by decide) ?_
        exact jn75 v2_8 v3_11 (0 : Int32) (x0 / (36 : Int32)) hf H locs ls hP hS (lv_sub hl [3, 0] rfl)
      · have hf := i_t c_13 hf
        refine lv_iconst (v := (-1 : Int32)) hx hb dX8_step_70 (by decide) ?_
        refine lv_goto (tgt := 75) hx hb dX8_step_71 (by decide) ?_
        exact jn75 v2_8 v3_11 (-1 : Int32) (x0 / (36 : Int32)) hf H locs ls hP hS (lv_sub hl [3, 0] rfl)
    · have hf := i_t c_12 hf
      refine lv_iconst (v := (1 : Int32)) hx hb dX8_step_61 (by decide) ?_
      refine lv_goto (tgt := 75) hx hb dX8_step_62 (by decide) ?_
      exact jn75 v2_8 v3_11 (1 : Int32) (x0 / (36 : Int32)) hf H locs ls hP hS (lv_sub hl [3, 0] rfl)
  have jn22 : ∀ (s_3 : Int32) (s_4 : Int32), jn_X8_step_22 s_3 s_4 x0 x1 = r → ∀ (H : Heap) (locs : List Loc) (ls : Array Slot), wd X M H → va_S X.A s.heap H locs → lv_has ls 5 [(0, .int x0), (1, .int x1)] → WW p l e 1 22 s m [.int x0, .int x1] below meth c X (Qi X r M) H locs 22 ls [.int s_3, .int s_4] := by
    intro s_3 s_4  hf H locs ls hP hS hl
    unfold jn_X8_step_22 at hf
    refine lv_iadd hx hb dX8_step_22 ?_
    refine lv_topi (fun v2_5 e_v2_5 => ?_)
    have hf := b_v hf e_v2_5
    refine lv_istore_n (lv' := [(2, .int v2_5), (0, .int x0), (1, .int x1)]) hx hb dX8_step_23 rfl hl (by decide) rfl (fun ls hl => ?_)
    refine lv_iload_n hx hb dX8_step_24 rfl (lv_at hl 1 rfl) ?_
    refine lv_bipush (v := (6 : Int32)) hx hb dX8_step_25 (by decide) ?_
    refine lv_idiv hx hb dX8_step_27 (by decide) ?_
    refine lv_bipush (v := (6 : Int32)) hx hb dX8_step_28 (by decide) ?_
    refine rw_irem hx hb dX8_step_30 (by decide) ?_
    refine lv_iload_n hx hb dX8_step_31 rfl (lv_at hl 2 rfl) ?_
    refine lv_iconst (v := (2 : Int32)) hx hb dX8_step_32 (by decide) ?_
    refine lv_icmp_ne (tgt := 40) hx hb dX8_step_33 (by decide) (fun c_6 => ?_) (fun c_6 => ?_)
    · have hf := i_f c_6 hf
      refine lv_iload_n hx hb dX8_step_40 rfl (lv_at hl 2 rfl) ?_
      refine lv_iconst (v := (3 : Int32)) hx hb dX8_step_41 (by decide) ?_
      refine lv_icmp_ne (tgt := 49) hx hb dX8_step_42 (by decide) (fun c_7 => ?_) (fun c_7 => ?_)
      · have hf := i_f c_7 hf
        refine lv_iconst (v := (0 : Int32)) hx hb dX8_step_49 (by decide) ?_
        exact jn50 v2_5 (0 : Int32) (rm (x0 / (6 : Int32)) (6 : Int32)) hf H locs ls hP hS (lv_sub hl [1, 2, 0] rfl)
      · have hf := i_t c_7 hf
        refine lv_iconst (v := (-1 : Int32)) hx hb dX8_step_45 (by decide) ?_
        refine lv_goto (tgt := 50) hx hb dX8_step_46 (by decide) ?_
        exact jn50 v2_5 (-1 : Int32) (rm (x0 / (6 : Int32)) (6 : Int32)) hf H locs ls hP hS (lv_sub hl [1, 2, 0] rfl)
    · have hf := i_t c_6 hf
      refine lv_iconst (v := (1 : Int32)) hx hb dX8_step_36 (by decide) ?_
      refine lv_goto (tgt := 50) hx hb dX8_step_37 (by decide) ?_
      exact jn50 v2_5 (1 : Int32) (rm (x0 / (6 : Int32)) (6 : Int32)) hf H locs ls hP hS (lv_sub hl [1, 2, 0] rfl)
  unfold fn_X8_step at hf
  have key : ∀ (H : Heap) (locs : List Loc), wd X M H → va_S X.A s.heap H locs → WW p l e 1 22 s m [.int x0, .int x1] below meth c X (Qi X r M) H locs 0 ls [] := by
    intro H locs hP hS
    refine lv_iload_n hx hb dX8_step_0 rfl (lv_at hl 0 rfl) ?_
    refine lv_bipush (v := (6 : Int32)) hx hb dX8_step_1 (by decide) ?_
    refine rw_irem hx hb dX8_step_3 (by decide) ?_
    refine lv_iload_n hx hb dX8_step_4 rfl (lv_at hl 1 rfl) ?_
    refine lv_if_ne (tgt := 12) hx hb dX8_step_5 (by decide) (fun c_1 => ?_) (fun c_1 => ?_)
    · have hf := i_f c_1 hf
      refine lv_iload_n hx hb dX8_step_12 rfl (lv_at hl 1 rfl) ?_
      refine lv_iconst (v := (1 : Int32)) hx hb dX8_step_13 (by decide) ?_
      refine lv_icmp_ne (tgt := 21) hx hb dX8_step_14 (by decide) (fun c_2 => ?_) (fun c_2 => ?_)
      · have hf := i_f c_2 hf
        refine lv_iconst (v := (0 : Int32)) hx hb dX8_step_21 (by decide) ?_
        exact jn22 (0 : Int32) (rm x0 (6 : Int32)) hf H locs ls hP hS (lv_sub hl [0, 1] rfl)
      · have hf := i_t c_2 hf
        refine lv_iconst (v := (-1 : Int32)) hx hb dX8_step_17 (by decide) ?_
        refine lv_goto (tgt := 22) hx hb dX8_step_18 (by decide) ?_
        exact jn22 (-1 : Int32) (rm x0 (6 : Int32)) hf H locs ls hP hS (lv_sub hl [0, 1] rfl)
    · have hf := i_t c_1 hf
      refine lv_iconst (v := (1 : Int32)) hx hb dX8_step_8 (by decide) ?_
      refine lv_goto (tgt := 22) hx hb dX8_step_9 (by decide) ?_
      exact jn22 (1 : Int32) (rm x0 (6 : Int32)) hf H locs ls hP hS (lv_sub hl [0, 1] rfl)
  exact key s.heap [] hP hS
theorem hd_X8_step : Hd yX8_step 2 := by decide +kernel
theorem k_X8_step {p : Program} {l : Launch} {e : Env} {R : Room} {s : State} {m : MethodId} {args : Array Value} {below : List Frame} {meth : Method} {c : Code} {H : Heap} {locs : List Loc} {cells slots : Nat} {Q : State → Prop} {cc : ByteArray} {nL pc index : Nat} {ls : Array Slot} {rest : List Value} {X : En} {M : Mem} {H0 : Heap} {own : String} {x0 : Int32} {x1 : Int32} (hZ : Fx p c m s args X cc nL own) (hP : wd X M H) (hS : va_S X.A H0 H locs) (hsz : ls.size = nL) (hlk : Cond.methodLink own index yX8_step ∈ lw_u) (hR : 1 + 1 ≤ R.frames ∧ 8 + (5 + 11) + 22 ≤ R.locals) (hW : (rest.map fun v => v.category).sum ≤ 8) (hdg : decode cc pc = .ok (.invokestatic index, 3)) (hcs : cells ≤ R.cells ∧ slots ≤ R.slots)
    (kk : ∀ (H1 : Heap) (locs1 : List Loc), wd X M H1 → va_S X.A H0 H1 locs1 → W p l e R s m args below meth c H1 locs1 cells slots Q (F0 m (pc + 3) ls (.int (fn_X8_step x0 x1) :: rest))) : W p l e R s m args below meth c H locs cells slots Q (F0 m pc ls (.int x1 :: .int x0 :: rest)) :=
  cal_i (runS (As := [.int x0, .int x1]) (rest := rest) hZ.1 hZ.2.1 hZ.2.2.1 hZ.2.2.2.1 hZ.2.2.2.2.1 hZ.2.2.2.2.2 hP (c_X8_step x0 x1 M _ rfl) wd_3_185 wd_3_184 wd_1_9 hd_X8_step rfl hlk hR hsz rfl hW hdg hcs) hS kk
/-! FrameRaiserModel.looks -/
def jn_X8_looks_51 (s_14 : Int32) (s_15 : Int32) (s_16 : Int32) (v4_13 : Int32) (x3 : Int32) (M_17 : Mem) : Option ((Int32 × Mem) ⊕ (Mem)) :=
  if inb s_16 48 then
  bv (st M_17 63 (ix s_16) (s_15 ||| s_14)) fun M_18 =>
  bv (fn_X8_step v4_13 x3) fun v4_20 =>
  some (.inl (v4_20, M_18))
  else none
def jn_X8_looks_50 (s_10 : Int32) (s_11 : Int32) (v4_9 : Int32) (x3 : Int32) (M_12 : Mem) : Option ((Int32 × Mem) ⊕ (Mem)) :=
  jn_X8_looks_51 (0 : Int32) s_10 s_11 v4_9 x3 M_12
def bd_X8_looks_7 (x1 : Int32) (x3 : Int32) : (Int32 × Mem) → Option ((Int32 × Mem) ⊕ (Mem)) :=
  u2 fun v4_2 M_3 =>
  if v4_2 < 0 then
    (some (.inr M_3))
  else
    ((fn_X8_at v4_2 M_3).bind fun r_6 =>
    if inb (((8 : Int32) * x3) + x1) 48 then
    if r_6 < 0 then
      (jn_X8_looks_50 (M_3 63 (ix (((8 : Int32) * x3) + x1))) (((8 : Int32) * x3) + x1) v4_2 x3 M_3)
    else
      (if r_6 = x1 then
        (jn_X8_looks_50 (M_3 63 (ix (((8 : Int32) * x3) + x1))) (((8 : Int32) * x3) + x1) v4_2 x3 M_3)
      else
        (jn_X8_looks_51 (sl (1 : Int32) r_6) (M_3 63 (ix (((8 : Int32) * x3) + x1))) (((8 : Int32) * x3) + x1) v4_2 x3 M_3))
    else none)
def fn_X8_looks (g : Nat) (x1 : Int32) (x2 : Int32) (x3 : Int32) (M : Mem) : Option (Mem) :=
  bv (fn_X8_step x2 x3) fun v4_1 =>
  (lpN g (bd_X8_looks_7 x1 x3) (v4_1, M)).bind (u1 fun M_4 =>
    some M_4)
theorem dX8_looks_0 : decode cX8_looks 0 = .ok (.iload_n 2, 1) := by decide +kernel
theorem dX8_looks_1 : decode cX8_looks 1 = .ok (.iload_n 3, 1) := by decide +kernel
theorem dX8_looks_2 : decode cX8_looks 2 = .ok (.invokestatic 69, 3) := by decide +kernel
theorem dX8_looks_5 : decode cX8_looks 5 = .ok (.istore 4, 2) := by decide +kernel
theorem dX8_looks_7 : decode cX8_looks 7 = .ok (.iload 4, 2) := by decide +kernel
theorem dX8_looks_9 : decode cX8_looks 9 = .ok (.ifCond .lt 55, 3) := by decide +kernel
theorem dX8_looks_12 : decode cX8_looks 12 = .ok (.aload_n 0, 1) := by decide +kernel
theorem dX8_looks_13 : decode cX8_looks 13 = .ok (.iload 4, 2) := by decide +kernel
theorem dX8_looks_15 : decode cX8_looks 15 = .ok (.invokevirtual 61, 3) := by decide +kernel
theorem dX8_looks_18 : decode cX8_looks 18 = .ok (.istore 5, 2) := by decide +kernel
theorem dX8_looks_20 : decode cX8_looks 20 = .ok (.aload_n 0, 1) := by decide +kernel
theorem dX8_looks_21 : decode cX8_looks 21 = .ok (.getfield 13, 3) := by decide +kernel
theorem dX8_looks_24 : decode cX8_looks 24 = .ok (.bipush 8, 2) := by decide +kernel
theorem dX8_looks_26 : decode cX8_looks 26 = .ok (.iload_n 3, 1) := by decide +kernel
theorem dX8_looks_27 : decode cX8_looks 27 = .ok (.imul, 1) := by decide +kernel
theorem dX8_looks_28 : decode cX8_looks 28 = .ok (.iload_n 1, 1) := by decide +kernel
theorem dX8_looks_29 : decode cX8_looks 29 = .ok (.iadd, 1) := by decide +kernel
theorem dX8_looks_30 : decode cX8_looks 30 = .ok (.dup2, 1) := by decide +kernel
theorem dX8_looks_31 : decode cX8_looks 31 = .ok (.iaload, 1) := by decide +kernel
theorem dX8_looks_32 : decode cX8_looks 32 = .ok (.iload 5, 2) := by decide +kernel
theorem dX8_looks_34 : decode cX8_looks 34 = .ok (.ifCond .lt 16, 3) := by decide +kernel
theorem dX8_looks_37 : decode cX8_looks 37 = .ok (.iload 5, 2) := by decide +kernel
theorem dX8_looks_39 : decode cX8_looks 39 = .ok (.iload_n 1, 1) := by decide +kernel
theorem dX8_looks_40 : decode cX8_looks 40 = .ok (.if_icmp .eq 10, 3) := by decide +kernel
theorem dX8_looks_43 : decode cX8_looks 43 = .ok (.iconst 1, 1) := by decide +kernel
theorem dX8_looks_44 : decode cX8_looks 44 = .ok (.iload 5, 2) := by decide +kernel
theorem dX8_looks_46 : decode cX8_looks 46 = .ok (.ishl, 1) := by decide +kernel
theorem dX8_looks_47 : decode cX8_looks 47 = .ok (.goto 4, 3) := by decide +kernel
theorem dX8_looks_50 : decode cX8_looks 50 = .ok (.iconst 0, 1) := by decide +kernel
theorem dX8_looks_51 : decode cX8_looks 51 = .ok (.ior, 1) := by decide +kernel
theorem dX8_looks_52 : decode cX8_looks 52 = .ok (.iastore, 1) := by decide +kernel
theorem dX8_looks_53 : decode cX8_looks 53 = .ok (.iload 4, 2) := by decide +kernel
theorem dX8_looks_55 : decode cX8_looks 55 = .ok (.iload_n 3, 1) := by decide +kernel
theorem dX8_looks_56 : decode cX8_looks 56 = .ok (.invokestatic 69, 3) := by decide +kernel
theorem dX8_looks_59 : decode cX8_looks 59 = .ok (.istore 4, 2) := by decide +kernel
theorem dX8_looks_61 : decode cX8_looks 61 = .ok (.goto (-54), 3) := by decide +kernel
theorem dX8_looks_64 : decode cX8_looks 64 = .ok (.return_, 1) := by decide +kernel
set_option maxHeartbeats 4000000 in
set_option maxRecDepth 100000 in
theorem c_X8_looks {l : Launch} {X : En} (g : Nat) (x1 : Int32) (x2 : Int32) (x3 : Int32) (M : Mem) (M9 : Mem) (hf : fn_X8_looks g x1 x2 x3 M = some M9) : Cn l X yX8_looks cX8_looks 6 none 2 46 [.ref (X.ad 61), .int x1, .int x2, .int x3] M (Qv X M9) := by
  refine Met.ofW (cc := cX8_looks) (maxL := 6) (ret := none) (by decide) rfl ?_
  intro p e s m args below meth c s₁ B hml hv
  obtain ⟨rfl, hP, hk⟩ := hv
  have hx := B.exec
  have hb := B.bytes
  have hr := B.returns
  have hlocks := B.notSynchronized
  have hts : ∀ w ∈ lw_u, w.before ([.ref (X.ad 61), .int x1, .int x2, .int x3] : List Value).toArray s = true := fun w hw => atoms_spec (ws := Cond.code yX8_looks cX8_looks 6 none :: lw_u) B.pre w (List.mem_cons_of_mem _ hw)
  have hown : s.vm.findClass RX8 = some m.cls := findClass_of_methodNamed B.named
  have hZ : Fx p c m s ([.ref (X.ad 61), .int x1, .int x2, .int x3] : List Value).toArray X cX8_looks 6 RX8 := ⟨hx, hb, hml, hts, hown, hk⟩
  have hS : va_S X.A s.heap s.heap [] := va_S.rf
  have hl := lv_entry ([.ref (X.ad 61), .int x1, .int x2, .int x3]) (n := 6) (Nat.le_of_ble_eq_true rfl)
  rw [lg_entry_eq]
  generalize (lg_sl ([.ref (X.ad 61), .int x1, .int x2, .int x3]) ++ List.replicate (6 - (lg_sl ([.ref (X.ad 61), .int x1, .int x2, .int x3])).length) Slot.unset).toArray = ls at hl ⊢
  have hl : lv_has ls 6 [(0, .ref (X.ad 61)), (1, .int x1), (2, .int x2), (3, .int x3)] := hl
  show WW p l e 2 46 s m [.ref (X.ad 61), .int x1, .int x2, .int x3] below meth c X (Qv X M9) s.heap [] 0 ls []
  have hP : wd X M s.heap := hP
  unfold fn_X8_looks at hf
  have key : ∀ (H : Heap) (locs : List Loc), wd X M H → va_S X.A s.heap H locs → WW p l e 2 46 s m [.ref (X.ad 61), .int x1, .int x2, .int x3] below meth c X (Qv X M9) H locs 0 ls [] := by
    intro H locs hP hS
    refine lv_iload_n hx hb dX8_looks_0 rfl (lv_at hl 2 rfl) ?_
    refine lv_iload_n hx hb dX8_looks_1 rfl (lv_at hl 3 rfl) ?_
    refine k_X8_step hZ hP hS hl.1 wd_3_183 ⟨Nat.le_of_ble_eq_true rfl, Nat.le_of_ble_eq_true rfl⟩ (Nat.le_of_ble_eq_true rfl) dX8_looks_2 ⟨Nat.zero_le _, Nat.zero_le _⟩ (fun H locs hP hS => ?_)
    refine lv_topi (fun v4_1 e_v4_1 => ?_)
    have hf := b_v hf e_v4_1
    refine lv_istore (lv' := [(4, .int v4_1), (0, .ref (X.ad 61)), (1, .int x1), (2, .int x2), (3, .int x3)]) hx hb dX8_looks_5 hl (by decide) rfl (fun ls hl => ?_)
    obtain ⟨o7, ho7, hf⟩ := b_d hf
    refine lp_rule (b := bd_X8_looks_7 x1 x3) (P := fun w : Int32 × Mem => ∀ (H : Heap) (locs : List Loc) (ls : Array Slot), wd X w.2 H → va_S X.A s.heap H locs → lv_has ls 6 [(4, .int w.1), (0, .ref (X.ad 61)), (1, .int x1), (3, .int x3)] → WW p l e 2 46 s m [.ref (X.ad 61), .int x1, .int x2, .int x3] below meth c X (Qv X M9) H locs 7 ls []) (K := fun o => ∀ (M_4 : Mem), o = M_4 → ∀ (H : Heap) (locs : List Loc) (ls : Array Slot), wd X M_4 H → va_S X.A s.heap H locs → lv_has ls 6 [] → WW p l e 2 46 s m [.ref (X.ad 61), .int x1, .int x2, .int x3] below meth c X (Qv X M9) H locs 64 ls []) ?_ g (v4_1, M) o7 ho7 ?_ H locs ls hP hS (lv_sub hl [0, 1, 2, 4] rfl)
    · rintro ⟨v4_2, M_3⟩ o hf hkc7 hke7 H locs ls hP hS hl
      have hf := u2_e hf
      have jn51 : ∀ (v4_13 : Int32) (s_14 : Int32) (s_15 : Int32) (s_16 : Int32) (M_17 : Mem), jn_X8_looks_51 s_14 s_15 s_16 v4_13 x3 M_17 = some o → ∀ (H : Heap) (locs : List Loc) (ls : Array Slot), wd X M_17 H → va_S X.A s.heap H locs → lv_has ls 6 [(0, .ref (X.ad 61)), (1, .int x1), (3, .int x3), (4, .int v4_13)] → WW p l e 2 46 s m [.ref (X.ad 61), .int x1, .int x2, .int x3] below meth c X (Qv X M9) H locs 51 ls [.int s_14, .int s_15, .int s_16, .ref (X.ad 63)] := by
        intro v4_13 s_14 s_15 s_16 M_17 hf H locs ls hP hS hl
        unfold jn_X8_looks_51 at hf
        refine lv_ior hx hb dX8_looks_51 ?_
        obtain ⟨q_19, hf⟩ := g_if hf
        refine ast hx hb hk hP hS (by decide) (fun _ => rfl) q_19 dX8_looks_52 (fun H locs M_18 e_M_18 hP hS => ?_)
        have hf := b_v hf e_M_18
        refine lv_iload hx hb dX8_looks_53 (lv_at hl 3 rfl) ?_
        refine lv_iload_n hx hb dX8_looks_55 rfl (lv_at hl 2 rfl) ?_
        refine k_X8_step hZ hP hS hl.1 wd_3_183 ⟨Nat.le_of_ble_eq_true rfl, Nat.le_of_ble_eq_true rfl⟩ (Nat.le_of_ble_eq_true rfl) dX8_looks_56 ⟨Nat.zero_le _, Nat.zero_le _⟩ (fun H locs hP hS => ?_)
        refine lv_topi (fun v4_20 e_v4_20 => ?_)
        have hf := b_v hf e_v4_20
        refine lv_istore (lv' := [(4, .int v4_20), (0, .ref (X.ad 61)), (1, .int x1), (3, .int x3)]) hx hb dX8_looks_59 hl (by decide) rfl (fun ls hl => ?_)
        refine lv_goto (tgt := 7) hx hb dX8_looks_61 (by decide) ?_
        exact hkc7 _ (Option.some.inj hf).symm H locs ls hP hS (lv_sub hl [0, 1, 2, 3] rfl)
      have jn50 : ∀ (v4_9 : Int32) (s_10 : Int32) (s_11 : Int32) (M_12 : Mem), jn_X8_looks_50 s_10 s_11 v4_9 x3 M_12 = some o → ∀ (H : Heap) (locs : List Loc) (ls : Array Slot), wd X M_12 H → va_S X.A s.heap H locs → lv_has ls 6 [(0, .ref (X.ad 61)), (1, .int x1), (3, .int x3), (4, .int v4_9)] → WW p l e 2 46 s m [.ref (X.ad 61), .int x1, .int x2, .int x3] below meth c X (Qv X M9) H locs 50 ls [.int s_10, .int s_11, .ref (X.ad 63)] := by
        intro v4_9 s_10 s_11 M_12 hf H locs ls hP hS hl
        unfold jn_X8_looks_50 at hf
        refine lv_iconst (v := (0 : Int32)) hx hb dX8_looks_50 (by decide) ?_
        exact jn51 v4_9 (0 : Int32) s_10 s_11 M_12 hf H locs ls hP hS (lv_sub hl [0, 1, 2, 3] rfl)
      refine lv_iload hx hb dX8_looks_7 (lv_at hl 0 rfl) ?_
      refine lv_if_lt (tgt := 64) hx hb dX8_looks_9 (by decide) (fun c_5 => ?_) (fun c_5 => ?_)
      · have hf := i_t c_5 hf
        exact hke7 _ (Option.some.inj hf).symm _ rfl H locs ls hP hS (lv_sub hl [] rfl)
      · have hf := i_f c_5 hf
        refine lv_aload_n hx hb dX8_looks_12 rfl (lv_at hl 1 rfl) ?_
        refine lv_iload hx hb dX8_looks_13 (lv_at hl 0 rfl) ?_
        obtain ⟨r_6, h_r_6, hf⟩ := b_d hf
        refine k_X8_at hZ hP hS hl.1 wd_3_175 ⟨Nat.le_of_ble_eq_true rfl, Nat.le_of_ble_eq_true rfl⟩ (Nat.le_of_ble_eq_true rfl) dX8_looks_15 ⟨Nat.zero_le _, Nat.zero_le _⟩ h_r_6 (fun H locs hP hS => ?_)
        refine lv_istore (lv' := [(5, .int r_6), (4, .int v4_2), (0, .ref (X.ad 61)), (1, .int x1), (3, .int x3)]) hx hb dX8_looks_18 hl (by decide) rfl (fun ls hl => ?_)
        refine lv_aload_n hx hb dX8_looks_20 rfl (lv_at hl 2 rfl) ?_
        refine gX8_2 hx hb hts hown hk hP wd_3_194 dX8_looks_21 ?_
        refine lv_bipush (v := (8 : Int32)) hx hb dX8_looks_24 (by decide) ?_
        refine lv_iload_n hx hb dX8_looks_26 rfl (lv_at hl 4 rfl) ?_
        refine lv_imul hx hb dX8_looks_27 ?_
        refine lv_iload_n hx hb dX8_looks_28 rfl (lv_at hl 3 rfl) ?_
        refine lv_iadd hx hb dX8_looks_29 ?_
        refine lv_dup2_11 hx hb dX8_looks_30 rfl rfl ?_
        obtain ⟨q_7, hf⟩ := g_if hf
        refine ald hx hb hk hP (by decide) rfl q_7 dX8_looks_31 ?_
        refine lv_iload hx hb dX8_looks_32 (lv_at hl 0 rfl) ?_
        refine lv_if_lt (tgt := 50) hx hb dX8_looks_34 (by decide) (fun c_8 => ?_) (fun c_8 => ?_)
        · have hf := i_t c_8 hf
          exact jn50 v4_2 (M_3 63 (ix (((8 : Int32) * x3) + x1))) (((8 : Int32) * x3) + x1) M_3 hf H locs ls hP hS (lv_sub hl [2, 3, 4, 1] rfl)
        · have hf := i_f c_8 hf
          refine lv_iload hx hb dX8_looks_37 (lv_at hl 0 rfl) ?_
          refine lv_iload_n hx hb dX8_looks_39 rfl (lv_at hl 3 rfl) ?_
          refine lv_icmp_eq (tgt := 50) hx hb dX8_looks_40 (by decide) (fun c_21 => ?_) (fun c_21 => ?_)
          · have hf := i_t c_21 hf
            exact jn50 v4_2 (M_3 63 (ix (((8 : Int32) * x3) + x1))) (((8 : Int32) * x3) + x1) M_3 hf H locs ls hP hS (lv_sub hl [2, 3, 4, 1] rfl)
          · have hf := i_f c_21 hf
            refine lv_iconst (v := (1 : Int32)) hx hb dX8_looks_43 (by decide) ?_
            refine lv_iload hx hb dX8_looks_44 (lv_at hl 0 rfl) ?_
            refine rw_ishl hx hb dX8_looks_46 ?_
            refine lv_goto (tgt := 51) hx hb dX8_looks_47 (by decide) ?_
            exact jn51 v4_2 (sl (1 : Int32) r_6) (M_3 63 (ix (((8 : Int32) * x3) + x1))) (((8 : Int32) * x3) + x1) M_3 hf H locs ls hP hS (lv_sub hl [2, 3, 4, 1] rfl)
    · intro M_4 e H locs ls hP hS hl
      subst o7
      have hf := u1_e hf
      have hf := Option.some.inj hf
      rw [hf] at hP
      exact ret_v hx hb hr hlocks hP hS dX8_looks_64
  exact key s.heap [] hP hS
theorem hd_X8_looks : Hd yX8_looks 3 := by decide +kernel
theorem k_X8_looks {p : Program} {l : Launch} {e : Env} {R : Room} {s : State} {m : MethodId} {args : Array Value} {below : List Frame} {meth : Method} {c : Code} {H : Heap} {locs : List Loc} {cells slots : Nat} {Q : State → Prop} {cc : ByteArray} {nL pc index : Nat} {ls : Array Slot} {rest : List Value} {X : En} {M : Mem} {H0 : Heap} {own : String} {g : Nat} {x1 : Int32} {x2 : Int32} {x3 : Int32} {M9 : Mem} (hZ : Fx p c m s args X cc nL own) (hP : wd X M H) (hS : va_S X.A H0 H locs) (hsz : ls.size = nL) (hlk : Cond.methodLink own index yX8_looks ∈ lw_u) (hR : 2 + 1 ≤ R.frames ∧ 8 + (6 + 11) + 46 ≤ R.locals) (hW : (rest.map fun v => v.category).sum ≤ 8) (hdg : decode cc pc = .ok (.invokevirtual index, 3)) (hcs : cells ≤ R.cells ∧ slots ≤ R.slots) (hf : fn_X8_looks g x1 x2 x3 M = some M9)
    (kk : ∀ (H1 : Heap) (locs1 : List Loc), wd X M9 H1 → va_S X.A H0 H1 locs1 → W p l e R s m args below meth c H1 locs1 cells slots Q (F0 m (pc + 3) ls rest)) : W p l e R s m args below meth c H locs cells slots Q (F0 m pc ls (.int x3 :: .int x2 :: .int x1 :: .ref (X.ad 61) :: rest)) :=
  cal_v (runV (As := [.int x1, .int x2, .int x3]) (rest := rest) hZ.1 hZ.2.1 hZ.2.2.1 hZ.2.2.2.1 hZ.2.2.2.2.1 hZ.2.2.2.2.2 hP (c_X8_looks g x1 x2 x3 M M9 hf) wd_3_182 wd_3_181 wd_p_28 wd_1_9 hd_X8_looks (by decide) rfl rfl rfl hlk hR hsz rfl hW hdg hcs) hS kk
/-! FrameRaiserModel.lays -/
def bd_X8_lays_2 : (Int32 × Mem) → Option ((Int32 × Mem) ⊕ (Mem)) :=
  u2 fun v1_1 M_2 =>
  if (48 : Int32) ≤ v1_1 then
    (some (.inr M_2))
  else
    (if inb v1_1 48 then
    bv (st M_2 63 (ix v1_1) (0 : Int32)) fun M_5 =>
    some (.inl (v1_1 + (1 : Int32), M_5))
    else none)
def bd_X8_lays_23 : (Int32 × Mem) → Option ((Int32 × Mem) ⊕ (Mem)) :=
  u2 fun v1_7 M_8 =>
  if (8 : Int32) ≤ v1_7 then
    (some (.inr M_8))
  else
    (if inb v1_7 8 then
    bv (st M_8 64 (ix v1_7) (0 : Int32)) fun M_11 =>
    if inb v1_7 8 then
    bv (st M_11 65 (ix v1_7) (0 : Int32)) fun M_13 =>
    some (.inl (v1_7 + (1 : Int32), M_13))
    else none
    else none)
def bd_X8_lays_141 (g : Nat) (v1_48 : Int32) (v2_49 : Int32) : (Int32 × Mem) → Option ((Int32 × Mem) ⊕ (Mem)) :=
  u2 fun v4_56 M_57 =>
  if (6 : Int32) ≤ v4_56 then
    (some (.inr M_57))
  else
    ((fn_X8_looks g v2_49 v1_48 v4_56 M_57).bind fun M_60 =>
    some (.inl (v4_56 + (1 : Int32), M_60)))
def jn_X8_lays_136 (g : Nat) (s_50 : Int32) (s_51 : Int32) (s_52 : Int32) (v1_48 : Int32) (v2_49 : Int32) (M_53 : Mem) : Option ((Int32 × Mem) ⊕ (Mem)) :=
  if inb s_52 8 then
  bv (st M_53 64 (ix s_52) (s_51 ||| s_50)) fun M_54 =>
  (lpN g (bd_X8_lays_141 g v1_48 v2_49) ((0 : Int32), M_54)).bind (u1 fun M_58 =>
    some (.inl (v1_48 + (1 : Int32), M_58)))
  else none
def jn_X8_lays_135 (g : Nat) (s_45 : Int32) (s_46 : Int32) (v1_43 : Int32) (v2_44 : Int32) (M_47 : Mem) : Option ((Int32 × Mem) ⊕ (Mem)) :=
  jn_X8_lays_136 g (0 : Int32) s_45 s_46 v1_43 v2_44 M_47
def jn_X8_lays_112 (g : Nat) (s_39 : Int32) (v1_37 : Int32) (v2_38 : Int32) (M_40 : Mem) : Option ((Int32 × Mem) ⊕ (Mem)) :=
  if inb v2_38 8 then
  if s_39 < 0 then
    (jn_X8_lays_135 g (M_40 64 (ix v2_38)) v2_38 v1_37 v2_38 M_40)
  else
    (if s_39 = v2_38 then
      (jn_X8_lays_135 g (M_40 64 (ix v2_38)) v2_38 v1_37 v2_38 M_40)
    else
      (jn_X8_lays_136 g (sl (1 : Int32) s_39) (M_40 64 (ix v2_38)) v2_38 v1_37 v2_38 M_40))
  else none
def jn_X8_lays_93 (g : Nat) (s_29 : Int32) (s_30 : Int32) (v1_27 : Int32) (v2_28 : Int32) (M_31 : Mem) : Option ((Int32 × Mem) ⊕ (Mem)) :=
  if inb s_30 8 then
  if isZ s_29 then
  bv (st M_31 65 (ix s_30) s_29) fun M_32 =>
  if (36 : Int32) ≤ v1_27 then
    ((fn_X8_at (v1_27 - (36 : Int32)) M_32).bind fun r_36 =>
    jn_X8_lays_112 g r_36 v1_27 v2_28 M_32)
  else
    (jn_X8_lays_112 g (-1 : Int32) v1_27 v2_28 M_32)
  else none
  else none
def jn_X8_lays_88 (g : Nat) (s_25 : Int32) (v1_23 : Int32) (v2_24 : Int32) (M_26 : Mem) : Option ((Int32 × Mem) ⊕ (Mem)) :=
  jn_X8_lays_93 g (1 : Int32) s_25 v1_23 v2_24 M_26
def bd_X8_lays_51 (g : Nat) : (Int32 × Mem) → Option ((Int32 × Mem) ⊕ (Mem)) :=
  u2 fun v1_15 M_16 =>
  if (216 : Int32) ≤ v1_15 then
    (some (.inr M_16))
  else
    ((fn_X8_at v1_15 M_16).bind fun r_19 =>
    if r_19 < 0 then
      (some (.inl (v1_15 + (1 : Int32), M_16)))
    else
      (if inb r_19 8 then
      if (M_16 65 (ix r_19)) = 0 then
        (if (36 : Int32) ≤ v1_15 then
          (jn_X8_lays_93 g (0 : Int32) r_19 v1_15 r_19 M_16)
        else
          (jn_X8_lays_88 g r_19 v1_15 r_19 M_16))
      else
        (jn_X8_lays_88 g r_19 v1_15 r_19 M_16)
      else none))
def fn_X8_lays (g : Nat) (M : Mem) : Option (Mem) :=
  (lpN g bd_X8_lays_2 ((0 : Int32), M)).bind (u1 fun M_3 =>
    (lpN g bd_X8_lays_23 ((0 : Int32), M_3)).bind (u1 fun M_9 =>
      (lpN g (bd_X8_lays_51 g) ((0 : Int32), M_9)).bind (u1 fun M_17 =>
        some M_17)))
theorem dX8_lays_0 : decode cX8_lays 0 = .ok (.iconst 0, 1) := by decide +kernel
theorem dX8_lays_1 : decode cX8_lays 1 = .ok (.istore_n 1, 1) := by decide +kernel
theorem dX8_lays_2 : decode cX8_lays 2 = .ok (.iload_n 1, 1) := by decide +kernel
theorem dX8_lays_3 : decode cX8_lays 3 = .ok (.bipush 48, 2) := by decide +kernel
theorem dX8_lays_5 : decode cX8_lays 5 = .ok (.if_icmp .ge 16, 3) := by decide +kernel
theorem dX8_lays_8 : decode cX8_lays 8 = .ok (.aload_n 0, 1) := by decide +kernel
theorem dX8_lays_9 : decode cX8_lays 9 = .ok (.getfield 13, 3) := by decide +kernel
theorem dX8_lays_12 : decode cX8_lays 12 = .ok (.iload_n 1, 1) := by decide +kernel
theorem dX8_lays_13 : decode cX8_lays 13 = .ok (.iconst 0, 1) := by decide +kernel
theorem dX8_lays_14 : decode cX8_lays 14 = .ok (.iastore, 1) := by decide +kernel
theorem dX8_lays_15 : decode cX8_lays 15 = .ok (.iinc 1 1, 3) := by decide +kernel
theorem dX8_lays_18 : decode cX8_lays 18 = .ok (.goto (-16), 3) := by decide +kernel
theorem dX8_lays_21 : decode cX8_lays 21 = .ok (.iconst 0, 1) := by decide +kernel
theorem dX8_lays_22 : decode cX8_lays 22 = .ok (.istore_n 1, 1) := by decide +kernel
theorem dX8_lays_23 : decode cX8_lays 23 = .ok (.iload_n 1, 1) := by decide +kernel
theorem dX8_lays_24 : decode cX8_lays 24 = .ok (.bipush 8, 2) := by decide +kernel
theorem dX8_lays_26 : decode cX8_lays 26 = .ok (.if_icmp .ge 23, 3) := by decide +kernel
theorem dX8_lays_29 : decode cX8_lays 29 = .ok (.aload_n 0, 1) := by decide +kernel
theorem dX8_lays_30 : decode cX8_lays 30 = .ok (.getfield 16, 3) := by decide +kernel
theorem dX8_lays_33 : decode cX8_lays 33 = .ok (.iload_n 1, 1) := by decide +kernel
theorem dX8_lays_34 : decode cX8_lays 34 = .ok (.iconst 0, 1) := by decide +kernel
theorem dX8_lays_35 : decode cX8_lays 35 = .ok (.iastore, 1) := by decide +kernel
theorem dX8_lays_36 : decode cX8_lays 36 = .ok (.aload_n 0, 1) := by decide +kernel
theorem dX8_lays_37 : decode cX8_lays 37 = .ok (.getfield 19, 3) := by decide +kernel
theorem dX8_lays_40 : decode cX8_lays 40 = .ok (.iload_n 1, 1) := by decide +kernel
theorem dX8_lays_41 : decode cX8_lays 41 = .ok (.iconst 0, 1) := by decide +kernel
theorem dX8_lays_42 : decode cX8_lays 42 = .ok (.bastore, 1) := by decide +kernel
theorem dX8_lays_43 : decode cX8_lays 43 = .ok (.iinc 1 1, 3) := by decide +kernel
theorem dX8_lays_46 : decode cX8_lays 46 = .ok (.goto (-23), 3) := by decide +kernel
theorem dX8_lays_49 : decode cX8_lays 49 = .ok (.iconst 0, 1) := by decide +kernel
theorem dX8_lays_50 : decode cX8_lays 50 = .ok (.istore_n 1, 1) := by decide +kernel
theorem dX8_lays_51 : decode cX8_lays 51 = .ok (.iload_n 1, 1) := by decide +kernel
theorem dX8_lays_52 : decode cX8_lays 52 = .ok (.sipush 216, 3) := by decide +kernel
theorem dX8_lays_55 : decode cX8_lays 55 = .ok (.if_icmp .ge 113, 3) := by decide +kernel
theorem dX8_lays_58 : decode cX8_lays 58 = .ok (.aload_n 0, 1) := by decide +kernel
theorem dX8_lays_59 : decode cX8_lays 59 = .ok (.iload_n 1, 1) := by decide +kernel
theorem dX8_lays_60 : decode cX8_lays 60 = .ok (.invokevirtual 61, 3) := by decide +kernel
theorem dX8_lays_63 : decode cX8_lays 63 = .ok (.istore_n 2, 1) := by decide +kernel
theorem dX8_lays_64 : decode cX8_lays 64 = .ok (.iload_n 2, 1) := by decide +kernel
theorem dX8_lays_65 : decode cX8_lays 65 = .ok (.ifCond .lt 97, 3) := by decide +kernel
theorem dX8_lays_68 : decode cX8_lays 68 = .ok (.aload_n 0, 1) := by decide +kernel
theorem dX8_lays_69 : decode cX8_lays 69 = .ok (.getfield 19, 3) := by decide +kernel
theorem dX8_lays_72 : decode cX8_lays 72 = .ok (.iload_n 2, 1) := by decide +kernel
theorem dX8_lays_73 : decode cX8_lays 73 = .ok (.aload_n 0, 1) := by decide +kernel
theorem dX8_lays_74 : decode cX8_lays 74 = .ok (.getfield 19, 3) := by decide +kernel
theorem dX8_lays_77 : decode cX8_lays 77 = .ok (.iload_n 2, 1) := by decide +kernel
theorem dX8_lays_78 : decode cX8_lays 78 = .ok (.baload, 1) := by decide +kernel
theorem dX8_lays_79 : decode cX8_lays 79 = .ok (.ifCond .ne 9, 3) := by decide +kernel
theorem dX8_lays_82 : decode cX8_lays 82 = .ok (.iload_n 1, 1) := by decide +kernel
theorem dX8_lays_83 : decode cX8_lays 83 = .ok (.bipush 36, 2) := by decide +kernel
theorem dX8_lays_85 : decode cX8_lays 85 = .ok (.if_icmp .ge 7, 3) := by decide +kernel
theorem dX8_lays_88 : decode cX8_lays 88 = .ok (.iconst 1, 1) := by decide +kernel
theorem dX8_lays_89 : decode cX8_lays 89 = .ok (.goto 4, 3) := by decide +kernel
theorem dX8_lays_92 : decode cX8_lays 92 = .ok (.iconst 0, 1) := by decide +kernel
theorem dX8_lays_93 : decode cX8_lays 93 = .ok (.bastore, 1) := by decide +kernel
theorem dX8_lays_94 : decode cX8_lays 94 = .ok (.iload_n 1, 1) := by decide +kernel
theorem dX8_lays_95 : decode cX8_lays 95 = .ok (.bipush 36, 2) := by decide +kernel
theorem dX8_lays_97 : decode cX8_lays 97 = .ok (.if_icmp .ge 7, 3) := by decide +kernel
theorem dX8_lays_100 : decode cX8_lays 100 = .ok (.iconst (-1), 1) := by decide +kernel
theorem dX8_lays_101 : decode cX8_lays 101 = .ok (.goto 11, 3) := by decide +kernel
theorem dX8_lays_104 : decode cX8_lays 104 = .ok (.aload_n 0, 1) := by decide +kernel
theorem dX8_lays_105 : decode cX8_lays 105 = .ok (.iload_n 1, 1) := by decide +kernel
theorem dX8_lays_106 : decode cX8_lays 106 = .ok (.bipush 36, 2) := by decide +kernel
theorem dX8_lays_108 : decode cX8_lays 108 = .ok (.isub, 1) := by decide +kernel
theorem dX8_lays_109 : decode cX8_lays 109 = .ok (.invokevirtual 61, 3) := by decide +kernel
theorem dX8_lays_112 : decode cX8_lays 112 = .ok (.istore_n 3, 1) := by decide +kernel
theorem dX8_lays_113 : decode cX8_lays 113 = .ok (.aload_n 0, 1) := by decide +kernel
theorem dX8_lays_114 : decode cX8_lays 114 = .ok (.getfield 16, 3) := by decide +kernel
theorem dX8_lays_117 : decode cX8_lays 117 = .ok (.iload_n 2, 1) := by decide +kernel
theorem dX8_lays_118 : decode cX8_lays 118 = .ok (.dup2, 1) := by decide +kernel
theorem dX8_lays_119 : decode cX8_lays 119 = .ok (.iaload, 1) := by decide +kernel
theorem dX8_lays_120 : decode cX8_lays 120 = .ok (.iload_n 3, 1) := by decide +kernel
theorem dX8_lays_121 : decode cX8_lays 121 = .ok (.ifCond .lt 14, 3) := by decide +kernel
theorem dX8_lays_124 : decode cX8_lays 124 = .ok (.iload_n 3, 1) := by decide +kernel
theorem dX8_lays_125 : decode cX8_lays 125 = .ok (.iload_n 2, 1) := by decide +kernel
theorem dX8_lays_126 : decode cX8_lays 126 = .ok (.if_icmp .eq 9, 3) := by decide +kernel
theorem dX8_lays_129 : decode cX8_lays 129 = .ok (.iconst 1, 1) := by decide +kernel
theorem dX8_lays_130 : decode cX8_lays 130 = .ok (.iload_n 3, 1) := by decide +kernel
theorem dX8_lays_131 : decode cX8_lays 131 = .ok (.ishl, 1) := by decide +kernel
theorem dX8_lays_132 : decode cX8_lays 132 = .ok (.goto 4, 3) := by decide +kernel
theorem dX8_lays_135 : decode cX8_lays 135 = .ok (.iconst 0, 1) := by decide +kernel
theorem dX8_lays_136 : decode cX8_lays 136 = .ok (.ior, 1) := by decide +kernel
theorem dX8_lays_137 : decode cX8_lays 137 = .ok (.iastore, 1) := by decide +kernel
theorem dX8_lays_138 : decode cX8_lays 138 = .ok (.iconst 0, 1) := by decide +kernel
theorem dX8_lays_139 : decode cX8_lays 139 = .ok (.istore 4, 2) := by decide +kernel
theorem dX8_lays_141 : decode cX8_lays 141 = .ok (.iload 4, 2) := by decide +kernel
theorem dX8_lays_143 : decode cX8_lays 143 = .ok (.bipush 6, 2) := by decide +kernel
theorem dX8_lays_145 : decode cX8_lays 145 = .ok (.if_icmp .ge 17, 3) := by decide +kernel
theorem dX8_lays_148 : decode cX8_lays 148 = .ok (.aload_n 0, 1) := by decide +kernel
theorem dX8_lays_149 : decode cX8_lays 149 = .ok (.iload_n 2, 1) := by decide +kernel
theorem dX8_lays_150 : decode cX8_lays 150 = .ok (.iload_n 1, 1) := by decide +kernel
theorem dX8_lays_151 : decode cX8_lays 151 = .ok (.iload 4, 2) := by decide +kernel
theorem dX8_lays_153 : decode cX8_lays 153 = .ok (.invokevirtual 65, 3) := by decide +kernel
theorem dX8_lays_156 : decode cX8_lays 156 = .ok (.iinc 4 1, 3) := by decide +kernel
theorem dX8_lays_159 : decode cX8_lays 159 = .ok (.goto (-18), 3) := by decide +kernel
theorem dX8_lays_162 : decode cX8_lays 162 = .ok (.iinc 1 1, 3) := by decide +kernel
theorem dX8_lays_165 : decode cX8_lays 165 = .ok (.goto (-114), 3) := by decide +kernel
theorem dX8_lays_168 : decode cX8_lays 168 = .ok (.return_, 1) := by decide +kernel
set_option maxHeartbeats 4000000 in
set_option maxRecDepth 100000 in
theorem c_X8_lays {l : Launch} {X : En} (g : Nat) (M : Mem) (M9 : Mem) (hf : fn_X8_lays g M = some M9) : Cn l X yX8_lays cX8_lays 5 none 3 71 [.ref (X.ad 61)] M (Qv X M9) := by
  refine Met.ofW (cc := cX8_lays) (maxL := 5) (ret := none) (by decide) rfl ?_
  intro p e s m args below meth c s₁ B hml hv
  obtain ⟨rfl, hP, hk⟩ := hv
  have hx := B.exec
  have hb := B.bytes
  have hr := B.returns
  have hlocks := B.notSynchronized
  have hts : ∀ w ∈ lw_u, w.before ([.ref (X.ad 61)] : List Value).toArray s = true := fun w hw => atoms_spec (ws := Cond.code yX8_lays cX8_lays 5 none :: lw_u) B.pre w (List.mem_cons_of_mem _ hw)
  have hown : s.vm.findClass RX8 = some m.cls := findClass_of_methodNamed B.named
  have hZ : Fx p c m s ([.ref (X.ad 61)] : List Value).toArray X cX8_lays 5 RX8 := ⟨hx, hb, hml, hts, hown, hk⟩
  have hS : va_S X.A s.heap s.heap [] := va_S.rf
  have hl := lv_entry ([.ref (X.ad 61)]) (n := 5) (Nat.le_of_ble_eq_true rfl)
  rw [lg_entry_eq]
  generalize (lg_sl ([.ref (X.ad 61)]) ++ List.replicate (5 - (lg_sl ([.ref (X.ad 61)])).length) Slot.unset).toArray = ls at hl ⊢
  have hl : lv_has ls 5 [(0, .ref (X.ad 61))] := hl
  show WW p l e 3 71 s m [.ref (X.ad 61)] below meth c X (Qv X M9) s.heap [] 0 ls []
  have hP : wd X M s.heap := hP
  unfold fn_X8_lays at hf
  have key : ∀ (H : Heap) (locs : List Loc), wd X M H → va_S X.A s.heap H locs → WW p l e 3 71 s m [.ref (X.ad 61)] below meth c X (Qv X M9) H locs 0 ls [] := by
    intro H locs hP hS
    refine lv_iconst (v := (0 : Int32)) hx hb dX8_lays_0 (by decide) ?_
    refine lv_istore_n (lv' := [(1, .int (0 : Int32)), (0, .ref (X.ad 61))]) hx hb dX8_lays_1 rfl hl (by decide) rfl (fun ls hl => ?_)
    obtain ⟨o2, ho2, hf⟩ := b_d hf
    refine lp_rule (b := bd_X8_lays_2) (P := fun w : Int32 × Mem => ∀ (H : Heap) (locs : List Loc) (ls : Array Slot), wd X w.2 H → va_S X.A s.heap H locs → lv_has ls 5 [(1, .int w.1), (0, .ref (X.ad 61))] → WW p l e 3 71 s m [.ref (X.ad 61)] below meth c X (Qv X M9) H locs 2 ls []) (K := fun o => ∀ (M_3 : Mem), o = M_3 → ∀ (H : Heap) (locs : List Loc) (ls : Array Slot), wd X M_3 H → va_S X.A s.heap H locs → lv_has ls 5 [(0, .ref (X.ad 61))] → WW p l e 3 71 s m [.ref (X.ad 61)] below meth c X (Qv X M9) H locs 21 ls []) ?_ g ((0 : Int32), M) o2 ho2 ?_ H locs ls hP hS (lv_sub hl [0, 1] rfl)
    · rintro ⟨v1_1, M_2⟩ o hf hkc2 hke2 H locs ls hP hS hl
      have hf := u2_e hf
      refine lv_iload_n hx hb dX8_lays_2 rfl (lv_at hl 0 rfl) ?_
      refine lv_bipush (v := (48 : Int32)) hx hb dX8_lays_3 (by decide) ?_
      refine lv_icmp_ge (tgt := 21) hx hb dX8_lays_5 (by decide) (fun c_4 => ?_) (fun c_4 => ?_)
      · have hf := i_t c_4 hf
        exact hke2 _ (Option.some.inj hf).symm _ rfl H locs ls hP hS (lv_sub hl [1] rfl)
      · have hf := i_f c_4 hf
        refine lv_aload_n hx hb dX8_lays_8 rfl (lv_at hl 1 rfl) ?_
        refine gX8_2 hx hb hts hown hk hP wd_3_194 dX8_lays_9 ?_
        refine lv_iload_n hx hb dX8_lays_12 rfl (lv_at hl 0 rfl) ?_
        refine lv_iconst (v := (0 : Int32)) hx hb dX8_lays_13 (by decide) ?_
        obtain ⟨q_6, hf⟩ := g_if hf
        refine ast hx hb hk hP hS (by decide) (fun _ => rfl) q_6 dX8_lays_14 (fun H locs M_5 e_M_5 hP hS => ?_)
        have hf := b_v hf e_M_5
        refine lv_iinc (v := v1_1 + (1 : Int32)) (lv' := [(1, .int (v1_1 + (1 : Int32))), (0, .ref (X.ad 61))]) hx hb dX8_lays_15 hl (k := 0) rfl rfl (by decide) rfl (fun ls hl => ?_)
        refine lv_goto (tgt := 2) hx hb dX8_lays_18 (by decide) ?_
        exact hkc2 _ (Option.some.inj hf).symm H locs ls hP hS (lv_sub hl [0, 1] rfl)
    · intro M_3 e H locs ls hP hS hl
      subst o2
      have hf := u1_e hf
      refine lv_iconst (v := (0 : Int32)) hx hb dX8_lays_21 (by decide) ?_
      refine lv_istore_n (lv' := [(1, .int (0 : Int32)), (0, .ref (X.ad 61))]) hx hb dX8_lays_22 rfl hl (by decide) rfl (fun ls hl => ?_)
      obtain ⟨o23, ho23, hf⟩ := b_d hf
      refine lp_rule (b := bd_X8_lays_23) (P := fun w : Int32 × Mem => ∀ (H : Heap) (locs : List Loc) (ls : Array Slot), wd X w.2 H → va_S X.A s.heap H locs → lv_has ls 5 [(1, .int w.1), (0, .ref (X.ad 61))] → WW p l e 3 71 s m [.ref (X.ad 61)] below meth c X (Qv X M9) H locs 23 ls []) (K := fun o => ∀ (M_9 : Mem), o = M_9 → ∀ (H : Heap) (locs : List Loc) (ls : Array Slot), wd X M_9 H → va_S X.A s.heap H locs → lv_has ls 5 [(0, .ref (X.ad 61))] → WW p l e 3 71 s m [.ref (X.ad 61)] below meth c X (Qv X M9) H locs 49 ls []) ?_ g ((0 : Int32), M_3) o23 ho23 ?_ H locs ls hP hS (lv_sub hl [0, 1] rfl)
      · rintro ⟨v1_7, M_8⟩ o hf hkc23 hke23 H locs ls hP hS hl
        have hf := u2_e hf
        refine lv_iload_n hx hb dX8_lays_23 rfl (lv_at hl 0 rfl) ?_
        refine lv_bipush (v := (8 : Int32)) hx hb dX8_lays_24 (by decide) ?_
        refine lv_icmp_ge (tgt := 49) hx hb dX8_lays_26 (by decide) (fun c_10 => ?_) (fun c_10 => ?_)
        · have hf := i_t c_10 hf
          exact hke23 _ (Option.some.inj hf).symm _ rfl H locs ls hP hS (lv_sub hl [1] rfl)
        · have hf := i_f c_10 hf
          refine lv_aload_n hx hb dX8_lays_29 rfl (lv_at hl 1 rfl) ?_
          refine gX8_3 hx hb hts hown hk hP wd_3_195 dX8_lays_30 ?_
          refine lv_iload_n hx hb dX8_lays_33 rfl (lv_at hl 0 rfl) ?_
          refine lv_iconst (v := (0 : Int32)) hx hb dX8_lays_34 (by decide) ?_
          obtain ⟨q_12, hf⟩ := g_if hf
          refine ast hx hb hk hP hS (by decide) (fun _ => rfl) q_12 dX8_lays_35 (fun H locs M_11 e_M_11 hP hS => ?_)
          have hf := b_v hf e_M_11
          refine lv_aload_n hx hb dX8_lays_36 rfl (lv_at hl 1 rfl) ?_
          refine gX8_4 hx hb hts hown hk hP wd_3_196 dX8_lays_37 ?_
          refine lv_iload_n hx hb dX8_lays_40 rfl (lv_at hl 0 rfl) ?_
          refine lv_iconst (v := (0 : Int32)) hx hb dX8_lays_41 (by decide) ?_
          obtain ⟨q_14, hf⟩ := g_if hf
          refine zast hx hb hk hP hS (by decide) (fun _ => rfl) q_14 isZ_0 dX8_lays_42 (fun H locs M_13 e_M_13 hP hS => ?_)
          have hf := b_v hf e_M_13
          refine lv_iinc (v := v1_7 + (1 : Int32)) (lv' := [(1, .int (v1_7 + (1 : Int32))), (0, .ref (X.ad 61))]) hx hb dX8_lays_43 hl (k := 0) rfl rfl (by decide) rfl (fun ls hl => ?_)
          refine lv_goto (tgt := 23) hx hb dX8_lays_46 (by decide) ?_
          exact hkc23 _ (Option.some.inj hf).symm H locs ls hP hS (lv_sub hl [0, 1] rfl)
      · intro M_9 e H locs ls hP hS hl
        subst o23
        have hf := u1_e hf
        refine lv_iconst (v := (0 : Int32)) hx hb dX8_lays_49 (by decide) ?_
        refine lv_istore_n (lv' := [(1, .int (0 : Int32)), (0, .ref (X.ad 61))]) hx hb dX8_lays_50 rfl hl (by decide) rfl (fun ls hl => ?_)
        obtain ⟨o51, ho51, hf⟩ := b_d hf
        refine lp_rule (b := bd_X8_lays_51 g) (P := fun w : Int32 × Mem => ∀ (H : Heap) (locs : List Loc) (ls : Array Slot), wd X w.2 H → va_S X.A s.heap H locs → lv_has ls 5 [(1, .int w.1), (0, .ref (X.ad 61))] → WW p l e 3 71 s m [.ref (X.ad 61)] below meth c X (Qv X M9) H locs 51 ls []) (K := fun o => ∀ (M_17 : Mem), o = M_17 → ∀ (H : Heap) (locs : List Loc) (ls : Array Slot), wd X M_17 H → va_S X.A s.heap H locs → lv_has ls 5 [] → WW p l e 3 71 s m [.ref (X.ad 61)] below meth c X (Qv X M9) H locs 168 ls []) ?_ g ((0 : Int32), M_9) o51 ho51 ?_ H locs ls hP hS (lv_sub hl [0, 1] rfl)
        · rintro ⟨v1_15, M_16⟩ o hf hkc51 hke51 H locs ls hP hS hl
          have hf := u2_e hf
          have jn136 : ∀ (v1_48 : Int32) (v2_49 : Int32) (s_50 : Int32) (s_51 : Int32) (s_52 : Int32) (M_53 : Mem), jn_X8_lays_136 g s_50 s_51 s_52 v1_48 v2_49 M_53 = some o → ∀ (H : Heap) (locs : List Loc) (ls : Array Slot), wd X M_53 H → va_S X.A s.heap H locs → lv_has ls 5 [(0, .ref (X.ad 61)), (1, .int v1_48), (2, .int v2_49)] → WW p l e 3 71 s m [.ref (X.ad 61)] below meth c X (Qv X M9) H locs 136 ls [.int s_50, .int s_51, .int s_52, .ref (X.ad 64)] := by
            intro v1_48 v2_49 s_50 s_51 s_52 M_53 hf H locs ls hP hS hl
            unfold jn_X8_lays_136 at hf
            refine lv_ior hx hb dX8_lays_136 ?_
            obtain ⟨q_55, hf⟩ := g_if hf
            refine ast hx hb hk hP hS (by decide) (fun _ => rfl) q_55 dX8_lays_137 (fun H locs M_54 e_M_54 hP hS => ?_)
            have hf := b_v hf e_M_54
            refine lv_iconst (v := (0 : Int32)) hx hb dX8_lays_138 (by decide) ?_
            refine lv_istore (lv' := [(4, .int (0 : Int32)), (0, .ref (X.ad 61)), (1, .int v1_48), (2, .int v2_49)]) hx hb dX8_lays_139 hl (by decide) rfl (fun ls hl => ?_)
            obtain ⟨o141, ho141, hf⟩ := b_d hf
            refine lp_rule (b := bd_X8_lays_141 g v1_48 v2_49) (P := fun w : Int32 × Mem => ∀ (H : Heap) (locs : List Loc) (ls : Array Slot), wd X w.2 H → va_S X.A s.heap H locs → lv_has ls 5 [(4, .int w.1), (0, .ref (X.ad 61)), (1, .int v1_48), (2, .int v2_49)] → WW p l e 3 71 s m [.ref (X.ad 61)] below meth c X (Qv X M9) H locs 141 ls []) (K := fun o => ∀ (M_58 : Mem), o = M_58 → ∀ (H : Heap) (locs : List Loc) (ls : Array Slot), wd X M_58 H → va_S X.A s.heap H locs → lv_has ls 5 [(0, .ref (X.ad 61)), (1, .int v1_48)] → WW p l e 3 71 s m [.ref (X.ad 61)] below meth c X (Qv X M9) H locs 162 ls []) ?_ g ((0 : Int32), M_54) o141 ho141 ?_ H locs ls hP hS (lv_sub hl [0, 1, 2, 3] rfl)
            · rintro ⟨v4_56, M_57⟩ o hf hkc141 hke141 H locs ls hP hS hl
              have hf := u2_e hf
              refine lv_iload hx hb dX8_lays_141 (lv_at hl 0 rfl) ?_
              refine lv_bipush (v := (6 : Int32)) hx hb dX8_lays_143 (by decide) ?_
              refine lv_icmp_ge (tgt := 162) hx hb dX8_lays_145 (by decide) (fun c_59 => ?_) (fun c_59 => ?_)
              · have hf := i_t c_59 hf
                exact hke141 _ (Option.some.inj hf).symm _ rfl H locs ls hP hS (lv_sub hl [1, 2] rfl)
              · have hf := i_f c_59 hf
                refine lv_aload_n hx hb dX8_lays_148 rfl (lv_at hl 1 rfl) ?_
                refine lv_iload_n hx hb dX8_lays_149 rfl (lv_at hl 3 rfl) ?_
                refine lv_iload_n hx hb dX8_lays_150 rfl (lv_at hl 2 rfl) ?_
                refine lv_iload hx hb dX8_lays_151 (lv_at hl 0 rfl) ?_
                obtain ⟨M_60, h_M_60, hf⟩ := b_d hf
                refine k_X8_looks hZ hP hS hl.1 wd_3_179 ⟨Nat.le_of_ble_eq_true rfl, Nat.le_of_ble_eq_true rfl⟩ (Nat.le_of_ble_eq_true rfl) dX8_lays_153 ⟨Nat.zero_le _, Nat.zero_le _⟩ h_M_60 (fun H locs hP hS => ?_)
                refine lv_iinc (v := v4_56 + (1 : Int32)) (lv' := [(4, .int (v4_56 + (1 : Int32))), (0, .ref (X.ad 61)), (1, .int v1_48), (2, .int v2_49)]) hx hb dX8_lays_156 hl (k := 0) rfl rfl (by decide) rfl (fun ls hl => ?_)
                refine lv_goto (tgt := 141) hx hb dX8_lays_159 (by decide) ?_
                exact hkc141 _ (Option.some.inj hf).symm H locs ls hP hS (lv_sub hl [0, 1, 2, 3] rfl)
            · intro M_58 e H locs ls hP hS hl
              subst o141
              have hf := u1_e hf
              refine lv_iinc (v := v1_48 + (1 : Int32)) (lv' := [(1, .int (v1_48 + (1 : Int32))), (0, .ref (X.ad 61))]) hx hb dX8_lays_162 hl (k := 1) rfl rfl (by decide) rfl (fun ls hl => ?_)
              refine lv_goto (tgt := 51) hx hb dX8_lays_165 (by decide) ?_
              exact hkc51 _ (Option.some.inj hf).symm H locs ls hP hS (lv_sub hl [0, 1] rfl)
          have jn135 : ∀ (v1_43 : Int32) (v2_44 : Int32) (s_45 : Int32) (s_46 : Int32) (M_47 : Mem), jn_X8_lays_135 g s_45 s_46 v1_43 v2_44 M_47 = some o → ∀ (H : Heap) (locs : List Loc) (ls : Array Slot), wd X M_47 H → va_S X.A s.heap H locs → lv_has ls 5 [(0, .ref (X.ad 61)), (1, .int v1_43), (2, .int v2_44)] → WW p l e 3 71 s m [.ref (X.ad 61)] below meth c X (Qv X M9) H locs 135 ls [.int s_45, .int s_46, .ref (X.ad 64)] := by
            intro v1_43 v2_44 s_45 s_46 M_47 hf H locs ls hP hS hl
            unfold jn_X8_lays_135 at hf
            refine lv_iconst (v := (0 : Int32)) hx hb dX8_lays_135 (by decide) ?_
            exact jn136 v1_43 v2_44 (0 : Int32) s_45 s_46 M_47 hf H locs ls hP hS (lv_sub hl [0, 1, 2] rfl)
          have jn112 : ∀ (v1_37 : Int32) (v2_38 : Int32) (s_39 : Int32) (M_40 : Mem), jn_X8_lays_112 g s_39 v1_37 v2_38 M_40 = some o → ∀ (H : Heap) (locs : List Loc) (ls : Array Slot), wd X M_40 H → va_S X.A s.heap H locs → lv_has ls 5 [(0, .ref (X.ad 61)), (1, .int v1_37), (2, .int v2_38)] → WW p l e 3 71 s m [.ref (X.ad 61)] below meth c X (Qv X M9) H locs 112 ls [.int s_39] := by
            intro v1_37 v2_38 s_39 M_40 hf H locs ls hP hS hl
            unfold jn_X8_lays_112 at hf
            refine lv_istore_n (lv' := [(3, .int s_39), (0, .ref (X.ad 61)), (1, .int v1_37), (2, .int v2_38)]) hx hb dX8_lays_112 rfl hl (by decide) rfl (fun ls hl => ?_)
            refine lv_aload_n hx hb dX8_lays_113 rfl (lv_at hl 1 rfl) ?_
            refine gX8_3 hx hb hts hown hk hP wd_3_195 dX8_lays_114 ?_
            refine lv_iload_n hx hb dX8_lays_117 rfl (lv_at hl 3 rfl) ?_
            refine lv_dup2_11 hx hb dX8_lays_118 rfl rfl ?_
            obtain ⟨q_41, hf⟩ := g_if hf
            refine ald hx hb hk hP (by decide) rfl q_41 dX8_lays_119 ?_
            refine lv_iload_n hx hb dX8_lays_120 rfl (lv_at hl 0 rfl) ?_
            refine lv_if_lt (tgt := 135) hx hb dX8_lays_121 (by decide) (fun c_42 => ?_) (fun c_42 => ?_)
            · have hf := i_t c_42 hf
              exact jn135 v1_37 v2_38 (M_40 64 (ix v2_38)) v2_38 M_40 hf H locs ls hP hS (lv_sub hl [1, 2, 3] rfl)
            · have hf := i_f c_42 hf
              refine lv_iload_n hx hb dX8_lays_124 rfl (lv_at hl 0 rfl) ?_
              refine lv_iload_n hx hb dX8_lays_125 rfl (lv_at hl 3 rfl) ?_
              refine lv_icmp_eq (tgt := 135) hx hb dX8_lays_126 (by decide) (fun c_61 => ?_) (fun c_61 => ?_)
              · have hf := i_t c_61 hf
                exact jn135 v1_37 v2_38 (M_40 64 (ix v2_38)) v2_38 M_40 hf H locs ls hP hS (lv_sub hl [1, 2, 3] rfl)
              · have hf := i_f c_61 hf
                refine lv_iconst (v := (1 : Int32)) hx hb dX8_lays_129 (by decide) ?_
                refine lv_iload_n hx hb dX8_lays_130 rfl (lv_at hl 0 rfl) ?_
                refine rw_ishl hx hb dX8_lays_131 ?_
                refine lv_goto (tgt := 136) hx hb dX8_lays_132 (by decide) ?_
                exact jn136 v1_37 v2_38 (sl (1 : Int32) s_39) (M_40 64 (ix v2_38)) v2_38 M_40 hf H locs ls hP hS (lv_sub hl [1, 2, 3] rfl)
          have jn93 : ∀ (v1_27 : Int32) (v2_28 : Int32) (s_29 : Int32) (s_30 : Int32) (M_31 : Mem), jn_X8_lays_93 g s_29 s_30 v1_27 v2_28 M_31 = some o → ∀ (H : Heap) (locs : List Loc) (ls : Array Slot), wd X M_31 H → va_S X.A s.heap H locs → lv_has ls 5 [(0, .ref (X.ad 61)), (1, .int v1_27), (2, .int v2_28)] → WW p l e 3 71 s m [.ref (X.ad 61)] below meth c X (Qv X M9) H locs 93 ls [.int s_29, .int s_30, .ref (X.ad 65)] := by
            intro v1_27 v2_28 s_29 s_30 M_31 hf H locs ls hP hS hl
            unfold jn_X8_lays_93 at hf
            obtain ⟨q_33, hf⟩ := g_if hf
            obtain ⟨z_34, hf⟩ := g_if hf
            refine zast hx hb hk hP hS (by decide) (fun _ => rfl) q_33 z_34 dX8_lays_93 (fun H locs M_32 e_M_32 hP hS => ?_)
            have hf := b_v hf e_M_32
            refine lv_iload_n hx hb dX8_lays_94 rfl (lv_at hl 1 rfl) ?_
            refine lv_bipush (v := (36 : Int32)) hx hb dX8_lays_95 (by decide) ?_
            refine lv_icmp_ge (tgt := 104) hx hb dX8_lays_97 (by decide) (fun c_35 => ?_) (fun c_35 => ?_)
            · have hf := i_t c_35 hf
              refine lv_aload_n hx hb dX8_lays_104 rfl (lv_at hl 0 rfl) ?_
              refine lv_iload_n hx hb dX8_lays_105 rfl (lv_at hl 1 rfl) ?_
              refine lv_bipush (v := (36 : Int32)) hx hb dX8_lays_106 (by decide) ?_
              refine lv_isub hx hb dX8_lays_108 ?_
              obtain ⟨r_36, h_r_36, hf⟩ := b_d hf
              refine k_X8_at hZ hP hS hl.1 wd_3_175 ⟨Nat.le_of_ble_eq_true rfl, Nat.le_of_ble_eq_true rfl⟩ (Nat.le_of_ble_eq_true rfl) dX8_lays_109 ⟨Nat.zero_le _, Nat.zero_le _⟩ h_r_36 (fun H locs hP hS => ?_)
              exact jn112 v1_27 v2_28 r_36 M_32 hf H locs ls hP hS (lv_sub hl [0, 1, 2] rfl)
            · have hf := i_f c_35 hf
              refine lv_iconst (v := (-1 : Int32)) hx hb dX8_lays_100 (by decide) ?_
              refine lv_goto (tgt := 112) hx hb dX8_lays_101 (by decide) ?_
              exact jn112 v1_27 v2_28 (-1 : Int32) M_32 hf H locs ls hP hS (lv_sub hl [0, 1, 2] rfl)
          have jn88 : ∀ (v1_23 : Int32) (v2_24 : Int32) (s_25 : Int32) (M_26 : Mem), jn_X8_lays_88 g s_25 v1_23 v2_24 M_26 = some o → ∀ (H : Heap) (locs : List Loc) (ls : Array Slot), wd X M_26 H → va_S X.A s.heap H locs → lv_has ls 5 [(0, .ref (X.ad 61)), (1, .int v1_23), (2, .int v2_24)] → WW p l e 3 71 s m [.ref (X.ad 61)] below meth c X (Qv X M9) H locs 88 ls [.int s_25, .ref (X.ad 65)] := by
            intro v1_23 v2_24 s_25 M_26 hf H locs ls hP hS hl
            unfold jn_X8_lays_88 at hf
            refine lv_iconst (v := (1 : Int32)) hx hb dX8_lays_88 (by decide) ?_
            refine lv_goto (tgt := 93) hx hb dX8_lays_89 (by decide) ?_
            exact jn93 v1_23 v2_24 (1 : Int32) s_25 M_26 hf H locs ls hP hS (lv_sub hl [0, 1, 2] rfl)
          refine lv_iload_n hx hb dX8_lays_51 rfl (lv_at hl 0 rfl) ?_
          refine lv_sipush (v := (216 : Int32)) hx hb dX8_lays_52 (by decide) ?_
          refine lv_icmp_ge (tgt := 168) hx hb dX8_lays_55 (by decide) (fun c_18 => ?_) (fun c_18 => ?_)
          · have hf := i_t c_18 hf
            exact hke51 _ (Option.some.inj hf).symm _ rfl H locs ls hP hS (lv_sub hl [] rfl)
          · have hf := i_f c_18 hf
            refine lv_aload_n hx hb dX8_lays_58 rfl (lv_at hl 1 rfl) ?_
            refine lv_iload_n hx hb dX8_lays_59 rfl (lv_at hl 0 rfl) ?_
            obtain ⟨r_19, h_r_19, hf⟩ := b_d hf
            refine k_X8_at hZ hP hS hl.1 wd_3_175 ⟨Nat.le_of_ble_eq_true rfl, Nat.le_of_ble_eq_true rfl⟩ (Nat.le_of_ble_eq_true rfl) dX8_lays_60 ⟨Nat.zero_le _, Nat.zero_le _⟩ h_r_19 (fun H locs hP hS => ?_)
            refine lv_istore_n (lv' := [(2, .int r_19), (1, .int v1_15), (0, .ref (X.ad 61))]) hx hb dX8_lays_63 rfl hl (by decide) rfl (fun ls hl => ?_)
            refine lv_iload_n hx hb dX8_lays_64 rfl (lv_at hl 0 rfl) ?_
            refine lv_if_lt (tgt := 162) hx hb dX8_lays_65 (by decide) (fun c_20 => ?_) (fun c_20 => ?_)
            · have hf := i_t c_20 hf
              refine lv_iinc (v := v1_15 + (1 : Int32)) (lv' := [(1, .int (v1_15 + (1 : Int32))), (2, .int r_19), (0, .ref (X.ad 61))]) hx hb dX8_lays_162 hl (k := 1) rfl rfl (by decide) rfl (fun ls hl => ?_)
              refine lv_goto (tgt := 51) hx hb dX8_lays_165 (by decide) ?_
              exact hkc51 _ (Option.some.inj hf).symm H locs ls hP hS (lv_sub hl [0, 2] rfl)
            · have hf := i_f c_20 hf
              refine lv_aload_n hx hb dX8_lays_68 rfl (lv_at hl 2 rfl) ?_
              refine gX8_4 hx hb hts hown hk hP wd_3_196 dX8_lays_69 ?_
              refine lv_iload_n hx hb dX8_lays_72 rfl (lv_at hl 0 rfl) ?_
              refine lv_aload_n hx hb dX8_lays_73 rfl (lv_at hl 2 rfl) ?_
              refine gX8_4 hx hb hts hown hk hP wd_3_196 dX8_lays_74 ?_
              refine lv_iload_n hx hb dX8_lays_77 rfl (lv_at hl 0 rfl) ?_
              obtain ⟨q_21, hf⟩ := g_if hf
              refine zald hx hb hk hP (by decide) rfl q_21 dX8_lays_78 ?_
              refine lv_if_ne (tgt := 88) hx hb dX8_lays_79 (by decide) (fun c_22 => ?_) (fun c_22 => ?_)
              · have hf := i_f c_22 hf
                exact jn88 v1_15 r_19 r_19 M_16 hf H locs ls hP hS (lv_sub hl [2, 1, 0] rfl)
              · have hf := i_t c_22 hf
                refine lv_iload_n hx hb dX8_lays_82 rfl (lv_at hl 1 rfl) ?_
                refine lv_bipush (v := (36 : Int32)) hx hb dX8_lays_83 (by decide) ?_
                refine lv_icmp_ge (tgt := 92) hx hb dX8_lays_85 (by decide) (fun c_62 => ?_) (fun c_62 => ?_)
                · have hf := i_t c_62 hf
                  refine lv_iconst (v := (0 : Int32)) hx hb dX8_lays_92 (by decide) ?_
                  exact jn93 v1_15 r_19 (0 : Int32) r_19 M_16 hf H locs ls hP hS (lv_sub hl [2, 1, 0] rfl)
                · have hf := i_f c_62 hf
                  exact jn88 v1_15 r_19 r_19 M_16 hf H locs ls hP hS (lv_sub hl [2, 1, 0] rfl)
        · intro M_17 e H locs ls hP hS hl
          subst o51
          have hf := u1_e hf
          have hf := Option.some.inj hf
          rw [hf] at hP
          exact ret_v hx hb hr hlocks hP hS dX8_lays_168
  exact key s.heap [] hP hS
theorem hd_X8_lays : Hd yX8_lays 0 := by decide +kernel
theorem k_X8_lays {p : Program} {l : Launch} {e : Env} {R : Room} {s : State} {m : MethodId} {args : Array Value} {below : List Frame} {meth : Method} {c : Code} {H : Heap} {locs : List Loc} {cells slots : Nat} {Q : State → Prop} {cc : ByteArray} {nL pc index : Nat} {ls : Array Slot} {rest : List Value} {X : En} {M : Mem} {H0 : Heap} {own : String} {g : Nat} {M9 : Mem} (hZ : Fx p c m s args X cc nL own) (hP : wd X M H) (hS : va_S X.A H0 H locs) (hsz : ls.size = nL) (hlk : Cond.methodLink own index yX8_lays ∈ lw_u) (hR : 3 + 1 ≤ R.frames ∧ 8 + (5 + 11) + 71 ≤ R.locals) (hW : (rest.map fun v => v.category).sum ≤ 8) (hdg : decode cc pc = .ok (.invokevirtual index, 3)) (hcs : cells ≤ R.cells ∧ slots ≤ R.slots) (hf : fn_X8_lays g M = some M9)
    (kk : ∀ (H1 : Heap) (locs1 : List Loc), wd X M9 H1 → va_S X.A H0 H1 locs1 → W p l e R s m args below meth c H1 locs1 cells slots Q (F0 m (pc + 3) ls rest)) : W p l e R s m args below meth c H locs cells slots Q (F0 m pc ls (.ref (X.ad 61) :: rest)) :=
  cal_v (runV (As := []) (rest := rest) hZ.1 hZ.2.1 hZ.2.2.1 hZ.2.2.2.1 hZ.2.2.2.2.1 hZ.2.2.2.2.2 hP (c_X8_lays g M M9 hf) wd_3_174 wd_3_173 wd_p_26 wd_1_9 hd_X8_lays (by decide) rfl rfl rfl hlk hR hsz rfl hW hdg hcs) hS kk
/-! FrameRaiserModel.undo -/
def fn_X8_undo (g : Nat) (M : Mem) : Option (Int32 × Mem) :=
  if (M 61 1) = 0 then
    (some ((-2 : Int32), M))
  else
    ((fn_X8_copies g (M 61 1) (0 : Int32) M).bind fun M_2 =>
    bv (st M_2 61 1 ((M_2 61 1) - (1 : Int32))) fun M_3 =>
    (fn_X8_lays g M_3).bind fun M_4 =>
    some (M_4 61 1, M_4))
theorem dX8_undo_0 : decode cX8_undo 0 = .ok (.aload_n 0, 1) := by decide +kernel
theorem dX8_undo_1 : decode cX8_undo 1 = .ok (.getfield 41, 3) := by decide +kernel
theorem dX8_undo_4 : decode cX8_undo 4 = .ok (.ifCond .ne 6, 3) := by decide +kernel
theorem dX8_undo_7 : decode cX8_undo 7 = .ok (.bipush (-2), 2) := by decide +kernel
theorem dX8_undo_9 : decode cX8_undo 9 = .ok (.ireturn, 1) := by decide +kernel
theorem dX8_undo_10 : decode cX8_undo 10 = .ok (.aload_n 0, 1) := by decide +kernel
theorem dX8_undo_11 : decode cX8_undo 11 = .ok (.aload_n 0, 1) := by decide +kernel
theorem dX8_undo_12 : decode cX8_undo 12 = .ok (.getfield 41, 3) := by decide +kernel
theorem dX8_undo_15 : decode cX8_undo 15 = .ok (.iconst 0, 1) := by decide +kernel
theorem dX8_undo_16 : decode cX8_undo 16 = .ok (.invokevirtual 45, 3) := by decide +kernel
theorem dX8_undo_19 : decode cX8_undo 19 = .ok (.aload_n 0, 1) := by decide +kernel
theorem dX8_undo_20 : decode cX8_undo 20 = .ok (.dup, 1) := by decide +kernel
theorem dX8_undo_21 : decode cX8_undo 21 = .ok (.getfield 41, 3) := by decide +kernel
theorem dX8_undo_24 : decode cX8_undo 24 = .ok (.iconst 1, 1) := by decide +kernel
theorem dX8_undo_25 : decode cX8_undo 25 = .ok (.isub, 1) := by decide +kernel
theorem dX8_undo_26 : decode cX8_undo 26 = .ok (.putfield 41, 3) := by decide +kernel
theorem dX8_undo_29 : decode cX8_undo 29 = .ok (.aload_n 0, 1) := by decide +kernel
theorem dX8_undo_30 : decode cX8_undo 30 = .ok (.invokevirtual 38, 3) := by decide +kernel
theorem dX8_undo_33 : decode cX8_undo 33 = .ok (.aload_n 0, 1) := by decide +kernel
theorem dX8_undo_34 : decode cX8_undo 34 = .ok (.getfield 41, 3) := by decide +kernel
theorem dX8_undo_37 : decode cX8_undo 37 = .ok (.ireturn, 1) := by decide +kernel
set_option maxHeartbeats 4000000 in
set_option maxRecDepth 100000 in
theorem c_X8_undo {l : Launch} {X : En} (g : Nat) (M : Mem) (r : Int32) (M9 : Mem) (hf : fn_X8_undo g M = some (r, M9)) : Cn l X yX8_undo cX8_undo 1 (some .int) 4 95 [.ref (X.ad 61)] M (Qi X r M9) := by
  refine Met.ofW (cc := cX8_undo) (maxL := 1) (ret := (some .int)) (by decide) rfl ?_
  intro p e s m args below meth c s₁ B hml hv
  obtain ⟨rfl, hP, hk⟩ := hv
  have hx := B.exec
  have hb := B.bytes
  have hr := B.returns
  have hlocks := B.notSynchronized
  have hts : ∀ w ∈ lw_u, w.before ([.ref (X.ad 61)] : List Value).toArray s = true := fun w hw => atoms_spec (ws := Cond.code yX8_undo cX8_undo 1 (some .int) :: lw_u) B.pre w (List.mem_cons_of_mem _ hw)
  have hown : s.vm.findClass RX8 = some m.cls := findClass_of_methodNamed B.named
  have hZ : Fx p c m s ([.ref (X.ad 61)] : List Value).toArray X cX8_undo 1 RX8 := ⟨hx, hb, hml, hts, hown, hk⟩
  have hS : va_S X.A s.heap s.heap [] := va_S.rf
  have hl := lv_entry ([.ref (X.ad 61)]) (n := 1) (Nat.le_of_ble_eq_true rfl)
  rw [lg_entry_eq]
  generalize (lg_sl ([.ref (X.ad 61)]) ++ List.replicate (1 - (lg_sl ([.ref (X.ad 61)])).length) Slot.unset).toArray = ls at hl ⊢
  have hl : lv_has ls 1 [(0, .ref (X.ad 61))] := hl
  show WW p l e 4 95 s m [.ref (X.ad 61)] below meth c X (Qi X r M9) s.heap [] 0 ls []
  have hP : wd X M s.heap := hP
  unfold fn_X8_undo at hf
  have key : ∀ (H : Heap) (locs : List Loc), wd X M H → va_S X.A s.heap H locs → WW p l e 4 95 s m [.ref (X.ad 61)] below meth c X (Qi X r M9) H locs 0 ls [] := by
    intro H locs hP hS
    refine lv_aload_n hx hb dX8_undo_0 rfl (lv_at hl 0 rfl) ?_
    refine gX8_1 hx hb hts hown hk hP wd_3_193 dX8_undo_1 ?_
    refine lv_if_ne (tgt := 10) hx hb dX8_undo_4 (by decide) (fun c_1 => ?_) (fun c_1 => ?_)
    · have hf := i_f c_1 hf
      refine lv_aload_n hx hb dX8_undo_10 rfl (lv_at hl 0 rfl) ?_
      refine lv_aload_n hx hb dX8_undo_11 rfl (lv_at hl 0 rfl) ?_
      refine gX8_1 hx hb hts hown hk hP wd_3_193 dX8_undo_12 ?_
      refine lv_iconst (v := (0 : Int32)) hx hb dX8_undo_15 (by decide) ?_
      obtain ⟨M_2, h_M_2, hf⟩ := b_d hf
      refine k_X8_copies hZ hP hS hl.1 wd_3_239 ⟨Nat.le_of_ble_eq_true rfl, Nat.le_of_ble_eq_true rfl⟩ (Nat.le_of_ble_eq_true rfl) dX8_undo_16 ⟨Nat.zero_le _, Nat.zero_le _⟩ h_M_2 (fun H locs hP hS => ?_)
      refine lv_aload_n hx hb dX8_undo_19 rfl (lv_at hl 0 rfl) ?_
      refine lv_dup hx hb dX8_undo_20 rfl ?_
      refine gX8_1 hx hb hts hown hk hP wd_3_193 dX8_undo_21 ?_
      refine lv_iconst (v := (1 : Int32)) hx hb dX8_undo_24 (by decide) ?_
      refine lv_isub hx hb dX8_undo_25 ?_
      refine pX8_1 hx hb hts hown hk hP hS wd_3_193 dX8_undo_26 (fun H locs M_3 e_M_3 hP hS => ?_)
      have hf := b_v hf e_M_3
      refine lv_aload_n hx hb dX8_undo_29 rfl (lv_at hl 0 rfl) ?_
      obtain ⟨M_4, h_M_4, hf⟩ := b_d hf
      refine k_X8_lays hZ hP hS hl.1 wd_3_171 ⟨Nat.le_of_ble_eq_true rfl, Nat.le_of_ble_eq_true rfl⟩ (Nat.le_of_ble_eq_true rfl) dX8_undo_30 ⟨Nat.zero_le _, Nat.zero_le _⟩ h_M_4 (fun H locs hP hS => ?_)
      refine lv_aload_n hx hb dX8_undo_33 rfl (lv_at hl 0 rfl) ?_
      refine gX8_1 hx hb hts hown hk hP wd_3_193 dX8_undo_34 ?_
      have hf := Option.some.inj hf
      obtain ⟨e1, e2⟩ := Prod.mk.inj hf
      rw [e2] at hP
      exact ret_i hx hb hr hlocks hP hS e1 dX8_undo_37
    · have hf := i_t c_1 hf
      refine lv_bipush (v := (-2 : Int32)) hx hb dX8_undo_7 (by decide) ?_
      have hf := Option.some.inj hf
      obtain ⟨e1, e2⟩ := Prod.mk.inj hf
      rw [e2] at hP
      exact ret_i hx hb hr hlocks hP hS e1 dX8_undo_9
  exact key s.heap [] hP hS
theorem hd_X8_undo : Hd yX8_undo 0 := by decide +kernel
theorem k_X8_undo {p : Program} {l : Launch} {e : Env} {R : Room} {s : State} {m : MethodId} {args : Array Value} {below : List Frame} {meth : Method} {c : Code} {H : Heap} {locs : List Loc} {cells slots : Nat} {Q : State → Prop} {cc : ByteArray} {nL pc index : Nat} {ls : Array Slot} {rest : List Value} {X : En} {M : Mem} {H0 : Heap} {own : String} {g : Nat} {r : Int32} {M9 : Mem} (hZ : Fx p c m s args X cc nL own) (hP : wd X M H) (hS : va_S X.A H0 H locs) (hsz : ls.size = nL) (hlk : Cond.methodLink own index yX8_undo ∈ lw_u) (hR : 4 + 1 ≤ R.frames ∧ 8 + (1 + 11) + 95 ≤ R.locals) (hW : (rest.map fun v => v.category).sum ≤ 8) (hdg : decode cc pc = .ok (.invokevirtual index, 3)) (hcs : cells ≤ R.cells ∧ slots ≤ R.slots) (hf : fn_X8_undo g M = some (r, M9))
    (kk : ∀ (H1 : Heap) (locs1 : List Loc), wd X M9 H1 → va_S X.A H0 H1 locs1 → W p l e R s m args below meth c H1 locs1 cells slots Q (F0 m (pc + 3) ls (.int r :: rest))) : W p l e R s m args below meth c H locs cells slots Q (F0 m pc ls (.ref (X.ad 61) :: rest)) :=
  cal_i (runV (As := []) (rest := rest) hZ.1 hZ.2.1 hZ.2.2.1 hZ.2.2.2.1 hZ.2.2.2.2.1 hZ.2.2.2.2.2 hP (c_X8_undo g M r M9 hf) wd_3_238 wd_3_236 wd_3_237 wd_1_9 hd_X8_undo (by decide) rfl rfl rfl hlk hR hsz rfl hW hdg hcs) hS kk
/-! FrameRaiserModel.isPiece -/
def fn_X8_isPiece (x1 : Int32) (M : Mem) : Int32 :=
  fn_X8_in x1 (0 : Int32) ((M 62 (ix (0 : Int32))) - (1 : Int32))
theorem dX8_isPiece_0 : decode cX8_isPiece 0 = .ok (.iload_n 1, 1) := by decide +kernel
theorem dX8_isPiece_1 : decode cX8_isPiece 1 = .ok (.iconst 0, 1) := by decide +kernel
theorem dX8_isPiece_2 : decode cX8_isPiece 2 = .ok (.aload_n 0, 1) := by decide +kernel
theorem dX8_isPiece_3 : decode cX8_isPiece 3 = .ok (.getfield 7, 3) := by decide +kernel
theorem dX8_isPiece_6 : decode cX8_isPiece 6 = .ok (.iconst 0, 1) := by decide +kernel
theorem dX8_isPiece_7 : decode cX8_isPiece 7 = .ok (.iaload, 1) := by decide +kernel
theorem dX8_isPiece_8 : decode cX8_isPiece 8 = .ok (.iconst 1, 1) := by decide +kernel
theorem dX8_isPiece_9 : decode cX8_isPiece 9 = .ok (.isub, 1) := by decide +kernel
theorem dX8_isPiece_10 : decode cX8_isPiece 10 = .ok (.invokestatic 49, 3) := by decide +kernel
theorem dX8_isPiece_13 : decode cX8_isPiece 13 = .ok (.ireturn, 1) := by decide +kernel
theorem z_X8_isPiece (x1 : Int32) (M : Mem) : isZ (fn_X8_isPiece x1 M) := by
  unfold fn_X8_isPiece
  repeat' (first | exact isZ_0 | exact isZ_1 | exact z_X8_in _ _ _ | split)
set_option maxHeartbeats 4000000 in
set_option maxRecDepth 100000 in
theorem c_X8_isPiece {l : Launch} {X : En} (x1 : Int32) (M : Mem) (r : Int32) (hf : fn_X8_isPiece x1 M = r) : Cn l X yX8_isPiece cX8_isPiece 2 (some .boolean) 1 22 [.ref (X.ad 61), .int x1] M (Qi X r M) := by
  refine Met.ofW (cc := cX8_isPiece) (maxL := 2) (ret := (some .boolean)) (by decide) rfl ?_
  intro p e s m args below meth c s₁ B hml hv
  obtain ⟨rfl, hP, hk⟩ := hv
  have hx := B.exec
  have hb := B.bytes
  have hr := B.returns
  have hlocks := B.notSynchronized
  have hts : ∀ w ∈ lw_u, w.before ([.ref (X.ad 61), .int x1] : List Value).toArray s = true := fun w hw => atoms_spec (ws := Cond.code yX8_isPiece cX8_isPiece 2 (some .boolean) :: lw_u) B.pre w (List.mem_cons_of_mem _ hw)
  have hown : s.vm.findClass RX8 = some m.cls := findClass_of_methodNamed B.named
  have hZ : Fx p c m s ([.ref (X.ad 61), .int x1] : List Value).toArray X cX8_isPiece 2 RX8 := ⟨hx, hb, hml, hts, hown, hk⟩
  have hS : va_S X.A s.heap s.heap [] := va_S.rf
  have hl := lv_entry ([.ref (X.ad 61), .int x1]) (n := 2) (Nat.le_of_ble_eq_true rfl)
  rw [lg_entry_eq]
  generalize (lg_sl ([.ref (X.ad 61), .int x1]) ++ List.replicate (2 - (lg_sl ([.ref (X.ad 61), .int x1])).length) Slot.unset).toArray = ls at hl ⊢
  have hl : lv_has ls 2 [(0, .ref (X.ad 61)), (1, .int x1)] := hl
  show WW p l e 1 22 s m [.ref (X.ad 61), .int x1] below meth c X (Qi X r M) s.heap [] 0 ls []
  have hP : wd X M s.heap := hP
  unfold fn_X8_isPiece at hf
  have key : ∀ (H : Heap) (locs : List Loc), wd X M H → va_S X.A s.heap H locs → WW p l e 1 22 s m [.ref (X.ad 61), .int x1] below meth c X (Qi X r M) H locs 0 ls [] := by
    intro H locs hP hS
    refine lv_iload_n hx hb dX8_isPiece_0 rfl (lv_at hl 1 rfl) ?_
    refine lv_iconst (v := (0 : Int32)) hx hb dX8_isPiece_1 (by decide) ?_
    refine lv_aload_n hx hb dX8_isPiece_2 rfl (lv_at hl 0 rfl) ?_
    refine gX8_0 hx hb hts hown hk hP wd_3_192 dX8_isPiece_3 ?_
    refine lv_iconst (v := (0 : Int32)) hx hb dX8_isPiece_6 (by decide) ?_
    refine ald hx hb hk hP (by decide) rfl (show inb _ _ from by decide) dX8_isPiece_7 ?_
    refine lv_iconst (v := (1 : Int32)) hx hb dX8_isPiece_8 (by decide) ?_
    refine lv_isub hx hb dX8_isPiece_9 ?_
    refine k_X8_in hZ hP hS hl.1 wd_3_186 ⟨Nat.le_of_ble_eq_true rfl, Nat.le_of_ble_eq_true rfl⟩ (Nat.le_of_ble_eq_true rfl) dX8_isPiece_10 ⟨Nat.zero_le _, Nat.zero_le _⟩ (fun H locs hP hS => ?_)
    exact ret_z hx hb hr hlocks hP hS (z_X8_in x1 (0 : Int32) ((M 62 (ix (0 : Int32))) - (1 : Int32))) hf dX8_isPiece_13
  exact key s.heap [] hP hS
theorem hd_X8_isPiece : Hd yX8_isPiece 1 := by decide +kernel
theorem k_X8_isPiece {p : Program} {l : Launch} {e : Env} {R : Room} {s : State} {m : MethodId} {args : Array Value} {below : List Frame} {meth : Method} {c : Code} {H : Heap} {locs : List Loc} {cells slots : Nat} {Q : State → Prop} {cc : ByteArray} {nL pc index : Nat} {ls : Array Slot} {rest : List Value} {X : En} {M : Mem} {H0 : Heap} {own : String} {x1 : Int32} (hZ : Fx p c m s args X cc nL own) (hP : wd X M H) (hS : va_S X.A H0 H locs) (hsz : ls.size = nL) (hlk : Cond.methodLink own index yX8_isPiece ∈ lw_u) (hR : 1 + 1 ≤ R.frames ∧ 8 + (2 + 11) + 22 ≤ R.locals) (hW : (rest.map fun v => v.category).sum ≤ 8) (hdg : decode cc pc = .ok (.invokevirtual index, 3)) (hcs : cells ≤ R.cells ∧ slots ≤ R.slots)
    (kk : ∀ (H1 : Heap) (locs1 : List Loc), wd X M H1 → va_S X.A H0 H1 locs1 → W p l e R s m args below meth c H1 locs1 cells slots Q (F0 m (pc + 3) ls (.int (fn_X8_isPiece x1 M) :: rest))) : W p l e R s m args below meth c H locs cells slots Q (F0 m pc ls (.int x1 :: .ref (X.ad 61) :: rest)) :=
  cal_i (runV (As := [.int x1]) (rest := rest) hZ.1 hZ.2.1 hZ.2.2.1 hZ.2.2.2.1 hZ.2.2.2.2.1 hZ.2.2.2.2.2 hP (c_X8_isPiece x1 M _ rfl) wd_4_73 wd_4_72 wd_p_39 wd_1_9 hd_X8_isPiece (by decide) rfl rfl rfl hlk hR hsz rfl hW hdg hcs) hS kk
/-! FrameRaiserModel.isDirection -/
def fn_X8_isDirection (x0 : Int32) : Int32 :=
  fn_X8_in x0 (0 : Int32) (5 : Int32)
theorem dX8_isDirection_0 : decode cX8_isDirection 0 = .ok (.iload_n 0, 1) := by decide +kernel
theorem dX8_isDirection_1 : decode cX8_isDirection 1 = .ok (.iconst 0, 1) := by decide +kernel
theorem dX8_isDirection_2 : decode cX8_isDirection 2 = .ok (.iconst 5, 1) := by decide +kernel
theorem dX8_isDirection_3 : decode cX8_isDirection 3 = .ok (.invokestatic 49, 3) := by decide +kernel
theorem dX8_isDirection_6 : decode cX8_isDirection 6 = .ok (.ireturn, 1) := by decide +kernel
theorem z_X8_isDirection (x0 : Int32) : isZ (fn_X8_isDirection x0) := by
  unfold fn_X8_isDirection
  repeat' (first | exact isZ_0 | exact isZ_1 | exact z_X8_in _ _ _ | split)
set_option maxHeartbeats 4000000 in
set_option maxRecDepth 100000 in
theorem c_X8_isDirection {l : Launch} {X : En} (x0 : Int32) (M : Mem) (r : Int32) (hf : fn_X8_isDirection x0 = r) : Cn l X yX8_isDirection cX8_isDirection 1 (some .boolean) 1 22 [.int x0] M (Qi X r M) := by
  refine Met.ofW (cc := cX8_isDirection) (maxL := 1) (ret := (some .boolean)) (by decide) rfl ?_
  intro p e s m args below meth c s₁ B hml hv
  obtain ⟨rfl, hP, hk⟩ := hv
  have hx := B.exec
  have hb := B.bytes
  have hr := B.returns
  have hlocks := B.notSynchronized
  have hts : ∀ w ∈ lw_u, w.before ([.int x0] : List Value).toArray s = true := fun w hw => atoms_spec (ws := Cond.code yX8_isDirection cX8_isDirection 1 (some .boolean) :: lw_u) B.pre w (List.mem_cons_of_mem _ hw)
  have hown : s.vm.findClass RX8 = some m.cls := findClass_of_methodNamed B.named
  have hZ : Fx p c m s ([.int x0] : List Value).toArray X cX8_isDirection 1 RX8 := ⟨hx, hb, hml, hts, hown, hk⟩
  have hS : va_S X.A s.heap s.heap [] := va_S.rf
  have hl := lv_entry ([.int x0]) (n := 1) (Nat.le_of_ble_eq_true rfl)
  rw [lg_entry_eq]
  generalize (lg_sl ([.int x0]) ++ List.replicate (1 - (lg_sl ([.int x0])).length) Slot.unset).toArray = ls at hl ⊢
  have hl : lv_has ls 1 [(0, .int x0)] := hl
  show WW p l e 1 22 s m [.int x0] below meth c X (Qi X r M) s.heap [] 0 ls []
  have hP : wd X M s.heap := hP
  unfold fn_X8_isDirection at hf
  have key : ∀ (H : Heap) (locs : List Loc), wd X M H → va_S X.A s.heap H locs → WW p l e 1 22 s m [.int x0] below meth c X (Qi X r M) H locs 0 ls [] := by
    intro H locs hP hS
    refine lv_iload_n hx hb dX8_isDirection_0 rfl (lv_at hl 0 rfl) ?_
    refine lv_iconst (v := (0 : Int32)) hx hb dX8_isDirection_1 (by decide) ?_
    refine lv_iconst (v := (5 : Int32)) hx hb dX8_isDirection_2 (by decide) ?_
    refine k_X8_in hZ hP hS hl.1 wd_3_186 ⟨Nat.le_of_ble_eq_true rfl, Nat.le_of_ble_eq_true rfl⟩ (Nat.le_of_ble_eq_true rfl) dX8_isDirection_3 ⟨Nat.zero_le _, Nat.zero_le _⟩ (fun H locs hP hS => ?_)
    exact ret_z hx hb hr hlocks hP hS (z_X8_in x0 (0 : Int32) (5 : Int32)) hf dX8_isDirection_6
  exact key s.heap [] hP hS
theorem hd_X8_isDirection : Hd yX8_isDirection 1 := by decide +kernel
theorem k_X8_isDirection {p : Program} {l : Launch} {e : Env} {R : Room} {s : State} {m : MethodId} {args : Array Value} {below : List Frame} {meth : Method} {c : Code} {H : Heap} {locs : List Loc} {cells slots : Nat} {Q : State → Prop} {cc : ByteArray} {nL pc index : Nat} {ls : Array Slot} {rest : List Value} {X : En} {M : Mem} {H0 : Heap} {own : String} {x0 : Int32} (hZ : Fx p c m s args X cc nL own) (hP : wd X M H) (hS : va_S X.A H0 H locs) (hsz : ls.size = nL) (hlk : Cond.methodLink own index yX8_isDirection ∈ lw_u) (hR : 1 + 1 ≤ R.frames ∧ 8 + (1 + 11) + 22 ≤ R.locals) (hW : (rest.map fun v => v.category).sum ≤ 8) (hdg : decode cc pc = .ok (.invokestatic index, 3)) (hcs : cells ≤ R.cells ∧ slots ≤ R.slots)
    (kk : ∀ (H1 : Heap) (locs1 : List Loc), wd X M H1 → va_S X.A H0 H1 locs1 → W p l e R s m args below meth c H1 locs1 cells slots Q (F0 m (pc + 3) ls (.int (fn_X8_isDirection x0) :: rest))) : W p l e R s m args below meth c H locs cells slots Q (F0 m pc ls (.int x0 :: rest)) :=
  cal_i (runS (As := [.int x0]) (rest := rest) hZ.1 hZ.2.1 hZ.2.2.1 hZ.2.2.2.1 hZ.2.2.2.2.1 hZ.2.2.2.2.2 hP (c_X8_isDirection x0 M _ rfl) wd_4_92 wd_4_91 wd_1_9 hd_X8_isDirection rfl hlk hR hsz rfl hW hdg hcs) hS kk
/-! FrameRaiserModel.all -/
def fn_X8_all (M : Mem) : Int32 :=
  (sl (1 : Int32) (M 62 (ix (0 : Int32)))) - (1 : Int32)
theorem dX8_all_0 : decode cX8_all 0 = .ok (.iconst 1, 1) := by decide +kernel
theorem dX8_all_1 : decode cX8_all 1 = .ok (.aload_n 0, 1) := by decide +kernel
theorem dX8_all_2 : decode cX8_all 2 = .ok (.getfield 7, 3) := by decide +kernel
theorem dX8_all_5 : decode cX8_all 5 = .ok (.iconst 0, 1) := by decide +kernel
theorem dX8_all_6 : decode cX8_all 6 = .ok (.iaload, 1) := by decide +kernel
theorem dX8_all_7 : decode cX8_all 7 = .ok (.ishl, 1) := by decide +kernel
theorem dX8_all_8 : decode cX8_all 8 = .ok (.iconst 1, 1) := by decide +kernel
theorem dX8_all_9 : decode cX8_all 9 = .ok (.isub, 1) := by decide +kernel
theorem dX8_all_10 : decode cX8_all 10 = .ok (.ireturn, 1) := by decide +kernel
set_option maxHeartbeats 4000000 in
set_option maxRecDepth 100000 in
theorem c_X8_all {l : Launch} {X : En} (M : Mem) (r : Int32) (hf : fn_X8_all M = r) : Cn l X yX8_all cX8_all 1 (some .int) 0 0 [.ref (X.ad 61)] M (Qi X r M) := by
  refine Met.ofW (cc := cX8_all) (maxL := 1) (ret := (some .int)) (by decide) rfl ?_
  intro p e s m args below meth c s₁ B hml hv
  obtain ⟨rfl, hP, hk⟩ := hv
  have hx := B.exec
  have hb := B.bytes
  have hr := B.returns
  have hlocks := B.notSynchronized
  have hts : ∀ w ∈ lw_u, w.before ([.ref (X.ad 61)] : List Value).toArray s = true := fun w hw => atoms_spec (ws := Cond.code yX8_all cX8_all 1 (some .int) :: lw_u) B.pre w (List.mem_cons_of_mem _ hw)
  have hown : s.vm.findClass RX8 = some m.cls := findClass_of_methodNamed B.named
  have hZ : Fx p c m s ([.ref (X.ad 61)] : List Value).toArray X cX8_all 1 RX8 := ⟨hx, hb, hml, hts, hown, hk⟩
  have hS : va_S X.A s.heap s.heap [] := va_S.rf
  have hl := lv_entry ([.ref (X.ad 61)]) (n := 1) (Nat.le_of_ble_eq_true rfl)
  rw [lg_entry_eq]
  generalize (lg_sl ([.ref (X.ad 61)]) ++ List.replicate (1 - (lg_sl ([.ref (X.ad 61)])).length) Slot.unset).toArray = ls at hl ⊢
  have hl : lv_has ls 1 [(0, .ref (X.ad 61))] := hl
  show WW p l e 0 0 s m [.ref (X.ad 61)] below meth c X (Qi X r M) s.heap [] 0 ls []
  have hP : wd X M s.heap := hP
  unfold fn_X8_all at hf
  have key : ∀ (H : Heap) (locs : List Loc), wd X M H → va_S X.A s.heap H locs → WW p l e 0 0 s m [.ref (X.ad 61)] below meth c X (Qi X r M) H locs 0 ls [] := by
    intro H locs hP hS
    refine lv_iconst (v := (1 : Int32)) hx hb dX8_all_0 (by decide) ?_
    refine lv_aload_n hx hb dX8_all_1 rfl (lv_at hl 0 rfl) ?_
    refine gX8_0 hx hb hts hown hk hP wd_3_192 dX8_all_2 ?_
    refine lv_iconst (v := (0 : Int32)) hx hb dX8_all_5 (by decide) ?_
    refine ald hx hb hk hP (by decide) rfl (show inb _ _ from by decide) dX8_all_6 ?_
    refine rw_ishl hx hb dX8_all_7 ?_
    refine lv_iconst (v := (1 : Int32)) hx hb dX8_all_8 (by decide) ?_
    refine lv_isub hx hb dX8_all_9 ?_
    exact ret_i hx hb hr hlocks hP hS hf dX8_all_10
  exact key s.heap [] hP hS
theorem hd_X8_all : Hd yX8_all 0 := by decide +kernel
theorem k_X8_all {p : Program} {l : Launch} {e : Env} {R : Room} {s : State} {m : MethodId} {args : Array Value} {below : List Frame} {meth : Method} {c : Code} {H : Heap} {locs : List Loc} {cells slots : Nat} {Q : State → Prop} {cc : ByteArray} {nL pc index : Nat} {ls : Array Slot} {rest : List Value} {X : En} {M : Mem} {H0 : Heap} {own : String} (hZ : Fx p c m s args X cc nL own) (hP : wd X M H) (hS : va_S X.A H0 H locs) (hsz : ls.size = nL) (hlk : Cond.methodLink own index yX8_all ∈ lw_u) (hR : 0 + 1 ≤ R.frames ∧ 8 + (1 + 11) + 0 ≤ R.locals) (hW : (rest.map fun v => v.category).sum ≤ 8) (hdg : decode cc pc = .ok (.invokevirtual index, 3)) (hcs : cells ≤ R.cells ∧ slots ≤ R.slots)
    (kk : ∀ (H1 : Heap) (locs1 : List Loc), wd X M H1 → va_S X.A H0 H1 locs1 → W p l e R s m args below meth c H1 locs1 cells slots Q (F0 m (pc + 3) ls (.int (fn_X8_all M) :: rest))) : W p l e R s m args below meth c H locs cells slots Q (F0 m pc ls (.ref (X.ad 61) :: rest)) :=
  cal_i (runV (As := []) (rest := rest) hZ.1 hZ.2.1 hZ.2.2.1 hZ.2.2.2.1 hZ.2.2.2.2.1 hZ.2.2.2.2.2 hP (c_X8_all M _ rfl) wd_4_128 wd_4_127 wd_p_46 wd_1_9 hd_X8_all (by decide) rfl rfl rfl hlk hR hsz rfl hW hdg hcs) hS kk
/-! FrameRaiserModel.isSet -/
def fn_X8_isSet (x1 : Int32) (M : Mem) : Int32 :=
  fn_X8_in x1 (0 : Int32) (fn_X8_all M)
theorem dX8_isSet_0 : decode cX8_isSet 0 = .ok (.iload_n 1, 1) := by decide +kernel
theorem dX8_isSet_1 : decode cX8_isSet 1 = .ok (.iconst 0, 1) := by decide +kernel
theorem dX8_isSet_2 : decode cX8_isSet 2 = .ok (.aload_n 0, 1) := by decide +kernel
theorem dX8_isSet_3 : decode cX8_isSet 3 = .ok (.invokevirtual 57, 3) := by decide +kernel
theorem dX8_isSet_6 : decode cX8_isSet 6 = .ok (.invokestatic 49, 3) := by decide +kernel
theorem dX8_isSet_9 : decode cX8_isSet 9 = .ok (.ireturn, 1) := by decide +kernel
theorem z_X8_isSet (x1 : Int32) (M : Mem) : isZ (fn_X8_isSet x1 M) := by
  unfold fn_X8_isSet
  repeat' (first | exact isZ_0 | exact isZ_1 | exact z_X8_in _ _ _ | split)
set_option maxHeartbeats 4000000 in
set_option maxRecDepth 100000 in
theorem c_X8_isSet {l : Launch} {X : En} (x1 : Int32) (M : Mem) (r : Int32) (hf : fn_X8_isSet x1 M = r) : Cn l X yX8_isSet cX8_isSet 2 (some .boolean) 1 22 [.ref (X.ad 61), .int x1] M (Qi X r M) := by
  refine Met.ofW (cc := cX8_isSet) (maxL := 2) (ret := (some .boolean)) (by decide) rfl ?_
  intro p e s m args below meth c s₁ B hml hv
  obtain ⟨rfl, hP, hk⟩ := hv
  have hx := B.exec
  have hb := B.bytes
  have hr := B.returns
  have hlocks := B.notSynchronized
  have hts : ∀ w ∈ lw_u, w.before ([.ref (X.ad 61), .int x1] : List Value).toArray s = true := fun w hw => atoms_spec (ws := Cond.code yX8_isSet cX8_isSet 2 (some .boolean) :: lw_u) B.pre w (List.mem_cons_of_mem _ hw)
  have hown : s.vm.findClass RX8 = some m.cls := findClass_of_methodNamed B.named
  have hZ : Fx p c m s ([.ref (X.ad 61), .int x1] : List Value).toArray X cX8_isSet 2 RX8 := ⟨hx, hb, hml, hts, hown, hk⟩
  have hS : va_S X.A s.heap s.heap [] := va_S.rf
  have hl := lv_entry ([.ref (X.ad 61), .int x1]) (n := 2) (Nat.le_of_ble_eq_true rfl)
  rw [lg_entry_eq]
  generalize (lg_sl ([.ref (X.ad 61), .int x1]) ++ List.replicate (2 - (lg_sl ([.ref (X.ad 61), .int x1])).length) Slot.unset).toArray = ls at hl ⊢
  have hl : lv_has ls 2 [(0, .ref (X.ad 61)), (1, .int x1)] := hl
  show WW p l e 1 22 s m [.ref (X.ad 61), .int x1] below meth c X (Qi X r M) s.heap [] 0 ls []
  have hP : wd X M s.heap := hP
  unfold fn_X8_isSet at hf
  have key : ∀ (H : Heap) (locs : List Loc), wd X M H → va_S X.A s.heap H locs → WW p l e 1 22 s m [.ref (X.ad 61), .int x1] below meth c X (Qi X r M) H locs 0 ls [] := by
    intro H locs hP hS
    refine lv_iload_n hx hb dX8_isSet_0 rfl (lv_at hl 1 rfl) ?_
    refine lv_iconst (v := (0 : Int32)) hx hb dX8_isSet_1 (by decide) ?_
    refine lv_aload_n hx hb dX8_isSet_2 rfl (lv_at hl 0 rfl) ?_
    refine k_X8_all hZ hP hS hl.1 wd_4_125 ⟨Nat.le_of_ble_eq_true rfl, Nat.le_of_ble_eq_true rfl⟩ (Nat.le_of_ble_eq_true rfl) dX8_isSet_3 ⟨Nat.zero_le _, Nat.zero_le _⟩ (fun H locs hP hS => ?_)
    refine k_X8_in hZ hP hS hl.1 wd_3_186 ⟨Nat.le_of_ble_eq_true rfl, Nat.le_of_ble_eq_true rfl⟩ (Nat.le_of_ble_eq_true rfl) dX8_isSet_6 ⟨Nat.zero_le _, Nat.zero_le _⟩ (fun H locs hP hS => ?_)
    exact ret_z hx hb hr hlocks hP hS (z_X8_in x1 (0 : Int32) (fn_X8_all M)) hf dX8_isSet_9
  exact key s.heap [] hP hS
theorem hd_X8_isSet : Hd yX8_isSet 1 := by decide +kernel
theorem k_X8_isSet {p : Program} {l : Launch} {e : Env} {R : Room} {s : State} {m : MethodId} {args : Array Value} {below : List Frame} {meth : Method} {c : Code} {H : Heap} {locs : List Loc} {cells slots : Nat} {Q : State → Prop} {cc : ByteArray} {nL pc index : Nat} {ls : Array Slot} {rest : List Value} {X : En} {M : Mem} {H0 : Heap} {own : String} {x1 : Int32} (hZ : Fx p c m s args X cc nL own) (hP : wd X M H) (hS : va_S X.A H0 H locs) (hsz : ls.size = nL) (hlk : Cond.methodLink own index yX8_isSet ∈ lw_u) (hR : 1 + 1 ≤ R.frames ∧ 8 + (2 + 11) + 22 ≤ R.locals) (hW : (rest.map fun v => v.category).sum ≤ 8) (hdg : decode cc pc = .ok (.invokevirtual index, 3)) (hcs : cells ≤ R.cells ∧ slots ≤ R.slots)
    (kk : ∀ (H1 : Heap) (locs1 : List Loc), wd X M H1 → va_S X.A H0 H1 locs1 → W p l e R s m args below meth c H1 locs1 cells slots Q (F0 m (pc + 3) ls (.int (fn_X8_isSet x1 M) :: rest))) : W p l e R s m args below meth c H locs cells slots Q (F0 m pc ls (.int x1 :: .ref (X.ad 61) :: rest)) :=
  cal_i (runV (As := [.int x1]) (rest := rest) hZ.1 hZ.2.1 hZ.2.2.1 hZ.2.2.2.1 hZ.2.2.2.2.1 hZ.2.2.2.2.2 hP (c_X8_isSet x1 M _ rfl) wd_4_124 wd_4_123 wd_p_45 wd_1_9 hd_X8_isSet (by decide) rfl rfl rfl hlk hR hsz rfl hW hdg hcs) hS kk
/-! FrameRaiserModel.isBox -/
def jn_X8_isBox_32 (s_2 : Int32) (x0 : Int32) (x1 : Int32) (x2 : Int32) (x3 : Int32) (x4 : Int32) (x5 : Int32) : Int32 :=
  if s_2 = 0 then
    ((0 : Int32))
  else
    (if (fn_X8_in x3 (1 : Int32) ((6 : Int32) - x0)) = 0 then
      ((0 : Int32))
    else
      (if (fn_X8_in x4 (1 : Int32) ((6 : Int32) - x1)) = 0 then
        ((0 : Int32))
      else
        (if (fn_X8_in x5 (1 : Int32) ((6 : Int32) - x2)) = 0 then
          ((0 : Int32))
        else
          ((1 : Int32)))))
def jn_X8_isBox_31 (x0 : Int32) (x1 : Int32) (x2 : Int32) (x3 : Int32) (x4 : Int32) (x5 : Int32) : Int32 :=
  jn_X8_isBox_32 (0 : Int32) x0 x1 x2 x3 x4 x5
def fn_X8_isBox (x0 : Int32) (x1 : Int32) (x2 : Int32) (x3 : Int32) (x4 : Int32) (x5 : Int32) : Int32 :=
  if (fn_X8_in x0 (0 : Int32) (5 : Int32)) = 0 then
    (jn_X8_isBox_31 x0 x1 x2 x3 x4 x5)
  else
    (if (fn_X8_in x1 (0 : Int32) (5 : Int32)) = 0 then
      (jn_X8_isBox_31 x0 x1 x2 x3 x4 x5)
    else
      (if (fn_X8_in x2 (0 : Int32) (5 : Int32)) = 0 then
        (jn_X8_isBox_31 x0 x1 x2 x3 x4 x5)
      else
        (jn_X8_isBox_32 (1 : Int32) x0 x1 x2 x3 x4 x5)))
theorem dX8_isBox_0 : decode cX8_isBox 0 = .ok (.iload_n 0, 1) := by decide +kernel
theorem dX8_isBox_1 : decode cX8_isBox 1 = .ok (.iconst 0, 1) := by decide +kernel
theorem dX8_isBox_2 : decode cX8_isBox 2 = .ok (.iconst 5, 1) := by decide +kernel
theorem dX8_isBox_3 : decode cX8_isBox 3 = .ok (.invokestatic 49, 3) := by decide +kernel
theorem dX8_isBox_6 : decode cX8_isBox 6 = .ok (.ifCond .eq 25, 3) := by decide +kernel
theorem dX8_isBox_9 : decode cX8_isBox 9 = .ok (.iload_n 1, 1) := by decide +kernel
theorem dX8_isBox_10 : decode cX8_isBox 10 = .ok (.iconst 0, 1) := by decide +kernel
theorem dX8_isBox_11 : decode cX8_isBox 11 = .ok (.iconst 5, 1) := by decide +kernel
theorem dX8_isBox_12 : decode cX8_isBox 12 = .ok (.invokestatic 49, 3) := by decide +kernel
theorem dX8_isBox_15 : decode cX8_isBox 15 = .ok (.ifCond .eq 16, 3) := by decide +kernel
theorem dX8_isBox_18 : decode cX8_isBox 18 = .ok (.iload_n 2, 1) := by decide +kernel
theorem dX8_isBox_19 : decode cX8_isBox 19 = .ok (.iconst 0, 1) := by decide +kernel
theorem dX8_isBox_20 : decode cX8_isBox 20 = .ok (.iconst 5, 1) := by decide +kernel
theorem dX8_isBox_21 : decode cX8_isBox 21 = .ok (.invokestatic 49, 3) := by decide +kernel
theorem dX8_isBox_24 : decode cX8_isBox 24 = .ok (.ifCond .eq 7, 3) := by decide +kernel
theorem dX8_isBox_27 : decode cX8_isBox 27 = .ok (.iconst 1, 1) := by decide +kernel
theorem dX8_isBox_28 : decode cX8_isBox 28 = .ok (.goto 4, 3) := by decide +kernel
theorem dX8_isBox_31 : decode cX8_isBox 31 = .ok (.iconst 0, 1) := by decide +kernel
theorem dX8_isBox_32 : decode cX8_isBox 32 = .ok (.istore 6, 2) := by decide +kernel
theorem dX8_isBox_34 : decode cX8_isBox 34 = .ok (.iload 6, 2) := by decide +kernel
theorem dX8_isBox_36 : decode cX8_isBox 36 = .ok (.ifCond .eq 45, 3) := by decide +kernel
theorem dX8_isBox_39 : decode cX8_isBox 39 = .ok (.iload_n 3, 1) := by decide +kernel
theorem dX8_isBox_40 : decode cX8_isBox 40 = .ok (.iconst 1, 1) := by decide +kernel
theorem dX8_isBox_41 : decode cX8_isBox 41 = .ok (.bipush 6, 2) := by decide +kernel
theorem dX8_isBox_43 : decode cX8_isBox 43 = .ok (.iload_n 0, 1) := by decide +kernel
theorem dX8_isBox_44 : decode cX8_isBox 44 = .ok (.isub, 1) := by decide +kernel
theorem dX8_isBox_45 : decode cX8_isBox 45 = .ok (.invokestatic 49, 3) := by decide +kernel
theorem dX8_isBox_48 : decode cX8_isBox 48 = .ok (.ifCond .eq 33, 3) := by decide +kernel
theorem dX8_isBox_51 : decode cX8_isBox 51 = .ok (.iload 4, 2) := by decide +kernel
theorem dX8_isBox_53 : decode cX8_isBox 53 = .ok (.iconst 1, 1) := by decide +kernel
theorem dX8_isBox_54 : decode cX8_isBox 54 = .ok (.bipush 6, 2) := by decide +kernel
theorem dX8_isBox_56 : decode cX8_isBox 56 = .ok (.iload_n 1, 1) := by decide +kernel
theorem dX8_isBox_57 : decode cX8_isBox 57 = .ok (.isub, 1) := by decide +kernel
theorem dX8_isBox_58 : decode cX8_isBox 58 = .ok (.invokestatic 49, 3) := by decide +kernel
theorem dX8_isBox_61 : decode cX8_isBox 61 = .ok (.ifCond .eq 20, 3) := by decide +kernel
theorem dX8_isBox_64 : decode cX8_isBox 64 = .ok (.iload 5, 2) := by decide +kernel
theorem dX8_isBox_66 : decode cX8_isBox 66 = .ok (.iconst 1, 1) := by decide +kernel
theorem dX8_isBox_67 : decode cX8_isBox 67 = .ok (.bipush 6, 2) := by decide +kernel
theorem dX8_isBox_69 : decode cX8_isBox 69 = .ok (.iload_n 2, 1) := by decide +kernel
theorem dX8_isBox_70 : decode cX8_isBox 70 = .ok (.isub, 1) := by decide +kernel
theorem dX8_isBox_71 : decode cX8_isBox 71 = .ok (.invokestatic 49, 3) := by decide +kernel
theorem dX8_isBox_74 : decode cX8_isBox 74 = .ok (.ifCond .eq 7, 3) := by decide +kernel
theorem dX8_isBox_77 : decode cX8_isBox 77 = .ok (.iconst 1, 1) := by decide +kernel
theorem dX8_isBox_78 : decode cX8_isBox 78 = .ok (.goto 4, 3) := by decide +kernel
theorem dX8_isBox_81 : decode cX8_isBox 81 = .ok (.iconst 0, 1) := by decide +kernel
theorem dX8_isBox_82 : decode cX8_isBox 82 = .ok (.ireturn, 1) := by decide +kernel
theorem z_X8_isBox (x0 : Int32) (x1 : Int32) (x2 : Int32) (x3 : Int32) (x4 : Int32) (x5 : Int32) : isZ (fn_X8_isBox x0 x1 x2 x3 x4 x5) := by
  unfold fn_X8_isBox jn_X8_isBox_31 jn_X8_isBox_32
  repeat' (first | exact isZ_0 | exact isZ_1 | exact z_X8_in _ _ _ | split)
set_option maxHeartbeats 4000000 in
set_option maxRecDepth 100000 in
theorem c_X8_isBox {l : Launch} {X : En} (x0 : Int32) (x1 : Int32) (x2 : Int32) (x3 : Int32) (x4 : Int32) (x5 : Int32) (M : Mem) (r : Int32) (hf : fn_X8_isBox x0 x1 x2 x3 x4 x5 = r) : Cn l X yX8_isBox cX8_isBox 7 (some .boolean) 1 22 [.int x0, .int x1, .int x2, .int x3, .int x4, .int x5] M (Qi X r M) := by
  refine Met.ofW (cc := cX8_isBox) (maxL := 7) (ret := (some .boolean)) (by decide) rfl ?_
  intro p e s m args below meth c s₁ B hml hv
  obtain ⟨rfl, hP, hk⟩ := hv
  have hx := B.exec
  have hb := B.bytes
  have hr := B.returns
  have hlocks := B.notSynchronized
  have hts : ∀ w ∈ lw_u, w.before ([.int x0, .int x1, .int x2, .int x3, .int x4, .int x5] : List Value).toArray s = true := fun w hw => atoms_spec (ws := Cond.code yX8_isBox cX8_isBox 7 (some .boolean) :: lw_u) B.pre w (List.mem_cons_of_mem _ hw)
  have hown : s.vm.findClass RX8 = some m.cls := findClass_of_methodNamed B.named
  have hZ : Fx p c m s ([.int x0, .int x1, .int x2, .int x3, .int x4, .int x5] : List Value).toArray X cX8_isBox 7 RX8 := ⟨hx, hb, hml, hts, hown, hk⟩
  have hS : va_S X.A s.heap s.heap [] := va_S.rf
  have hl := lv_entry ([.int x0, .int x1, .int x2, .int x3, .int x4, .int x5]) (n := 7) (Nat.le_of_ble_eq_true rfl)
  rw [lg_entry_eq]
  generalize (lg_sl ([.int x0, .int x1, .int x2, .int x3, .int x4, .int x5]) ++ List.replicate (7 - (lg_sl ([.int x0, .int x1, .int x2, .int x3, .int x4, .int x5])).length) Slot.unset).toArray = ls at hl ⊢
  have hl : lv_has ls 7 [(0, .int x0), (1, .int x1), (2, .int x2), (3, .int x3), (4, .int x4), (5, .int x5)] := hl
  show WW p l e 1 22 s m [.int x0, .int x1, .int x2, .int x3, .int x4, .int x5] below meth c X (Qi X r M) s.heap [] 0 ls []
  have hP : wd X M s.heap := hP
  have jn32 : ∀ (s_2 : Int32), jn_X8_isBox_32 s_2 x0 x1 x2 x3 x4 x5 = r → ∀ (H : Heap) (locs : List Loc) (ls : Array Slot), wd X M H → va_S X.A s.heap H locs → lv_has ls 7 [(0, .int x0), (1, .int x1), (2, .int x2), (3, .int x3), (4, .int x4), (5, .int x5)] → WW p l e 1 22 s m [.int x0, .int x1, .int x2, .int x3, .int x4, .int x5] below meth c X (Qi X r M) H locs 32 ls [.int s_2] := by
    intro s_2  hf H locs ls hP hS hl
    unfold jn_X8_isBox_32 at hf
    refine lv_istore (lv' := [(6, .int s_2), (0, .int x0), (1, .int x1), (2, .int x2), (3, .int x3), (4, .int x4), (5, .int x5)]) hx hb dX8_isBox_32 hl (by decide) rfl (fun ls hl => ?_)
    refine lv_iload hx hb dX8_isBox_34 (lv_at hl 0 rfl) ?_
    refine lv_if_eq (tgt := 81) hx hb dX8_isBox_36 (by decide) (fun c_3 => ?_) (fun c_3 => ?_)
    · have hf := i_t c_3 hf
      refine lv_iconst (v := (0 : Int32)) hx hb dX8_isBox_81 (by decide) ?_
      exact ret_z hx hb hr hlocks hP hS isZ_0 hf dX8_isBox_82
    · have hf := i_f c_3 hf
      refine lv_iload_n hx hb dX8_isBox_39 rfl (lv_at hl 4 rfl) ?_
      refine lv_iconst (v := (1 : Int32)) hx hb dX8_isBox_40 (by decide) ?_
      refine lv_bipush (v := (6 : Int32)) hx hb dX8_isBox_41 (by decide) ?_
      refine lv_iload_n hx hb dX8_isBox_43 rfl (lv_at hl 1 rfl) ?_
      refine lv_isub hx hb dX8_isBox_44 ?_
      refine k_X8_in hZ hP hS hl.1 wd_3_186 ⟨Nat.le_of_ble_eq_true rfl, Nat.le_of_ble_eq_true rfl⟩ (Nat.le_of_ble_eq_true rfl) dX8_isBox_45 ⟨Nat.zero_le _, Nat.zero_le _⟩ (fun H locs hP hS => ?_)
      refine lv_if_eq (tgt := 81) hx hb dX8_isBox_48 (by decide) (fun c_4 => ?_) (fun c_4 => ?_)
      · have hf := i_t c_4 hf
        refine lv_iconst (v := (0 : Int32)) hx hb dX8_isBox_81 (by decide) ?_
        exact ret_z hx hb hr hlocks hP hS isZ_0 hf dX8_isBox_82
      · have hf := i_f c_4 hf
        refine lv_iload hx hb dX8_isBox_51 (lv_at hl 5 rfl) ?_
        refine lv_iconst (v := (1 : Int32)) hx hb dX8_isBox_53 (by decide) ?_
        refine lv_bipush (v := (6 : Int32)) hx hb dX8_isBox_54 (by decide) ?_
        refine lv_iload_n hx hb dX8_isBox_56 rfl (lv_at hl 2 rfl) ?_
        refine lv_isub hx hb dX8_isBox_57 ?_
        refine k_X8_in hZ hP hS hl.1 wd_3_186 ⟨Nat.le_of_ble_eq_true rfl, Nat.le_of_ble_eq_true rfl⟩ (Nat.le_of_ble_eq_true rfl) dX8_isBox_58 ⟨Nat.zero_le _, Nat.zero_le _⟩ (fun H locs hP hS => ?_)
        refine lv_if_eq (tgt := 81) hx hb dX8_isBox_61 (by decide) (fun c_5 => ?_) (fun c_5 => ?_)
        · have hf := i_t c_5 hf
          refine lv_iconst (v := (0 : Int32)) hx hb dX8_isBox_81 (by decide) ?_
          exact ret_z hx hb hr hlocks hP hS isZ_0 hf dX8_isBox_82
        · have hf := i_f c_5 hf
          refine lv_iload hx hb dX8_isBox_64 (lv_at hl 6 rfl) ?_
          refine lv_iconst (v := (1 : Int32)) hx hb dX8_isBox_66 (by decide) ?_
          refine lv_bipush (v := (6 : Int32)) hx hb dX8_isBox_67 (by decide) ?_
          refine lv_iload_n hx hb dX8_isBox_69 rfl (lv_at hl 3 rfl) ?_
          refine lv_isub hx hb dX8_isBox_70 ?_
          refine k_X8_in hZ hP hS hl.1 wd_3_186 ⟨Nat.le_of_ble_eq_true rfl, Nat.le_of_ble_eq_true rfl⟩ (Nat.le_of_ble_eq_true rfl) dX8_isBox_71 ⟨Nat.zero_le _, Nat.zero_le _⟩ (fun H locs hP hS => ?_)
          refine lv_if_eq (tgt := 81) hx hb dX8_isBox_74 (by decide) (fun c_6 => ?_) (fun c_6 => ?_)
          · have hf := i_t c_6 hf
            refine lv_iconst (v := (0 : Int32)) hx hb dX8_isBox_81 (by decide) ?_
            exact ret_z hx hb hr hlocks hP hS isZ_0 hf dX8_isBox_82
          · have hf := i_f c_6 hf
            refine lv_iconst (v := (1 : Int32)) hx hb dX8_isBox_77 (by decide) ?_
            refine lv_goto (tgt := 82) hx hb dX8_isBox_78 (by decide) ?_
            exact ret_z hx hb hr hlocks hP hS isZ_1 hf dX8_isBox_82
  have jn31 : jn_X8_isBox_31 x0 x1 x2 x3 x4 x5 = r → ∀ (H : Heap) (locs : List Loc) (ls : Array Slot), wd X M H → va_S X.A s.heap H locs → lv_has ls 7 [(0, .int x0), (1, .int x1), (2, .int x2), (3, .int x3), (4, .int x4), (5, .int x5)] → WW p l e 1 22 s m [.int x0, .int x1, .int x2, .int x3, .int x4, .int x5] below meth c X (Qi X r M) H locs 31 ls [] := by
    intro   hf H locs ls hP hS hl
    unfold jn_X8_isBox_31 at hf
    refine lv_iconst (v := (0 : Int32)) hx hb dX8_isBox_31 (by decide) ?_
    exact jn32 (0 : Int32) hf H locs ls hP hS (lv_sub hl [0, 1, 2, 3, 4, 5] rfl)
  unfold fn_X8_isBox at hf
  have key : ∀ (H : Heap) (locs : List Loc), wd X M H → va_S X.A s.heap H locs → WW p l e 1 22 s m [.int x0, .int x1, .int x2, .int x3, .int x4, .int x5] below meth c X (Qi X r M) H locs 0 ls [] := by
    intro H locs hP hS
    refine lv_iload_n hx hb dX8_isBox_0 rfl (lv_at hl 0 rfl) ?_
    refine lv_iconst (v := (0 : Int32)) hx hb dX8_isBox_1 (by decide) ?_
    refine lv_iconst (v := (5 : Int32)) hx hb dX8_isBox_2 (by decide) ?_
    refine k_X8_in hZ hP hS hl.1 wd_3_186 ⟨Nat.le_of_ble_eq_true rfl, Nat.le_of_ble_eq_true rfl⟩ (Nat.le_of_ble_eq_true rfl) dX8_isBox_3 ⟨Nat.zero_le _, Nat.zero_le _⟩ (fun H locs hP hS => ?_)
    refine lv_if_eq (tgt := 31) hx hb dX8_isBox_6 (by decide) (fun c_1 => ?_) (fun c_1 => ?_)
    · have hf := i_t c_1 hf
      exact jn31  hf H locs ls hP hS (lv_sub hl [0, 1, 2, 3, 4, 5] rfl)
    · have hf := i_f c_1 hf
      refine lv_iload_n hx hb dX8_isBox_9 rfl (lv_at hl 1 rfl) ?_
      refine lv_iconst (v := (0 : Int32)) hx hb dX8_isBox_10 (by decide) ?_
      refine lv_iconst (v := (5 : Int32)) hx hb dX8_isBox_11 (by decide) ?_
      refine k_X8_in hZ hP hS hl.1 wd_3_186 ⟨Nat.le_of_ble_eq_true rfl, Nat.le_of_ble_eq_true rfl⟩ (Nat.le_of_ble_eq_true rfl) dX8_isBox_12 ⟨Nat.zero_le _, Nat.zero_le _⟩ (fun H locs hP hS => ?_)
      refine lv_if_eq (tgt := 31) hx hb dX8_isBox_15 (by decide) (fun c_7 => ?_) (fun c_7 => ?_)
      · have hf := i_t c_7 hf
        exact jn31  hf H locs ls hP hS (lv_sub hl [0, 1, 2, 3, 4, 5] rfl)
      · have hf := i_f c_7 hf
        refine lv_iload_n hx hb dX8_isBox_18 rfl (lv_at hl 2 rfl) ?_
        refine lv_iconst (v := (0 : Int32)) hx hb dX8_isBox_19 (by decide) ?_
        refine lv_iconst (v := (5 : Int32)) hx hb dX8_isBox_20 (by decide) ?_
        refine k_X8_in hZ hP hS hl.1 wd_3_186 ⟨Nat.le_of_ble_eq_true rfl, Nat.le_of_ble_eq_true rfl⟩ (Nat.le_of_ble_eq_true rfl) dX8_isBox_21 ⟨Nat.zero_le _, Nat.zero_le _⟩ (fun H locs hP hS => ?_)
        refine lv_if_eq (tgt := 31) hx hb dX8_isBox_24 (by decide) (fun c_8 => ?_) (fun c_8 => ?_)
        · have hf := i_t c_8 hf
          exact jn31  hf H locs ls hP hS (lv_sub hl [0, 1, 2, 3, 4, 5] rfl)
        · have hf := i_f c_8 hf
          refine lv_iconst (v := (1 : Int32)) hx hb dX8_isBox_27 (by decide) ?_
          refine lv_goto (tgt := 32) hx hb dX8_isBox_28 (by decide) ?_
          exact jn32 (1 : Int32) hf H locs ls hP hS (lv_sub hl [0, 1, 2, 3, 4, 5] rfl)
  exact key s.heap [] hP hS
theorem hd_X8_isBox : Hd yX8_isBox 6 := by decide +kernel
theorem k_X8_isBox {p : Program} {l : Launch} {e : Env} {R : Room} {s : State} {m : MethodId} {args : Array Value} {below : List Frame} {meth : Method} {c : Code} {H : Heap} {locs : List Loc} {cells slots : Nat} {Q : State → Prop} {cc : ByteArray} {nL pc index : Nat} {ls : Array Slot} {rest : List Value} {X : En} {M : Mem} {H0 : Heap} {own : String} {x0 : Int32} {x1 : Int32} {x2 : Int32} {x3 : Int32} {x4 : Int32} {x5 : Int32} (hZ : Fx p c m s args X cc nL own) (hP : wd X M H) (hS : va_S X.A H0 H locs) (hsz : ls.size = nL) (hlk : Cond.methodLink own index yX8_isBox ∈ lw_u) (hR : 1 + 1 ≤ R.frames ∧ 8 + (7 + 11) + 22 ≤ R.locals) (hW : (rest.map fun v => v.category).sum ≤ 8) (hdg : decode cc pc = .ok (.invokestatic index, 3)) (hcs : cells ≤ R.cells ∧ slots ≤ R.slots)
    (kk : ∀ (H1 : Heap) (locs1 : List Loc), wd X M H1 → va_S X.A H0 H1 locs1 → W p l e R s m args below meth c H1 locs1 cells slots Q (F0 m (pc + 3) ls (.int (fn_X8_isBox x0 x1 x2 x3 x4 x5) :: rest))) : W p l e R s m args below meth c H locs cells slots Q (F0 m pc ls (.int x5 :: .int x4 :: .int x3 :: .int x2 :: .int x1 :: .int x0 :: rest)) :=
  cal_i (runS (As := [.int x0, .int x1, .int x2, .int x3, .int x4, .int x5]) (rest := rest) hZ.1 hZ.2.1 hZ.2.2.1 hZ.2.2.2.1 hZ.2.2.2.2.1 hZ.2.2.2.2.2 hP (c_X8_isBox x0 x1 x2 x3 x4 x5 M _ rfl) wd_4_65 wd_4_64 wd_1_9 hd_X8_isBox rfl hlk hR hsz rfl hW hdg hcs) hS kk
/-! FrameRaiserModel.meets -/
def jn_X8_meets_77 (s_13 : Int32) (v9_12 : Int32) : Option ((Int32 × Int32) ⊕ (Int32)) :=
  some (.inl (s_13, v9_12 + (1 : Int32)))
def jn_X8_meets_76 (v9_15 : Int32) : Option ((Int32 × Int32) ⊕ (Int32)) :=
  jn_X8_meets_77 (0 : Int32) v9_15
def jn_X8_meets_72 (v9_11 : Int32) : Option ((Int32 × Int32) ⊕ (Int32)) :=
  jn_X8_meets_77 (1 : Int32) v9_11
def bd_X8_meets_6 (x1 : Int32) (x2 : Int32) (x3 : Int32) (x4 : Int32) (x5 : Int32) (x6 : Int32) (x7 : Int32) (M : Mem) : (Int32 × Int32) → Option ((Int32 × Int32) ⊕ (Int32)) :=
  u2 fun v8_2 v9_1 =>
  if ((x5 * x6) * x7) ≤ v9_1 then
    (some (.inr v8_2))
  else
    (if ¬ x5 = 0 then
    if ¬ x5 = 0 then
    if ¬ x6 = 0 then
    if ¬ (x5 * x6) = 0 then
    (fn_X8_at (fn_X8_place (x2 + (rm v9_1 x5)) (x3 + (rm (v9_1 / x5) x6)) (x4 + (v9_1 / (x5 * x6)))) M).bind fun r_9 =>
    if v8_2 = 0 then
      (if r_9 < 0 then
        (jn_X8_meets_76 v9_1)
      else
        (if r_9 = x1 then
          (jn_X8_meets_76 v9_1)
        else
          (jn_X8_meets_72 v9_1)))
    else
      (jn_X8_meets_72 v9_1)
    else none
    else none
    else none
    else none)
def fn_X8_meets (g : Nat) (x1 : Int32) (x2 : Int32) (x3 : Int32) (x4 : Int32) (x5 : Int32) (x6 : Int32) (x7 : Int32) (M : Mem) : Option (Int32) :=
  (lpN g (bd_X8_meets_6 x1 x2 x3 x4 x5 x6 x7 M) ((0 : Int32), (0 : Int32))).bind (u1 fun v8_3 =>
    if isZ v8_3 then
    some v8_3
    else none)
theorem dX8_meets_0 : decode cX8_meets 0 = .ok (.iconst 0, 1) := by decide +kernel
theorem dX8_meets_1 : decode cX8_meets 1 = .ok (.istore 8, 2) := by decide +kernel
theorem dX8_meets_3 : decode cX8_meets 3 = .ok (.iconst 0, 1) := by decide +kernel
theorem dX8_meets_4 : decode cX8_meets 4 = .ok (.istore 9, 2) := by decide +kernel
theorem dX8_meets_6 : decode cX8_meets 6 = .ok (.iload 9, 2) := by decide +kernel
theorem dX8_meets_8 : decode cX8_meets 8 = .ok (.iload 5, 2) := by decide +kernel
theorem dX8_meets_10 : decode cX8_meets 10 = .ok (.iload 6, 2) := by decide +kernel
theorem dX8_meets_12 : decode cX8_meets 12 = .ok (.imul, 1) := by decide +kernel
theorem dX8_meets_13 : decode cX8_meets 13 = .ok (.iload 7, 2) := by decide +kernel
theorem dX8_meets_15 : decode cX8_meets 15 = .ok (.imul, 1) := by decide +kernel
theorem dX8_meets_16 : decode cX8_meets 16 = .ok (.if_icmp .ge 69, 3) := by decide +kernel
theorem dX8_meets_19 : decode cX8_meets 19 = .ok (.aload_n 0, 1) := by decide +kernel
theorem dX8_meets_20 : decode cX8_meets 20 = .ok (.iload_n 2, 1) := by decide +kernel
theorem dX8_meets_21 : decode cX8_meets 21 = .ok (.iload 9, 2) := by decide +kernel
theorem dX8_meets_23 : decode cX8_meets 23 = .ok (.iload 5, 2) := by decide +kernel
theorem dX8_meets_25 : decode cX8_meets 25 = .ok (.irem, 1) := by decide +kernel
theorem dX8_meets_26 : decode cX8_meets 26 = .ok (.iadd, 1) := by decide +kernel
theorem dX8_meets_27 : decode cX8_meets 27 = .ok (.iload_n 3, 1) := by decide +kernel
theorem dX8_meets_28 : decode cX8_meets 28 = .ok (.iload 9, 2) := by decide +kernel
theorem dX8_meets_30 : decode cX8_meets 30 = .ok (.iload 5, 2) := by decide +kernel
theorem dX8_meets_32 : decode cX8_meets 32 = .ok (.idiv, 1) := by decide +kernel
theorem dX8_meets_33 : decode cX8_meets 33 = .ok (.iload 6, 2) := by decide +kernel
theorem dX8_meets_35 : decode cX8_meets 35 = .ok (.irem, 1) := by decide +kernel
theorem dX8_meets_36 : decode cX8_meets 36 = .ok (.iadd, 1) := by decide +kernel
theorem dX8_meets_37 : decode cX8_meets 37 = .ok (.iload 4, 2) := by decide +kernel
theorem dX8_meets_39 : decode cX8_meets 39 = .ok (.iload 9, 2) := by decide +kernel
theorem dX8_meets_41 : decode cX8_meets 41 = .ok (.iload 5, 2) := by decide +kernel
theorem dX8_meets_43 : decode cX8_meets 43 = .ok (.iload 6, 2) := by decide +kernel
theorem dX8_meets_45 : decode cX8_meets 45 = .ok (.imul, 1) := by decide +kernel
theorem dX8_meets_46 : decode cX8_meets 46 = .ok (.idiv, 1) := by decide +kernel
theorem dX8_meets_47 : decode cX8_meets 47 = .ok (.iadd, 1) := by decide +kernel
theorem dX8_meets_48 : decode cX8_meets 48 = .ok (.invokestatic 53, 3) := by decide +kernel
theorem dX8_meets_51 : decode cX8_meets 51 = .ok (.invokevirtual 61, 3) := by decide +kernel
theorem dX8_meets_54 : decode cX8_meets 54 = .ok (.istore 10, 2) := by decide +kernel
theorem dX8_meets_56 : decode cX8_meets 56 = .ok (.iload 8, 2) := by decide +kernel
theorem dX8_meets_58 : decode cX8_meets 58 = .ok (.ifCond .ne 14, 3) := by decide +kernel
theorem dX8_meets_61 : decode cX8_meets 61 = .ok (.iload 10, 2) := by decide +kernel
theorem dX8_meets_63 : decode cX8_meets 63 = .ok (.ifCond .lt 13, 3) := by decide +kernel
theorem dX8_meets_66 : decode cX8_meets 66 = .ok (.iload 10, 2) := by decide +kernel
theorem dX8_meets_68 : decode cX8_meets 68 = .ok (.iload_n 1, 1) := by decide +kernel
theorem dX8_meets_69 : decode cX8_meets 69 = .ok (.if_icmp .eq 7, 3) := by decide +kernel
theorem dX8_meets_72 : decode cX8_meets 72 = .ok (.iconst 1, 1) := by decide +kernel
theorem dX8_meets_73 : decode cX8_meets 73 = .ok (.goto 4, 3) := by decide +kernel
theorem dX8_meets_76 : decode cX8_meets 76 = .ok (.iconst 0, 1) := by decide +kernel
theorem dX8_meets_77 : decode cX8_meets 77 = .ok (.istore 8, 2) := by decide +kernel
theorem dX8_meets_79 : decode cX8_meets 79 = .ok (.iinc 9 1, 3) := by decide +kernel
theorem dX8_meets_82 : decode cX8_meets 82 = .ok (.goto (-76), 3) := by decide +kernel
theorem dX8_meets_85 : decode cX8_meets 85 = .ok (.iload 8, 2) := by decide +kernel
theorem dX8_meets_87 : decode cX8_meets 87 = .ok (.ireturn, 1) := by decide +kernel
set_option maxHeartbeats 4000000 in
set_option maxRecDepth 100000 in
theorem c_X8_meets {l : Launch} {X : En} (g : Nat) (x1 : Int32) (x2 : Int32) (x3 : Int32) (x4 : Int32) (x5 : Int32) (x6 : Int32) (x7 : Int32) (M : Mem) (r : Int32) (hf : fn_X8_meets g x1 x2 x3 x4 x5 x6 x7 M = some r) : Cn l X yX8_meets cX8_meets 11 (some .boolean) 1 22 [.ref (X.ad 61), .int x1, .int x2, .int x3, .int x4, .int x5, .int x6, .int x7] M (Qi X r M) := by
  refine Met.ofW (cc := cX8_meets) (maxL := 11) (ret := (some .boolean)) (by decide) rfl ?_
  intro p e s m args below meth c s₁ B hml hv
  obtain ⟨rfl, hP, hk⟩ := hv
  have hx := B.exec
  have hb := B.bytes
  have hr := B.returns
  have hlocks := B.notSynchronized
  have hts : ∀ w ∈ lw_u, w.before ([.ref (X.ad 61), .int x1, .int x2, .int x3, .int x4, .int x5, .int x6, .int x7] : List Value).toArray s = true := fun w hw => atoms_spec (ws := Cond.code yX8_meets cX8_meets 11 (some .boolean) :: lw_u) B.pre w (List.mem_cons_of_mem _ hw)
  have hown : s.vm.findClass RX8 = some m.cls := findClass_of_methodNamed B.named
  have hZ : Fx p c m s ([.ref (X.ad 61), .int x1, .int x2, .int x3, .int x4, .int x5, .int x6, .int x7] : List Value).toArray X cX8_meets 11 RX8 := ⟨hx, hb, hml, hts, hown, hk⟩
  have hS : va_S X.A s.heap s.heap [] := va_S.rf
  have hl := lv_entry ([.ref (X.ad 61), .int x1, .int x2, .int x3, .int x4, .int x5, .int x6, .int x7]) (n := 11) (Nat.le_of_ble_eq_true rfl)
  rw [lg_entry_eq]
  generalize (lg_sl ([.ref (X.ad 61), .int x1, .int x2, .int x3, .int x4, .int x5, .int x6, .int x7]) ++ List.replicate (11 - (lg_sl ([.ref (X.ad 61), .int x1, .int x2, .int x3, .int x4, .int x5, .int x6, .int x7])).length) Slot.unset).toArray = ls at hl ⊢
  have hl : lv_has ls 11 [(0, .ref (X.ad 61)), (1, .int x1), (2, .int x2), (3, .int x3), (4, .int x4), (5, .int x5), (6, .int x6), (7, .int x7)] := hl
  show WW p l e 1 22 s m [.ref (X.ad 61), .int x1, .int x2, .int x3, .int x4, .int x5, .int x6, .int x7] below meth c X (Qi X r M) s.heap [] 0 ls []
  have hP : wd X M s.heap := hP
  unfold fn_X8_meets at hf
  have key : ∀ (H : Heap) (locs : List Loc), wd X M H → va_S X.A s.heap H locs → WW p l e 1 22 s m [.ref (X.ad 61), .int x1, .int x2, .int x3, .int x4, .int x5, .int x6, .int x7] below meth c X (Qi X r M) H locs 0 ls [] := by
    intro H locs hP hS
    refine lv_iconst (v := (0 : Int32)) hx hb dX8_meets_0 (by decide) ?_
    refine lv_istore (lv' := [(8, .int (0 : Int32)), (0, .ref (X.ad 61)), (1, .int x1), (2, .int x2), (3, .int x3), (4, .int x4), (5, .int x5), (6, .int x6), (7, .int x7)]) hx hb dX8_meets_1 hl (by decide) rfl (fun ls hl => ?_)
    refine lv_iconst (v := (0 : Int32)) hx hb dX8_meets_3 (by decide) ?_
    refine lv_istore (lv' := [(9, .int (0 : Int32)), (8, .int (0 : Int32)), (0, .ref (X.ad 61)), (1, .int x1), (2, .int x2), (3, .int x3), (4, .int x4), (5, .int x5), (6, .int x6), (7, .int x7)]) hx hb dX8_meets_4 hl (by decide) rfl (fun ls hl => ?_)
    obtain ⟨o6, ho6, hf⟩ := b_d hf
    refine lp_rule (b := bd_X8_meets_6 x1 x2 x3 x4 x5 x6 x7 M) (P := fun w : Int32 × Int32 => ∀ (H : Heap) (locs : List Loc) (ls : Array Slot), wd X M H → va_S X.A s.heap H locs → lv_has ls 11 [(9, .int w.2), (8, .int w.1), (0, .ref (X.ad 61)), (1, .int x1), (2, .int x2), (3, .int x3), (4, .int x4), (5, .int x5), (6, .int x6), (7, .int x7)] → WW p l e 1 22 s m [.ref (X.ad 61), .int x1, .int x2, .int x3, .int x4, .int x5, .int x6, .int x7] below meth c X (Qi X r M) H locs 6 ls []) (K := fun o => ∀ (v8_3 : Int32), o = v8_3 → ∀ (H : Heap) (locs : List Loc) (ls : Array Slot), wd X M H → va_S X.A s.heap H locs → lv_has ls 11 [(8, .int v8_3)] → WW p l e 1 22 s m [.ref (X.ad 61), .int x1, .int x2, .int x3, .int x4, .int x5, .int x6, .int x7] below meth c X (Qi X r M) H locs 85 ls []) ?_ g ((0 : Int32), (0 : Int32)) o6 ho6 ?_ H locs ls hP hS (lv_sub hl [0, 1, 2, 3, 4, 5, 6, 7, 8, 9] rfl)
    · rintro ⟨v8_2, v9_1⟩ o hf hkc6 hke6 H locs ls hP hS hl
      have hf := u2_e hf
      have jn77 : ∀ (v9_12 : Int32) (s_13 : Int32), jn_X8_meets_77 s_13 v9_12 = some o → ∀ (H : Heap) (locs : List Loc) (ls : Array Slot), wd X M H → va_S X.A s.heap H locs → lv_has ls 11 [(0, .ref (X.ad 61)), (1, .int x1), (2, .int x2), (3, .int x3), (4, .int x4), (5, .int x5), (6, .int x6), (7, .int x7), (9, .int v9_12)] → WW p l e 1 22 s m [.ref (X.ad 61), .int x1, .int x2, .int x3, .int x4, .int x5, .int x6, .int x7] below meth c X (Qi X r M) H locs 77 ls [.int s_13] := by
        intro v9_12 s_13  hf H locs ls hP hS hl
        unfold jn_X8_meets_77 at hf
        refine lv_istore (lv' := [(8, .int s_13), (0, .ref (X.ad 61)), (1, .int x1), (2, .int x2), (3, .int x3), (4, .int x4), (5, .int x5), (6, .int x6), (7, .int x7), (9, .int v9_12)]) hx hb dX8_meets_77 hl (by decide) rfl (fun ls hl => ?_)
        refine lv_iinc (v := v9_12 + (1 : Int32)) (lv' := [(9, .int (v9_12 + (1 : Int32))), (8, .int s_13), (0, .ref (X.ad 61)), (1, .int x1), (2, .int x2), (3, .int x3), (4, .int x4), (5, .int x5), (6, .int x6), (7, .int x7)]) hx hb dX8_meets_79 hl (k := 9) rfl rfl (by decide) rfl (fun ls hl => ?_)
        refine lv_goto (tgt := 6) hx hb dX8_meets_82 (by decide) ?_
        exact hkc6 _ (Option.some.inj hf).symm H locs ls hP hS (lv_sub hl [0, 1, 2, 3, 4, 5, 6, 7, 8, 9] rfl)
      have jn72 : ∀ (v9_11 : Int32), jn_X8_meets_72 v9_11 = some o → ∀ (H : Heap) (locs : List Loc) (ls : Array Slot), wd X M H → va_S X.A s.heap H locs → lv_has ls 11 [(0, .ref (X.ad 61)), (1, .int x1), (2, .int x2), (3, .int x3), (4, .int x4), (5, .int x5), (6, .int x6), (7, .int x7), (9, .int v9_11)] → WW p l e 1 22 s m [.ref (X.ad 61), .int x1, .int x2, .int x3, .int x4, .int x5, .int x6, .int x7] below meth c X (Qi X r M) H locs 72 ls [] := by
        intro v9_11  hf H locs ls hP hS hl
        unfold jn_X8_meets_72 at hf
        refine lv_iconst (v := (1 : Int32)) hx hb dX8_meets_72 (by decide) ?_
        refine lv_goto (tgt := 77) hx hb dX8_meets_73 (by decide) ?_
        exact jn77 v9_11 (1 : Int32) hf H locs ls hP hS (lv_sub hl [0, 1, 2, 3, 4, 5, 6, 7, 8] rfl)
      have jn76 : ∀ (v9_15 : Int32), jn_X8_meets_76 v9_15 = some o → ∀ (H : Heap) (locs : List Loc) (ls : Array Slot), wd X M H → va_S X.A s.heap H locs → lv_has ls 11 [(0, .ref (X.ad 61)), (1, .int x1), (2, .int x2), (3, .int x3), (4, .int x4), (5, .int x5), (6, .int x6), (7, .int x7), (9, .int v9_15)] → WW p l e 1 22 s m [.ref (X.ad 61), .int x1, .int x2, .int x3, .int x4, .int x5, .int x6, .int x7] below meth c X (Qi X r M) H locs 76 ls [] := by
        intro v9_15  hf H locs ls hP hS hl
        unfold jn_X8_meets_76 at hf
        refine lv_iconst (v := (0 : Int32)) hx hb dX8_meets_76 (by decide) ?_
        exact jn77 v9_15 (0 : Int32) hf H locs ls hP hS (lv_sub hl [0, 1, 2, 3, 4, 5, 6, 7, 8] rfl)
      refine lv_iload hx hb dX8_meets_6 (lv_at hl 0 rfl) ?_
      refine lv_iload hx hb dX8_meets_8 (lv_at hl 7 rfl) ?_
      refine lv_iload hx hb dX8_meets_10 (lv_at hl 8 rfl) ?_
      refine lv_imul hx hb dX8_meets_12 ?_
      refine lv_iload hx hb dX8_meets_13 (lv_at hl 9 rfl) ?_
      refine lv_imul hx hb dX8_meets_15 ?_
      refine lv_icmp_ge (tgt := 85) hx hb dX8_meets_16 (by decide) (fun c_4 => ?_) (fun c_4 => ?_)
      · have hf := i_t c_4 hf
        exact hke6 _ (Option.some.inj hf).symm _ rfl H locs ls hP hS (lv_sub hl [1] rfl)
      · have hf := i_f c_4 hf
        refine lv_aload_n hx hb dX8_meets_19 rfl (lv_at hl 2 rfl) ?_
        refine lv_iload_n hx hb dX8_meets_20 rfl (lv_at hl 4 rfl) ?_
        refine lv_iload hx hb dX8_meets_21 (lv_at hl 0 rfl) ?_
        refine lv_iload hx hb dX8_meets_23 (lv_at hl 7 rfl) ?_
        obtain ⟨q_5, hf⟩ := g_if hf
        refine rw_irem hx hb dX8_meets_25 q_5 ?_
        refine lv_iadd hx hb dX8_meets_26 ?_
        refine lv_iload_n hx hb dX8_meets_27 rfl (lv_at hl 5 rfl) ?_
        refine lv_iload hx hb dX8_meets_28 (lv_at hl 0 rfl) ?_
        refine lv_iload hx hb dX8_meets_30 (lv_at hl 7 rfl) ?_
        obtain ⟨q_6, hf⟩ := g_if hf
        refine lv_idiv hx hb dX8_meets_32 q_6 ?_
        refine lv_iload hx hb dX8_meets_33 (lv_at hl 8 rfl) ?_
        obtain ⟨q_7, hf⟩ := g_if hf
        refine rw_irem hx hb dX8_meets_35 q_7 ?_
        refine lv_iadd hx hb dX8_meets_36 ?_
        refine lv_iload hx hb dX8_meets_37 (lv_at hl 6 rfl) ?_
        refine lv_iload hx hb dX8_meets_39 (lv_at hl 0 rfl) ?_
        refine lv_iload hx hb dX8_meets_41 (lv_at hl 7 rfl) ?_
        refine lv_iload hx hb dX8_meets_43 (lv_at hl 8 rfl) ?_
        refine lv_imul hx hb dX8_meets_45 ?_
        obtain ⟨q_8, hf⟩ := g_if hf
        refine lv_idiv hx hb dX8_meets_46 q_8 ?_
        refine lv_iadd hx hb dX8_meets_47 ?_
        refine k_X8_place hZ hP hS hl.1 wd_3_189 ⟨Nat.le_of_ble_eq_true rfl, Nat.le_of_ble_eq_true rfl⟩ (Nat.le_of_ble_eq_true rfl) dX8_meets_48 ⟨Nat.zero_le _, Nat.zero_le _⟩ (fun H locs hP hS => ?_)
        obtain ⟨r_9, h_r_9, hf⟩ := b_d hf
        refine k_X8_at hZ hP hS hl.1 wd_3_175 ⟨Nat.le_of_ble_eq_true rfl, Nat.le_of_ble_eq_true rfl⟩ (Nat.le_of_ble_eq_true rfl) dX8_meets_51 ⟨Nat.zero_le _, Nat.zero_le _⟩ h_r_9 (fun H locs hP hS => ?_)
        refine lv_istore (lv' := [(10, .int r_9), (9, .int v9_1), (8, .int v8_2), (0, .ref (X.ad 61)), (1, .int x1), (2, .int x2), (3, .int x3), (4, .int x4), (5, .int x5), (6, .int x6), (7, .int x7)]) hx hb dX8_meets_54 hl (by decide) rfl (fun ls hl => ?_)
        refine lv_iload hx hb dX8_meets_56 (lv_at hl 2 rfl) ?_
        refine lv_if_ne (tgt := 72) hx hb dX8_meets_58 (by decide) (fun c_10 => ?_) (fun c_10 => ?_)
        · have hf := i_f c_10 hf
          exact jn72 v9_1 hf H locs ls hP hS (lv_sub hl [3, 4, 5, 6, 7, 8, 9, 10, 1] rfl)
        · have hf := i_t c_10 hf
          refine lv_iload hx hb dX8_meets_61 (lv_at hl 0 rfl) ?_
          refine lv_if_lt (tgt := 76) hx hb dX8_meets_63 (by decide) (fun c_14 => ?_) (fun c_14 => ?_)
          · have hf := i_t c_14 hf
            exact jn76 v9_1 hf H locs ls hP hS (lv_sub hl [3, 4, 5, 6, 7, 8, 9, 10, 1] rfl)
          · have hf := i_f c_14 hf
            refine lv_iload hx hb dX8_meets_66 (lv_at hl 0 rfl) ?_
            refine lv_iload_n hx hb dX8_meets_68 rfl (lv_at hl 4 rfl) ?_
            refine lv_icmp_eq (tgt := 76) hx hb dX8_meets_69 (by decide) (fun c_16 => ?_) (fun c_16 => ?_)
            · have hf := i_t c_16 hf
              exact jn76 v9_1 hf H locs ls hP hS (lv_sub hl [3, 4, 5, 6, 7, 8, 9, 10, 1] rfl)
            · have hf := i_f c_16 hf
              exact jn72 v9_1 hf H locs ls hP hS (lv_sub hl [3, 4, 5, 6, 7, 8, 9, 10, 1] rfl)
    · intro v8_3 e H locs ls hP hS hl
      subst o6
      have hf := u1_e hf
      refine lv_iload hx hb dX8_meets_85 (lv_at hl 0 rfl) ?_
      obtain ⟨z_17, hf⟩ := g_if hf
      have hf := Option.some.inj hf
      exact ret_z hx hb hr hlocks hP hS z_17 hf dX8_meets_87
  exact key s.heap [] hP hS
theorem hd_X8_meets : Hd yX8_meets 7 := by decide +kernel
theorem k_X8_meets {p : Program} {l : Launch} {e : Env} {R : Room} {s : State} {m : MethodId} {args : Array Value} {below : List Frame} {meth : Method} {c : Code} {H : Heap} {locs : List Loc} {cells slots : Nat} {Q : State → Prop} {cc : ByteArray} {nL pc index : Nat} {ls : Array Slot} {rest : List Value} {X : En} {M : Mem} {H0 : Heap} {own : String} {g : Nat} {x1 : Int32} {x2 : Int32} {x3 : Int32} {x4 : Int32} {x5 : Int32} {x6 : Int32} {x7 : Int32} {r : Int32} (hZ : Fx p c m s args X cc nL own) (hP : wd X M H) (hS : va_S X.A H0 H locs) (hsz : ls.size = nL) (hlk : Cond.methodLink own index yX8_meets ∈ lw_u) (hR : 1 + 1 ≤ R.frames ∧ 8 + (11 + 11) + 22 ≤ R.locals) (hW : (rest.map fun v => v.category).sum ≤ 8) (hdg : decode cc pc = .ok (.invokevirtual index, 3)) (hcs : cells ≤ R.cells ∧ slots ≤ R.slots) (hf : fn_X8_meets g x1 x2 x3 x4 x5 x6 x7 M = some r)
    (kk : ∀ (H1 : Heap) (locs1 : List Loc), wd X M H1 → va_S X.A H0 H1 locs1 → W p l e R s m args below meth c H1 locs1 cells slots Q (F0 m (pc + 3) ls (.int r :: rest))) : W p l e R s m args below meth c H locs cells slots Q (F0 m pc ls (.int x7 :: .int x6 :: .int x5 :: .int x4 :: .int x3 :: .int x2 :: .int x1 :: .ref (X.ad 61) :: rest)) :=
  cal_i (runV (As := [.int x1, .int x2, .int x3, .int x4, .int x5, .int x6, .int x7]) (rest := rest) hZ.1 hZ.2.1 hZ.2.2.1 hZ.2.2.2.1 hZ.2.2.2.2.1 hZ.2.2.2.2.2 hP (c_X8_meets g x1 x2 x3 x4 x5 x6 x7 M r hf) wd_4_42 wd_4_41 wd_p_36 wd_1_9 hd_X8_meets (by decide) rfl rfl rfl hlk hR hsz rfl hW hdg hcs) hS kk
/-! FrameRaiserModel.fills -/
def bd_X8_fills_3 (x1 : Int32) (x2 : Int32) (x3 : Int32) (x4 : Int32) (x5 : Int32) (x6 : Int32) (x7 : Int32) : (Int32 × Mem) → Option ((Int32 × Mem) ⊕ (Mem)) :=
  u2 fun v8_1 M_2 =>
  if ((x5 * x6) * x7) ≤ v8_1 then
    (some (.inr M_2))
  else
    (if ¬ x5 = 0 then
    if ¬ x5 = 0 then
    if ¬ x6 = 0 then
    if ¬ (x5 * x6) = 0 then
    if inb ((11 : Int32) + (fn_X8_place (x2 + (rm v8_1 x5)) (x3 + (rm (v8_1 / x5) x6)) (x4 + (v8_1 / (x5 * x6))))) 2270 then
    bv (st M_2 62 (ix ((11 : Int32) + (fn_X8_place (x2 + (rm v8_1 x5)) (x3 + (rm (v8_1 / x5) x6)) (x4 + (v8_1 / (x5 * x6)))))) (x1 + (1 : Int32))) fun M_9 =>
    some (.inl (v8_1 + (1 : Int32), M_9))
    else none
    else none
    else none
    else none
    else none)
def fn_X8_fills (g : Nat) (x1 : Int32) (x2 : Int32) (x3 : Int32) (x4 : Int32) (x5 : Int32) (x6 : Int32) (x7 : Int32) (M : Mem) : Option (Mem) :=
  (lpN g (bd_X8_fills_3 x1 x2 x3 x4 x5 x6 x7) ((0 : Int32), M)).bind (u1 fun M_3 =>
    if inb ((3 : Int32) + x1) 2270 then
    if inb ((3 : Int32) + x1) 2270 then
    bv (st M_3 62 (ix ((3 : Int32) + x1)) ((M_3 62 (ix ((3 : Int32) + x1))) + (1 : Int32))) fun M_12 =>
    some M_12
    else none
    else none)
theorem dX8_fills_0 : decode cX8_fills 0 = .ok (.iconst 0, 1) := by decide +kernel
theorem dX8_fills_1 : decode cX8_fills 1 = .ok (.istore 8, 2) := by decide +kernel
theorem dX8_fills_3 : decode cX8_fills 3 = .ok (.iload 8, 2) := by decide +kernel
theorem dX8_fills_5 : decode cX8_fills 5 = .ok (.iload 5, 2) := by decide +kernel
theorem dX8_fills_7 : decode cX8_fills 7 = .ok (.iload 6, 2) := by decide +kernel
theorem dX8_fills_9 : decode cX8_fills 9 = .ok (.imul, 1) := by decide +kernel
theorem dX8_fills_10 : decode cX8_fills 10 = .ok (.iload 7, 2) := by decide +kernel
theorem dX8_fills_12 : decode cX8_fills 12 = .ok (.imul, 1) := by decide +kernel
theorem dX8_fills_13 : decode cX8_fills 13 = .ok (.if_icmp .ge 51, 3) := by decide +kernel
theorem dX8_fills_16 : decode cX8_fills 16 = .ok (.aload_n 0, 1) := by decide +kernel
theorem dX8_fills_17 : decode cX8_fills 17 = .ok (.getfield 7, 3) := by decide +kernel
theorem dX8_fills_20 : decode cX8_fills 20 = .ok (.bipush 11, 2) := by decide +kernel
theorem dX8_fills_22 : decode cX8_fills 22 = .ok (.iload_n 2, 1) := by decide +kernel
theorem dX8_fills_23 : decode cX8_fills 23 = .ok (.iload 8, 2) := by decide +kernel
theorem dX8_fills_25 : decode cX8_fills 25 = .ok (.iload 5, 2) := by decide +kernel
theorem dX8_fills_27 : decode cX8_fills 27 = .ok (.irem, 1) := by decide +kernel
theorem dX8_fills_28 : decode cX8_fills 28 = .ok (.iadd, 1) := by decide +kernel
theorem dX8_fills_29 : decode cX8_fills 29 = .ok (.iload_n 3, 1) := by decide +kernel
theorem dX8_fills_30 : decode cX8_fills 30 = .ok (.iload 8, 2) := by decide +kernel
theorem dX8_fills_32 : decode cX8_fills 32 = .ok (.iload 5, 2) := by decide +kernel
theorem dX8_fills_34 : decode cX8_fills 34 = .ok (.idiv, 1) := by decide +kernel
theorem dX8_fills_35 : decode cX8_fills 35 = .ok (.iload 6, 2) := by decide +kernel
theorem dX8_fills_37 : decode cX8_fills 37 = .ok (.irem, 1) := by decide +kernel
theorem dX8_fills_38 : decode cX8_fills 38 = .ok (.iadd, 1) := by decide +kernel
theorem dX8_fills_39 : decode cX8_fills 39 = .ok (.iload 4, 2) := by decide +kernel
theorem dX8_fills_41 : decode cX8_fills 41 = .ok (.iload 8, 2) := by decide +kernel
theorem dX8_fills_43 : decode cX8_fills 43 = .ok (.iload 5, 2) := by decide +kernel
theorem dX8_fills_45 : decode cX8_fills 45 = .ok (.iload 6, 2) := by decide +kernel
theorem dX8_fills_47 : decode cX8_fills 47 = .ok (.imul, 1) := by decide +kernel
theorem dX8_fills_48 : decode cX8_fills 48 = .ok (.idiv, 1) := by decide +kernel
theorem dX8_fills_49 : decode cX8_fills 49 = .ok (.iadd, 1) := by decide +kernel
theorem dX8_fills_50 : decode cX8_fills 50 = .ok (.invokestatic 53, 3) := by decide +kernel
theorem dX8_fills_53 : decode cX8_fills 53 = .ok (.iadd, 1) := by decide +kernel
theorem dX8_fills_54 : decode cX8_fills 54 = .ok (.iload_n 1, 1) := by decide +kernel
theorem dX8_fills_55 : decode cX8_fills 55 = .ok (.iconst 1, 1) := by decide +kernel
theorem dX8_fills_56 : decode cX8_fills 56 = .ok (.iadd, 1) := by decide +kernel
theorem dX8_fills_57 : decode cX8_fills 57 = .ok (.iastore, 1) := by decide +kernel
theorem dX8_fills_58 : decode cX8_fills 58 = .ok (.iinc 8 1, 3) := by decide +kernel
theorem dX8_fills_61 : decode cX8_fills 61 = .ok (.goto (-58), 3) := by decide +kernel
theorem dX8_fills_64 : decode cX8_fills 64 = .ok (.aload_n 0, 1) := by decide +kernel
theorem dX8_fills_65 : decode cX8_fills 65 = .ok (.getfield 7, 3) := by decide +kernel
theorem dX8_fills_68 : decode cX8_fills 68 = .ok (.iconst 3, 1) := by decide +kernel
theorem dX8_fills_69 : decode cX8_fills 69 = .ok (.iload_n 1, 1) := by decide +kernel
theorem dX8_fills_70 : decode cX8_fills 70 = .ok (.iadd, 1) := by decide +kernel
theorem dX8_fills_71 : decode cX8_fills 71 = .ok (.dup2, 1) := by decide +kernel
theorem dX8_fills_72 : decode cX8_fills 72 = .ok (.iaload, 1) := by decide +kernel
theorem dX8_fills_73 : decode cX8_fills 73 = .ok (.iconst 1, 1) := by decide +kernel
theorem dX8_fills_74 : decode cX8_fills 74 = .ok (.iadd, 1) := by decide +kernel
theorem dX8_fills_75 : decode cX8_fills 75 = .ok (.iastore, 1) := by decide +kernel
theorem dX8_fills_76 : decode cX8_fills 76 = .ok (.return_, 1) := by decide +kernel
set_option maxHeartbeats 4000000 in
set_option maxRecDepth 100000 in
theorem c_X8_fills {l : Launch} {X : En} (g : Nat) (x1 : Int32) (x2 : Int32) (x3 : Int32) (x4 : Int32) (x5 : Int32) (x6 : Int32) (x7 : Int32) (M : Mem) (M9 : Mem) (hf : fn_X8_fills g x1 x2 x3 x4 x5 x6 x7 M = some M9) : Cn l X yX8_fills cX8_fills 9 none 1 22 [.ref (X.ad 61), .int x1, .int x2, .int x3, .int x4, .int x5, .int x6, .int x7] M (Qv X M9) := by
  refine Met.ofW (cc := cX8_fills) (maxL := 9) (ret := none) (by decide) rfl ?_
  intro p e s m args below meth c s₁ B hml hv
  obtain ⟨rfl, hP, hk⟩ := hv
  have hx := B.exec
  have hb := B.bytes
  have hr := B.returns
  have hlocks := B.notSynchronized
  have hts : ∀ w ∈ lw_u, w.before ([.ref (X.ad 61), .int x1, .int x2, .int x3, .int x4, .int x5, .int x6, .int x7] : List Value).toArray s = true := fun w hw => atoms_spec (ws := Cond.code yX8_fills cX8_fills 9 none :: lw_u) B.pre w (List.mem_cons_of_mem _ hw)
  have hown : s.vm.findClass RX8 = some m.cls := findClass_of_methodNamed B.named
  have hZ : Fx p c m s ([.ref (X.ad 61), .int x1, .int x2, .int x3, .int x4, .int x5, .int x6, .int x7] : List Value).toArray X cX8_fills 9 RX8 := ⟨hx, hb, hml, hts, hown, hk⟩
  have hS : va_S X.A s.heap s.heap [] := va_S.rf
  have hl := lv_entry ([.ref (X.ad 61), .int x1, .int x2, .int x3, .int x4, .int x5, .int x6, .int x7]) (n := 9) (Nat.le_of_ble_eq_true rfl)
  rw [lg_entry_eq]
  generalize (lg_sl ([.ref (X.ad 61), .int x1, .int x2, .int x3, .int x4, .int x5, .int x6, .int x7]) ++ List.replicate (9 - (lg_sl ([.ref (X.ad 61), .int x1, .int x2, .int x3, .int x4, .int x5, .int x6, .int x7])).length) Slot.unset).toArray = ls at hl ⊢
  have hl : lv_has ls 9 [(0, .ref (X.ad 61)), (1, .int x1), (2, .int x2), (3, .int x3), (4, .int x4), (5, .int x5), (6, .int x6), (7, .int x7)] := hl
  show WW p l e 1 22 s m [.ref (X.ad 61), .int x1, .int x2, .int x3, .int x4, .int x5, .int x6, .int x7] below meth c X (Qv X M9) s.heap [] 0 ls []
  have hP : wd X M s.heap := hP
  unfold fn_X8_fills at hf
  have key : ∀ (H : Heap) (locs : List Loc), wd X M H → va_S X.A s.heap H locs → WW p l e 1 22 s m [.ref (X.ad 61), .int x1, .int x2, .int x3, .int x4, .int x5, .int x6, .int x7] below meth c X (Qv X M9) H locs 0 ls [] := by
    intro H locs hP hS
    refine lv_iconst (v := (0 : Int32)) hx hb dX8_fills_0 (by decide) ?_
    refine lv_istore (lv' := [(8, .int (0 : Int32)), (0, .ref (X.ad 61)), (1, .int x1), (2, .int x2), (3, .int x3), (4, .int x4), (5, .int x5), (6, .int x6), (7, .int x7)]) hx hb dX8_fills_1 hl (by decide) rfl (fun ls hl => ?_)
    obtain ⟨o3, ho3, hf⟩ := b_d hf
    refine lp_rule (b := bd_X8_fills_3 x1 x2 x3 x4 x5 x6 x7) (P := fun w : Int32 × Mem => ∀ (H : Heap) (locs : List Loc) (ls : Array Slot), wd X w.2 H → va_S X.A s.heap H locs → lv_has ls 9 [(8, .int w.1), (0, .ref (X.ad 61)), (1, .int x1), (2, .int x2), (3, .int x3), (4, .int x4), (5, .int x5), (6, .int x6), (7, .int x7)] → WW p l e 1 22 s m [.ref (X.ad 61), .int x1, .int x2, .int x3, .int x4, .int x5, .int x6, .int x7] below meth c X (Qv X M9) H locs 3 ls []) (K := fun o => ∀ (M_3 : Mem), o = M_3 → ∀ (H : Heap) (locs : List Loc) (ls : Array Slot), wd X M_3 H → va_S X.A s.heap H locs → lv_has ls 9 [(0, .ref (X.ad 61)), (1, .int x1)] → WW p l e 1 22 s m [.ref (X.ad 61), .int x1, .int x2, .int x3, .int x4, .int x5, .int x6, .int x7] below meth c X (Qv X M9) H locs 64 ls []) ?_ g ((0 : Int32), M) o3 ho3 ?_ H locs ls hP hS (lv_sub hl [0, 1, 2, 3, 4, 5, 6, 7, 8] rfl)
    · rintro ⟨v8_1, M_2⟩ o hf hkc3 hke3 H locs ls hP hS hl
      have hf := u2_e hf
      refine lv_iload hx hb dX8_fills_3 (lv_at hl 0 rfl) ?_
      refine lv_iload hx hb dX8_fills_5 (lv_at hl 6 rfl) ?_
      refine lv_iload hx hb dX8_fills_7 (lv_at hl 7 rfl) ?_
      refine lv_imul hx hb dX8_fills_9 ?_
      refine lv_iload hx hb dX8_fills_10 (lv_at hl 8 rfl) ?_
      refine lv_imul hx hb dX8_fills_12 ?_
      refine lv_icmp_ge (tgt := 64) hx hb dX8_fills_13 (by decide) (fun c_4 => ?_) (fun c_4 => ?_)
      · have hf := i_t c_4 hf
        exact hke3 _ (Option.some.inj hf).symm _ rfl H locs ls hP hS (lv_sub hl [1, 2] rfl)
      · have hf := i_f c_4 hf
        refine lv_aload_n hx hb dX8_fills_16 rfl (lv_at hl 1 rfl) ?_
        refine gX8_0 hx hb hts hown hk hP wd_3_192 dX8_fills_17 ?_
        refine lv_bipush (v := (11 : Int32)) hx hb dX8_fills_20 (by decide) ?_
        refine lv_iload_n hx hb dX8_fills_22 rfl (lv_at hl 3 rfl) ?_
        refine lv_iload hx hb dX8_fills_23 (lv_at hl 0 rfl) ?_
        refine lv_iload hx hb dX8_fills_25 (lv_at hl 6 rfl) ?_
        obtain ⟨q_5, hf⟩ := g_if hf
        refine rw_irem hx hb dX8_fills_27 q_5 ?_
        refine lv_iadd hx hb dX8_fills_28 ?_
        refine lv_iload_n hx hb dX8_fills_29 rfl (lv_at hl 4 rfl) ?_
        refine lv_iload hx hb dX8_fills_30 (lv_at hl 0 rfl) ?_
        refine lv_iload hx hb dX8_fills_32 (lv_at hl 6 rfl) ?_
        obtain ⟨q_6, hf⟩ := g_if hf
        refine lv_idiv hx hb dX8_fills_34 q_6 ?_
        refine lv_iload hx hb dX8_fills_35 (lv_at hl 7 rfl) ?_
        obtain ⟨q_7, hf⟩ := g_if hf
        refine rw_irem hx hb dX8_fills_37 q_7 ?_
        refine lv_iadd hx hb dX8_fills_38 ?_
        refine lv_iload hx hb dX8_fills_39 (lv_at hl 5 rfl) ?_
        refine lv_iload hx hb dX8_fills_41 (lv_at hl 0 rfl) ?_
        refine lv_iload hx hb dX8_fills_43 (lv_at hl 6 rfl) ?_
        refine lv_iload hx hb dX8_fills_45 (lv_at hl 7 rfl) ?_
        refine lv_imul hx hb dX8_fills_47 ?_
        obtain ⟨q_8, hf⟩ := g_if hf
        refine lv_idiv hx hb dX8_fills_48 q_8 ?_
        refine lv_iadd hx hb dX8_fills_49 ?_
        refine k_X8_place hZ hP hS hl.1 wd_3_189 ⟨Nat.le_of_ble_eq_true rfl, Nat.le_of_ble_eq_true rfl⟩ (Nat.le_of_ble_eq_true rfl) dX8_fills_50 ⟨Nat.zero_le _, Nat.zero_le _⟩ (fun H locs hP hS => ?_)
        refine lv_iadd hx hb dX8_fills_53 ?_
        refine lv_iload_n hx hb dX8_fills_54 rfl (lv_at hl 2 rfl) ?_
        refine lv_iconst (v := (1 : Int32)) hx hb dX8_fills_55 (by decide) ?_
        refine lv_iadd hx hb dX8_fills_56 ?_
        obtain ⟨q_10, hf⟩ := g_if hf
        refine ast hx hb hk hP hS (by decide) (fun _ => rfl) q_10 dX8_fills_57 (fun H locs M_9 e_M_9 hP hS => ?_)
        have hf := b_v hf e_M_9
        refine lv_iinc (v := v8_1 + (1 : Int32)) (lv' := [(8, .int (v8_1 + (1 : Int32))), (0, .ref (X.ad 61)), (1, .int x1), (2, .int x2), (3, .int x3), (4, .int x4), (5, .int x5), (6, .int x6), (7, .int x7)]) hx hb dX8_fills_58 hl (k := 0) rfl rfl (by decide) rfl (fun ls hl => ?_)
        refine lv_goto (tgt := 3) hx hb dX8_fills_61 (by decide) ?_
        exact hkc3 _ (Option.some.inj hf).symm H locs ls hP hS (lv_sub hl [0, 1, 2, 3, 4, 5, 6, 7, 8] rfl)
    · intro M_3 e H locs ls hP hS hl
      subst o3
      have hf := u1_e hf
      refine lv_aload_n hx hb dX8_fills_64 rfl (lv_at hl 0 rfl) ?_
      refine gX8_0 hx hb hts hown hk hP wd_3_192 dX8_fills_65 ?_
      refine lv_iconst (v := (3 : Int32)) hx hb dX8_fills_68 (by decide) ?_
      refine lv_iload_n hx hb dX8_fills_69 rfl (lv_at hl 1 rfl) ?_
      refine lv_iadd hx hb dX8_fills_70 ?_
      refine lv_dup2_11 hx hb dX8_fills_71 rfl rfl ?_
      obtain ⟨q_11, hf⟩ := g_if hf
      refine ald hx hb hk hP (by decide) rfl q_11 dX8_fills_72 ?_
      refine lv_iconst (v := (1 : Int32)) hx hb dX8_fills_73 (by decide) ?_
      refine lv_iadd hx hb dX8_fills_74 ?_
      obtain ⟨q_13, hf⟩ := g_if hf
      refine ast hx hb hk hP hS (by decide) (fun _ => rfl) q_13 dX8_fills_75 (fun H locs M_12 e_M_12 hP hS => ?_)
      have hf := b_v hf e_M_12
      have hf := Option.some.inj hf
      rw [hf] at hP
      exact ret_v hx hb hr hlocks hP hS dX8_fills_76
  exact key s.heap [] hP hS
theorem hd_X8_fills : Hd yX8_fills 7 := by decide +kernel
theorem k_X8_fills {p : Program} {l : Launch} {e : Env} {R : Room} {s : State} {m : MethodId} {args : Array Value} {below : List Frame} {meth : Method} {c : Code} {H : Heap} {locs : List Loc} {cells slots : Nat} {Q : State → Prop} {cc : ByteArray} {nL pc index : Nat} {ls : Array Slot} {rest : List Value} {X : En} {M : Mem} {H0 : Heap} {own : String} {g : Nat} {x1 : Int32} {x2 : Int32} {x3 : Int32} {x4 : Int32} {x5 : Int32} {x6 : Int32} {x7 : Int32} {M9 : Mem} (hZ : Fx p c m s args X cc nL own) (hP : wd X M H) (hS : va_S X.A H0 H locs) (hsz : ls.size = nL) (hlk : Cond.methodLink own index yX8_fills ∈ lw_u) (hR : 1 + 1 ≤ R.frames ∧ 8 + (9 + 11) + 22 ≤ R.locals) (hW : (rest.map fun v => v.category).sum ≤ 8) (hdg : decode cc pc = .ok (.invokevirtual index, 3)) (hcs : cells ≤ R.cells ∧ slots ≤ R.slots) (hf : fn_X8_fills g x1 x2 x3 x4 x5 x6 x7 M = some M9)
    (kk : ∀ (H1 : Heap) (locs1 : List Loc), wd X M9 H1 → va_S X.A H0 H1 locs1 → W p l e R s m args below meth c H1 locs1 cells slots Q (F0 m (pc + 3) ls rest)) : W p l e R s m args below meth c H locs cells slots Q (F0 m pc ls (.int x7 :: .int x6 :: .int x5 :: .int x4 :: .int x3 :: .int x2 :: .int x1 :: .ref (X.ad 61) :: rest)) :=
  cal_v (runV (As := [.int x1, .int x2, .int x3, .int x4, .int x5, .int x6, .int x7]) (rest := rest) hZ.1 hZ.2.1 hZ.2.2.1 hZ.2.2.2.1 hZ.2.2.2.2.1 hZ.2.2.2.2.2 hP (c_X8_fills g x1 x2 x3 x4 x5 x6 x7 M M9 hf) wd_4_46 wd_4_45 wd_p_37 wd_1_9 hd_X8_fills (by decide) rfl rfl rfl hlk hR hsz rfl hW hdg hcs) hS kk
/-! FrameRaiserModel.isFree -/
def fn_X8_isFree (x1 : Int32) (x2 : Int32) (x3 : Int32) (M : Mem) : Option (Int32) :=
  if inb (((8 : Int32) * x3) + x1) 48 then
  if ((M 63 (ix (((8 : Int32) * x3) + x1))) &&& x2) = 0 then
    (some (1 : Int32))
  else
    (some (0 : Int32))
  else none
theorem dX8_isFree_0 : decode cX8_isFree 0 = .ok (.aload_n 0, 1) := by decide +kernel
theorem dX8_isFree_1 : decode cX8_isFree 1 = .ok (.getfield 13, 3) := by decide +kernel
theorem dX8_isFree_4 : decode cX8_isFree 4 = .ok (.bipush 8, 2) := by decide +kernel
theorem dX8_isFree_6 : decode cX8_isFree 6 = .ok (.iload_n 3, 1) := by decide +kernel
theorem dX8_isFree_7 : decode cX8_isFree 7 = .ok (.imul, 1) := by decide +kernel
theorem dX8_isFree_8 : decode cX8_isFree 8 = .ok (.iload_n 1, 1) := by decide +kernel
theorem dX8_isFree_9 : decode cX8_isFree 9 = .ok (.iadd, 1) := by decide +kernel
theorem dX8_isFree_10 : decode cX8_isFree 10 = .ok (.iaload, 1) := by decide +kernel
theorem dX8_isFree_11 : decode cX8_isFree 11 = .ok (.iload_n 2, 1) := by decide +kernel
theorem dX8_isFree_12 : decode cX8_isFree 12 = .ok (.iand, 1) := by decide +kernel
theorem dX8_isFree_13 : decode cX8_isFree 13 = .ok (.ifCond .ne 7, 3) := by decide +kernel
theorem dX8_isFree_16 : decode cX8_isFree 16 = .ok (.iconst 1, 1) := by decide +kernel
theorem dX8_isFree_17 : decode cX8_isFree 17 = .ok (.goto 4, 3) := by decide +kernel
theorem dX8_isFree_20 : decode cX8_isFree 20 = .ok (.iconst 0, 1) := by decide +kernel
theorem dX8_isFree_21 : decode cX8_isFree 21 = .ok (.ireturn, 1) := by decide +kernel
set_option maxHeartbeats 4000000 in
set_option maxRecDepth 100000 in
theorem c_X8_isFree {l : Launch} {X : En} (x1 : Int32) (x2 : Int32) (x3 : Int32) (M : Mem) (r : Int32) (hf : fn_X8_isFree x1 x2 x3 M = some r) : Cn l X yX8_isFree cX8_isFree 4 (some .boolean) 0 0 [.ref (X.ad 61), .int x1, .int x2, .int x3] M (Qi X r M) := by
  refine Met.ofW (cc := cX8_isFree) (maxL := 4) (ret := (some .boolean)) (by decide) rfl ?_
  intro p e s m args below meth c s₁ B hml hv
  obtain ⟨rfl, hP, hk⟩ := hv
  have hx := B.exec
  have hb := B.bytes
  have hr := B.returns
  have hlocks := B.notSynchronized
  have hts : ∀ w ∈ lw_u, w.before ([.ref (X.ad 61), .int x1, .int x2, .int x3] : List Value).toArray s = true := fun w hw => atoms_spec (ws := Cond.code yX8_isFree cX8_isFree 4 (some .boolean) :: lw_u) B.pre w (List.mem_cons_of_mem _ hw)
  have hown : s.vm.findClass RX8 = some m.cls := findClass_of_methodNamed B.named
  have hZ : Fx p c m s ([.ref (X.ad 61), .int x1, .int x2, .int x3] : List Value).toArray X cX8_isFree 4 RX8 := ⟨hx, hb, hml, hts, hown, hk⟩
  have hS : va_S X.A s.heap s.heap [] := va_S.rf
  have hl := lv_entry ([.ref (X.ad 61), .int x1, .int x2, .int x3]) (n := 4) (Nat.le_of_ble_eq_true rfl)
  rw [lg_entry_eq]
  generalize (lg_sl ([.ref (X.ad 61), .int x1, .int x2, .int x3]) ++ List.replicate (4 - (lg_sl ([.ref (X.ad 61), .int x1, .int x2, .int x3])).length) Slot.unset).toArray = ls at hl ⊢
  have hl : lv_has ls 4 [(0, .ref (X.ad 61)), (1, .int x1), (2, .int x2), (3, .int x3)] := hl
  show WW p l e 0 0 s m [.ref (X.ad 61), .int x1, .int x2, .int x3] below meth c X (Qi X r M) s.heap [] 0 ls []
  have hP : wd X M s.heap := hP
  unfold fn_X8_isFree at hf
  have key : ∀ (H : Heap) (locs : List Loc), wd X M H → va_S X.A s.heap H locs → WW p l e 0 0 s m [.ref (X.ad 61), .int x1, .int x2, .int x3] below meth c X (Qi X r M) H locs 0 ls [] := by
    intro H locs hP hS
    refine lv_aload_n hx hb dX8_isFree_0 rfl (lv_at hl 0 rfl) ?_
    refine gX8_2 hx hb hts hown hk hP wd_3_194 dX8_isFree_1 ?_
    refine lv_bipush (v := (8 : Int32)) hx hb dX8_isFree_4 (by decide) ?_
    refine lv_iload_n hx hb dX8_isFree_6 rfl (lv_at hl 3 rfl) ?_
    refine lv_imul hx hb dX8_isFree_7 ?_
    refine lv_iload_n hx hb dX8_isFree_8 rfl (lv_at hl 1 rfl) ?_
    refine lv_iadd hx hb dX8_isFree_9 ?_
    obtain ⟨q_1, hf⟩ := g_if hf
    refine ald hx hb hk hP (by decide) rfl q_1 dX8_isFree_10 ?_
    refine lv_iload_n hx hb dX8_isFree_11 rfl (lv_at hl 2 rfl) ?_
    refine lv_iand hx hb dX8_isFree_12 ?_
    refine lv_if_ne (tgt := 20) hx hb dX8_isFree_13 (by decide) (fun c_2 => ?_) (fun c_2 => ?_)
    · have hf := i_f c_2 hf
      refine lv_iconst (v := (0 : Int32)) hx hb dX8_isFree_20 (by decide) ?_
      have hf := Option.some.inj hf
      exact ret_z hx hb hr hlocks hP hS isZ_0 hf dX8_isFree_21
    · have hf := i_t c_2 hf
      refine lv_iconst (v := (1 : Int32)) hx hb dX8_isFree_16 (by decide) ?_
      refine lv_goto (tgt := 21) hx hb dX8_isFree_17 (by decide) ?_
      have hf := Option.some.inj hf
      exact ret_z hx hb hr hlocks hP hS isZ_1 hf dX8_isFree_21
  exact key s.heap [] hP hS
theorem hd_X8_isFree : Hd yX8_isFree 3 := by decide +kernel
theorem k_X8_isFree {p : Program} {l : Launch} {e : Env} {R : Room} {s : State} {m : MethodId} {args : Array Value} {below : List Frame} {meth : Method} {c : Code} {H : Heap} {locs : List Loc} {cells slots : Nat} {Q : State → Prop} {cc : ByteArray} {nL pc index : Nat} {ls : Array Slot} {rest : List Value} {X : En} {M : Mem} {H0 : Heap} {own : String} {x1 : Int32} {x2 : Int32} {x3 : Int32} {r : Int32} (hZ : Fx p c m s args X cc nL own) (hP : wd X M H) (hS : va_S X.A H0 H locs) (hsz : ls.size = nL) (hlk : Cond.methodLink own index yX8_isFree ∈ lw_u) (hR : 0 + 1 ≤ R.frames ∧ 8 + (4 + 11) + 0 ≤ R.locals) (hW : (rest.map fun v => v.category).sum ≤ 8) (hdg : decode cc pc = .ok (.invokevirtual index, 3)) (hcs : cells ≤ R.cells ∧ slots ≤ R.slots) (hf : fn_X8_isFree x1 x2 x3 M = some r)
    (kk : ∀ (H1 : Heap) (locs1 : List Loc), wd X M H1 → va_S X.A H0 H1 locs1 → W p l e R s m args below meth c H1 locs1 cells slots Q (F0 m (pc + 3) ls (.int r :: rest))) : W p l e R s m args below meth c H locs cells slots Q (F0 m pc ls (.int x3 :: .int x2 :: .int x1 :: .ref (X.ad 61) :: rest)) :=
  cal_i (runV (As := [.int x1, .int x2, .int x3]) (rest := rest) hZ.1 hZ.2.1 hZ.2.2.1 hZ.2.2.2.1 hZ.2.2.2.2.1 hZ.2.2.2.2.2 hP (c_X8_isFree x1 x2 x3 M r hf) wd_4_136 wd_4_135 wd_p_48 wd_1_9 hd_X8_isFree (by decide) rfl rfl rfl hlk hR hsz rfl hW hdg hcs) hS kk
/-! FrameRaiserModel.waysOf -/
def jn_X8_waysOf_32 (s_8 : Int32) (s_9 : Int32) (v4_7 : Int32) : Option ((Int32 × Int32) ⊕ (Int32)) :=
  bv (s_9 ||| s_8) fun v3_10 =>
  some (.inl (v3_10, v4_7 + (1 : Int32)))
def bd_X8_waysOf_5 (x1 : Int32) (x2 : Int32) (M : Mem) : (Int32 × Int32) → Option ((Int32 × Int32) ⊕ (Int32)) :=
  u2 fun v3_2 v4_1 =>
  if (6 : Int32) ≤ v4_1 then
    (some (.inr v3_2))
  else
    ((fn_X8_isFree x1 x2 v4_1 M).bind fun r_5 =>
    if r_5 = 0 then
      (jn_X8_waysOf_32 (0 : Int32) v3_2 v4_1)
    else
      (jn_X8_waysOf_32 (sl (1 : Int32) v4_1) v3_2 v4_1))
def fn_X8_waysOf (g : Nat) (x1 : Int32) (x2 : Int32) (M : Mem) : Option (Int32) :=
  (lpN g (bd_X8_waysOf_5 x1 x2 M) ((0 : Int32), (0 : Int32))).bind (u1 fun v3_3 =>
    some v3_3)
theorem dX8_waysOf_0 : decode cX8_waysOf 0 = .ok (.iconst 0, 1) := by decide +kernel
theorem dX8_waysOf_1 : decode cX8_waysOf 1 = .ok (.istore_n 3, 1) := by decide +kernel
theorem dX8_waysOf_2 : decode cX8_waysOf 2 = .ok (.iconst 0, 1) := by decide +kernel
theorem dX8_waysOf_3 : decode cX8_waysOf 3 = .ok (.istore 4, 2) := by decide +kernel
theorem dX8_waysOf_5 : decode cX8_waysOf 5 = .ok (.iload 4, 2) := by decide +kernel
theorem dX8_waysOf_7 : decode cX8_waysOf 7 = .ok (.bipush 6, 2) := by decide +kernel
theorem dX8_waysOf_9 : decode cX8_waysOf 9 = .ok (.if_icmp .ge 31, 3) := by decide +kernel
theorem dX8_waysOf_12 : decode cX8_waysOf 12 = .ok (.iload_n 3, 1) := by decide +kernel
theorem dX8_waysOf_13 : decode cX8_waysOf 13 = .ok (.aload_n 0, 1) := by decide +kernel
theorem dX8_waysOf_14 : decode cX8_waysOf 14 = .ok (.iload_n 1, 1) := by decide +kernel
theorem dX8_waysOf_15 : decode cX8_waysOf 15 = .ok (.iload_n 2, 1) := by decide +kernel
theorem dX8_waysOf_16 : decode cX8_waysOf 16 = .ok (.iload 4, 2) := by decide +kernel
theorem dX8_waysOf_18 : decode cX8_waysOf 18 = .ok (.invokevirtual 73, 3) := by decide +kernel
theorem dX8_waysOf_21 : decode cX8_waysOf 21 = .ok (.ifCond .eq 10, 3) := by decide +kernel
theorem dX8_waysOf_24 : decode cX8_waysOf 24 = .ok (.iconst 1, 1) := by decide +kernel
theorem dX8_waysOf_25 : decode cX8_waysOf 25 = .ok (.iload 4, 2) := by decide +kernel
theorem dX8_waysOf_27 : decode cX8_waysOf 27 = .ok (.ishl, 1) := by decide +kernel
theorem dX8_waysOf_28 : decode cX8_waysOf 28 = .ok (.goto 4, 3) := by decide +kernel
theorem dX8_waysOf_31 : decode cX8_waysOf 31 = .ok (.iconst 0, 1) := by decide +kernel
theorem dX8_waysOf_32 : decode cX8_waysOf 32 = .ok (.ior, 1) := by decide +kernel
theorem dX8_waysOf_33 : decode cX8_waysOf 33 = .ok (.istore_n 3, 1) := by decide +kernel
theorem dX8_waysOf_34 : decode cX8_waysOf 34 = .ok (.iinc 4 1, 3) := by decide +kernel
theorem dX8_waysOf_37 : decode cX8_waysOf 37 = .ok (.goto (-32), 3) := by decide +kernel
theorem dX8_waysOf_40 : decode cX8_waysOf 40 = .ok (.iload_n 3, 1) := by decide +kernel
theorem dX8_waysOf_41 : decode cX8_waysOf 41 = .ok (.ireturn, 1) := by decide +kernel
set_option maxHeartbeats 4000000 in
set_option maxRecDepth 100000 in
theorem c_X8_waysOf {l : Launch} {X : En} (g : Nat) (x1 : Int32) (x2 : Int32) (M : Mem) (r : Int32) (hf : fn_X8_waysOf g x1 x2 M = some r) : Cn l X yX8_waysOf cX8_waysOf 5 (some .int) 1 23 [.ref (X.ad 61), .int x1, .int x2] M (Qi X r M) := by
  refine Met.ofW (cc := cX8_waysOf) (maxL := 5) (ret := (some .int)) (by decide) rfl ?_
  intro p e s m args below meth c s₁ B hml hv
  obtain ⟨rfl, hP, hk⟩ := hv
  have hx := B.exec
  have hb := B.bytes
  have hr := B.returns
  have hlocks := B.notSynchronized
  have hts : ∀ w ∈ lw_u, w.before ([.ref (X.ad 61), .int x1, .int x2] : List Value).toArray s = true := fun w hw => atoms_spec (ws := Cond.code yX8_waysOf cX8_waysOf 5 (some .int) :: lw_u) B.pre w (List.mem_cons_of_mem _ hw)
  have hown : s.vm.findClass RX8 = some m.cls := findClass_of_methodNamed B.named
  have hZ : Fx p c m s ([.ref (X.ad 61), .int x1, .int x2] : List Value).toArray X cX8_waysOf 5 RX8 := ⟨hx, hb, hml, hts, hown, hk⟩
  have hS : va_S X.A s.heap s.heap [] := va_S.rf
  have hl := lv_entry ([.ref (X.ad 61), .int x1, .int x2]) (n := 5) (Nat.le_of_ble_eq_true rfl)
  rw [lg_entry_eq]
  generalize (lg_sl ([.ref (X.ad 61), .int x1, .int x2]) ++ List.replicate (5 - (lg_sl ([.ref (X.ad 61), .int x1, .int x2])).length) Slot.unset).toArray = ls at hl ⊢
  have hl : lv_has ls 5 [(0, .ref (X.ad 61)), (1, .int x1), (2, .int x2)] := hl
  show WW p l e 1 23 s m [.ref (X.ad 61), .int x1, .int x2] below meth c X (Qi X r M) s.heap [] 0 ls []
  have hP : wd X M s.heap := hP
  unfold fn_X8_waysOf at hf
  have key : ∀ (H : Heap) (locs : List Loc), wd X M H → va_S X.A s.heap H locs → WW p l e 1 23 s m [.ref (X.ad 61), .int x1, .int x2] below meth c X (Qi X r M) H locs 0 ls [] := by
    intro H locs hP hS
    refine lv_iconst (v := (0 : Int32)) hx hb dX8_waysOf_0 (by decide) ?_
    refine lv_istore_n (lv' := [(3, .int (0 : Int32)), (0, .ref (X.ad 61)), (1, .int x1), (2, .int x2)]) hx hb dX8_waysOf_1 rfl hl (by decide) rfl (fun ls hl => ?_)
    refine lv_iconst (v := (0 : Int32)) hx hb dX8_waysOf_2 (by decide) ?_
    refine lv_istore (lv' := [(4, .int (0 : Int32)), (3, .int (0 : Int32)), (0, .ref (X.ad 61)), (1, .int x1), (2, .int x2)]) hx hb dX8_waysOf_3 hl (by decide) rfl (fun ls hl => ?_)
    obtain ⟨o5, ho5, hf⟩ := b_d hf
    refine lp_rule (b := bd_X8_waysOf_5 x1 x2 M) (P := fun w : Int32 × Int32 => ∀ (H : Heap) (locs : List Loc) (ls : Array Slot), wd X M H → va_S X.A s.heap H locs → lv_has ls 5 [(4, .int w.2), (3, .int w.1), (0, .ref (X.ad 61)), (1, .int x1), (2, .int x2)] → WW p l e 1 23 s m [.ref (X.ad 61), .int x1, .int x2] below meth c X (Qi X r M) H locs 5 ls []) (K := fun o => ∀ (v3_3 : Int32), o = v3_3 → ∀ (H : Heap) (locs : List Loc) (ls : Array Slot), wd X M H → va_S X.A s.heap H locs → lv_has ls 5 [(3, .int v3_3)] → WW p l e 1 23 s m [.ref (X.ad 61), .int x1, .int x2] below meth c X (Qi X r M) H locs 40 ls []) ?_ g ((0 : Int32), (0 : Int32)) o5 ho5 ?_ H locs ls hP hS (lv_sub hl [0, 1, 2, 3, 4] rfl)
    · rintro ⟨v3_2, v4_1⟩ o hf hkc5 hke5 H locs ls hP hS hl
      have hf := u2_e hf
      have jn32 : ∀ (v4_7 : Int32) (s_8 : Int32) (s_9 : Int32), jn_X8_waysOf_32 s_8 s_9 v4_7 = some o → ∀ (H : Heap) (locs : List Loc) (ls : Array Slot), wd X M H → va_S X.A s.heap H locs → lv_has ls 5 [(0, .ref (X.ad 61)), (1, .int x1), (2, .int x2), (4, .int v4_7)] → WW p l e 1 23 s m [.ref (X.ad 61), .int x1, .int x2] below meth c X (Qi X r M) H locs 32 ls [.int s_8, .int s_9] := by
        intro v4_7 s_8 s_9  hf H locs ls hP hS hl
        unfold jn_X8_waysOf_32 at hf
        refine lv_ior hx hb dX8_waysOf_32 ?_
        refine lv_topi (fun v3_10 e_v3_10 => ?_)
        have hf := b_v hf e_v3_10
        refine lv_istore_n (lv' := [(3, .int v3_10), (0, .ref (X.ad 61)), (1, .int x1), (2, .int x2), (4, .int v4_7)]) hx hb dX8_waysOf_33 rfl hl (by decide) rfl (fun ls hl => ?_)
        refine lv_iinc (v := v4_7 + (1 : Int32)) (lv' := [(4, .int (v4_7 + (1 : Int32))), (3, .int v3_10), (0, .ref (X.ad 61)), (1, .int x1), (2, .int x2)]) hx hb dX8_waysOf_34 hl (k := 4) rfl rfl (by decide) rfl (fun ls hl => ?_)
        refine lv_goto (tgt := 5) hx hb dX8_waysOf_37 (by decide) ?_
        exact hkc5 _ (Option.some.inj hf).symm H locs ls hP hS (lv_sub hl [0, 1, 2, 3, 4] rfl)
      refine lv_iload hx hb dX8_waysOf_5 (lv_at hl 0 rfl) ?_
      refine lv_bipush (v := (6 : Int32)) hx hb dX8_waysOf_7 (by decide) ?_
      refine lv_icmp_ge (tgt := 40) hx hb dX8_waysOf_9 (by decide) (fun c_4 => ?_) (fun c_4 => ?_)
      · have hf := i_t c_4 hf
        exact hke5 _ (Option.some.inj hf).symm _ rfl H locs ls hP hS (lv_sub hl [1] rfl)
      · have hf := i_f c_4 hf
        refine lv_iload_n hx hb dX8_waysOf_12 rfl (lv_at hl 1 rfl) ?_
        refine lv_aload_n hx hb dX8_waysOf_13 rfl (lv_at hl 2 rfl) ?_
        refine lv_iload_n hx hb dX8_waysOf_14 rfl (lv_at hl 3 rfl) ?_
        refine lv_iload_n hx hb dX8_waysOf_15 rfl (lv_at hl 4 rfl) ?_
        refine lv_iload hx hb dX8_waysOf_16 (lv_at hl 0 rfl) ?_
        obtain ⟨r_5, h_r_5, hf⟩ := b_d hf
        refine k_X8_isFree hZ hP hS hl.1 wd_4_133 ⟨Nat.le_of_ble_eq_true rfl, Nat.le_of_ble_eq_true rfl⟩ (Nat.le_of_ble_eq_true rfl) dX8_waysOf_18 ⟨Nat.zero_le _, Nat.zero_le _⟩ h_r_5 (fun H locs hP hS => ?_)
        refine lv_if_eq (tgt := 31) hx hb dX8_waysOf_21 (by decide) (fun c_6 => ?_) (fun c_6 => ?_)
        · have hf := i_t c_6 hf
          refine lv_iconst (v := (0 : Int32)) hx hb dX8_waysOf_31 (by decide) ?_
          exact jn32 v4_1 (0 : Int32) v3_2 hf H locs ls hP hS (lv_sub hl [2, 3, 4, 0] rfl)
        · have hf := i_f c_6 hf
          refine lv_iconst (v := (1 : Int32)) hx hb dX8_waysOf_24 (by decide) ?_
          refine lv_iload hx hb dX8_waysOf_25 (lv_at hl 0 rfl) ?_
          refine rw_ishl hx hb dX8_waysOf_27 ?_
          refine lv_goto (tgt := 32) hx hb dX8_waysOf_28 (by decide) ?_
          exact jn32 v4_1 (sl (1 : Int32) v4_1) v3_2 hf H locs ls hP hS (lv_sub hl [2, 3, 4, 0] rfl)
    · intro v3_3 e H locs ls hP hS hl
      subst o5
      have hf := u1_e hf
      refine lv_iload_n hx hb dX8_waysOf_40 rfl (lv_at hl 0 rfl) ?_
      have hf := Option.some.inj hf
      exact ret_i hx hb hr hlocks hP hS hf dX8_waysOf_41
  exact key s.heap [] hP hS
theorem hd_X8_waysOf : Hd yX8_waysOf 2 := by decide +kernel
theorem k_X8_waysOf {p : Program} {l : Launch} {e : Env} {R : Room} {s : State} {m : MethodId} {args : Array Value} {below : List Frame} {meth : Method} {c : Code} {H : Heap} {locs : List Loc} {cells slots : Nat} {Q : State → Prop} {cc : ByteArray} {nL pc index : Nat} {ls : Array Slot} {rest : List Value} {X : En} {M : Mem} {H0 : Heap} {own : String} {g : Nat} {x1 : Int32} {x2 : Int32} {r : Int32} (hZ : Fx p c m s args X cc nL own) (hP : wd X M H) (hS : va_S X.A H0 H locs) (hsz : ls.size = nL) (hlk : Cond.methodLink own index yX8_waysOf ∈ lw_u) (hR : 1 + 1 ≤ R.frames ∧ 8 + (5 + 11) + 23 ≤ R.locals) (hW : (rest.map fun v => v.category).sum ≤ 8) (hdg : decode cc pc = .ok (.invokevirtual index, 3)) (hcs : cells ≤ R.cells ∧ slots ≤ R.slots) (hf : fn_X8_waysOf g x1 x2 M = some r)
    (kk : ∀ (H1 : Heap) (locs1 : List Loc), wd X M H1 → va_S X.A H0 H1 locs1 → W p l e R s m args below meth c H1 locs1 cells slots Q (F0 m (pc + 3) ls (.int r :: rest))) : W p l e R s m args below meth c H locs cells slots Q (F0 m pc ls (.int x2 :: .int x1 :: .ref (X.ad 61) :: rest)) :=
  cal_i (runV (As := [.int x1, .int x2]) (rest := rest) hZ.1 hZ.2.1 hZ.2.2.1 hZ.2.2.2.1 hZ.2.2.2.2.1 hZ.2.2.2.2.2 hP (c_X8_waysOf g x1 x2 M r hf) wd_4_132 wd_4_131 wd_p_47 wd_1_9 hd_X8_waysOf (by decide) rfl rfl rfl hlk hR hsz rfl hW hdg hcs) hS kk
/-! FrameRaiserModel.bits -/
def bd_X8_bits_4 (x0 : Int32) : (Int32 × Int32) → Option ((Int32 × Int32) ⊕ (Int32)) :=
  u2 fun v1_2 v2_1 =>
  if (8 : Int32) ≤ v2_1 then
    (some (.inr v1_2))
  else
    (bv (v1_2 + ((sr x0 v2_1) &&& (1 : Int32))) fun v1_5 =>
    some (.inl (v1_5, v2_1 + (1 : Int32))))
def fn_X8_bits (g : Nat) (x0 : Int32) : Option (Int32) :=
  (lpN g (bd_X8_bits_4 x0) ((0 : Int32), (0 : Int32))).bind (u1 fun v1_3 =>
    some v1_3)
theorem dX8_bits_0 : decode cX8_bits 0 = .ok (.iconst 0, 1) := by decide +kernel
theorem dX8_bits_1 : decode cX8_bits 1 = .ok (.istore_n 1, 1) := by decide +kernel
theorem dX8_bits_2 : decode cX8_bits 2 = .ok (.iconst 0, 1) := by decide +kernel
theorem dX8_bits_3 : decode cX8_bits 3 = .ok (.istore_n 2, 1) := by decide +kernel
theorem dX8_bits_4 : decode cX8_bits 4 = .ok (.iload_n 2, 1) := by decide +kernel
theorem dX8_bits_5 : decode cX8_bits 5 = .ok (.bipush 8, 2) := by decide +kernel
theorem dX8_bits_7 : decode cX8_bits 7 = .ok (.if_icmp .ge 17, 3) := by decide +kernel
theorem dX8_bits_10 : decode cX8_bits 10 = .ok (.iload_n 1, 1) := by decide +kernel
theorem dX8_bits_11 : decode cX8_bits 11 = .ok (.iload_n 0, 1) := by decide +kernel
theorem dX8_bits_12 : decode cX8_bits 12 = .ok (.iload_n 2, 1) := by decide +kernel
theorem dX8_bits_13 : decode cX8_bits 13 = .ok (.ishr, 1) := by decide +kernel
theorem dX8_bits_14 : decode cX8_bits 14 = .ok (.iconst 1, 1) := by decide +kernel
theorem dX8_bits_15 : decode cX8_bits 15 = .ok (.iand, 1) := by decide +kernel
theorem dX8_bits_16 : decode cX8_bits 16 = .ok (.iadd, 1) := by decide +kernel
theorem dX8_bits_17 : decode cX8_bits 17 = .ok (.istore_n 1, 1) := by decide +kernel
theorem dX8_bits_18 : decode cX8_bits 18 = .ok (.iinc 2 1, 3) := by decide +kernel
theorem dX8_bits_21 : decode cX8_bits 21 = .ok (.goto (-17), 3) := by decide +kernel
theorem dX8_bits_24 : decode cX8_bits 24 = .ok (.iload_n 1, 1) := by decide +kernel
theorem dX8_bits_25 : decode cX8_bits 25 = .ok (.ireturn, 1) := by decide +kernel
set_option maxHeartbeats 4000000 in
set_option maxRecDepth 100000 in
theorem c_X8_bits {l : Launch} {X : En} (g : Nat) (x0 : Int32) (M : Mem) (r : Int32) (hf : fn_X8_bits g x0 = some r) : Cn l X yX8_bits cX8_bits 3 (some .int) 0 0 [.int x0] M (Qi X r M) := by
  refine Met.ofW (cc := cX8_bits) (maxL := 3) (ret := (some .int)) (by decide) rfl ?_
  intro p e s m args below meth c s₁ B hml hv
  obtain ⟨rfl, hP, hk⟩ := hv
  have hx := B.exec
  have hb := B.bytes
  have hr := B.returns
  have hlocks := B.notSynchronized
  have hts : ∀ w ∈ lw_u, w.before ([.int x0] : List Value).toArray s = true := fun w hw => atoms_spec (ws := Cond.code yX8_bits cX8_bits 3 (some .int) :: lw_u) B.pre w (List.mem_cons_of_mem _ hw)
  have hown : s.vm.findClass RX8 = some m.cls := findClass_of_methodNamed B.named
  have hZ : Fx p c m s ([.int x0] : List Value).toArray X cX8_bits 3 RX8 := ⟨hx, hb, hml, hts, hown, hk⟩
  have hS : va_S X.A s.heap s.heap [] := va_S.rf
  have hl := lv_entry ([.int x0]) (n := 3) (Nat.le_of_ble_eq_true rfl)
  rw [lg_entry_eq]
  generalize (lg_sl ([.int x0]) ++ List.replicate (3 - (lg_sl ([.int x0])).length) Slot.unset).toArray = ls at hl ⊢
  have hl : lv_has ls 3 [(0, .int x0)] := hl
  show WW p l e 0 0 s m [.int x0] below meth c X (Qi X r M) s.heap [] 0 ls []
  have hP : wd X M s.heap := hP
  unfold fn_X8_bits at hf
  have key : ∀ (H : Heap) (locs : List Loc), wd X M H → va_S X.A s.heap H locs → WW p l e 0 0 s m [.int x0] below meth c X (Qi X r M) H locs 0 ls [] := by
    intro H locs hP hS
    refine lv_iconst (v := (0 : Int32)) hx hb dX8_bits_0 (by decide) ?_
    refine lv_istore_n (lv' := [(1, .int (0 : Int32)), (0, .int x0)]) hx hb dX8_bits_1 rfl hl (by decide) rfl (fun ls hl => ?_)
    refine lv_iconst (v := (0 : Int32)) hx hb dX8_bits_2 (by decide) ?_
    refine lv_istore_n (lv' := [(2, .int (0 : Int32)), (1, .int (0 : Int32)), (0, .int x0)]) hx hb dX8_bits_3 rfl hl (by decide) rfl (fun ls hl => ?_)
    obtain ⟨o4, ho4, hf⟩ := b_d hf
    refine lp_rule (b := bd_X8_bits_4 x0) (P := fun w : Int32 × Int32 => ∀ (H : Heap) (locs : List Loc) (ls : Array Slot), wd X M H → va_S X.A s.heap H locs → lv_has ls 3 [(2, .int w.2), (1, .int w.1), (0, .int x0)] → WW p l e 0 0 s m [.int x0] below meth c X (Qi X r M) H locs 4 ls []) (K := fun o => ∀ (v1_3 : Int32), o = v1_3 → ∀ (H : Heap) (locs : List Loc) (ls : Array Slot), wd X M H → va_S X.A s.heap H locs → lv_has ls 3 [(1, .int v1_3)] → WW p l e 0 0 s m [.int x0] below meth c X (Qi X r M) H locs 24 ls []) ?_ g ((0 : Int32), (0 : Int32)) o4 ho4 ?_ H locs ls hP hS (lv_sub hl [0, 1, 2] rfl)
    · rintro ⟨v1_2, v2_1⟩ o hf hkc4 hke4 H locs ls hP hS hl
      have hf := u2_e hf
      refine lv_iload_n hx hb dX8_bits_4 rfl (lv_at hl 0 rfl) ?_
      refine lv_bipush (v := (8 : Int32)) hx hb dX8_bits_5 (by decide) ?_
      refine lv_icmp_ge (tgt := 24) hx hb dX8_bits_7 (by decide) (fun c_4 => ?_) (fun c_4 => ?_)
      · have hf := i_t c_4 hf
        exact hke4 _ (Option.some.inj hf).symm _ rfl H locs ls hP hS (lv_sub hl [1] rfl)
      · have hf := i_f c_4 hf
        refine lv_iload_n hx hb dX8_bits_10 rfl (lv_at hl 1 rfl) ?_
        refine lv_iload_n hx hb dX8_bits_11 rfl (lv_at hl 2 rfl) ?_
        refine lv_iload_n hx hb dX8_bits_12 rfl (lv_at hl 0 rfl) ?_
        refine rw_ishr hx hb dX8_bits_13 ?_
        refine lv_iconst (v := (1 : Int32)) hx hb dX8_bits_14 (by decide) ?_
        refine lv_iand hx hb dX8_bits_15 ?_
        refine lv_iadd hx hb dX8_bits_16 ?_
        refine lv_topi (fun v1_5 e_v1_5 => ?_)
        have hf := b_v hf e_v1_5
        refine lv_istore_n (lv' := [(1, .int v1_5), (2, .int v2_1), (0, .int x0)]) hx hb dX8_bits_17 rfl hl (by decide) rfl (fun ls hl => ?_)
        refine lv_iinc (v := v2_1 + (1 : Int32)) (lv' := [(2, .int (v2_1 + (1 : Int32))), (1, .int v1_5), (0, .int x0)]) hx hb dX8_bits_18 hl (k := 1) rfl rfl (by decide) rfl (fun ls hl => ?_)
        refine lv_goto (tgt := 4) hx hb dX8_bits_21 (by decide) ?_
        exact hkc4 _ (Option.some.inj hf).symm H locs ls hP hS (lv_sub hl [0, 1, 2] rfl)
    · intro v1_3 e H locs ls hP hS hl
      subst o4
      have hf := u1_e hf
      refine lv_iload_n hx hb dX8_bits_24 rfl (lv_at hl 0 rfl) ?_
      have hf := Option.some.inj hf
      exact ret_i hx hb hr hlocks hP hS hf dX8_bits_25
  exact key s.heap [] hP hS
theorem hd_X8_bits : Hd yX8_bits 1 := by decide +kernel
theorem k_X8_bits {p : Program} {l : Launch} {e : Env} {R : Room} {s : State} {m : MethodId} {args : Array Value} {below : List Frame} {meth : Method} {c : Code} {H : Heap} {locs : List Loc} {cells slots : Nat} {Q : State → Prop} {cc : ByteArray} {nL pc index : Nat} {ls : Array Slot} {rest : List Value} {X : En} {M : Mem} {H0 : Heap} {own : String} {g : Nat} {x0 : Int32} {r : Int32} (hZ : Fx p c m s args X cc nL own) (hP : wd X M H) (hS : va_S X.A H0 H locs) (hsz : ls.size = nL) (hlk : Cond.methodLink own index yX8_bits ∈ lw_u) (hR : 0 + 1 ≤ R.frames ∧ 8 + (3 + 11) + 0 ≤ R.locals) (hW : (rest.map fun v => v.category).sum ≤ 8) (hdg : decode cc pc = .ok (.invokestatic index, 3)) (hcs : cells ≤ R.cells ∧ slots ≤ R.slots) (hf : fn_X8_bits g x0 = some r)
    (kk : ∀ (H1 : Heap) (locs1 : List Loc), wd X M H1 → va_S X.A H0 H1 locs1 → W p l e R s m args below meth c H1 locs1 cells slots Q (F0 m (pc + 3) ls (.int r :: rest))) : W p l e R s m args below meth c H locs cells slots Q (F0 m pc ls (.int x0 :: rest)) :=
  cal_i (runS (As := [.int x0]) (rest := rest) hZ.1 hZ.2.1 hZ.2.2.1 hZ.2.2.2.1 hZ.2.2.2.2.1 hZ.2.2.2.2.2 hP (c_X8_bits g x0 M r hf) wd_4_197 wd_4_196 wd_1_9 hd_X8_bits rfl hlk hR hsz rfl hW hdg hcs) hS kk
/-! FrameRaiserModel.has -/
def fn_X8_has (x0 : Int32) (x1 : Int32) : Int32 :=
  if ((sr x0 x1) &&& (1 : Int32)) = (1 : Int32) then
    ((1 : Int32))
  else
    ((0 : Int32))
theorem dX8_has_0 : decode cX8_has 0 = .ok (.iload_n 0, 1) := by decide +kernel
theorem dX8_has_1 : decode cX8_has 1 = .ok (.iload_n 1, 1) := by decide +kernel
theorem dX8_has_2 : decode cX8_has 2 = .ok (.ishr, 1) := by decide +kernel
theorem dX8_has_3 : decode cX8_has 3 = .ok (.iconst 1, 1) := by decide +kernel
theorem dX8_has_4 : decode cX8_has 4 = .ok (.iand, 1) := by decide +kernel
theorem dX8_has_5 : decode cX8_has 5 = .ok (.iconst 1, 1) := by decide +kernel
theorem dX8_has_6 : decode cX8_has 6 = .ok (.if_icmp .ne 7, 3) := by decide +kernel
theorem dX8_has_9 : decode cX8_has 9 = .ok (.iconst 1, 1) := by decide +kernel
theorem dX8_has_10 : decode cX8_has 10 = .ok (.goto 4, 3) := by decide +kernel
theorem dX8_has_13 : decode cX8_has 13 = .ok (.iconst 0, 1) := by decide +kernel
theorem dX8_has_14 : decode cX8_has 14 = .ok (.ireturn, 1) := by decide +kernel
theorem z_X8_has (x0 : Int32) (x1 : Int32) : isZ (fn_X8_has x0 x1) := by
  unfold fn_X8_has
  repeat' (first | exact isZ_0 | exact isZ_1 | exact z_X8_in _ _ _ | split)
set_option maxHeartbeats 4000000 in
set_option maxRecDepth 100000 in
theorem c_X8_has {l : Launch} {X : En} (x0 : Int32) (x1 : Int32) (M : Mem) (r : Int32) (hf : fn_X8_has x0 x1 = r) : Cn l X yX8_has cX8_has 2 (some .boolean) 0 0 [.int x0, .int x1] M (Qi X r M) := by
  refine Met.ofW (cc := cX8_has) (maxL := 2) (ret := (some .boolean)) (by decide) rfl ?_
  intro p e s m args below meth c s₁ B hml hv
  obtain ⟨rfl, hP, hk⟩ := hv
  have hx := B.exec
  have hb := B.bytes
  have hr := B.returns
  have hlocks := B.notSynchronized
  have hts : ∀ w ∈ lw_u, w.before ([.int x0, .int x1] : List Value).toArray s = true := fun w hw => atoms_spec (ws := Cond.code yX8_has cX8_has 2 (some .boolean) :: lw_u) B.pre w (List.mem_cons_of_mem _ hw)
  have hown : s.vm.findClass RX8 = some m.cls := findClass_of_methodNamed B.named
  have hZ : Fx p c m s ([.int x0, .int x1] : List Value).toArray X cX8_has 2 RX8 := ⟨hx, hb, hml, hts, hown, hk⟩
  have hS : va_S X.A s.heap s.heap [] := va_S.rf
  have hl := lv_entry ([.int x0, .int x1]) (n := 2) (Nat.le_of_ble_eq_true rfl)
  rw [lg_entry_eq]
  generalize (lg_sl ([.int x0, .int x1]) ++ List.replicate (2 - (lg_sl ([.int x0, .int x1])).length) Slot.unset).toArray = ls at hl ⊢
  have hl : lv_has ls 2 [(0, .int x0), (1, .int x1)] := hl
  show WW p l e 0 0 s m [.int x0, .int x1] below meth c X (Qi X r M) s.heap [] 0 ls []
  have hP : wd X M s.heap := hP
  unfold fn_X8_has at hf
  have key : ∀ (H : Heap) (locs : List Loc), wd X M H → va_S X.A s.heap H locs → WW p l e 0 0 s m [.int x0, .int x1] below meth c X (Qi X r M) H locs 0 ls [] := by
    intro H locs hP hS
    refine lv_iload_n hx hb dX8_has_0 rfl (lv_at hl 0 rfl) ?_
    refine lv_iload_n hx hb dX8_has_1 rfl (lv_at hl 1 rfl) ?_
    refine rw_ishr hx hb dX8_has_2 ?_
    refine lv_iconst (v := (1 : Int32)) hx hb dX8_has_3 (by decide) ?_
    refine lv_iand hx hb dX8_has_4 ?_
    refine lv_iconst (v := (1 : Int32)) hx hb dX8_has_5 (by decide) ?_
    refine lv_icmp_ne (tgt := 13) hx hb dX8_has_6 (by decide) (fun c_1 => ?_) (fun c_1 => ?_)
    · have hf := i_f c_1 hf
      refine lv_iconst (v := (0 : Int32)) hx hb dX8_has_13 (by decide) ?_
      exact ret_z hx hb hr hlocks hP hS isZ_0 hf dX8_has_14
    · have hf := i_t c_1 hf
      refine lv_iconst (v := (1 : Int32)) hx hb dX8_has_9 (by decide) ?_
      refine lv_goto (tgt := 14) hx hb dX8_has_10 (by decide) ?_
      exact ret_z hx hb hr hlocks hP hS isZ_1 hf dX8_has_14
  exact key s.heap [] hP hS
theorem hd_X8_has : Hd yX8_has 2 := by decide +kernel
theorem k_X8_has {p : Program} {l : Launch} {e : Env} {R : Room} {s : State} {m : MethodId} {args : Array Value} {below : List Frame} {meth : Method} {c : Code} {H : Heap} {locs : List Loc} {cells slots : Nat} {Q : State → Prop} {cc : ByteArray} {nL pc index : Nat} {ls : Array Slot} {rest : List Value} {X : En} {M : Mem} {H0 : Heap} {own : String} {x0 : Int32} {x1 : Int32} (hZ : Fx p c m s args X cc nL own) (hP : wd X M H) (hS : va_S X.A H0 H locs) (hsz : ls.size = nL) (hlk : Cond.methodLink own index yX8_has ∈ lw_u) (hR : 0 + 1 ≤ R.frames ∧ 8 + (2 + 11) + 0 ≤ R.locals) (hW : (rest.map fun v => v.category).sum ≤ 8) (hdg : decode cc pc = .ok (.invokestatic index, 3)) (hcs : cells ≤ R.cells ∧ slots ≤ R.slots)
    (kk : ∀ (H1 : Heap) (locs1 : List Loc), wd X M H1 → va_S X.A H0 H1 locs1 → W p l e R s m args below meth c H1 locs1 cells slots Q (F0 m (pc + 3) ls (.int (fn_X8_has x0 x1) :: rest))) : W p l e R s m args below meth c H locs cells slots Q (F0 m pc ls (.int x1 :: .int x0 :: rest)) :=
  cal_i (runS (As := [.int x0, .int x1]) (rest := rest) hZ.1 hZ.2.1 hZ.2.2.1 hZ.2.2.2.1 hZ.2.2.2.2.1 hZ.2.2.2.2.2 hP (c_X8_has x0 x1 M _ rfl) wd_4_155 wd_4_154 wd_1_9 hd_X8_has rfl hlk hR hsz rfl hW hdg hcs) hS kk
/-! FrameRaiserModel.propsOf -/
def jn_X8_propsOf_48 (s_9 : Int32) (s_10 : Int32) (v3_8 : Int32) : Option ((Int32 × Int32) ⊕ (Int32)) :=
  bv (s_10 + s_9) fun v2_11 =>
  some (.inl (v2_11, v3_8 + (1 : Int32)))
def jn_X8_propsOf_47 (s_7 : Int32) (v3_6 : Int32) : Option ((Int32 × Int32) ⊕ (Int32)) :=
  jn_X8_propsOf_48 (0 : Int32) s_7 v3_6
def bd_X8_propsOf_4 (x1 : Int32) (M : Mem) : (Int32 × Int32) → Option ((Int32 × Int32) ⊕ (Int32)) :=
  u2 fun v2_2 v3_1 =>
  if (M 62 (ix (0 : Int32))) ≤ v3_1 then
    (some (.inr v2_2))
  else
    (if (fn_X8_has x1 v3_1) = 0 then
      (jn_X8_propsOf_47 v2_2 v3_1)
    else
      (if inb v3_1 8 then
      if (M 65 (ix v3_1)) = 0 then
        (if inb v3_1 8 then
        if ((M 64 (ix v3_1)) &&& x1) = 0 then
          (jn_X8_propsOf_48 (1 : Int32) v2_2 v3_1)
        else
          (jn_X8_propsOf_47 v2_2 v3_1)
        else none)
      else
        (jn_X8_propsOf_47 v2_2 v3_1)
      else none))
def fn_X8_propsOf (g : Nat) (x1 : Int32) (M : Mem) : Option (Int32) :=
  (lpN g (bd_X8_propsOf_4 x1 M) ((0 : Int32), (0 : Int32))).bind (u1 fun v2_3 =>
    some v2_3)
theorem dX8_propsOf_0 : decode cX8_propsOf 0 = .ok (.iconst 0, 1) := by decide +kernel
theorem dX8_propsOf_1 : decode cX8_propsOf 1 = .ok (.istore_n 2, 1) := by decide +kernel
theorem dX8_propsOf_2 : decode cX8_propsOf 2 = .ok (.iconst 0, 1) := by decide +kernel
theorem dX8_propsOf_3 : decode cX8_propsOf 3 = .ok (.istore_n 3, 1) := by decide +kernel
theorem dX8_propsOf_4 : decode cX8_propsOf 4 = .ok (.iload_n 3, 1) := by decide +kernel
theorem dX8_propsOf_5 : decode cX8_propsOf 5 = .ok (.aload_n 0, 1) := by decide +kernel
theorem dX8_propsOf_6 : decode cX8_propsOf 6 = .ok (.getfield 7, 3) := by decide +kernel
theorem dX8_propsOf_9 : decode cX8_propsOf 9 = .ok (.iconst 0, 1) := by decide +kernel
theorem dX8_propsOf_10 : decode cX8_propsOf 10 = .ok (.iaload, 1) := by decide +kernel
theorem dX8_propsOf_11 : decode cX8_propsOf 11 = .ok (.if_icmp .ge 45, 3) := by decide +kernel
theorem dX8_propsOf_14 : decode cX8_propsOf 14 = .ok (.iload_n 2, 1) := by decide +kernel
theorem dX8_propsOf_15 : decode cX8_propsOf 15 = .ok (.iload_n 1, 1) := by decide +kernel
theorem dX8_propsOf_16 : decode cX8_propsOf 16 = .ok (.iload_n 3, 1) := by decide +kernel
theorem dX8_propsOf_17 : decode cX8_propsOf 17 = .ok (.invokestatic 76, 3) := by decide +kernel
theorem dX8_propsOf_20 : decode cX8_propsOf 20 = .ok (.ifCond .eq 27, 3) := by decide +kernel
theorem dX8_propsOf_23 : decode cX8_propsOf 23 = .ok (.aload_n 0, 1) := by decide +kernel
theorem dX8_propsOf_24 : decode cX8_propsOf 24 = .ok (.getfield 19, 3) := by decide +kernel
theorem dX8_propsOf_27 : decode cX8_propsOf 27 = .ok (.iload_n 3, 1) := by decide +kernel
theorem dX8_propsOf_28 : decode cX8_propsOf 28 = .ok (.baload, 1) := by decide +kernel
theorem dX8_propsOf_29 : decode cX8_propsOf 29 = .ok (.ifCond .ne 18, 3) := by decide +kernel
theorem dX8_propsOf_32 : decode cX8_propsOf 32 = .ok (.aload_n 0, 1) := by decide +kernel
theorem dX8_propsOf_33 : decode cX8_propsOf 33 = .ok (.getfield 16, 3) := by decide +kernel
theorem dX8_propsOf_36 : decode cX8_propsOf 36 = .ok (.iload_n 3, 1) := by decide +kernel
theorem dX8_propsOf_37 : decode cX8_propsOf 37 = .ok (.iaload, 1) := by decide +kernel
theorem dX8_propsOf_38 : decode cX8_propsOf 38 = .ok (.iload_n 1, 1) := by decide +kernel
theorem dX8_propsOf_39 : decode cX8_propsOf 39 = .ok (.iand, 1) := by decide +kernel
theorem dX8_propsOf_40 : decode cX8_propsOf 40 = .ok (.ifCond .ne 7, 3) := by decide +kernel
theorem dX8_propsOf_43 : decode cX8_propsOf 43 = .ok (.iconst 1, 1) := by decide +kernel
theorem dX8_propsOf_44 : decode cX8_propsOf 44 = .ok (.goto 4, 3) := by decide +kernel
theorem dX8_propsOf_47 : decode cX8_propsOf 47 = .ok (.iconst 0, 1) := by decide +kernel
theorem dX8_propsOf_48 : decode cX8_propsOf 48 = .ok (.iadd, 1) := by decide +kernel
theorem dX8_propsOf_49 : decode cX8_propsOf 49 = .ok (.istore_n 2, 1) := by decide +kernel
theorem dX8_propsOf_50 : decode cX8_propsOf 50 = .ok (.iinc 3 1, 3) := by decide +kernel
theorem dX8_propsOf_53 : decode cX8_propsOf 53 = .ok (.goto (-49), 3) := by decide +kernel
theorem dX8_propsOf_56 : decode cX8_propsOf 56 = .ok (.iload_n 2, 1) := by decide +kernel
theorem dX8_propsOf_57 : decode cX8_propsOf 57 = .ok (.ireturn, 1) := by decide +kernel
set_option maxHeartbeats 4000000 in
set_option maxRecDepth 100000 in
theorem c_X8_propsOf {l : Launch} {X : En} (g : Nat) (x1 : Int32) (M : Mem) (r : Int32) (hf : fn_X8_propsOf g x1 M = some r) : Cn l X yX8_propsOf cX8_propsOf 4 (some .int) 1 21 [.ref (X.ad 61), .int x1] M (Qi X r M) := by
  refine Met.ofW (cc := cX8_propsOf) (maxL := 4) (ret := (some .int)) (by decide) rfl ?_
  intro p e s m args below meth c s₁ B hml hv
  obtain ⟨rfl, hP, hk⟩ := hv
  have hx := B.exec
  have hb := B.bytes
  have hr := B.returns
  have hlocks := B.notSynchronized
  have hts : ∀ w ∈ lw_u, w.before ([.ref (X.ad 61), .int x1] : List Value).toArray s = true := fun w hw => atoms_spec (ws := Cond.code yX8_propsOf cX8_propsOf 4 (some .int) :: lw_u) B.pre w (List.mem_cons_of_mem _ hw)
  have hown : s.vm.findClass RX8 = some m.cls := findClass_of_methodNamed B.named
  have hZ : Fx p c m s ([.ref (X.ad 61), .int x1] : List Value).toArray X cX8_propsOf 4 RX8 := ⟨hx, hb, hml, hts, hown, hk⟩
  have hS : va_S X.A s.heap s.heap [] := va_S.rf
  have hl := lv_entry ([.ref (X.ad 61), .int x1]) (n := 4) (Nat.le_of_ble_eq_true rfl)
  rw [lg_entry_eq]
  generalize (lg_sl ([.ref (X.ad 61), .int x1]) ++ List.replicate (4 - (lg_sl ([.ref (X.ad 61), .int x1])).length) Slot.unset).toArray = ls at hl ⊢
  have hl : lv_has ls 4 [(0, .ref (X.ad 61)), (1, .int x1)] := hl
  show WW p l e 1 21 s m [.ref (X.ad 61), .int x1] below meth c X (Qi X r M) s.heap [] 0 ls []
  have hP : wd X M s.heap := hP
  unfold fn_X8_propsOf at hf
  have key : ∀ (H : Heap) (locs : List Loc), wd X M H → va_S X.A s.heap H locs → WW p l e 1 21 s m [.ref (X.ad 61), .int x1] below meth c X (Qi X r M) H locs 0 ls [] := by
    intro H locs hP hS
    refine lv_iconst (v := (0 : Int32)) hx hb dX8_propsOf_0 (by decide) ?_
    refine lv_istore_n (lv' := [(2, .int (0 : Int32)), (0, .ref (X.ad 61)), (1, .int x1)]) hx hb dX8_propsOf_1 rfl hl (by decide) rfl (fun ls hl => ?_)
    refine lv_iconst (v := (0 : Int32)) hx hb dX8_propsOf_2 (by decide) ?_
    refine lv_istore_n (lv' := [(3, .int (0 : Int32)), (2, .int (0 : Int32)), (0, .ref (X.ad 61)), (1, .int x1)]) hx hb dX8_propsOf_3 rfl hl (by decide) rfl (fun ls hl => ?_)
    obtain ⟨o4, ho4, hf⟩ := b_d hf
    refine lp_rule (b := bd_X8_propsOf_4 x1 M) (P := fun w : Int32 × Int32 => ∀ (H : Heap) (locs : List Loc) (ls : Array Slot), wd X M H → va_S X.A s.heap H locs → lv_has ls 4 [(3, .int w.2), (2, .int w.1), (0, .ref (X.ad 61)), (1, .int x1)] → WW p l e 1 21 s m [.ref (X.ad 61), .int x1] below meth c X (Qi X r M) H locs 4 ls []) (K := fun o => ∀ (v2_3 : Int32), o = v2_3 → ∀ (H : Heap) (locs : List Loc) (ls : Array Slot), wd X M H → va_S X.A s.heap H locs → lv_has ls 4 [(2, .int v2_3)] → WW p l e 1 21 s m [.ref (X.ad 61), .int x1] below meth c X (Qi X r M) H locs 56 ls []) ?_ g ((0 : Int32), (0 : Int32)) o4 ho4 ?_ H locs ls hP hS (lv_sub hl [0, 1, 2, 3] rfl)
    · rintro ⟨v2_2, v3_1⟩ o hf hkc4 hke4 H locs ls hP hS hl
      have hf := u2_e hf
      have jn48 : ∀ (v3_8 : Int32) (s_9 : Int32) (s_10 : Int32), jn_X8_propsOf_48 s_9 s_10 v3_8 = some o → ∀ (H : Heap) (locs : List Loc) (ls : Array Slot), wd X M H → va_S X.A s.heap H locs → lv_has ls 4 [(0, .ref (X.ad 61)), (1, .int x1), (3, .int v3_8)] → WW p l e 1 21 s m [.ref (X.ad 61), .int x1] below meth c X (Qi X r M) H locs 48 ls [.int s_9, .int s_10] := by
        intro v3_8 s_9 s_10  hf H locs ls hP hS hl
        unfold jn_X8_propsOf_48 at hf
        refine lv_iadd hx hb dX8_propsOf_48 ?_
        refine lv_topi (fun v2_11 e_v2_11 => ?_)
        have hf := b_v hf e_v2_11
        refine lv_istore_n (lv' := [(2, .int v2_11), (0, .ref (X.ad 61)), (1, .int x1), (3, .int v3_8)]) hx hb dX8_propsOf_49 rfl hl (by decide) rfl (fun ls hl => ?_)
        refine lv_iinc (v := v3_8 + (1 : Int32)) (lv' := [(3, .int (v3_8 + (1 : Int32))), (2, .int v2_11), (0, .ref (X.ad 61)), (1, .int x1)]) hx hb dX8_propsOf_50 hl (k := 3) rfl rfl (by decide) rfl (fun ls hl => ?_)
        refine lv_goto (tgt := 4) hx hb dX8_propsOf_53 (by decide) ?_
        exact hkc4 _ (Option.some.inj hf).symm H locs ls hP hS (lv_sub hl [0, 1, 2, 3] rfl)
      have jn47 : ∀ (v3_6 : Int32) (s_7 : Int32), jn_X8_propsOf_47 s_7 v3_6 = some o → ∀ (H : Heap) (locs : List Loc) (ls : Array Slot), wd X M H → va_S X.A s.heap H locs → lv_has ls 4 [(0, .ref (X.ad 61)), (1, .int x1), (3, .int v3_6)] → WW p l e 1 21 s m [.ref (X.ad 61), .int x1] below meth c X (Qi X r M) H locs 47 ls [.int s_7] := by
        intro v3_6 s_7  hf H locs ls hP hS hl
        unfold jn_X8_propsOf_47 at hf
        refine lv_iconst (v := (0 : Int32)) hx hb dX8_propsOf_47 (by decide) ?_
        exact jn48 v3_6 (0 : Int32) s_7 hf H locs ls hP hS (lv_sub hl [0, 1, 2] rfl)
      refine lv_iload_n hx hb dX8_propsOf_4 rfl (lv_at hl 0 rfl) ?_
      refine lv_aload_n hx hb dX8_propsOf_5 rfl (lv_at hl 2 rfl) ?_
      refine gX8_0 hx hb hts hown hk hP wd_3_192 dX8_propsOf_6 ?_
      refine lv_iconst (v := (0 : Int32)) hx hb dX8_propsOf_9 (by decide) ?_
      refine ald hx hb hk hP (by decide) rfl (show inb _ _ from by decide) dX8_propsOf_10 ?_
      refine lv_icmp_ge (tgt := 56) hx hb dX8_propsOf_11 (by decide) (fun c_4 => ?_) (fun c_4 => ?_)
      · have hf := i_t c_4 hf
        exact hke4 _ (Option.some.inj hf).symm _ rfl H locs ls hP hS (lv_sub hl [1] rfl)
      · have hf := i_f c_4 hf
        refine lv_iload_n hx hb dX8_propsOf_14 rfl (lv_at hl 1 rfl) ?_
        refine lv_iload_n hx hb dX8_propsOf_15 rfl (lv_at hl 3 rfl) ?_
        refine lv_iload_n hx hb dX8_propsOf_16 rfl (lv_at hl 0 rfl) ?_
        refine k_X8_has hZ hP hS hl.1 wd_4_153 ⟨Nat.le_of_ble_eq_true rfl, Nat.le_of_ble_eq_true rfl⟩ (Nat.le_of_ble_eq_true rfl) dX8_propsOf_17 ⟨Nat.zero_le _, Nat.zero_le _⟩ (fun H locs hP hS => ?_)
        refine lv_if_eq (tgt := 47) hx hb dX8_propsOf_20 (by decide) (fun c_5 => ?_) (fun c_5 => ?_)
        · have hf := i_t c_5 hf
          exact jn47 v3_1 v2_2 hf H locs ls hP hS (lv_sub hl [2, 3, 0] rfl)
        · have hf := i_f c_5 hf
          refine lv_aload_n hx hb dX8_propsOf_23 rfl (lv_at hl 2 rfl) ?_
          refine gX8_4 hx hb hts hown hk hP wd_3_196 dX8_propsOf_24 ?_
          refine lv_iload_n hx hb dX8_propsOf_27 rfl (lv_at hl 0 rfl) ?_
          obtain ⟨q_12, hf⟩ := g_if hf
          refine zald hx hb hk hP (by decide) rfl q_12 dX8_propsOf_28 ?_
          refine lv_if_ne (tgt := 47) hx hb dX8_propsOf_29 (by decide) (fun c_13 => ?_) (fun c_13 => ?_)
          · have hf := i_f c_13 hf
            exact jn47 v3_1 v2_2 hf H locs ls hP hS (lv_sub hl [2, 3, 0] rfl)
          · have hf := i_t c_13 hf
            refine lv_aload_n hx hb dX8_propsOf_32 rfl (lv_at hl 2 rfl) ?_
            refine gX8_3 hx hb hts hown hk hP wd_3_195 dX8_propsOf_33 ?_
            refine lv_iload_n hx hb dX8_propsOf_36 rfl (lv_at hl 0 rfl) ?_
            obtain ⟨q_14, hf⟩ := g_if hf
            refine ald hx hb hk hP (by decide) rfl q_14 dX8_propsOf_37 ?_
            refine lv_iload_n hx hb dX8_propsOf_38 rfl (lv_at hl 3 rfl) ?_
            refine lv_iand hx hb dX8_propsOf_39 ?_
            refine lv_if_ne (tgt := 47) hx hb dX8_propsOf_40 (by decide) (fun c_15 => ?_) (fun c_15 => ?_)
            · have hf := i_f c_15 hf
              exact jn47 v3_1 v2_2 hf H locs ls hP hS (lv_sub hl [2, 3, 0] rfl)
            · have hf := i_t c_15 hf
              refine lv_iconst (v := (1 : Int32)) hx hb dX8_propsOf_43 (by decide) ?_
              refine lv_goto (tgt := 48) hx hb dX8_propsOf_44 (by decide) ?_
              exact jn48 v3_1 (1 : Int32) v2_2 hf H locs ls hP hS (lv_sub hl [2, 3, 0] rfl)
    · intro v2_3 e H locs ls hP hS hl
      subst o4
      have hf := u1_e hf
      refine lv_iload_n hx hb dX8_propsOf_56 rfl (lv_at hl 0 rfl) ?_
      have hf := Option.some.inj hf
      exact ret_i hx hb hr hlocks hP hS hf dX8_propsOf_57
  exact key s.heap [] hP hS
theorem hd_X8_propsOf : Hd yX8_propsOf 1 := by decide +kernel
theorem k_X8_propsOf {p : Program} {l : Launch} {e : Env} {R : Room} {s : State} {m : MethodId} {args : Array Value} {below : List Frame} {meth : Method} {c : Code} {H : Heap} {locs : List Loc} {cells slots : Nat} {Q : State → Prop} {cc : ByteArray} {nL pc index : Nat} {ls : Array Slot} {rest : List Value} {X : En} {M : Mem} {H0 : Heap} {own : String} {g : Nat} {x1 : Int32} {r : Int32} (hZ : Fx p c m s args X cc nL own) (hP : wd X M H) (hS : va_S X.A H0 H locs) (hsz : ls.size = nL) (hlk : Cond.methodLink own index yX8_propsOf ∈ lw_u) (hR : 1 + 1 ≤ R.frames ∧ 8 + (4 + 11) + 21 ≤ R.locals) (hW : (rest.map fun v => v.category).sum ≤ 8) (hdg : decode cc pc = .ok (.invokevirtual index, 3)) (hcs : cells ≤ R.cells ∧ slots ≤ R.slots) (hf : fn_X8_propsOf g x1 M = some r)
    (kk : ∀ (H1 : Heap) (locs1 : List Loc), wd X M H1 → va_S X.A H0 H1 locs1 → W p l e R s m args below meth c H1 locs1 cells slots Q (F0 m (pc + 3) ls (.int r :: rest))) : W p l e R s m args below meth c H locs cells slots Q (F0 m pc ls (.int x1 :: .ref (X.ad 61) :: rest)) :=
  cal_i (runV (As := [.int x1]) (rest := rest) hZ.1 hZ.2.1 hZ.2.2.1 hZ.2.2.2.1 hZ.2.2.2.2.1 hZ.2.2.2.2.2 hP (c_X8_propsOf g x1 M r hf) wd_4_163 wd_4_162 wd_p_51 wd_1_9 hd_X8_propsOf (by decide) rfl rfl rfl hlk hR hsz rfl hW hdg hcs) hS kk
