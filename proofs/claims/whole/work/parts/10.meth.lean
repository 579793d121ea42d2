/-! FrameRaiser$Text.append -/
def fn_X6_append (x1 : Int32) (M : Mem) : Option (Mem) :=
  if (M 47 0) < 0 then
    (some M)
  else
    (if (80 : Int32) ≤ (M 47 0) then
      (some M)
    else
      (if inb (M 47 0) 80 then
      bv (st M 48 (ix (M 47 0)) x1) fun M_3 =>
      bv (st M_3 47 0 ((M_3 47 0) + (1 : Int32))) fun M_5 =>
      some M_5
      else none))
theorem dX6_append_0 : decode cX6_append 0 = .ok (.aload_n 0, 1) := by decide +kernel
theorem dX6_append_1 : decode cX6_append 1 = .ok (.getfield 22, 3) := by decide +kernel
theorem dX6_append_4 : decode cX6_append 4 = .ok (.ifCond .lt 32, 3) := by decide +kernel
theorem dX6_append_7 : decode cX6_append 7 = .ok (.aload_n 0, 1) := by decide +kernel
theorem dX6_append_8 : decode cX6_append 8 = .ok (.getfield 22, 3) := by decide +kernel
theorem dX6_append_11 : decode cX6_append 11 = .ok (.bipush 80, 2) := by decide +kernel
theorem dX6_append_13 : decode cX6_append 13 = .ok (.if_icmp .ge 23, 3) := by decide +kernel
theorem dX6_append_16 : decode cX6_append 16 = .ok (.aload_n 0, 1) := by decide +kernel
theorem dX6_append_17 : decode cX6_append 17 = .ok (.getfield 9, 3) := by decide +kernel
theorem dX6_append_20 : decode cX6_append 20 = .ok (.aload_n 0, 1) := by decide +kernel
theorem dX6_append_21 : decode cX6_append 21 = .ok (.getfield 22, 3) := by decide +kernel
theorem dX6_append_24 : decode cX6_append 24 = .ok (.iload_n 1, 1) := by decide +kernel
theorem dX6_append_25 : decode cX6_append 25 = .ok (.iastore, 1) := by decide +kernel
theorem dX6_append_26 : decode cX6_append 26 = .ok (.aload_n 0, 1) := by decide +kernel
theorem dX6_append_27 : decode cX6_append 27 = .ok (.dup, 1) := by decide +kernel
theorem dX6_append_28 : decode cX6_append 28 = .ok (.getfield 22, 3) := by decide +kernel
theorem dX6_append_31 : decode cX6_append 31 = .ok (.iconst 1, 1) := by decide +kernel
theorem dX6_append_32 : decode cX6_append 32 = .ok (.iadd, 1) := by decide +kernel
theorem dX6_append_33 : decode cX6_append 33 = .ok (.putfield 22, 3) := by decide +kernel
theorem dX6_append_36 : decode cX6_append 36 = .ok (.return_, 1) := by decide +kernel
set_option maxHeartbeats 4000000 in
set_option maxRecDepth 100000 in
theorem c_X6_append {l : Launch} {X : En} (x1 : Int32) (M : Mem) (M9 : Mem) (hf : fn_X6_append x1 M = some M9) : Cn l X yX6_append cX6_append 2 none 0 0 [.ref (X.ad 47), .int x1] M (Qv X M9) := by
  refine Met.ofW (cc := cX6_append) (maxL := 2) (ret := none) (by decide) rfl ?_
  intro p e s m args below meth c s₁ B hml hv
  obtain ⟨rfl, hP, hk⟩ := hv
  have hx := B.exec
  have hb := B.bytes
  have hr := B.returns
  have hlocks := B.notSynchronized
  have hts : ∀ w ∈ lw_u, w.before ([.ref (X.ad 47), .int x1] : List Value).toArray s = true := fun w hw => atoms_spec (ws := Cond.code yX6_append cX6_append 2 none :: lw_u) B.pre w (List.mem_cons_of_mem _ hw)
  have hown : s.vm.findClass RX6 = some m.cls := findClass_of_methodNamed B.named
  have hZ : Fx p c m s ([.ref (X.ad 47), .int x1] : List Value).toArray X cX6_append 2 RX6 := ⟨hx, hb, hml, hts, hown, hk⟩
  have hS : va_S X.A s.heap s.heap [] := va_S.rf
  have hl := lv_entry ([.ref (X.ad 47), .int x1]) (n := 2) (Nat.le_of_ble_eq_true rfl)
  rw [lg_entry_eq]
  generalize (lg_sl ([.ref (X.ad 47), .int x1]) ++ List.replicate (2 - (lg_sl ([.ref (X.ad 47), .int x1])).length) Slot.unset).toArray = ls at hl ⊢
  have hl : lv_has ls 2 [(0, .ref (X.ad 47)), (1, .int x1)] := hl
  show WW p l e 0 0 s m [.ref (X.ad 47), .int x1] below meth c X (Qv X M9) s.heap [] 0 ls []
  have hP : wd X M s.heap := hP
  unfold fn_X6_append at hf
  have key : ∀ (H : Heap) (locs : List Loc), wd X M H → va_S X.A s.heap H locs → WW p l e 0 0 s m [.ref (X.ad 47), .int x1] below meth c X (Qv X M9) H locs 0 ls [] := by
    intro H locs hP hS
    refine lv_aload_n hx hb dX6_append_0 rfl (lv_at hl 0 rfl) ?_
    refine gX6_0 hx hb hts hown hk hP wd_1_187 dX6_append_1 ?_
    refine lv_if_lt (tgt := 36) hx hb dX6_append_4 (by decide) (fun c_1 => ?_) (fun c_1 => ?_)
    · have hf := i_t c_1 hf
      have hf := Option.some.inj hf
      rw [hf] at hP
      exact ret_v hx hb hr hlocks hP hS dX6_append_36
    · have hf := i_f c_1 hf
      refine lv_aload_n hx hb dX6_append_7 rfl (lv_at hl 0 rfl) ?_
      refine gX6_0 hx hb hts hown hk hP wd_1_187 dX6_append_8 ?_
      refine lv_bipush (v := (80 : Int32)) hx hb dX6_append_11 (by decide) ?_
      refine lv_icmp_ge (tgt := 36) hx hb dX6_append_13 (by decide) (fun c_2 => ?_) (fun c_2 => ?_)
      · have hf := i_t c_2 hf
        have hf := Option.some.inj hf
        rw [hf] at hP
        exact ret_v hx hb hr hlocks hP hS dX6_append_36
      · have hf := i_f c_2 hf
        refine lv_aload_n hx hb dX6_append_16 rfl (lv_at hl 0 rfl) ?_
        refine gX6_2 hx hb hts hown hk hP wd_1_191 dX6_append_17 ?_
        refine lv_aload_n hx hb dX6_append_20 rfl (lv_at hl 0 rfl) ?_
        refine gX6_0 hx hb hts hown hk hP wd_1_187 dX6_append_21 ?_
        refine lv_iload_n hx hb dX6_append_24 rfl (lv_at hl 1 rfl) ?_
        obtain ⟨q_4, hf⟩ := g_if hf
        refine ast hx hb hk hP hS (by decide) (fun _ => rfl) q_4 dX6_append_25 (fun H locs M_3 e_M_3 hP hS => ?_)
        have hf := b_v hf e_M_3
        refine lv_aload_n hx hb dX6_append_26 rfl (lv_at hl 0 rfl) ?_
        refine lv_dup hx hb dX6_append_27 rfl ?_
        refine gX6_0 hx hb hts hown hk hP wd_1_187 dX6_append_28 ?_
        refine lv_iconst (v := (1 : Int32)) hx hb dX6_append_31 (by decide) ?_
        refine lv_iadd hx hb dX6_append_32 ?_
        refine pX6_0 hx hb hts hown hk hP hS wd_1_187 dX6_append_33 (fun H locs M_5 e_M_5 hP hS => ?_)
        have hf := b_v hf e_M_5
        have hf := Option.some.inj hf
        rw [hf] at hP
        exact ret_v hx hb hr hlocks hP hS dX6_append_36
  exact key s.heap [] hP hS
theorem hd_X6_append : Hd yX6_append 1 := by decide +kernel
theorem k_X6_append {p : Program} {l : Launch} {e : Env} {R : Room} {s : State} {m : MethodId} {args : Array Value} {below : List Frame} {meth : Method} {c : Code} {H : Heap} {locs : List Loc} {cells slots : Nat} {Q : State → Prop} {cc : ByteArray} {nL pc index : Nat} {ls : Array Slot} {rest : List Value} {X : En} {M : Mem} {H0 : Heap} {own : String} {x1 : Int32} {M9 : Mem} (hZ : Fx p c m s args X cc nL own) (hP : wd X M H) (hS : va_S X.A H0 H locs) (hsz : ls.size = nL) (hlk : Cond.methodLink own index yX6_append ∈ lw_u) (hR : 0 + 1 ≤ R.frames ∧ 8 + (2 + 11) + 0 ≤ R.locals) (hW : (rest.map fun v => v.category).sum ≤ 8) (hdg : decode cc pc = .ok (.invokevirtual index, 3)) (hcs : cells ≤ R.cells ∧ slots ≤ R.slots) (hf : fn_X6_append x1 M = some M9)
    (kk : ∀ (H1 : Heap) (locs1 : List Loc), wd X M9 H1 → va_S X.A H0 H1 locs1 → W p l e R s m args below meth c H1 locs1 cells slots Q (F0 m (pc + 3) ls rest)) : W p l e R s m args below meth c H locs cells slots Q (F0 m pc ls (.int x1 :: .ref (X.ad 47) :: rest)) :=
  cal_v (runV (As := [.int x1]) (rest := rest) hZ.1 hZ.2.1 hZ.2.2.1 hZ.2.2.2.1 hZ.2.2.2.2.1 hZ.2.2.2.2.2 hP (c_X6_append x1 M M9 hf) wd_2_17 wd_2_15 wd_2_16 wd_1_7 hd_X6_append (by decide) rfl rfl rfl hlk hR hsz rfl hW hdg hcs) hS kk
/-! FrameRaiser.type -/
def fn_X7_type (x1 : Int32) (M : Mem) : Option (Int32 × Mem) :=
  if x1 < (32 : Int32) then
    (some ((-1 : Int32), M))
  else
    (if x1 ≤ (126 : Int32) then
      (if (M 47 0) < (80 : Int32) then
        ((fn_X6_append x1 M).bind fun M_4 =>
        some (M_4 47 0, M_4))
      else
        (some ((-3 : Int32), M)))
    else
      (some ((-1 : Int32), M)))
theorem dX7_type_0 : decode cX7_type 0 = .ok (.iload_n 1, 1) := by decide +kernel
theorem dX7_type_1 : decode cX7_type 1 = .ok (.bipush 32, 2) := by decide +kernel
theorem dX7_type_3 : decode cX7_type 3 = .ok (.if_icmp .lt 9, 3) := by decide +kernel
theorem dX7_type_6 : decode cX7_type 6 = .ok (.iload_n 1, 1) := by decide +kernel
theorem dX7_type_7 : decode cX7_type 7 = .ok (.bipush 126, 2) := by decide +kernel
theorem dX7_type_9 : decode cX7_type 9 = .ok (.if_icmp .le 5, 3) := by decide +kernel
theorem dX7_type_12 : decode cX7_type 12 = .ok (.iconst (-1), 1) := by decide +kernel
theorem dX7_type_13 : decode cX7_type 13 = .ok (.ireturn, 1) := by decide +kernel
theorem dX7_type_14 : decode cX7_type 14 = .ok (.aload_n 0, 1) := by decide +kernel
theorem dX7_type_15 : decode cX7_type 15 = .ok (.getfield 49, 3) := by decide +kernel
theorem dX7_type_18 : decode cX7_type 18 = .ok (.getfield 66, 3) := by decide +kernel
theorem dX7_type_21 : decode cX7_type 21 = .ok (.bipush 80, 2) := by decide +kernel
theorem dX7_type_23 : decode cX7_type 23 = .ok (.if_icmp .lt 6, 3) := by decide +kernel
theorem dX7_type_26 : decode cX7_type 26 = .ok (.bipush (-3), 2) := by decide +kernel
theorem dX7_type_28 : decode cX7_type 28 = .ok (.ireturn, 1) := by decide +kernel
theorem dX7_type_29 : decode cX7_type 29 = .ok (.aload_n 0, 1) := by decide +kernel
theorem dX7_type_30 : decode cX7_type 30 = .ok (.getfield 49, 3) := by decide +kernel
theorem dX7_type_33 : decode cX7_type 33 = .ok (.iload_n 1, 1) := by decide +kernel
theorem dX7_type_34 : decode cX7_type 34 = .ok (.invokevirtual 70, 3) := by decide +kernel
theorem dX7_type_37 : decode cX7_type 37 = .ok (.aload_n 0, 1) := by decide +kernel
theorem dX7_type_38 : decode cX7_type 38 = .ok (.getfield 49, 3) := by decide +kernel
theorem dX7_type_41 : decode cX7_type 41 = .ok (.getfield 66, 3) := by decide +kernel
theorem dX7_type_44 : decode cX7_type 44 = .ok (.ireturn, 1) := by decide +kernel
set_option maxHeartbeats 4000000 in
set_option maxRecDepth 100000 in
theorem c_X7_type {l : Launch} {X : En} (x1 : Int32) (M : Mem) (r : Int32) (M9 : Mem) (hf : fn_X7_type x1 M = some (r, M9)) : Cn l X yX7_type cX7_type 2 (some .int) 1 21 [.ref (X.ad 0), .int x1] M (Qi X r M9) := by
  refine Met.ofW (cc := cX7_type) (maxL := 2) (ret := (some .int)) (by decide) rfl ?_
  intro p e s m args below meth c s₁ B hml hv
  obtain ⟨rfl, hP, hk⟩ := hv
  have hx := B.exec
  have hb := B.bytes
  have hr := B.returns
  have hlocks := B.notSynchronized
  have hts : ∀ w ∈ lw_u, w.before ([.ref (X.ad 0), .int x1] : List Value).toArray s = true := fun w hw => atoms_spec (ws := Cond.code yX7_type cX7_type 2 (some .int) :: lw_u) B.pre w (List.mem_cons_of_mem _ hw)
  have hown : s.vm.findClass RX7 = some m.cls := findClass_of_methodNamed B.named
  have hZ : Fx p c m s ([.ref (X.ad 0), .int x1] : List Value).toArray X cX7_type 2 RX7 := ⟨hx, hb, hml, hts, hown, hk⟩
  have hS : va_S X.A s.heap s.heap [] := va_S.rf
  have hl := lv_entry ([.ref (X.ad 0), .int x1]) (n := 2) (Nat.le_of_ble_eq_true rfl)
  rw [lg_entry_eq]
  generalize (lg_sl ([.ref (X.ad 0), .int x1]) ++ List.replicate (2 - (lg_sl ([.ref (X.ad 0), .int x1])).length) Slot.unset).toArray = ls at hl ⊢
  have hl : lv_has ls 2 [(0, .ref (X.ad 0)), (1, .int x1)] := hl
  show WW p l e 1 21 s m [.ref (X.ad 0), .int x1] below meth c X (Qi X r M9) s.heap [] 0 ls []
  have hP : wd X M s.heap := hP
  unfold fn_X7_type at hf
  have key : ∀ (H : Heap) (locs : List Loc), wd X M H → va_S X.A s.heap H locs → WW p l e 1 21 s m [.ref (X.ad 0), .int x1] below meth c X (Qi X r M9) H locs 0 ls [] := by
    intro H locs hP hS
    refine lv_iload_n hx hb dX7_type_0 rfl (lv_at hl 1 rfl) ?_
    refine lv_bipush (v := (32 : Int32)) hx hb dX7_type_1 (by decide) ?_
    refine lv_icmp_lt (tgt := 12) hx hb dX7_type_3 (by decide) (fun c_1 => ?_) (fun c_1 => ?_)
    · have hf := i_t c_1 hf
      refine lv_iconst (v := (-1 : Int32)) hx hb dX7_type_12 (by decide) ?_
      have hf := Option.some.inj hf
      obtain ⟨e1, e2⟩ := Prod.mk.inj hf
      rw [e2] at hP
      exact ret_i hx hb hr hlocks hP hS e1 dX7_type_13
    · have hf := i_f c_1 hf
      refine lv_iload_n hx hb dX7_type_6 rfl (lv_at hl 1 rfl) ?_
      refine lv_bipush (v := (126 : Int32)) hx hb dX7_type_7 (by decide) ?_
      refine lv_icmp_le (tgt := 14) hx hb dX7_type_9 (by decide) (fun c_2 => ?_) (fun c_2 => ?_)
      · have hf := i_t c_2 hf
        refine lv_aload_n hx hb dX7_type_14 rfl (lv_at hl 0 rfl) ?_
        refine gX7_5 hx hb hts hown hk hP wd_1_218 dX7_type_15 ?_
        refine gX6_0 hx hb hts hown hk hP wd_1_188 dX7_type_18 ?_
        refine lv_bipush (v := (80 : Int32)) hx hb dX7_type_21 (by decide) ?_
        refine lv_icmp_lt (tgt := 29) hx hb dX7_type_23 (by decide) (fun c_3 => ?_) (fun c_3 => ?_)
        · have hf := i_t c_3 hf
          refine lv_aload_n hx hb dX7_type_29 rfl (lv_at hl 0 rfl) ?_
          refine gX7_5 hx hb hts hown hk hP wd_1_218 dX7_type_30 ?_
          refine lv_iload_n hx hb dX7_type_33 rfl (lv_at hl 1 rfl) ?_
          obtain ⟨M_4, h_M_4, hf⟩ := b_d hf
          refine k_X6_append hZ hP hS hl.1 wd_2_14 ⟨Nat.le_of_ble_eq_true rfl, Nat.le_of_ble_eq_true rfl⟩ (Nat.le_of_ble_eq_true rfl) dX7_type_34 ⟨Nat.zero_le _, Nat.zero_le _⟩ h_M_4 (fun H locs hP hS => ?_)
          refine lv_aload_n hx hb dX7_type_37 rfl (lv_at hl 0 rfl) ?_
          refine gX7_5 hx hb hts hown hk hP wd_1_218 dX7_type_38 ?_
          refine gX6_0 hx hb hts hown hk hP wd_1_188 dX7_type_41 ?_
          have hf := Option.some.inj hf
          obtain ⟨e1, e2⟩ := Prod.mk.inj hf
          rw [e2] at hP
          exact ret_i hx hb hr hlocks hP hS e1 dX7_type_44
        · have hf := i_f c_3 hf
          refine lv_bipush (v := (-3 : Int32)) hx hb dX7_type_26 (by decide) ?_
          have hf := Option.some.inj hf
          obtain ⟨e1, e2⟩ := Prod.mk.inj hf
          rw [e2] at hP
          exact ret_i hx hb hr hlocks hP hS e1 dX7_type_28
      · have hf := i_f c_2 hf
        refine lv_iconst (v := (-1 : Int32)) hx hb dX7_type_12 (by decide) ?_
        have hf := Option.some.inj hf
        obtain ⟨e1, e2⟩ := Prod.mk.inj hf
        rw [e2] at hP
        exact ret_i hx hb hr hlocks hP hS e1 dX7_type_13
  exact key s.heap [] hP hS
theorem hd_X7_type : Hd yX7_type 1 := by decide +kernel
theorem k_X7_type {p : Program} {l : Launch} {e : Env} {R : Room} {s : State} {m : MethodId} {args : Array Value} {below : List Frame} {meth : Method} {c : Code} {H : Heap} {locs : List Loc} {cells slots : Nat} {Q : State → Prop} {cc : ByteArray} {nL pc index : Nat} {ls : Array Slot} {rest : List Value} {X : En} {M : Mem} {H0 : Heap} {own : String} {x1 : Int32} {r : Int32} {M9 : Mem} (hZ : Fx p c m s args X cc nL own) (hP : wd X M H) (hS : va_S X.A H0 H locs) (hsz : ls.size = nL) (hlk : Cond.methodLink own index yX7_type ∈ lw_u) (hR : 1 + 1 ≤ R.frames ∧ 8 + (2 + 11) + 21 ≤ R.locals) (hW : (rest.map fun v => v.category).sum ≤ 8) (hdg : decode cc pc = .ok (.invokevirtual index, 3)) (hcs : cells ≤ R.cells ∧ slots ≤ R.slots) (hf : fn_X7_type x1 M = some (r, M9))
    (kk : ∀ (H1 : Heap) (locs1 : List Loc), wd X M9 H1 → va_S X.A H0 H1 locs1 → W p l e R s m args below meth c H1 locs1 cells slots Q (F0 m (pc + 3) ls (.int r :: rest))) : W p l e R s m args below meth c H locs cells slots Q (F0 m pc ls (.int x1 :: .ref (X.ad 0) :: rest)) :=
  cal_i (runV (As := [.int x1]) (rest := rest) hZ.1 hZ.2.1 hZ.2.2.1 hZ.2.2.2.1 hZ.2.2.2.2.1 hZ.2.2.2.2.2 hP (c_X7_type x1 M r M9 hf) wd_2_13 wd_2_11 wd_2_12 wd_1_1 hd_X7_type (by decide) rfl rfl rfl hlk hR hsz rfl hW hdg hcs) hS kk
/-! FrameRaiser.clearText -/
def fn_X7_clearText (M : Mem) : Option (Int32 × Mem) :=
  bv (M 47 0) fun v1_1 =>
  bv (st M 47 0 (0 : Int32)) fun M_2 =>
  some (v1_1, M_2)
theorem dX7_clearText_0 : decode cX7_clearText 0 = .ok (.aload_n 0, 1) := by decide +kernel
theorem dX7_clearText_1 : decode cX7_clearText 1 = .ok (.getfield 49, 3) := by decide +kernel
theorem dX7_clearText_4 : decode cX7_clearText 4 = .ok (.getfield 66, 3) := by decide +kernel
theorem dX7_clearText_7 : decode cX7_clearText 7 = .ok (.istore_n 1, 1) := by decide +kernel
theorem dX7_clearText_8 : decode cX7_clearText 8 = .ok (.aload_n 0, 1) := by decide +kernel
theorem dX7_clearText_9 : decode cX7_clearText 9 = .ok (.getfield 49, 3) := by decide +kernel
theorem dX7_clearText_12 : decode cX7_clearText 12 = .ok (.iconst 0, 1) := by decide +kernel
theorem dX7_clearText_13 : decode cX7_clearText 13 = .ok (.putfield 66, 3) := by decide +kernel
theorem dX7_clearText_16 : decode cX7_clearText 16 = .ok (.iload_n 1, 1) := by decide +kernel
theorem dX7_clearText_17 : decode cX7_clearText 17 = .ok (.ireturn, 1) := by decide +kernel
set_option maxHeartbeats 4000000 in
set_option maxRecDepth 100000 in
theorem c_X7_clearText {l : Launch} {X : En} (M : Mem) (r : Int32) (M9 : Mem) (hf : fn_X7_clearText M = some (r, M9)) : Cn l X yX7_clearText cX7_clearText 2 (some .int) 0 0 [.ref (X.ad 0)] M (Qi X r M9) := by
  refine Met.ofW (cc := cX7_clearText) (maxL := 2) (ret := (some .int)) (by decide) rfl ?_
  intro p e s m args below meth c s₁ B hml hv
  obtain ⟨rfl, hP, hk⟩ := hv
  have hx := B.exec
  have hb := B.bytes
  have hr := B.returns
  have hlocks := B.notSynchronized
  have hts : ∀ w ∈ lw_u, w.before ([.ref (X.ad 0)] : List Value).toArray s = true := fun w hw => atoms_spec (ws := Cond.code yX7_clearText cX7_clearText 2 (some .int) :: lw_u) B.pre w (List.mem_cons_of_mem _ hw)
  have hown : s.vm.findClass RX7 = some m.cls := findClass_of_methodNamed B.named
  have hZ : Fx p c m s ([.ref (X.ad 0)] : List Value).toArray X cX7_clearText 2 RX7 := ⟨hx, hb, hml, hts, hown, hk⟩
  have hS : va_S X.A s.heap s.heap [] := va_S.rf
  have hl := lv_entry ([.ref (X.ad 0)]) (n := 2) (Nat.le_of_ble_eq_true rfl)
  rw [lg_entry_eq]
  generalize (lg_sl ([.ref (X.ad 0)]) ++ List.replicate (2 - (lg_sl ([.ref (X.ad 0)])).length) Slot.unset).toArray = ls at hl ⊢
  have hl : lv_has ls 2 [(0, .ref (X.ad 0))] := hl
  show WW p l e 0 0 s m [.ref (X.ad 0)] below meth c X (Qi X r M9) s.heap [] 0 ls []
  have hP : wd X M s.heap := hP
  unfold fn_X7_clearText at hf
  have key : ∀ (H : Heap) (locs : List Loc), wd X M H → va_S X.A s.heap H locs → WW p l e 0 0 s m [.ref (X.ad 0)] below meth c X (Qi X r M9) H locs 0 ls [] := by
    intro H locs hP hS
    refine lv_aload_n hx hb dX7_clearText_0 rfl (lv_at hl 0 rfl) ?_
    refine gX7_5 hx hb hts hown hk hP wd_1_218 dX7_clearText_1 ?_
    refine gX6_0 hx hb hts hown hk hP wd_1_188 dX7_clearText_4 ?_
    refine lv_topi (fun v1_1 e_v1_1 => ?_)
    have hf := b_v hf e_v1_1
    refine lv_istore_n (lv' := [(1, .int v1_1), (0, .ref (X.ad 0))]) hx hb dX7_clearText_7 rfl hl (by decide) rfl (fun ls hl => ?_)
    refine lv_aload_n hx hb dX7_clearText_8 rfl (lv_at hl 1 rfl) ?_
    refine gX7_5 hx hb hts hown hk hP wd_1_218 dX7_clearText_9 ?_
    refine lv_iconst (v := (0 : Int32)) hx hb dX7_clearText_12 (by decide) ?_
    refine pX6_0 hx hb hts hown hk hP hS wd_1_188 dX7_clearText_13 (fun H locs M_2 e_M_2 hP hS => ?_)
    have hf := b_v hf e_M_2
    refine lv_iload_n hx hb dX7_clearText_16 rfl (lv_at hl 0 rfl) ?_
    have hf := Option.some.inj hf
    obtain ⟨e1, e2⟩ := Prod.mk.inj hf
    rw [e2] at hP
    exact ret_i hx hb hr hlocks hP hS e1 dX7_clearText_17
  exact key s.heap [] hP hS
theorem hd_X7_clearText : Hd yX7_clearText 0 := by decide +kernel
theorem k_X7_clearText {p : Program} {l : Launch} {e : Env} {R : Room} {s : State} {m : MethodId} {args : Array Value} {below : List Frame} {meth : Method} {c : Code} {H : Heap} {locs : List Loc} {cells slots : Nat} {Q : State → Prop} {cc : ByteArray} {nL pc index : Nat} {ls : Array Slot} {rest : List Value} {X : En} {M : Mem} {H0 : Heap} {own : String} {r : Int32} {M9 : Mem} (hZ : Fx p c m s args X cc nL own) (hP : wd X M H) (hS : va_S X.A H0 H locs) (hsz : ls.size = nL) (hlk : Cond.methodLink own index yX7_clearText ∈ lw_u) (hR : 0 + 1 ≤ R.frames ∧ 8 + (2 + 11) + 0 ≤ R.locals) (hW : (rest.map fun v => v.category).sum ≤ 8) (hdg : decode cc pc = .ok (.invokevirtual index, 3)) (hcs : cells ≤ R.cells ∧ slots ≤ R.slots) (hf : fn_X7_clearText M = some (r, M9))
    (kk : ∀ (H1 : Heap) (locs1 : List Loc), wd X M9 H1 → va_S X.A H0 H1 locs1 → W p l e R s m args below meth c H1 locs1 cells slots Q (F0 m (pc + 3) ls (.int r :: rest))) : W p l e R s m args below meth c H locs cells slots Q (F0 m pc ls (.ref (X.ad 0) :: rest)) :=
  cal_i (runV (As := []) (rest := rest) hZ.1 hZ.2.1 hZ.2.2.1 hZ.2.2.2.1 hZ.2.2.2.2.1 hZ.2.2.2.2.2 hP (c_X7_clearText M r M9 hf) wd_2_21 wd_2_19 wd_2_20 wd_1_1 hd_X7_clearText (by decide) rfl rfl rfl hlk hR hsz rfl hW hdg hcs) hS kk
/-! FrameRaiser$Frame.empty -/
def bd_X1_empty_2 (k0 : Nat) : (Int32 × Mem) → Option ((Int32 × Mem) ⊕ (Mem)) :=
  u2 fun v1_1 M_2 =>
  if (216 : Int32) ≤ v1_1 then
    (some (.inr M_2))
  else
    (if inb v1_1 216 then
    bv (st M_2 (k0 + 1) (ix v1_1) (-1 : Int32)) fun M_5 =>
    some (.inl (v1_1 + (1 : Int32), M_5))
    else none)
def bd_X1_empty_24 (k0 : Nat) : (Int32 × Mem) → Option ((Int32 × Mem) ⊕ (Mem)) :=
  u2 fun v1_7 M_8 =>
  if (8 : Int32) ≤ v1_7 then
    (some (.inr M_8))
  else
    (if inb v1_7 8 then
    bv (st M_8 (k0 + 2) (ix v1_7) (0 : Int32)) fun M_11 =>
    some (.inl (v1_7 + (1 : Int32), M_11))
    else none)
def fn_X1_empty (g : Nat) (k0 : Nat) (M : Mem) : Option (Mem) :=
  (lpN g (bd_X1_empty_2 k0) ((0 : Int32), M)).bind (u1 fun M_3 =>
    (lpN g (bd_X1_empty_24 k0) ((0 : Int32), M_3)).bind (u1 fun M_9 =>
      bv (st M_9 k0 2 (0 : Int32)) fun M_13 =>
      bv (st M_13 k0 3 (0 : Int32)) fun M_14 =>
      bv (st M_14 k0 4 (0 : Int32)) fun M_15 =>
      some M_15))
theorem dX1_empty_0 : decode cX1_empty 0 = .ok (.iconst 0, 1) := by decide +kernel
theorem dX1_empty_1 : decode cX1_empty 1 = .ok (.istore_n 1, 1) := by decide +kernel
theorem dX1_empty_2 : decode cX1_empty 2 = .ok (.iload_n 1, 1) := by decide +kernel
theorem dX1_empty_3 : decode cX1_empty 3 = .ok (.sipush 216, 3) := by decide +kernel
theorem dX1_empty_6 : decode cX1_empty 6 = .ok (.if_icmp .ge 16, 3) := by decide +kernel
theorem dX1_empty_9 : decode cX1_empty 9 = .ok (.aload_n 0, 1) := by decide +kernel
theorem dX1_empty_10 : decode cX1_empty 10 = .ok (.getfield 9, 3) := by decide +kernel
theorem dX1_empty_13 : decode cX1_empty 13 = .ok (.iload_n 1, 1) := by decide +kernel
theorem dX1_empty_14 : decode cX1_empty 14 = .ok (.iconst (-1), 1) := by decide +kernel
theorem dX1_empty_15 : decode cX1_empty 15 = .ok (.iastore, 1) := by decide +kernel
theorem dX1_empty_16 : decode cX1_empty 16 = .ok (.iinc 1 1, 3) := by decide +kernel
theorem dX1_empty_19 : decode cX1_empty 19 = .ok (.goto (-17), 3) := by decide +kernel
theorem dX1_empty_22 : decode cX1_empty 22 = .ok (.iconst 0, 1) := by decide +kernel
theorem dX1_empty_23 : decode cX1_empty 23 = .ok (.istore_n 1, 1) := by decide +kernel
theorem dX1_empty_24 : decode cX1_empty 24 = .ok (.iload_n 1, 1) := by decide +kernel
theorem dX1_empty_25 : decode cX1_empty 25 = .ok (.bipush 8, 2) := by decide +kernel
theorem dX1_empty_27 : decode cX1_empty 27 = .ok (.if_icmp .ge 16, 3) := by decide +kernel
theorem dX1_empty_30 : decode cX1_empty 30 = .ok (.aload_n 0, 1) := by decide +kernel
theorem dX1_empty_31 : decode cX1_empty 31 = .ok (.getfield 15, 3) := by decide +kernel
theorem dX1_empty_34 : decode cX1_empty 34 = .ok (.iload_n 1, 1) := by decide +kernel
theorem dX1_empty_35 : decode cX1_empty 35 = .ok (.iconst 0, 1) := by decide +kernel
theorem dX1_empty_36 : decode cX1_empty 36 = .ok (.iastore, 1) := by decide +kernel
theorem dX1_empty_37 : decode cX1_empty 37 = .ok (.iinc 1 1, 3) := by decide +kernel
theorem dX1_empty_40 : decode cX1_empty 40 = .ok (.goto (-16), 3) := by decide +kernel
theorem dX1_empty_43 : decode cX1_empty 43 = .ok (.aload_n 0, 1) := by decide +kernel
theorem dX1_empty_44 : decode cX1_empty 44 = .ok (.iconst 0, 1) := by decide +kernel
theorem dX1_empty_45 : decode cX1_empty 45 = .ok (.putfield 21, 3) := by decide +kernel
theorem dX1_empty_48 : decode cX1_empty 48 = .ok (.aload_n 0, 1) := by decide +kernel
theorem dX1_empty_49 : decode cX1_empty 49 = .ok (.iconst 0, 1) := by decide +kernel
theorem dX1_empty_50 : decode cX1_empty 50 = .ok (.putfield 25, 3) := by decide +kernel
theorem dX1_empty_53 : decode cX1_empty 53 = .ok (.aload_n 0, 1) := by decide +kernel
theorem dX1_empty_54 : decode cX1_empty 54 = .ok (.iconst 0, 1) := by decide +kernel
theorem dX1_empty_55 : decode cX1_empty 55 = .ok (.putfield 28, 3) := by decide +kernel
theorem dX1_empty_58 : decode cX1_empty 58 = .ok (.return_, 1) := by decide +kernel
set_option maxHeartbeats 4000000 in
set_option maxRecDepth 100000 in
theorem c_X1_empty {l : Launch} {X : En} (g : Nat) (k0 : Nat) (M : Mem) (hk0 : isF k0) (M9 : Mem) (hf : fn_X1_empty g k0 M = some M9) : Cn l X yX1_empty cX1_empty 2 none 0 0 [.ref (X.ad k0)] M (Qv X M9) := by
  refine Met.ofW (cc := cX1_empty) (maxL := 2) (ret := none) (by decide) rfl ?_
  intro p e s m args below meth c s₁ B hml hv
  obtain ⟨rfl, hP, hk⟩ := hv
  have hx := B.exec
  have hb := B.bytes
  have hr := B.returns
  have hlocks := B.notSynchronized
  have hts : ∀ w ∈ lw_u, w.before ([.ref (X.ad k0)] : List Value).toArray s = true := fun w hw => atoms_spec (ws := Cond.code yX1_empty cX1_empty 2 none :: lw_u) B.pre w (List.mem_cons_of_mem _ hw)
  have hown : s.vm.findClass RX1 = some m.cls := findClass_of_methodNamed B.named
  have hZ : Fx p c m s ([.ref (X.ad k0)] : List Value).toArray X cX1_empty 2 RX1 := ⟨hx, hb, hml, hts, hown, hk⟩
  have hS : va_S X.A s.heap s.heap [] := va_S.rf
  have hl := lv_entry ([.ref (X.ad k0)]) (n := 2) (Nat.le_of_ble_eq_true rfl)
  rw [lg_entry_eq]
  generalize (lg_sl ([.ref (X.ad k0)]) ++ List.replicate (2 - (lg_sl ([.ref (X.ad k0)])).length) Slot.unset).toArray = ls at hl ⊢
  have hl : lv_has ls 2 [(0, .ref (X.ad k0))] := hl
  show WW p l e 0 0 s m [.ref (X.ad k0)] below meth c X (Qv X M9) s.heap [] 0 ls []
  have hP : wd X M s.heap := hP
  unfold fn_X1_empty at hf
  have key : ∀ (H : Heap) (locs : List Loc), wd X M H → va_S X.A s.heap H locs → WW p l e 0 0 s m [.ref (X.ad k0)] below meth c X (Qv X M9) H locs 0 ls [] := by
    intro H locs hP hS
    refine lv_iconst (v := (0 : Int32)) hx hb dX1_empty_0 (by decide) ?_
    refine lv_istore_n (lv' := [(1, .int (0 : Int32)), (0, .ref (X.ad k0))]) hx hb dX1_empty_1 rfl hl (by decide) rfl (fun ls hl => ?_)
    obtain ⟨o2, ho2, hf⟩ := b_d hf
    refine lp_rule (b := bd_X1_empty_2 k0) (P := fun w : Int32 × Mem => ∀ (H : Heap) (locs : List Loc) (ls : Array Slot), wd X w.2 H → va_S X.A s.heap H locs → lv_has ls 2 [(1, .int w.1), (0, .ref (X.ad k0))] → WW p l e 0 0 s m [.ref (X.ad k0)] below meth c X (Qv X M9) H locs 2 ls []) (K := fun o => ∀ (M_3 : Mem), o = M_3 → ∀ (H : Heap) (locs : List Loc) (ls : Array Slot), wd X M_3 H → va_S X.A s.heap H locs → lv_has ls 2 [(0, .ref (X.ad k0))] → WW p l e 0 0 s m [.ref (X.ad k0)] below meth c X (Qv X M9) H locs 22 ls []) ?_ g ((0 : Int32), M) o2 ho2 ?_ H locs ls hP hS (lv_sub hl [0, 1] rfl)
    · rintro ⟨v1_1, M_2⟩ o hf hkc2 hke2 H locs ls hP hS hl
      have hf := u2_e hf
      refine lv_iload_n hx hb dX1_empty_2 rfl (lv_at hl 0 rfl) ?_
      refine lv_sipush (v := (216 : Int32)) hx hb dX1_empty_3 (by decide) ?_
      refine lv_icmp_ge (tgt := 22) hx hb dX1_empty_6 (by decide) (fun c_4 => ?_) (fun c_4 => ?_)
      · have hf := i_t c_4 hf
        exact hke2 _ (Option.some.inj hf).symm _ rfl H locs ls hP hS (lv_sub hl [1] rfl)
      · have hf := i_f c_4 hf
        refine lv_aload_n hx hb dX1_empty_9 rfl (lv_at hl 1 rfl) ?_
        refine gX1_0 hx hb hts hown hk hP hk0 wd_1_31 dX1_empty_10 ?_
        refine lv_iload_n hx hb dX1_empty_13 rfl (lv_at hl 0 rfl) ?_
        refine lv_iconst (v := (-1 : Int32)) hx hb dX1_empty_14 (by decide) ?_
        obtain ⟨q_6, hf⟩ := g_if hf
        refine ast hx hb hk hP hS (isF_lt1 hk0) (rd_F1 hk0) q_6 dX1_empty_15 (fun H locs M_5 e_M_5 hP hS => ?_)
        have hf := b_v hf e_M_5
        refine lv_iinc (v := v1_1 + (1 : Int32)) (lv' := [(1, .int (v1_1 + (1 : Int32))), (0, .ref (X.ad k0))]) hx hb dX1_empty_16 hl (k := 0) rfl rfl (by decide) rfl (fun ls hl => ?_)
        refine lv_goto (tgt := 2) hx hb dX1_empty_19 (by decide) ?_
        exact hkc2 _ (Option.some.inj hf).symm H locs ls hP hS (lv_sub hl [0, 1] rfl)
    · intro M_3 e H locs ls hP hS hl
      subst o2
      have hf := u1_e hf
      refine lv_iconst (v := (0 : Int32)) hx hb dX1_empty_22 (by decide) ?_
      refine lv_istore_n (lv' := [(1, .int (0 : Int32)), (0, .ref (X.ad k0))]) hx hb dX1_empty_23 rfl hl (by decide) rfl (fun ls hl => ?_)
      obtain ⟨o24, ho24, hf⟩ := b_d hf
      refine lp_rule (b := bd_X1_empty_24 k0) (P := fun w : Int32 × Mem => ∀ (H : Heap) (locs : List Loc) (ls : Array Slot), wd X w.2 H → va_S X.A s.heap H locs → lv_has ls 2 [(1, .int w.1), (0, .ref (X.ad k0))] → WW p l e 0 0 s m [.ref (X.ad k0)] below meth c X (Qv X M9) H locs 24 ls []) (K := fun o => ∀ (M_9 : Mem), o = M_9 → ∀ (H : Heap) (locs : List Loc) (ls : Array Slot), wd X M_9 H → va_S X.A s.heap H locs → lv_has ls 2 [(0, .ref (X.ad k0))] → WW p l e 0 0 s m [.ref (X.ad k0)] below meth c X (Qv X M9) H locs 43 ls []) ?_ g ((0 : Int32), M_3) o24 ho24 ?_ H locs ls hP hS (lv_sub hl [0, 1] rfl)
      · rintro ⟨v1_7, M_8⟩ o hf hkc24 hke24 H locs ls hP hS hl
        have hf := u2_e hf
        refine lv_iload_n hx hb dX1_empty_24 rfl (lv_at hl 0 rfl) ?_
        refine lv_bipush (v := (8 : Int32)) hx hb dX1_empty_25 (by decide) ?_
        refine lv_icmp_ge (tgt := 43) hx hb dX1_empty_27 (by decide) (fun c_10 => ?_) (fun c_10 => ?_)
        · have hf := i_t c_10 hf
          exact hke24 _ (Option.some.inj hf).symm _ rfl H locs ls hP hS (lv_sub hl [1] rfl)
        · have hf := i_f c_10 hf
          refine lv_aload_n hx hb dX1_empty_30 rfl (lv_at hl 1 rfl) ?_
          refine gX1_1 hx hb hts hown hk hP hk0 wd_1_35 dX1_empty_31 ?_
          refine lv_iload_n hx hb dX1_empty_34 rfl (lv_at hl 0 rfl) ?_
          refine lv_iconst (v := (0 : Int32)) hx hb dX1_empty_35 (by decide) ?_
          obtain ⟨q_12, hf⟩ := g_if hf
          refine ast hx hb hk hP hS (isF_lt hk0) (rd_F2 hk0) q_12 dX1_empty_36 (fun H locs M_11 e_M_11 hP hS => ?_)
          have hf := b_v hf e_M_11
          refine lv_iinc (v := v1_7 + (1 : Int32)) (lv' := [(1, .int (v1_7 + (1 : Int32))), (0, .ref (X.ad k0))]) hx hb dX1_empty_37 hl (k := 0) rfl rfl (by decide) rfl (fun ls hl => ?_)
          refine lv_goto (tgt := 24) hx hb dX1_empty_40 (by decide) ?_
          exact hkc24 _ (Option.some.inj hf).symm H locs ls hP hS (lv_sub hl [0, 1] rfl)
      · intro M_9 e H locs ls hP hS hl
        subst o24
        have hf := u1_e hf
        refine lv_aload_n hx hb dX1_empty_43 rfl (lv_at hl 0 rfl) ?_
        refine lv_iconst (v := (0 : Int32)) hx hb dX1_empty_44 (by decide) ?_
        refine pX1_2 hx hb hts hown hk hP hS hk0 wd_1_39 dX1_empty_45 (fun H locs M_13 e_M_13 hP hS => ?_)
        have hf := b_v hf e_M_13
        refine lv_aload_n hx hb dX1_empty_48 rfl (lv_at hl 0 rfl) ?_
        refine lv_iconst (v := (0 : Int32)) hx hb dX1_empty_49 (by decide) ?_
        refine pX1_3 hx hb hts hown hk hP hS hk0 wd_1_41 dX1_empty_50 (fun H locs M_14 e_M_14 hP hS => ?_)
        have hf := b_v hf e_M_14
        refine lv_aload_n hx hb dX1_empty_53 rfl (lv_at hl 0 rfl) ?_
        refine lv_iconst (v := (0 : Int32)) hx hb dX1_empty_54 (by decide) ?_
        refine pX1_4 hx hb hts hown hk hP hS hk0 wd_1_43 dX1_empty_55 (fun H locs M_15 e_M_15 hP hS => ?_)
        have hf := b_v hf e_M_15
        have hf := Option.some.inj hf
        rw [hf] at hP
        exact ret_v hx hb hr hlocks hP hS dX1_empty_58
  exact key s.heap [] hP hS
theorem hd_X1_empty : Hd yX1_empty 0 := by decide +kernel
theorem k_X1_empty {p : Program} {l : Launch} {e : Env} {R : Room} {s : State} {m : MethodId} {args : Array Value} {below : List Frame} {meth : Method} {c : Code} {H : Heap} {locs : List Loc} {cells slots : Nat} {Q : State → Prop} {cc : ByteArray} {nL pc index : Nat} {ls : Array Slot} {rest : List Value} {X : En} {M : Mem} {H0 : Heap} {own : String} {g : Nat} {k0 : Nat} {M9 : Mem} (hZ : Fx p c m s args X cc nL own) (hP : wd X M H) (hS : va_S X.A H0 H locs) (hsz : ls.size = nL) (hlk : Cond.methodLink own index yX1_empty ∈ lw_u) (hR : 0 + 1 ≤ R.frames ∧ 8 + (2 + 11) + 0 ≤ R.locals) (hW : (rest.map fun v => v.category).sum ≤ 8) (hdg : decode cc pc = .ok (.invokevirtual index, 3)) (hcs : cells ≤ R.cells ∧ slots ≤ R.slots) (hk0 : isF k0) (hf : fn_X1_empty g k0 M = some M9)
    (kk : ∀ (H1 : Heap) (locs1 : List Loc), wd X M9 H1 → va_S X.A H0 H1 locs1 → W p l e R s m args below meth c H1 locs1 cells slots Q (F0 m (pc + 3) ls rest)) : W p l e R s m args below meth c H locs cells slots Q (F0 m pc ls (.ref (X.ad k0) :: rest)) :=
  cal_v (runV (As := []) (rest := rest) hZ.1 hZ.2.1 hZ.2.2.1 hZ.2.2.2.1 hZ.2.2.2.2.1 hZ.2.2.2.2.2 hP (c_X1_empty g k0 M hk0 M9 hf) wd_1_30 wd_1_28 wd_1_29 wd_1_2 hd_X1_empty (isF_lt0 hk0) (rd_F0 hk0 _) rfl rfl hlk hR hsz rfl hW hdg hcs) hS kk
/-! FrameRaiser$Box.take -/
def jn_X0_take_43 (k0 : Nat) (s_9 : Int32) (v3_8 : Int32) (x1 : Int32) (x2 : Int32) (M_10 : Mem) : Option (Int32 × Mem) :=
  if x2 < v3_8 then
    (some ((0 : Int32), M_10))
  else
    (if x2 ≤ s_9 then
      (if inb x1 6 then
      bv (st M_10 (k0 + 1) (ix x1) x2) fun M_13 =>
      some ((1 : Int32), M_13)
      else none)
    else
      (some ((0 : Int32), M_10)))
def jn_X0_take_22 (k0 : Nat) (s_4 : Int32) (x1 : Int32) (x2 : Int32) (M_5 : Mem) : Option (Int32 × Mem) :=
  if (3 : Int32) ≤ x1 then
    (if inb (x1 - (3 : Int32)) 6 then
    jn_X0_take_43 k0 ((6 : Int32) - (M_5 (k0 + 1) (ix (x1 - (3 : Int32))))) s_4 x1 x2 M_5
    else none)
  else
    (jn_X0_take_43 k0 (5 : Int32) s_4 x1 x2 M_5)
def fn_X0_take (k0 : Nat) (x1 : Int32) (x2 : Int32) (M : Mem) : Option (Int32 × Mem) :=
  if x1 < 0 then
    (some ((0 : Int32), M))
  else
    (if x1 < (6 : Int32) then
      (if (3 : Int32) ≤ x1 then
        (jn_X0_take_22 k0 (1 : Int32) x1 x2 M)
      else
        (jn_X0_take_22 k0 (0 : Int32) x1 x2 M))
    else
      (some ((0 : Int32), M)))
theorem dX0_take_0 : decode cX0_take 0 = .ok (.iload_n 1, 1) := by decide +kernel
theorem dX0_take_1 : decode cX0_take 1 = .ok (.ifCond .lt 9, 3) := by decide +kernel
theorem dX0_take_4 : decode cX0_take 4 = .ok (.iload_n 1, 1) := by decide +kernel
theorem dX0_take_5 : decode cX0_take 5 = .ok (.bipush 6, 2) := by decide +kernel
theorem dX0_take_7 : decode cX0_take 7 = .ok (.if_icmp .lt 5, 3) := by decide +kernel
theorem dX0_take_10 : decode cX0_take 10 = .ok (.iconst 0, 1) := by decide +kernel
theorem dX0_take_11 : decode cX0_take 11 = .ok (.ireturn, 1) := by decide +kernel
theorem dX0_take_12 : decode cX0_take 12 = .ok (.iload_n 1, 1) := by decide +kernel
theorem dX0_take_13 : decode cX0_take 13 = .ok (.iconst 3, 1) := by decide +kernel
theorem dX0_take_14 : decode cX0_take 14 = .ok (.if_icmp .ge 7, 3) := by decide +kernel
theorem dX0_take_17 : decode cX0_take 17 = .ok (.iconst 0, 1) := by decide +kernel
theorem dX0_take_18 : decode cX0_take 18 = .ok (.goto 4, 3) := by decide +kernel
theorem dX0_take_21 : decode cX0_take 21 = .ok (.iconst 1, 1) := by decide +kernel
theorem dX0_take_22 : decode cX0_take 22 = .ok (.istore_n 3, 1) := by decide +kernel
theorem dX0_take_23 : decode cX0_take 23 = .ok (.iload_n 1, 1) := by decide +kernel
theorem dX0_take_24 : decode cX0_take 24 = .ok (.iconst 3, 1) := by decide +kernel
theorem dX0_take_25 : decode cX0_take 25 = .ok (.if_icmp .ge 7, 3) := by decide +kernel
theorem dX0_take_28 : decode cX0_take 28 = .ok (.iconst 5, 1) := by decide +kernel
theorem dX0_take_29 : decode cX0_take 29 = .ok (.goto 14, 3) := by decide +kernel
theorem dX0_take_32 : decode cX0_take 32 = .ok (.bipush 6, 2) := by decide +kernel
theorem dX0_take_34 : decode cX0_take 34 = .ok (.aload_n 0, 1) := by decide +kernel
theorem dX0_take_35 : decode cX0_take 35 = .ok (.getfield 11, 3) := by decide +kernel
theorem dX0_take_38 : decode cX0_take 38 = .ok (.iload_n 1, 1) := by decide +kernel
theorem dX0_take_39 : decode cX0_take 39 = .ok (.iconst 3, 1) := by decide +kernel
theorem dX0_take_40 : decode cX0_take 40 = .ok (.isub, 1) := by decide +kernel
theorem dX0_take_41 : decode cX0_take 41 = .ok (.iaload, 1) := by decide +kernel
theorem dX0_take_42 : decode cX0_take 42 = .ok (.isub, 1) := by decide +kernel
theorem dX0_take_43 : decode cX0_take 43 = .ok (.istore 4, 2) := by decide +kernel
theorem dX0_take_45 : decode cX0_take 45 = .ok (.iload_n 2, 1) := by decide +kernel
theorem dX0_take_46 : decode cX0_take 46 = .ok (.iload_n 3, 1) := by decide +kernel
theorem dX0_take_47 : decode cX0_take 47 = .ok (.if_icmp .lt 9, 3) := by decide +kernel
theorem dX0_take_50 : decode cX0_take 50 = .ok (.iload_n 2, 1) := by decide +kernel
theorem dX0_take_51 : decode cX0_take 51 = .ok (.iload 4, 2) := by decide +kernel
theorem dX0_take_53 : decode cX0_take 53 = .ok (.if_icmp .le 5, 3) := by decide +kernel
theorem dX0_take_56 : decode cX0_take 56 = .ok (.iconst 0, 1) := by decide +kernel
theorem dX0_take_57 : decode cX0_take 57 = .ok (.ireturn, 1) := by decide +kernel
theorem dX0_take_58 : decode cX0_take 58 = .ok (.aload_n 0, 1) := by decide +kernel
theorem dX0_take_59 : decode cX0_take 59 = .ok (.getfield 11, 3) := by decide +kernel
theorem dX0_take_62 : decode cX0_take 62 = .ok (.iload_n 1, 1) := by decide +kernel
theorem dX0_take_63 : decode cX0_take 63 = .ok (.iload_n 2, 1) := by decide +kernel
theorem dX0_take_64 : decode cX0_take 64 = .ok (.iastore, 1) := by decide +kernel
theorem dX0_take_65 : decode cX0_take 65 = .ok (.iconst 1, 1) := by decide +kernel
theorem dX0_take_66 : decode cX0_take 66 = .ok (.ireturn, 1) := by decide +kernel
set_option maxHeartbeats 4000000 in
set_option maxRecDepth 100000 in
theorem c_X0_take {l : Launch} {X : En} (k0 : Nat) (x1 : Int32) (x2 : Int32) (M : Mem) (hk0 : isB k0) (r : Int32) (M9 : Mem) (hf : fn_X0_take k0 x1 x2 M = some (r, M9)) : Cn l X yX0_take cX0_take 5 (some .boolean) 0 0 [.ref (X.ad k0), .int x1, .int x2] M (Qi X r M9) := by
  refine Met.ofW (cc := cX0_take) (maxL := 5) (ret := (some .boolean)) (by decide) rfl ?_
  intro p e s m args below meth c s₁ B hml hv
  obtain ⟨rfl, hP, hk⟩ := hv
  have hx := B.exec
  have hb := B.bytes
  have hr := B.returns
  have hlocks := B.notSynchronized
  have hts : ∀ w ∈ lw_u, w.before ([.ref (X.ad k0), .int x1, .int x2] : List Value).toArray s = true := fun w hw => atoms_spec (ws := Cond.code yX0_take cX0_take 5 (some .boolean) :: lw_u) B.pre w (List.mem_cons_of_mem _ hw)
  have hown : s.vm.findClass RX0 = some m.cls := findClass_of_methodNamed B.named
  have hZ : Fx p c m s ([.ref (X.ad k0), .int x1, .int x2] : List Value).toArray X cX0_take 5 RX0 := ⟨hx, hb, hml, hts, hown, hk⟩
  have hS : va_S X.A s.heap s.heap [] := va_S.rf
  have hl := lv_entry ([.ref (X.ad k0), .int x1, .int x2]) (n := 5) (Nat.le_of_ble_eq_true rfl)
  rw [lg_entry_eq]
  generalize (lg_sl ([.ref (X.ad k0), .int x1, .int x2]) ++ List.replicate (5 - (lg_sl ([.ref (X.ad k0), .int x1, .int x2])).length) Slot.unset).toArray = ls at hl ⊢
  have hl : lv_has ls 5 [(0, .ref (X.ad k0)), (1, .int x1), (2, .int x2)] := hl
  show WW p l e 0 0 s m [.ref (X.ad k0), .int x1, .int x2] below meth c X (Qi X r M9) s.heap [] 0 ls []
  have hP : wd X M s.heap := hP
  have jn43 : ∀ (v3_8 : Int32) (s_9 : Int32) (M_10 : Mem), jn_X0_take_43 k0 s_9 v3_8 x1 x2 M_10 = some (r, M9) → ∀ (H : Heap) (locs : List Loc) (ls : Array Slot), wd X M_10 H → va_S X.A s.heap H locs → lv_has ls 5 [(0, .ref (X.ad k0)), (1, .int x1), (2, .int x2), (3, .int v3_8)] → WW p l e 0 0 s m [.ref (X.ad k0), .int x1, .int x2] below meth c X (Qi X r M9) H locs 43 ls [.int s_9] := by
    intro v3_8 s_9 M_10 hf H locs ls hP hS hl
    unfold jn_X0_take_43 at hf
    refine lv_istore (lv' := [(4, .int s_9), (0, .ref (X.ad k0)), (1, .int x1), (2, .int x2), (3, .int v3_8)]) hx hb dX0_take_43 hl (by decide) rfl (fun ls hl => ?_)
    refine lv_iload_n hx hb dX0_take_45 rfl (lv_at hl 3 rfl) ?_
    refine lv_iload_n hx hb dX0_take_46 rfl (lv_at hl 4 rfl) ?_
    refine lv_icmp_lt (tgt := 56) hx hb dX0_take_47 (by decide) (fun c_11 => ?_) (fun c_11 => ?_)
    · have hf := i_t c_11 hf
      refine lv_iconst (v := (0 : Int32)) hx hb dX0_take_56 (by decide) ?_
      have hf := Option.some.inj hf
      obtain ⟨e1, e2⟩ := Prod.mk.inj hf
      rw [e2] at hP
      exact ret_z hx hb hr hlocks hP hS isZ_0 e1 dX0_take_57
    · have hf := i_f c_11 hf
      refine lv_iload_n hx hb dX0_take_50 rfl (lv_at hl 3 rfl) ?_
      refine lv_iload hx hb dX0_take_51 (lv_at hl 0 rfl) ?_
      refine lv_icmp_le (tgt := 58) hx hb dX0_take_53 (by decide) (fun c_12 => ?_) (fun c_12 => ?_)
      · have hf := i_t c_12 hf
        refine lv_aload_n hx hb dX0_take_58 rfl (lv_at hl 1 rfl) ?_
        refine gX0_0 hx hb hts hown hk hP hk0 wd_1_183 dX0_take_59 ?_
        refine lv_iload_n hx hb dX0_take_62 rfl (lv_at hl 2 rfl) ?_
        refine lv_iload_n hx hb dX0_take_63 rfl (lv_at hl 3 rfl) ?_
        obtain ⟨q_14, hf⟩ := g_if hf
        refine ast hx hb hk hP hS (isB_lt1 hk0) (rd_B1 hk0) q_14 dX0_take_64 (fun H locs M_13 e_M_13 hP hS => ?_)
        have hf := b_v hf e_M_13
        refine lv_iconst (v := (1 : Int32)) hx hb dX0_take_65 (by decide) ?_
        have hf := Option.some.inj hf
        obtain ⟨e1, e2⟩ := Prod.mk.inj hf
        rw [e2] at hP
        exact ret_z hx hb hr hlocks hP hS isZ_1 e1 dX0_take_66
      · have hf := i_f c_12 hf
        refine lv_iconst (v := (0 : Int32)) hx hb dX0_take_56 (by decide) ?_
        have hf := Option.some.inj hf
        obtain ⟨e1, e2⟩ := Prod.mk.inj hf
        rw [e2] at hP
        exact ret_z hx hb hr hlocks hP hS isZ_0 e1 dX0_take_57
  have jn22 : ∀ (s_4 : Int32) (M_5 : Mem), jn_X0_take_22 k0 s_4 x1 x2 M_5 = some (r, M9) → ∀ (H : Heap) (locs : List Loc) (ls : Array Slot), wd X M_5 H → va_S X.A s.heap H locs → lv_has ls 5 [(0, .ref (X.ad k0)), (1, .int x1), (2, .int x2)] → WW p l e 0 0 s m [.ref (X.ad k0), .int x1, .int x2] below meth c X (Qi X r M9) H locs 22 ls [.int s_4] := by
    intro s_4 M_5 hf H locs ls hP hS hl
    unfold jn_X0_take_22 at hf
    refine lv_istore_n (lv' := [(3, .int s_4), (0, .ref (X.ad k0)), (1, .int x1), (2, .int x2)]) hx hb dX0_take_22 rfl hl (by decide) rfl (fun ls hl => ?_)
    refine lv_iload_n hx hb dX0_take_23 rfl (lv_at hl 2 rfl) ?_
    refine lv_iconst (v := (3 : Int32)) hx hb dX0_take_24 (by decide) ?_
    refine lv_icmp_ge (tgt := 32) hx hb dX0_take_25 (by decide) (fun c_6 => ?_) (fun c_6 => ?_)
    · have hf := i_t c_6 hf
      refine lv_bipush (v := (6 : Int32)) hx hb dX0_take_32 (by decide) ?_
      refine lv_aload_n hx hb dX0_take_34 rfl (lv_at hl 1 rfl) ?_
      refine gX0_0 hx hb hts hown hk hP hk0 wd_1_183 dX0_take_35 ?_
      refine lv_iload_n hx hb dX0_take_38 rfl (lv_at hl 2 rfl) ?_
      refine lv_iconst (v := (3 : Int32)) hx hb dX0_take_39 (by decide) ?_
      refine lv_isub hx hb dX0_take_40 ?_
      obtain ⟨q_7, hf⟩ := g_if hf
      refine ald hx hb hk hP (isB_lt1 hk0) (rd_B1 hk0 _) q_7 dX0_take_41 ?_
      refine lv_isub hx hb dX0_take_42 ?_
      exact jn43 s_4 ((6 : Int32) - (M_5 (k0 + 1) (ix (x1 - (3 : Int32))))) M_5 hf H locs ls hP hS (lv_sub hl [1, 2, 3, 0] rfl)
    · have hf := i_f c_6 hf
      refine lv_iconst (v := (5 : Int32)) hx hb dX0_take_28 (by decide) ?_
      refine lv_goto (tgt := 43) hx hb dX0_take_29 (by decide) ?_
      exact jn43 s_4 (5 : Int32) M_5 hf H locs ls hP hS (lv_sub hl [1, 2, 3, 0] rfl)
  unfold fn_X0_take at hf
  have key : ∀ (H : Heap) (locs : List Loc), wd X M H → va_S X.A s.heap H locs → WW p l e 0 0 s m [.ref (X.ad k0), .int x1, .int x2] below meth c X (Qi X r M9) H locs 0 ls [] := by
    intro H locs hP hS
    refine lv_iload_n hx hb dX0_take_0 rfl (lv_at hl 1 rfl) ?_
    refine lv_if_lt (tgt := 10) hx hb dX0_take_1 (by decide) (fun c_1 => ?_) (fun c_1 => ?_)
    · have hf := i_t c_1 hf
      refine lv_iconst (v := (0 : Int32)) hx hb dX0_take_10 (by decide) ?_
      have hf := Option.some.inj hf
      obtain ⟨e1, e2⟩ := Prod.mk.inj hf
      rw [e2] at hP
      exact ret_z hx hb hr hlocks hP hS isZ_0 e1 dX0_take_11
    · have hf := i_f c_1 hf
      refine lv_iload_n hx hb dX0_take_4 rfl (lv_at hl 1 rfl) ?_
      refine lv_bipush (v := (6 : Int32)) hx hb dX0_take_5 (by decide) ?_
      refine lv_icmp_lt (tgt := 12) hx hb dX0_take_7 (by decide) (fun c_2 => ?_) (fun c_2 => ?_)
      · have hf := i_t c_2 hf
        refine lv_iload_n hx hb dX0_take_12 rfl (lv_at hl 1 rfl) ?_
        refine lv_iconst (v := (3 : Int32)) hx hb dX0_take_13 (by decide) ?_
        refine lv_icmp_ge (tgt := 21) hx hb dX0_take_14 (by decide) (fun c_3 => ?_) (fun c_3 => ?_)
        · have hf := i_t c_3 hf
          refine lv_iconst (v := (1 : Int32)) hx hb dX0_take_21 (by decide) ?_
          exact jn22 (1 : Int32) M hf H locs ls hP hS (lv_sub hl [0, 1, 2] rfl)
        · have hf := i_f c_3 hf
          refine lv_iconst (v := (0 : Int32)) hx hb dX0_take_17 (by decide) ?_
          refine lv_goto (tgt := 22) hx hb dX0_take_18 (by decide) ?_
          exact jn22 (0 : Int32) M hf H locs ls hP hS (lv_sub hl [0, 1, 2] rfl)
      · have hf := i_f c_2 hf
        refine lv_iconst (v := (0 : Int32)) hx hb dX0_take_10 (by decide) ?_
        have hf := Option.some.inj hf
        obtain ⟨e1, e2⟩ := Prod.mk.inj hf
        rw [e2] at hP
        exact ret_z hx hb hr hlocks hP hS isZ_0 e1 dX0_take_11
  exact key s.heap [] hP hS
theorem hd_X0_take : Hd yX0_take 2 := by decide +kernel
theorem k_X0_take {p : Program} {l : Launch} {e : Env} {R : Room} {s : State} {m : MethodId} {args : Array Value} {below : List Frame} {meth : Method} {c : Code} {H : Heap} {locs : List Loc} {cells slots : Nat} {Q : State → Prop} {cc : ByteArray} {nL pc index : Nat} {ls : Array Slot} {rest : List Value} {X : En} {M : Mem} {H0 : Heap} {own : String} {k0 : Nat} {x1 : Int32} {x2 : Int32} {r : Int32} {M9 : Mem} (hZ : Fx p c m s args X cc nL own) (hP : wd X M H) (hS : va_S X.A H0 H locs) (hsz : ls.size = nL) (hlk : Cond.methodLink own index yX0_take ∈ lw_u) (hR : 0 + 1 ≤ R.frames ∧ 8 + (5 + 11) + 0 ≤ R.locals) (hW : (rest.map fun v => v.category).sum ≤ 8) (hdg : decode cc pc = .ok (.invokevirtual index, 3)) (hcs : cells ≤ R.cells ∧ slots ≤ R.slots) (hk0 : isB k0) (hf : fn_X0_take k0 x1 x2 M = some (r, M9))
    (kk : ∀ (H1 : Heap) (locs1 : List Loc), wd X M9 H1 → va_S X.A H0 H1 locs1 → W p l e R s m args below meth c H1 locs1 cells slots Q (F0 m (pc + 3) ls (.int r :: rest))) : W p l e R s m args below meth c H locs cells slots Q (F0 m pc ls (.int x2 :: .int x1 :: .ref (X.ad k0) :: rest)) :=
  cal_i (runV (As := [.int x1, .int x2]) (rest := rest) hZ.1 hZ.2.1 hZ.2.2.1 hZ.2.2.2.1 hZ.2.2.2.2.1 hZ.2.2.2.2.2 hP (c_X0_take k0 x1 x2 M hk0 r M9 hf) wd_2_50 wd_2_48 wd_2_49 wd_1_8 hd_X0_take (isB_lt0 hk0) (rd_B0 hk0 _) rfl rfl hlk hR hsz rfl hW hdg hcs) hS kk
/-! FrameRaiser.coordinate -/
def fn_X7_coordinate (x0 : Int32) (x1 : Int32) : Int32 :=
  if x1 = 0 then
    (rm x0 (6 : Int32))
  else
    (if x1 = (1 : Int32) then
      (rm (x0 / (6 : Int32)) (6 : Int32))
    else
      (x0 / (36 : Int32)))
theorem dX7_coordinate_0 : decode cX7_coordinate 0 = .ok (.iload_n 1, 1) := by decide +kernel
theorem dX7_coordinate_1 : decode cX7_coordinate 1 = .ok (.ifCond .ne 8, 3) := by decide +kernel
theorem dX7_coordinate_4 : decode cX7_coordinate 4 = .ok (.iload_n 0, 1) := by decide +kernel
theorem dX7_coordinate_5 : decode cX7_coordinate 5 = .ok (.bipush 6, 2) := by decide +kernel
theorem dX7_coordinate_7 : decode cX7_coordinate 7 = .ok (.irem, 1) := by decide +kernel
theorem dX7_coordinate_8 : decode cX7_coordinate 8 = .ok (.ireturn, 1) := by decide +kernel
theorem dX7_coordinate_9 : decode cX7_coordinate 9 = .ok (.iload_n 1, 1) := by decide +kernel
theorem dX7_coordinate_10 : decode cX7_coordinate 10 = .ok (.iconst 1, 1) := by decide +kernel
theorem dX7_coordinate_11 : decode cX7_coordinate 11 = .ok (.if_icmp .ne 13, 3) := by decide +kernel
theorem dX7_coordinate_14 : decode cX7_coordinate 14 = .ok (.iload_n 0, 1) := by decide +kernel
theorem dX7_coordinate_15 : decode cX7_coordinate 15 = .ok (.bipush 6, 2) := by decide +kernel
theorem dX7_coordinate_17 : decode cX7_coordinate 17 = .ok (.idiv, 1) := by decide +kernel
theorem dX7_coordinate_18 : decode cX7_coordinate 18 = .ok (.bipush 6, 2) := by decide +kernel
theorem dX7_coordinate_20 : decode cX7_coordinate 20 = .ok (.irem, 1) := by decide +kernel
theorem dX7_coordinate_21 : decode cX7_coordinate 21 = .ok (.goto 7, 3) := by decide +kernel
theorem dX7_coordinate_24 : decode cX7_coordinate 24 = .ok (.iload_n 0, 1) := by decide +kernel
theorem dX7_coordinate_25 : decode cX7_coordinate 25 = .ok (.bipush 36, 2) := by decide +kernel
theorem dX7_coordinate_27 : decode cX7_coordinate 27 = .ok (.idiv, 1) := by decide +kernel
theorem dX7_coordinate_28 : decode cX7_coordinate 28 = .ok (.ireturn, 1) := by decide +kernel
set_option maxHeartbeats 4000000 in
set_option maxRecDepth 100000 in
theorem c_X7_coordinate {l : Launch} {X : En} (x0 : Int32) (x1 : Int32) (M : Mem) (r : Int32) (hf : fn_X7_coordinate x0 x1 = r) : Cn l X yX7_coordinate cX7_coordinate 2 (some .int) 0 0 [.int x0, .int x1] M (Qi X r M) := by
  refine Met.ofW (cc := cX7_coordinate) (maxL := 2) (ret := (some .int)) (by decide) rfl ?_
  intro p e s m args below meth c s₁ B hml hv
  obtain ⟨rfl, hP, hk⟩ := hv
  have hx := B.exec
  have hb := B.bytes
  have hr := B.returns
  have hlocks := B.notSynchronized
  have hts : ∀ w ∈ lw_u, w.before ([.int x0, .int x1] : List Value).toArray s = true := fun w hw => atoms_spec (ws := Cond.code yX7_coordinate cX7_coordinate 2 (some .int) :: lw_u) B.pre w (List.mem_cons_of_mem _ hw)
  have hown : s.vm.findClass RX7 = some m.cls := findClass_of_methodNamed B.named
  have hZ : Fx p c m s ([.int x0, .int x1] : List Value).toArray X cX7_coordinate 2 RX7 := ⟨hx, hb, hml, hts, hown, hk⟩
  have hS : va_S X.A s.heap s.heap [] := va_S.rf
  have hl := lv_entry ([.int x0, .int x1]) (n := 2) (Nat.le_of_ble_eq_true rfl)
  rw [lg_entry_eq]
  generalize (lg_sl ([.int x0, .int x1]) ++ List.replicate (2 - (lg_sl ([.int x0, .int x1])).length) Slot.unset).toArray = ls at hl ⊢
  have hl : lv_has ls 2 [(0, .int x0), (1, .int x1)] := hl
  show WW p l e 0 0 s m [.int x0, .int x1] below meth c X (Qi X r M) s.heap [] 0 ls []
  have hP : wd X M s.heap := hP
  unfold fn_X7_coordinate at hf
  have key : ∀ (H : Heap) (locs : List Loc), wd X M H → va_S X.A s.heap H locs → WW p l e 0 0 s m [.int x0, .int x1] below meth c X (Qi X r M) H locs 0 ls [] := by
    intro H locs hP hS
    refine lv_iload_n hx hb dX7_coordinate_0 rfl (lv_at hl 1 rfl) ?_
    refine lv_if_ne (tgt := 9) hx hb dX7_coordinate_1 (by decide) (fun c_1 => ?_) (fun c_1 => ?_)
    · have hf := i_f c_1 hf
      refine lv_iload_n hx hb dX7_coordinate_9 rfl (lv_at hl 1 rfl) ?_
      refine lv_iconst (v := (1 : Int32)) hx hb dX7_coordinate_10 (by decide) ?_
      refine lv_icmp_ne (tgt := 24) hx hb dX7_coordinate_11 (by decide) (fun c_2 => ?_) (fun c_2 => ?_)
      · have hf := i_f c_2 hf
        refine lv_iload_n hx hb dX7_coordinate_24 rfl (lv_at hl 0 rfl) ?_
        refine lv_bipush (v := (36 : Int32)) hx hb dX7_coordinate_25 (by decide) ?_
        refine lv_idiv hx hb dX7_coordinate_27 (by decide) ?_
        exact ret_i hx hb hr hlocks hP hS hf dX7_coordinate_28
      · have hf := i_t c_2 hf
        refine lv_iload_n hx hb dX7_coordinate_14 rfl (lv_at hl 0 rfl) ?_
        refine lv_bipush (v := (6 : Int32)) hx hb dX7_coordinate_15 (by decide) ?_
        refine lv_idiv hx hb dX7_coordinate_17 (by decide) ?_
        refine lv_bipush (v := (6 : Int32)) hx hb dX7_coordinate_18 (by decide) ?_
        refine rw_irem hx hb dX7_coordinate_20 (by decide) ?_
        refine lv_goto (tgt := 28) hx hb dX7_coordinate_21 (by decide) ?_
        exact ret_i hx hb hr hlocks hP hS hf dX7_coordinate_28
    · have hf := i_t c_1 hf
      refine lv_iload_n hx hb dX7_coordinate_4 rfl (lv_at hl 0 rfl) ?_
      refine lv_bipush (v := (6 : Int32)) hx hb dX7_coordinate_5 (by decide) ?_
      refine rw_irem hx hb dX7_coordinate_7 (by decide) ?_
      exact ret_i hx hb hr hlocks hP hS hf dX7_coordinate_8
  exact key s.heap [] hP hS
theorem hd_X7_coordinate : Hd yX7_coordinate 2 := by decide +kernel
theorem k_X7_coordinate {p : Program} {l : Launch} {e : Env} {R : Room} {s : State} {m : MethodId} {args : Array Value} {below : List Frame} {meth : Method} {c : Code} {H : Heap} {locs : List Loc} {cells slots : Nat} {Q : State → Prop} {cc : ByteArray} {nL pc index : Nat} {ls : Array Slot} {rest : List Value} {X : En} {M : Mem} {H0 : Heap} {own : String} {x0 : Int32} {x1 : Int32} (hZ : Fx p c m s args X cc nL own) (hP : wd X M H) (hS : va_S X.A H0 H locs) (hsz : ls.size = nL) (hlk : Cond.methodLink own index yX7_coordinate ∈ lw_u) (hR : 0 + 1 ≤ R.frames ∧ 8 + (2 + 11) + 0 ≤ R.locals) (hW : (rest.map fun v => v.category).sum ≤ 8) (hdg : decode cc pc = .ok (.invokestatic index, 3)) (hcs : cells ≤ R.cells ∧ slots ≤ R.slots)
    (kk : ∀ (H1 : Heap) (locs1 : List Loc), wd X M H1 → va_S X.A H0 H1 locs1 → W p l e R s m args below meth c H1 locs1 cells slots Q (F0 m (pc + 3) ls (.int (fn_X7_coordinate x0 x1) :: rest))) : W p l e R s m args below meth c H locs cells slots Q (F0 m pc ls (.int x1 :: .int x0 :: rest)) :=
  cal_i (runS (As := [.int x0, .int x1]) (rest := rest) hZ.1 hZ.2.1 hZ.2.2.1 hZ.2.2.2.1 hZ.2.2.2.2.1 hZ.2.2.2.2.2 hP (c_X7_coordinate x0 x1 M _ rfl) wd_2_61 wd_2_60 wd_1_1 hd_X7_coordinate rfl hlk hR hsz rfl hW hdg hcs) hS kk
theorem kn_X7_coordinate {p : Program} {l : Launch} {e : Env} {R : Room} {s : State} {m : MethodId} {args : Array Value} {below : List Frame} {meth : Method} {c : Code} {H : Heap} {locs : List Loc} {cells slots : Nat} {Q : State → Prop} {cc : ByteArray} {nL pc index : Nat} {ls : Array Slot} {rest : List Value} {X : En} {M : Mem} {H0 : Heap} {own : String} {x0 : Int32} {x1 : Int32} (hZ : Fx p c m s args X cc nL own) (hP : wd X M H) (hS : va_S X.A H0 H locs) (hsz : ls.size = nL) (hlk : va_Nw (Cond.methodLinkNest own index yX7_coordinate RX7) s) (hR : 0 + 1 ≤ R.frames ∧ 8 + (2 + 11) + 0 ≤ R.locals) (hW : (rest.map fun v => v.category).sum ≤ 8) (hdg : decode cc pc = .ok (.invokestatic index, 3)) (hcs : cells ≤ R.cells ∧ slots ≤ R.slots)
    (kk : ∀ (H1 : Heap) (locs1 : List Loc), wd X M H1 → va_S X.A H0 H1 locs1 → W p l e R s m args below meth c H1 locs1 cells slots Q (F0 m (pc + 3) ls (.int (fn_X7_coordinate x0 x1) :: rest))) : W p l e R s m args below meth c H locs cells slots Q (F0 m pc ls (.int x1 :: .int x0 :: rest)) :=
  cal_i (runSN (As := [.int x0, .int x1]) (rest := rest) hZ.1 hZ.2.1 hZ.2.2.1 hZ.2.2.2.1 hZ.2.2.2.2.1 hZ.2.2.2.2.2 hP (c_X7_coordinate x0 x1 M _ rfl) wd_2_61 wd_2_60 wd_1_1 hd_X7_coordinate rfl hlk hR hsz rfl hW hdg hcs) hS kk
/-! FrameRaiser$Box.contains -/
def bd_X0_contains_2 (k0 : Nat) (x1 : Int32) (M : Mem) : (Int32) → Option ((Int32) ⊕ ((Unit) ⊕ (Int32))) :=
  u1 fun v2_1 =>
  if (3 : Int32) ≤ v2_1 then
    (some (.inr (.inl ())))
  else
    (if inb v2_1 6 then
    bv ((fn_X7_coordinate x1 v2_1) - (M (k0 + 1) (ix v2_1))) fun v3_4 =>
    if v3_4 < 0 then
      (some (.inr (.inr (0 : Int32))))
    else
      (if inb ((3 : Int32) + v2_1) 6 then
      if v3_4 < (M (k0 + 1) (ix ((3 : Int32) + v2_1))) then
        (some (.inl (v2_1 + (1 : Int32))))
      else
        (some (.inr (.inr (0 : Int32))))
      else none)
    else none)
def fn_X0_contains (g : Nat) (k0 : Nat) (x1 : Int32) (M : Mem) : Option (Int32) :=
  (lpN g (bd_X0_contains_2 k0 x1 M) (0 : Int32)).bind (el (fun (_ : Unit) =>
    some (1 : Int32)) (fun rr => some rr))
theorem dX0_contains_0 : decode cX0_contains 0 = .ok (.iconst 0, 1) := by decide +kernel
theorem dX0_contains_1 : decode cX0_contains 1 = .ok (.istore_n 2, 1) := by decide +kernel
theorem dX0_contains_2 : decode cX0_contains 2 = .ok (.iload_n 2, 1) := by decide +kernel
theorem dX0_contains_3 : decode cX0_contains 3 = .ok (.iconst 3, 1) := by decide +kernel
theorem dX0_contains_4 : decode cX0_contains 4 = .ok (.if_icmp .ge 40, 3) := by decide +kernel
theorem dX0_contains_7 : decode cX0_contains 7 = .ok (.iload_n 1, 1) := by decide +kernel
theorem dX0_contains_8 : decode cX0_contains 8 = .ok (.iload_n 2, 1) := by decide +kernel
theorem dX0_contains_9 : decode cX0_contains 9 = .ok (.invokestatic 19, 3) := by decide +kernel
theorem dX0_contains_12 : decode cX0_contains 12 = .ok (.aload_n 0, 1) := by decide +kernel
theorem dX0_contains_13 : decode cX0_contains 13 = .ok (.getfield 11, 3) := by decide +kernel
theorem dX0_contains_16 : decode cX0_contains 16 = .ok (.iload_n 2, 1) := by decide +kernel
theorem dX0_contains_17 : decode cX0_contains 17 = .ok (.iaload, 1) := by decide +kernel
theorem dX0_contains_18 : decode cX0_contains 18 = .ok (.isub, 1) := by decide +kernel
theorem dX0_contains_19 : decode cX0_contains 19 = .ok (.istore_n 3, 1) := by decide +kernel
theorem dX0_contains_20 : decode cX0_contains 20 = .ok (.iload_n 3, 1) := by decide +kernel
theorem dX0_contains_21 : decode cX0_contains 21 = .ok (.ifCond .lt 15, 3) := by decide +kernel
theorem dX0_contains_24 : decode cX0_contains 24 = .ok (.iload_n 3, 1) := by decide +kernel
theorem dX0_contains_25 : decode cX0_contains 25 = .ok (.aload_n 0, 1) := by decide +kernel
theorem dX0_contains_26 : decode cX0_contains 26 = .ok (.getfield 11, 3) := by decide +kernel
theorem dX0_contains_29 : decode cX0_contains 29 = .ok (.iconst 3, 1) := by decide +kernel
theorem dX0_contains_30 : decode cX0_contains 30 = .ok (.iload_n 2, 1) := by decide +kernel
theorem dX0_contains_31 : decode cX0_contains 31 = .ok (.iadd, 1) := by decide +kernel
theorem dX0_contains_32 : decode cX0_contains 32 = .ok (.iaload, 1) := by decide +kernel
theorem dX0_contains_33 : decode cX0_contains 33 = .ok (.if_icmp .lt 5, 3) := by decide +kernel
theorem dX0_contains_36 : decode cX0_contains 36 = .ok (.iconst 0, 1) := by decide +kernel
theorem dX0_contains_37 : decode cX0_contains 37 = .ok (.ireturn, 1) := by decide +kernel
theorem dX0_contains_38 : decode cX0_contains 38 = .ok (.iinc 2 1, 3) := by decide +kernel
theorem dX0_contains_41 : decode cX0_contains 41 = .ok (.goto (-39), 3) := by decide +kernel
theorem dX0_contains_44 : decode cX0_contains 44 = .ok (.iconst 1, 1) := by decide +kernel
theorem dX0_contains_45 : decode cX0_contains 45 = .ok (.ireturn, 1) := by decide +kernel
set_option maxHeartbeats 4000000 in
set_option maxRecDepth 100000 in
theorem c_X0_contains {l : Launch} {X : En} (g : Nat) (k0 : Nat) (x1 : Int32) (M : Mem) (hk0 : isB k0) (r : Int32) (hf : fn_X0_contains g k0 x1 M = some r) : Cn l X yX0_contains cX0_contains 4 (some .boolean) 1 21 [.ref (X.ad k0), .int x1] M (Qi X r M) := by
  refine Met.ofW (cc := cX0_contains) (maxL := 4) (ret := (some .boolean)) (by decide) rfl ?_
  intro p e s m args below meth c s₁ B hml hv
  obtain ⟨rfl, hP, hk⟩ := hv
  have hx := B.exec
  have hb := B.bytes
  have hr := B.returns
  have hlocks := B.notSynchronized
  have hts : ∀ w ∈ lw_u, w.before ([.ref (X.ad k0), .int x1] : List Value).toArray s = true := fun w hw => atoms_spec (ws := Cond.code yX0_contains cX0_contains 4 (some .boolean) :: lw_u) B.pre w (List.mem_cons_of_mem _ hw)
  have hown : s.vm.findClass RX0 = some m.cls := findClass_of_methodNamed B.named
  have hZ : Fx p c m s ([.ref (X.ad k0), .int x1] : List Value).toArray X cX0_contains 4 RX0 := ⟨hx, hb, hml, hts, hown, hk⟩
  have hS : va_S X.A s.heap s.heap [] := va_S.rf
  have hl := lv_entry ([.ref (X.ad k0), .int x1]) (n := 4) (Nat.le_of_ble_eq_true rfl)
  rw [lg_entry_eq]
  generalize (lg_sl ([.ref (X.ad k0), .int x1]) ++ List.replicate (4 - (lg_sl ([.ref (X.ad k0), .int x1])).length) Slot.unset).toArray = ls at hl ⊢
  have hl : lv_has ls 4 [(0, .ref (X.ad k0)), (1, .int x1)] := hl
  show WW p l e 1 21 s m [.ref (X.ad k0), .int x1] below meth c X (Qi X r M) s.heap [] 0 ls []
  have hP : wd X M s.heap := hP
  unfold fn_X0_contains at hf
  have key : ∀ (H : Heap) (locs : List Loc), wd X M H → va_S X.A s.heap H locs → WW p l e 1 21 s m [.ref (X.ad k0), .int x1] below meth c X (Qi X r M) H locs 0 ls [] := by
    intro H locs hP hS
    refine lv_iconst (v := (0 : Int32)) hx hb dX0_contains_0 (by decide) ?_
    refine lv_istore_n (lv' := [(2, .int (0 : Int32)), (0, .ref (X.ad k0)), (1, .int x1)]) hx hb dX0_contains_1 rfl hl (by decide) rfl (fun ls hl => ?_)
    obtain ⟨o2, ho2, hf⟩ := b_d hf
    refine lp_rule (b := bd_X0_contains_2 k0 x1 M) (P := fun w : Int32 => ∀ (H : Heap) (locs : List Loc) (ls : Array Slot), wd X M H → va_S X.A s.heap H locs → lv_has ls 4 [(2, .int w), (0, .ref (X.ad k0)), (1, .int x1)] → WW p l e 1 21 s m [.ref (X.ad k0), .int x1] below meth c X (Qi X r M) H locs 2 ls []) (K := fun o => (o = .inl () → ∀ (H : Heap) (locs : List Loc) (ls : Array Slot), wd X M H → va_S X.A s.heap H locs → lv_has ls 4 [] → WW p l e 1 21 s m [.ref (X.ad k0), .int x1] below meth c X (Qi X r M) H locs 44 ls []) ∧ (∀ rr : Int32, o = .inr rr → rr = r)) ?_ g (0 : Int32) o2 ho2 ?_ H locs ls hP hS (lv_sub hl [0, 1, 2] rfl)
    · rintro v2_1 o hf hkc2 hke2 H locs ls hP hS hl
      have hf := u1_e hf
      refine lv_iload_n hx hb dX0_contains_2 rfl (lv_at hl 0 rfl) ?_
      refine lv_iconst (v := (3 : Int32)) hx hb dX0_contains_3 (by decide) ?_
      refine lv_icmp_ge (tgt := 44) hx hb dX0_contains_4 (by decide) (fun c_2 => ?_) (fun c_2 => ?_)
      · have hf := i_t c_2 hf
        exact (hke2 _ (Option.some.inj hf).symm).1  rfl H locs ls hP hS (lv_sub hl [] rfl)
      · have hf := i_f c_2 hf
        refine lv_iload_n hx hb dX0_contains_7 rfl (lv_at hl 2 rfl) ?_
        refine lv_iload_n hx hb dX0_contains_8 rfl (lv_at hl 0 rfl) ?_
        refine kn_X7_coordinate hZ hP hS hl.1 (nest_6 hk.2.1) ⟨Nat.le_of_ble_eq_true rfl, Nat.le_of_ble_eq_true rfl⟩ (Nat.le_of_ble_eq_true rfl) dX0_contains_9 ⟨Nat.zero_le _, Nat.zero_le _⟩ (fun H locs hP hS => ?_)
        refine lv_aload_n hx hb dX0_contains_12 rfl (lv_at hl 1 rfl) ?_
        refine gX0_0 hx hb hts hown hk hP hk0 wd_1_183 dX0_contains_13 ?_
        refine lv_iload_n hx hb dX0_contains_16 rfl (lv_at hl 0 rfl) ?_
        obtain ⟨q_3, hf⟩ := g_if hf
        refine ald hx hb hk hP (isB_lt1 hk0) (rd_B1 hk0 _) q_3 dX0_contains_17 ?_
        refine lv_isub hx hb dX0_contains_18 ?_
        refine lv_topi (fun v3_4 e_v3_4 => ?_)
        have hf := b_v hf e_v3_4
        refine lv_istore_n (lv' := [(3, .int v3_4), (2, .int v2_1), (0, .ref (X.ad k0)), (1, .int x1)]) hx hb dX0_contains_19 rfl hl (by decide) rfl (fun ls hl => ?_)
        refine lv_iload_n hx hb dX0_contains_20 rfl (lv_at hl 0 rfl) ?_
        refine lv_if_lt (tgt := 36) hx hb dX0_contains_21 (by decide) (fun c_5 => ?_) (fun c_5 => ?_)
        · have hf := i_t c_5 hf
          refine lv_iconst (v := (0 : Int32)) hx hb dX0_contains_36 (by decide) ?_
          have hf := (hke2 _ (Option.some.inj hf).symm).2 _ rfl
          exact ret_z hx hb hr hlocks hP hS isZ_0 hf dX0_contains_37
        · have hf := i_f c_5 hf
          refine lv_iload_n hx hb dX0_contains_24 rfl (lv_at hl 0 rfl) ?_
          refine lv_aload_n hx hb dX0_contains_25 rfl (lv_at hl 2 rfl) ?_
          refine gX0_0 hx hb hts hown hk hP hk0 wd_1_183 dX0_contains_26 ?_
          refine lv_iconst (v := (3 : Int32)) hx hb dX0_contains_29 (by decide) ?_
          refine lv_iload_n hx hb dX0_contains_30 rfl (lv_at hl 1 rfl) ?_
          refine lv_iadd hx hb dX0_contains_31 ?_
          obtain ⟨q_6, hf⟩ := g_if hf
          refine ald hx hb hk hP (isB_lt1 hk0) (rd_B1 hk0 _) q_6 dX0_contains_32 ?_
          refine lv_icmp_lt (tgt := 38) hx hb dX0_contains_33 (by decide) (fun c_7 => ?_) (fun c_7 => ?_)
          · have hf := i_t c_7 hf
            refine lv_iinc (v := v2_1 + (1 : Int32)) (lv' := [(2, .int (v2_1 + (1 : Int32))), (3, .int v3_4), (0, .ref (X.ad k0)), (1, .int x1)]) hx hb dX0_contains_38 hl (k := 1) rfl rfl (by decide) rfl (fun ls hl => ?_)
            refine lv_goto (tgt := 2) hx hb dX0_contains_41 (by decide) ?_
            exact hkc2 _ (Option.some.inj hf).symm H locs ls hP hS (lv_sub hl [0, 2, 3] rfl)
          · have hf := i_f c_7 hf
            refine lv_iconst (v := (0 : Int32)) hx hb dX0_contains_36 (by decide) ?_
            have hf := (hke2 _ (Option.some.inj hf).symm).2 _ rfl
            exact ret_z hx hb hr hlocks hP hS isZ_0 hf dX0_contains_37
    · refine ⟨?_, ?_⟩
      · intro  e H locs ls hP hS hl
        subst o2
        have hf := el_l hf
        refine lv_iconst (v := (1 : Int32)) hx hb dX0_contains_44 (by decide) ?_
        have hf := Option.some.inj hf
        exact ret_z hx hb hr hlocks hP hS isZ_1 hf dX0_contains_45
      · intro rr e
        subst o2
        have hf := el_r hf
        exact Option.some.inj hf
  exact key s.heap [] hP hS
theorem hd_X0_contains : Hd yX0_contains 1 := by decide +kernel
theorem k_X0_contains {p : Program} {l : Launch} {e : Env} {R : Room} {s : State} {m : MethodId} {args : Array Value} {below : List Frame} {meth : Method} {c : Code} {H : Heap} {locs : List Loc} {cells slots : Nat} {Q : State → Prop} {cc : ByteArray} {nL pc index : Nat} {ls : Array Slot} {rest : List Value} {X : En} {M : Mem} {H0 : Heap} {own : String} {g : Nat} {k0 : Nat} {x1 : Int32} {r : Int32} (hZ : Fx p c m s args X cc nL own) (hP : wd X M H) (hS : va_S X.A H0 H locs) (hsz : ls.size = nL) (hlk : Cond.methodLink own index yX0_contains ∈ lw_u) (hR : 1 + 1 ≤ R.frames ∧ 8 + (4 + 11) + 21 ≤ R.locals) (hW : (rest.map fun v => v.category).sum ≤ 8) (hdg : decode cc pc = .ok (.invokevirtual index, 3)) (hcs : cells ≤ R.cells ∧ slots ≤ R.slots) (hk0 : isB k0) (hf : fn_X0_contains g k0 x1 M = some r)
    (kk : ∀ (H1 : Heap) (locs1 : List Loc), wd X M H1 → va_S X.A H0 H1 locs1 → W p l e R s m args below meth c H1 locs1 cells slots Q (F0 m (pc + 3) ls (.int r :: rest))) : W p l e R s m args below meth c H locs cells slots Q (F0 m pc ls (.int x1 :: .ref (X.ad k0) :: rest)) :=
  cal_i (runV (As := [.int x1]) (rest := rest) hZ.1 hZ.2.1 hZ.2.2.1 hZ.2.2.2.1 hZ.2.2.2.2.1 hZ.2.2.2.2.2 hP (c_X0_contains g k0 x1 M hk0 r hf) wd_2_58 wd_2_56 wd_2_57 wd_1_8 hd_X0_contains (isB_lt0 hk0) (rd_B0 hk0 _) rfl rfl hlk hR hsz rfl hW hdg hcs) hS kk
/-! FrameRaiser$Frame.meetsOther -/
def bd_X1_meetsOther_2 (g : Nat) (k0 : Nat) (k1 : Nat) (x2 : Int32) (M : Mem) : (Int32) → Option ((Int32) ⊕ ((Unit) ⊕ (Int32))) :=
  u1 fun v3_1 =>
  if (216 : Int32) ≤ v3_1 then
    (some (.inr (.inl ())))
  else
    (if inb v3_1 216 then
    bv (M (k0 + 1) (ix v3_1)) fun v4_4 =>
    if v4_4 = (-1 : Int32) then
      (some (.inl (v3_1 + (1 : Int32))))
    else
      (if v4_4 = x2 then
        (some (.inl (v3_1 + (1 : Int32))))
      else
        ((fn_X0_contains g k1 v3_1 M).bind fun r_7 =>
        if r_7 = 0 then
          (some (.inl (v3_1 + (1 : Int32))))
        else
          (some (.inr (.inr (1 : Int32))))))
    else none)
def fn_X1_meetsOther (g : Nat) (k0 : Nat) (k1 : Nat) (x2 : Int32) (M : Mem) : Option (Int32) :=
  (lpN g (bd_X1_meetsOther_2 g k0 k1 x2 M) (0 : Int32)).bind (el (fun (_ : Unit) =>
    some (0 : Int32)) (fun rr => some rr))
theorem dX1_meetsOther_0 : decode cX1_meetsOther 0 = .ok (.iconst 0, 1) := by decide +kernel
theorem dX1_meetsOther_1 : decode cX1_meetsOther 1 = .ok (.istore_n 3, 1) := by decide +kernel
theorem dX1_meetsOther_2 : decode cX1_meetsOther 2 = .ok (.iload_n 3, 1) := by decide +kernel
theorem dX1_meetsOther_3 : decode cX1_meetsOther 3 = .ok (.sipush 216, 3) := by decide +kernel
theorem dX1_meetsOther_6 : decode cX1_meetsOther 6 = .ok (.if_icmp .ge 39, 3) := by decide +kernel
theorem dX1_meetsOther_9 : decode cX1_meetsOther 9 = .ok (.aload_n 0, 1) := by decide +kernel
theorem dX1_meetsOther_10 : decode cX1_meetsOther 10 = .ok (.getfield 9, 3) := by decide +kernel
theorem dX1_meetsOther_13 : decode cX1_meetsOther 13 = .ok (.iload_n 3, 1) := by decide +kernel
theorem dX1_meetsOther_14 : decode cX1_meetsOther 14 = .ok (.iaload, 1) := by decide +kernel
theorem dX1_meetsOther_15 : decode cX1_meetsOther 15 = .ok (.istore 4, 2) := by decide +kernel
theorem dX1_meetsOther_17 : decode cX1_meetsOther 17 = .ok (.iload 4, 2) := by decide +kernel
theorem dX1_meetsOther_19 : decode cX1_meetsOther 19 = .ok (.iconst (-1), 1) := by decide +kernel
theorem dX1_meetsOther_20 : decode cX1_meetsOther 20 = .ok (.if_icmp .eq 19, 3) := by decide +kernel
theorem dX1_meetsOther_23 : decode cX1_meetsOther 23 = .ok (.iload 4, 2) := by decide +kernel
theorem dX1_meetsOther_25 : decode cX1_meetsOther 25 = .ok (.iload_n 2, 1) := by decide +kernel
theorem dX1_meetsOther_26 : decode cX1_meetsOther 26 = .ok (.if_icmp .eq 13, 3) := by decide +kernel
theorem dX1_meetsOther_29 : decode cX1_meetsOther 29 = .ok (.aload_n 1, 1) := by decide +kernel
theorem dX1_meetsOther_30 : decode cX1_meetsOther 30 = .ok (.iload_n 3, 1) := by decide +kernel
theorem dX1_meetsOther_31 : decode cX1_meetsOther 31 = .ok (.invokevirtual 37, 3) := by decide +kernel
theorem dX1_meetsOther_34 : decode cX1_meetsOther 34 = .ok (.ifCond .eq 5, 3) := by decide +kernel
theorem dX1_meetsOther_37 : decode cX1_meetsOther 37 = .ok (.iconst 1, 1) := by decide +kernel
theorem dX1_meetsOther_38 : decode cX1_meetsOther 38 = .ok (.ireturn, 1) := by decide +kernel
theorem dX1_meetsOther_39 : decode cX1_meetsOther 39 = .ok (.iinc 3 1, 3) := by decide +kernel
theorem dX1_meetsOther_42 : decode cX1_meetsOther 42 = .ok (.goto (-40), 3) := by decide +kernel
theorem dX1_meetsOther_45 : decode cX1_meetsOther 45 = .ok (.iconst 0, 1) := by decide +kernel
theorem dX1_meetsOther_46 : decode cX1_meetsOther 46 = .ok (.ireturn, 1) := by decide +kernel
set_option maxHeartbeats 4000000 in
set_option maxRecDepth 100000 in
theorem c_X1_meetsOther {l : Launch} {X : En} (g : Nat) (k0 : Nat) (k1 : Nat) (x2 : Int32) (M : Mem) (hk0 : isF k0) (hk1 : isB k1) (r : Int32) (hf : fn_X1_meetsOther g k0 k1 x2 M = some r) : Cn l X yX1_meetsOther cX1_meetsOther 5 (some .boolean) 2 44 [.ref (X.ad k0), .ref (X.ad k1), .int x2] M (Qi X r M) := by
  refine Met.ofW (cc := cX1_meetsOther) (maxL := 5) (ret := (some .boolean)) (by decide) rfl ?_
  intro p e s m args below meth c s₁ B hml hv
  obtain ⟨rfl, hP, hk⟩ := hv
  have hx := B.exec
  have hb := B.bytes
  have hr := B.returns
  have hlocks := B.notSynchronized
  have hts : ∀ w ∈ lw_u, w.before ([.ref (X.ad k0), .ref (X.ad k1), .int x2] : List Value).toArray s = true := fun w hw => atoms_spec (ws := Cond.code yX1_meetsOther cX1_meetsOther 5 (some .boolean) :: lw_u) B.pre w (List.mem_cons_of_mem _ hw)
  have hown : s.vm.findClass RX1 = some m.cls := findClass_of_methodNamed B.named
  have hZ : Fx p c m s ([.ref (X.ad k0), .ref (X.ad k1), .int x2] : List Value).toArray X cX1_meetsOther 5 RX1 := ⟨hx, hb, hml, hts, hown, hk⟩
  have hS : va_S X.A s.heap s.heap [] := va_S.rf
  have hl := lv_entry ([.ref (X.ad k0), .ref (X.ad k1), .int x2]) (n := 5) (Nat.le_of_ble_eq_true rfl)
  rw [lg_entry_eq]
  generalize (lg_sl ([.ref (X.ad k0), .ref (X.ad k1), .int x2]) ++ List.replicate (5 - (lg_sl ([.ref (X.ad k0), .ref (X.ad k1), .int x2])).length) Slot.unset).toArray = ls at hl ⊢
  have hl : lv_has ls 5 [(0, .ref (X.ad k0)), (1, .ref (X.ad k1)), (2, .int x2)] := hl
  show WW p l e 2 44 s m [.ref (X.ad k0), .ref (X.ad k1), .int x2] below meth c X (Qi X r M) s.heap [] 0 ls []
  have hP : wd X M s.heap := hP
  unfold fn_X1_meetsOther at hf
  have key : ∀ (H : Heap) (locs : List Loc), wd X M H → va_S X.A s.heap H locs → WW p l e 2 44 s m [.ref (X.ad k0), .ref (X.ad k1), .int x2] below meth c X (Qi X r M) H locs 0 ls [] := by
    intro H locs hP hS
    refine lv_iconst (v := (0 : Int32)) hx hb dX1_meetsOther_0 (by decide) ?_
    refine lv_istore_n (lv' := [(3, .int (0 : Int32)), (0, .ref (X.ad k0)), (1, .ref (X.ad k1)), (2, .int x2)]) hx hb dX1_meetsOther_1 rfl hl (by decide) rfl (fun ls hl => ?_)
    obtain ⟨o2, ho2, hf⟩ := b_d hf
    refine lp_rule (b := bd_X1_meetsOther_2 g k0 k1 x2 M) (P := fun w : Int32 => ∀ (H : Heap) (locs : List Loc) (ls : Array Slot), wd X M H → va_S X.A s.heap H locs → lv_has ls 5 [(3, .int w), (0, .ref (X.ad k0)), (1, .ref (X.ad k1)), (2, .int x2)] → WW p l e 2 44 s m [.ref (X.ad k0), .ref (X.ad k1), .int x2] below meth c X (Qi X r M) H locs 2 ls []) (K := fun o => (o = .inl () → ∀ (H : Heap) (locs : List Loc) (ls : Array Slot), wd X M H → va_S X.A s.heap H locs → lv_has ls 5 [] → WW p l e 2 44 s m [.ref (X.ad k0), .ref (X.ad k1), .int x2] below meth c X (Qi X r M) H locs 45 ls []) ∧ (∀ rr : Int32, o = .inr rr → rr = r)) ?_ g (0 : Int32) o2 ho2 ?_ H locs ls hP hS (lv_sub hl [0, 1, 2, 3] rfl)
    · rintro v3_1 o hf hkc2 hke2 H locs ls hP hS hl
      have hf := u1_e hf
      refine lv_iload_n hx hb dX1_meetsOther_2 rfl (lv_at hl 0 rfl) ?_
      refine lv_sipush (v := (216 : Int32)) hx hb dX1_meetsOther_3 (by decide) ?_
      refine lv_icmp_ge (tgt := 45) hx hb dX1_meetsOther_6 (by decide) (fun c_2 => ?_) (fun c_2 => ?_)
      · have hf := i_t c_2 hf
        exact (hke2 _ (Option.some.inj hf).symm).1  rfl H locs ls hP hS (lv_sub hl [] rfl)
      · have hf := i_f c_2 hf
        refine lv_aload_n hx hb dX1_meetsOther_9 rfl (lv_at hl 1 rfl) ?_
        refine gX1_0 hx hb hts hown hk hP hk0 wd_1_31 dX1_meetsOther_10 ?_
        refine lv_iload_n hx hb dX1_meetsOther_13 rfl (lv_at hl 0 rfl) ?_
        obtain ⟨q_3, hf⟩ := g_if hf
        refine ald hx hb hk hP (isF_lt1 hk0) (rd_F1 hk0 _) q_3 dX1_meetsOther_14 ?_
        refine lv_topi (fun v4_4 e_v4_4 => ?_)
        have hf := b_v hf e_v4_4
        refine lv_istore (lv' := [(4, .int v4_4), (3, .int v3_1), (0, .ref (X.ad k0)), (1, .ref (X.ad k1)), (2, .int x2)]) hx hb dX1_meetsOther_15 hl (by decide) rfl (fun ls hl => ?_)
        refine lv_iload hx hb dX1_meetsOther_17 (lv_at hl 0 rfl) ?_
        refine lv_iconst (v := (-1 : Int32)) hx hb dX1_meetsOther_19 (by decide) ?_
        refine lv_icmp_eq (tgt := 39) hx hb dX1_meetsOther_20 (by decide) (fun c_5 => ?_) (fun c_5 => ?_)
        · have hf := i_t c_5 hf
          refine lv_iinc (v := v3_1 + (1 : Int32)) (lv' := [(3, .int (v3_1 + (1 : Int32))), (4, .int v4_4), (0, .ref (X.ad k0)), (1, .ref (X.ad k1)), (2, .int x2)]) hx hb dX1_meetsOther_39 hl (k := 1) rfl rfl (by decide) rfl (fun ls hl => ?_)
          refine lv_goto (tgt := 2) hx hb dX1_meetsOther_42 (by decide) ?_
          exact hkc2 _ (Option.some.inj hf).symm H locs ls hP hS (lv_sub hl [0, 2, 3, 4] rfl)
        · have hf := i_f c_5 hf
          refine lv_iload hx hb dX1_meetsOther_23 (lv_at hl 0 rfl) ?_
          refine lv_iload_n hx hb dX1_meetsOther_25 rfl (lv_at hl 4 rfl) ?_
          refine lv_icmp_eq (tgt := 39) hx hb dX1_meetsOther_26 (by decide) (fun c_6 => ?_) (fun c_6 => ?_)
          · have hf := i_t c_6 hf
            refine lv_iinc (v := v3_1 + (1 : Int32)) (lv' := [(3, .int (v3_1 + (1 : Int32))), (4, .int v4_4), (0, .ref (X.ad k0)), (1, .ref (X.ad k1)), (2, .int x2)]) hx hb dX1_meetsOther_39 hl (k := 1) rfl rfl (by decide) rfl (fun ls hl => ?_)
            refine lv_goto (tgt := 2) hx hb dX1_meetsOther_42 (by decide) ?_
            exact hkc2 _ (Option.some.inj hf).symm H locs ls hP hS (lv_sub hl [0, 2, 3, 4] rfl)
          · have hf := i_f c_6 hf
            refine lv_aload_n hx hb dX1_meetsOther_29 rfl (lv_at hl 3 rfl) ?_
            refine lv_iload_n hx hb dX1_meetsOther_30 rfl (lv_at hl 1 rfl) ?_
            obtain ⟨r_7, h_r_7, hf⟩ := b_d hf
            refine k_X0_contains hZ hP hS hl.1 wd_2_55 ⟨Nat.le_of_ble_eq_true rfl, Nat.le_of_ble_eq_true rfl⟩ (Nat.le_of_ble_eq_true rfl) dX1_meetsOther_31 ⟨Nat.zero_le _, Nat.zero_le _⟩ hk1 h_r_7 (fun H locs hP hS => ?_)
            refine lv_if_eq (tgt := 39) hx hb dX1_meetsOther_34 (by decide) (fun c_8 => ?_) (fun c_8 => ?_)
            · have hf := i_t c_8 hf
              refine lv_iinc (v := v3_1 + (1 : Int32)) (lv' := [(3, .int (v3_1 + (1 : Int32))), (4, .int v4_4), (0, .ref (X.ad k0)), (1, .ref (X.ad k1)), (2, .int x2)]) hx hb dX1_meetsOther_39 hl (k := 1) rfl rfl (by decide) rfl (fun ls hl => ?_)
              refine lv_goto (tgt := 2) hx hb dX1_meetsOther_42 (by decide) ?_
              exact hkc2 _ (Option.some.inj hf).symm H locs ls hP hS (lv_sub hl [0, 2, 3, 4] rfl)
            · have hf := i_f c_8 hf
              refine lv_iconst (v := (1 : Int32)) hx hb dX1_meetsOther_37 (by decide) ?_
              have hf := (hke2 _ (Option.some.inj hf).symm).2 _ rfl
              exact ret_z hx hb hr hlocks hP hS isZ_1 hf dX1_meetsOther_38
    · refine ⟨?_, ?_⟩
      · intro  e H locs ls hP hS hl
        subst o2
        have hf := el_l hf
        refine lv_iconst (v := (0 : Int32)) hx hb dX1_meetsOther_45 (by decide) ?_
        have hf := Option.some.inj hf
        exact ret_z hx hb hr hlocks hP hS isZ_0 hf dX1_meetsOther_46
      · intro rr e
        subst o2
        have hf := el_r hf
        exact Option.some.inj hf
  exact key s.heap [] hP hS
theorem hd_X1_meetsOther : Hd yX1_meetsOther 2 := by decide +kernel
theorem k_X1_meetsOther {p : Program} {l : Launch} {e : Env} {R : Room} {s : State} {m : MethodId} {args : Array Value} {below : List Frame} {meth : Method} {c : Code} {H : Heap} {locs : List Loc} {cells slots : Nat} {Q : State → Prop} {cc : ByteArray} {nL pc index : Nat} {ls : Array Slot} {rest : List Value} {X : En} {M : Mem} {H0 : Heap} {own : String} {g : Nat} {k0 : Nat} {k1 : Nat} {x2 : Int32} {r : Int32} (hZ : Fx p c m s args X cc nL own) (hP : wd X M H) (hS : va_S X.A H0 H locs) (hsz : ls.size = nL) (hlk : Cond.methodLink own index yX1_meetsOther ∈ lw_u) (hR : 2 + 1 ≤ R.frames ∧ 8 + (5 + 11) + 44 ≤ R.locals) (hW : (rest.map fun v => v.category).sum ≤ 8) (hdg : decode cc pc = .ok (.invokevirtual index, 3)) (hcs : cells ≤ R.cells ∧ slots ≤ R.slots) (hk0 : isF k0) (hk1 : isB k1) (hf : fn_X1_meetsOther g k0 k1 x2 M = some r)
    (kk : ∀ (H1 : Heap) (locs1 : List Loc), wd X M H1 → va_S X.A H0 H1 locs1 → W p l e R s m args below meth c H1 locs1 cells slots Q (F0 m (pc + 3) ls (.int r :: rest))) : W p l e R s m args below meth c H locs cells slots Q (F0 m pc ls (.int x2 :: .ref (X.ad k1) :: .ref (X.ad k0) :: rest)) :=
  cal_i (runV (As := [.ref (X.ad k1), .int x2]) (rest := rest) hZ.1 hZ.2.1 hZ.2.2.1 hZ.2.2.2.1 hZ.2.2.2.2.1 hZ.2.2.2.2.2 hP (c_X1_meetsOther g k0 k1 x2 M hk0 hk1 r hf) wd_2_54 wd_2_52 wd_2_53 wd_1_2 hd_X1_meetsOther (isF_lt0 hk0) (rd_F0 hk0 _) rfl rfl hlk hR hsz rfl hW hdg hcs) hS kk
/-! FrameRaiser$Frame.addBox -/
def bd_X1_addBox_21 (g : Nat) (k0 : Nat) (k1 : Nat) (x2 : Int32) : (Int32 × Mem) → Option ((Int32 × Mem) ⊕ (Mem)) :=
  u2 fun v3_4 M_5 =>
  if (216 : Int32) ≤ v3_4 then
    (some (.inr M_5))
  else
    ((fn_X0_contains g k1 v3_4 M_5).bind fun r_8 =>
    if r_8 = 0 then
      (some (.inl (v3_4 + (1 : Int32), M_5)))
    else
      (if inb v3_4 216 then
      bv (st M_5 (k0 + 1) (ix v3_4) x2) fun M_10 =>
      some (.inl (v3_4 + (1 : Int32), M_10))
      else none))
def fn_X1_addBox (g : Nat) (k0 : Nat) (k1 : Nat) (x2 : Int32) (M : Mem) : Option (Mem) :=
  if x2 < 0 then
    (some M)
  else
    (if (M k0 2) < x2 then
      (some M)
    else
      (if x2 < (8 : Int32) then
        ((lpN g (bd_X1_addBox_21 g k0 k1 x2) ((0 : Int32), M)).bind (u1 fun M_6 =>
          if inb x2 8 then
          if inb x2 8 then
          bv (st M_6 (k0 + 2) (ix x2) ((M_6 (k0 + 2) (ix x2)) + (1 : Int32))) fun M_13 =>
          if x2 = (M_13 k0 2) then
            (bv (st M_13 k0 2 ((M_13 k0 2) + (1 : Int32))) fun M_16 =>
            some M_16)
          else
            (some M_13)
          else none
          else none))
      else
        (some M)))
theorem dX1_addBox_0 : decode cX1_addBox 0 = .ok (.iload_n 2, 1) := by decide +kernel
theorem dX1_addBox_1 : decode cX1_addBox 1 = .ok (.ifCond .lt 17, 3) := by decide +kernel
theorem dX1_addBox_4 : decode cX1_addBox 4 = .ok (.iload_n 2, 1) := by decide +kernel
theorem dX1_addBox_5 : decode cX1_addBox 5 = .ok (.aload_n 0, 1) := by decide +kernel
theorem dX1_addBox_6 : decode cX1_addBox 6 = .ok (.getfield 21, 3) := by decide +kernel
theorem dX1_addBox_9 : decode cX1_addBox 9 = .ok (.if_icmp .gt 9, 3) := by decide +kernel
theorem dX1_addBox_12 : decode cX1_addBox 12 = .ok (.iload_n 2, 1) := by decide +kernel
theorem dX1_addBox_13 : decode cX1_addBox 13 = .ok (.bipush 8, 2) := by decide +kernel
theorem dX1_addBox_15 : decode cX1_addBox 15 = .ok (.if_icmp .lt 4, 3) := by decide +kernel
theorem dX1_addBox_18 : decode cX1_addBox 18 = .ok (.return_, 1) := by decide +kernel
theorem dX1_addBox_19 : decode cX1_addBox 19 = .ok (.iconst 0, 1) := by decide +kernel
theorem dX1_addBox_20 : decode cX1_addBox 20 = .ok (.istore_n 3, 1) := by decide +kernel
theorem dX1_addBox_21 : decode cX1_addBox 21 = .ok (.iload_n 3, 1) := by decide +kernel
theorem dX1_addBox_22 : decode cX1_addBox 22 = .ok (.sipush 216, 3) := by decide +kernel
theorem dX1_addBox_25 : decode cX1_addBox 25 = .ok (.if_icmp .ge 24, 3) := by decide +kernel
theorem dX1_addBox_28 : decode cX1_addBox 28 = .ok (.aload_n 1, 1) := by decide +kernel
theorem dX1_addBox_29 : decode cX1_addBox 29 = .ok (.iload_n 3, 1) := by decide +kernel
theorem dX1_addBox_30 : decode cX1_addBox 30 = .ok (.invokevirtual 37, 3) := by decide +kernel
theorem dX1_addBox_33 : decode cX1_addBox 33 = .ok (.ifCond .eq 10, 3) := by decide +kernel
theorem dX1_addBox_36 : decode cX1_addBox 36 = .ok (.aload_n 0, 1) := by decide +kernel
theorem dX1_addBox_37 : decode cX1_addBox 37 = .ok (.getfield 9, 3) := by decide +kernel
theorem dX1_addBox_40 : decode cX1_addBox 40 = .ok (.iload_n 3, 1) := by decide +kernel
theorem dX1_addBox_41 : decode cX1_addBox 41 = .ok (.iload_n 2, 1) := by decide +kernel
theorem dX1_addBox_42 : decode cX1_addBox 42 = .ok (.iastore, 1) := by decide +kernel
theorem dX1_addBox_43 : decode cX1_addBox 43 = .ok (.iinc 3 1, 3) := by decide +kernel
theorem dX1_addBox_46 : decode cX1_addBox 46 = .ok (.goto (-25), 3) := by decide +kernel
theorem dX1_addBox_49 : decode cX1_addBox 49 = .ok (.aload_n 0, 1) := by decide +kernel
theorem dX1_addBox_50 : decode cX1_addBox 50 = .ok (.getfield 15, 3) := by decide +kernel
theorem dX1_addBox_53 : decode cX1_addBox 53 = .ok (.iload_n 2, 1) := by decide +kernel
theorem dX1_addBox_54 : decode cX1_addBox 54 = .ok (.dup2, 1) := by decide +kernel
theorem dX1_addBox_55 : decode cX1_addBox 55 = .ok (.iaload, 1) := by decide +kernel
theorem dX1_addBox_56 : decode cX1_addBox 56 = .ok (.iconst 1, 1) := by decide +kernel
theorem dX1_addBox_57 : decode cX1_addBox 57 = .ok (.iadd, 1) := by decide +kernel
theorem dX1_addBox_58 : decode cX1_addBox 58 = .ok (.iastore, 1) := by decide +kernel
theorem dX1_addBox_59 : decode cX1_addBox 59 = .ok (.iload_n 2, 1) := by decide +kernel
theorem dX1_addBox_60 : decode cX1_addBox 60 = .ok (.aload_n 0, 1) := by decide +kernel
theorem dX1_addBox_61 : decode cX1_addBox 61 = .ok (.getfield 21, 3) := by decide +kernel
theorem dX1_addBox_64 : decode cX1_addBox 64 = .ok (.if_icmp .ne 13, 3) := by decide +kernel
theorem dX1_addBox_67 : decode cX1_addBox 67 = .ok (.aload_n 0, 1) := by decide +kernel
theorem dX1_addBox_68 : decode cX1_addBox 68 = .ok (.dup, 1) := by decide +kernel
theorem dX1_addBox_69 : decode cX1_addBox 69 = .ok (.getfield 21, 3) := by decide +kernel
theorem dX1_addBox_72 : decode cX1_addBox 72 = .ok (.iconst 1, 1) := by decide +kernel
theorem dX1_addBox_73 : decode cX1_addBox 73 = .ok (.iadd, 1) := by decide +kernel
theorem dX1_addBox_74 : decode cX1_addBox 74 = .ok (.putfield 21, 3) := by decide +kernel
theorem dX1_addBox_77 : decode cX1_addBox 77 = .ok (.return_, 1) := by decide +kernel
set_option maxHeartbeats 4000000 in
set_option maxRecDepth 100000 in
theorem c_X1_addBox {l : Launch} {X : En} (g : Nat) (k0 : Nat) (k1 : Nat) (x2 : Int32) (M : Mem) (hk0 : isF k0) (hk1 : isB k1) (M9 : Mem) (hf : fn_X1_addBox g k0 k1 x2 M = some M9) : Cn l X yX1_addBox cX1_addBox 4 none 2 44 [.ref (X.ad k0), .ref (X.ad k1), .int x2] M (Qv X M9) := by
  refine Met.ofW (cc := cX1_addBox) (maxL := 4) (ret := none) (by decide) rfl ?_
  intro p e s m args below meth c s₁ B hml hv
  obtain ⟨rfl, hP, hk⟩ := hv
  have hx := B.exec
  have hb := B.bytes
  have hr := B.returns
  have hlocks := B.notSynchronized
  have hts : ∀ w ∈ lw_u, w.before ([.ref (X.ad k0), .ref (X.ad k1), .int x2] : List Value).toArray s = true := fun w hw => atoms_spec (ws := Cond.code yX1_addBox cX1_addBox 4 none :: lw_u) B.pre w (List.mem_cons_of_mem _ hw)
  have hown : s.vm.findClass RX1 = some m.cls := findClass_of_methodNamed B.named
  have hZ : Fx p c m s ([.ref (X.ad k0), .ref (X.ad k1), .int x2] : List Value).toArray X cX1_addBox 4 RX1 := ⟨hx, hb, hml, hts, hown, hk⟩
  have hS : va_S X.A s.heap s.heap [] := va_S.rf
  have hl := lv_entry ([.ref (X.ad k0), .ref (X.ad k1), .int x2]) (n := 4) (Nat.le_of_ble_eq_true rfl)
  rw [lg_entry_eq]
  generalize (lg_sl ([.ref (X.ad k0), .ref (X.ad k1), .int x2]) ++ List.replicate (4 - (lg_sl ([.ref (X.ad k0), .ref (X.ad k1), .int x2])).length) Slot.unset).toArray = ls at hl ⊢
  have hl : lv_has ls 4 [(0, .ref (X.ad k0)), (1, .ref (X.ad k1)), (2, .int x2)] := hl
  show WW p l e 2 44 s m [.ref (X.ad k0), .ref (X.ad k1), .int x2] below meth c X (Qv X M9) s.heap [] 0 ls []
  have hP : wd X M s.heap := hP
  unfold fn_X1_addBox at hf
  have key : ∀ (H : Heap) (locs : List Loc), wd X M H → va_S X.A s.heap H locs → WW p l e 2 44 s m [.ref (X.ad k0), .ref (X.ad k1), .int x2] below meth c X (Qv X M9) H locs 0 ls [] := by
    intro H locs hP hS
    refine lv_iload_n hx hb dX1_addBox_0 rfl (lv_at hl 2 rfl) ?_
    refine lv_if_lt (tgt := 18) hx hb dX1_addBox_1 (by decide) (fun c_1 => ?_) (fun c_1 => ?_)
    · have hf := i_t c_1 hf
      have hf := Option.some.inj hf
      rw [hf] at hP
      exact ret_v hx hb hr hlocks hP hS dX1_addBox_18
    · have hf := i_f c_1 hf
      refine lv_iload_n hx hb dX1_addBox_4 rfl (lv_at hl 2 rfl) ?_
      refine lv_aload_n hx hb dX1_addBox_5 rfl (lv_at hl 0 rfl) ?_
      refine gX1_2 hx hb hts hown hk hP hk0 wd_1_39 dX1_addBox_6 ?_
      refine lv_icmp_gt (tgt := 18) hx hb dX1_addBox_9 (by decide) (fun c_2 => ?_) (fun c_2 => ?_)
      · have hf := i_t c_2 hf
        have hf := Option.some.inj hf
        rw [hf] at hP
        exact ret_v hx hb hr hlocks hP hS dX1_addBox_18
      · have hf := i_f c_2 hf
        refine lv_iload_n hx hb dX1_addBox_12 rfl (lv_at hl 2 rfl) ?_
        refine lv_bipush (v := (8 : Int32)) hx hb dX1_addBox_13 (by decide) ?_
        refine lv_icmp_lt (tgt := 19) hx hb dX1_addBox_15 (by decide) (fun c_3 => ?_) (fun c_3 => ?_)
        · have hf := i_t c_3 hf
          refine lv_iconst (v := (0 : Int32)) hx hb dX1_addBox_19 (by decide) ?_
          refine lv_istore_n (lv' := [(3, .int (0 : Int32)), (0, .ref (X.ad k0)), (1, .ref (X.ad k1)), (2, .int x2)]) hx hb dX1_addBox_20 rfl hl (by decide) rfl (fun ls hl => ?_)
          obtain ⟨o21, ho21, hf⟩ := b_d hf
          refine lp_rule (b := bd_X1_addBox_21 g k0 k1 x2) (P := fun w : Int32 × Mem => ∀ (H : Heap) (locs : List Loc) (ls : Array Slot), wd X w.2 H → va_S X.A s.heap H locs → lv_has ls 4 [(3, .int w.1), (0, .ref (X.ad k0)), (1, .ref (X.ad k1)), (2, .int x2)] → WW p l e 2 44 s m [.ref (X.ad k0), .ref (X.ad k1), .int x2] below meth c X (Qv X M9) H locs 21 ls []) (K := fun o => ∀ (M_6 : Mem), o = M_6 → ∀ (H : Heap) (locs : List Loc) (ls : Array Slot), wd X M_6 H → va_S X.A s.heap H locs → lv_has ls 4 [(0, .ref (X.ad k0)), (2, .int x2)] → WW p l e 2 44 s m [.ref (X.ad k0), .ref (X.ad k1), .int x2] below meth c X (Qv X M9) H locs 49 ls []) ?_ g ((0 : Int32), M) o21 ho21 ?_ H locs ls hP hS (lv_sub hl [0, 1, 2, 3] rfl)
          · rintro ⟨v3_4, M_5⟩ o hf hkc21 hke21 H locs ls hP hS hl
            have hf := u2_e hf
            refine lv_iload_n hx hb dX1_addBox_21 rfl (lv_at hl 0 rfl) ?_
            refine lv_sipush (v := (216 : Int32)) hx hb dX1_addBox_22 (by decide) ?_
            refine lv_icmp_ge (tgt := 49) hx hb dX1_addBox_25 (by decide) (fun c_7 => ?_) (fun c_7 => ?_)
            · have hf := i_t c_7 hf
              exact hke21 _ (Option.some.inj hf).symm _ rfl H locs ls hP hS (lv_sub hl [1, 3] rfl)
            · have hf := i_f c_7 hf
              refine lv_aload_n hx hb dX1_addBox_28 rfl (lv_at hl 2 rfl) ?_
              refine lv_iload_n hx hb dX1_addBox_29 rfl (lv_at hl 0 rfl) ?_
              obtain ⟨r_8, h_r_8, hf⟩ := b_d hf
              refine k_X0_contains hZ hP hS hl.1 wd_2_55 ⟨Nat.le_of_ble_eq_true rfl, Nat.le_of_ble_eq_true rfl⟩ (Nat.le_of_ble_eq_true rfl) dX1_addBox_30 ⟨Nat.zero_le _, Nat.zero_le _⟩ hk1 h_r_8 (fun H locs hP hS => ?_)
              refine lv_if_eq (tgt := 43) hx hb dX1_addBox_33 (by decide) (fun c_9 => ?_) (fun c_9 => ?_)
              · have hf := i_t c_9 hf
                refine lv_iinc (v := v3_4 + (1 : Int32)) (lv' := [(3, .int (v3_4 + (1 : Int32))), (0, .ref (X.ad k0)), (1, .ref (X.ad k1)), (2, .int x2)]) hx hb dX1_addBox_43 hl (k := 0) rfl rfl (by decide) rfl (fun ls hl => ?_)
                refine lv_goto (tgt := 21) hx hb dX1_addBox_46 (by decide) ?_
                exact hkc21 _ (Option.some.inj hf).symm H locs ls hP hS (lv_sub hl [0, 1, 2, 3] rfl)
              · have hf := i_f c_9 hf
                refine lv_aload_n hx hb dX1_addBox_36 rfl (lv_at hl 1 rfl) ?_
                refine gX1_0 hx hb hts hown hk hP hk0 wd_1_31 dX1_addBox_37 ?_
                refine lv_iload_n hx hb dX1_addBox_40 rfl (lv_at hl 0 rfl) ?_
                refine lv_iload_n hx hb dX1_addBox_41 rfl (lv_at hl 3 rfl) ?_
                obtain ⟨q_11, hf⟩ := g_if hf
                refine ast hx hb hk hP hS (isF_lt1 hk0) (rd_F1 hk0) q_11 dX1_addBox_42 (fun H locs M_10 e_M_10 hP hS => ?_)
                have hf := b_v hf e_M_10
                refine lv_iinc (v := v3_4 + (1 : Int32)) (lv' := [(3, .int (v3_4 + (1 : Int32))), (0, .ref (X.ad k0)), (1, .ref (X.ad k1)), (2, .int x2)]) hx hb dX1_addBox_43 hl (k := 0) rfl rfl (by decide) rfl (fun ls hl => ?_)
                refine lv_goto (tgt := 21) hx hb dX1_addBox_46 (by decide) ?_
                exact hkc21 _ (Option.some.inj hf).symm H locs ls hP hS (lv_sub hl [0, 1, 2, 3] rfl)
          · intro M_6 e H locs ls hP hS hl
            subst o21
            have hf := u1_e hf
            refine lv_aload_n hx hb dX1_addBox_49 rfl (lv_at hl 0 rfl) ?_
            refine gX1_1 hx hb hts hown hk hP hk0 wd_1_35 dX1_addBox_50 ?_
            refine lv_iload_n hx hb dX1_addBox_53 rfl (lv_at hl 1 rfl) ?_
            refine lv_dup2_11 hx hb dX1_addBox_54 rfl rfl ?_
            obtain ⟨q_12, hf⟩ := g_if hf
            refine ald hx hb hk hP (isF_lt hk0) (rd_F2 hk0 _) q_12 dX1_addBox_55 ?_
            refine lv_iconst (v := (1 : Int32)) hx hb dX1_addBox_56 (by decide) ?_
            refine lv_iadd hx hb dX1_addBox_57 ?_
            obtain ⟨q_14, hf⟩ := g_if hf
            refine ast hx hb hk hP hS (isF_lt hk0) (rd_F2 hk0) q_14 dX1_addBox_58 (fun H locs M_13 e_M_13 hP hS => ?_)
            have hf := b_v hf e_M_13
            refine lv_iload_n hx hb dX1_addBox_59 rfl (lv_at hl 1 rfl) ?_
            refine lv_aload_n hx hb dX1_addBox_60 rfl (lv_at hl 0 rfl) ?_
            refine gX1_2 hx hb hts hown hk hP hk0 wd_1_39 dX1_addBox_61 ?_
            refine lv_icmp_ne (tgt := 77) hx hb dX1_addBox_64 (by decide) (fun c_15 => ?_) (fun c_15 => ?_)
            · have hf := i_f c_15 hf
              have hf := Option.some.inj hf
              rw [hf] at hP
              exact ret_v hx hb hr hlocks hP hS dX1_addBox_77
            · have hf := i_t c_15 hf
              refine lv_aload_n hx hb dX1_addBox_67 rfl (lv_at hl 0 rfl) ?_
              refine lv_dup hx hb dX1_addBox_68 rfl ?_
              refine gX1_2 hx hb hts hown hk hP hk0 wd_1_39 dX1_addBox_69 ?_
              refine lv_iconst (v := (1 : Int32)) hx hb dX1_addBox_72 (by decide) ?_
              refine lv_iadd hx hb dX1_addBox_73 ?_
              refine pX1_2 hx hb hts hown hk hP hS hk0 wd_1_39 dX1_addBox_74 (fun H locs M_16 e_M_16 hP hS => ?_)
              have hf := b_v hf e_M_16
              have hf := Option.some.inj hf
              rw [hf] at hP
              exact ret_v hx hb hr hlocks hP hS dX1_addBox_77
        · have hf := i_f c_3 hf
          have hf := Option.some.inj hf
          rw [hf] at hP
          exact ret_v hx hb hr hlocks hP hS dX1_addBox_18
  exact key s.heap [] hP hS
theorem hd_X1_addBox : Hd yX1_addBox 2 := by decide +kernel
theorem k_X1_addBox {p : Program} {l : Launch} {e : Env} {R : Room} {s : State} {m : MethodId} {args : Array Value} {below : List Frame} {meth : Method} {c : Code} {H : Heap} {locs : List Loc} {cells slots : Nat} {Q : State → Prop} {cc : ByteArray} {nL pc index : Nat} {ls : Array Slot} {rest : List Value} {X : En} {M : Mem} {H0 : Heap} {own : String} {g : Nat} {k0 : Nat} {k1 : Nat} {x2 : Int32} {M9 : Mem} (hZ : Fx p c m s args X cc nL own) (hP : wd X M H) (hS : va_S X.A H0 H locs) (hsz : ls.size = nL) (hlk : Cond.methodLink own index yX1_addBox ∈ lw_u) (hR : 2 + 1 ≤ R.frames ∧ 8 + (4 + 11) + 44 ≤ R.locals) (hW : (rest.map fun v => v.category).sum ≤ 8) (hdg : decode cc pc = .ok (.invokevirtual index, 3)) (hcs : cells ≤ R.cells ∧ slots ≤ R.slots) (hk0 : isF k0) (hk1 : isB k1) (hf : fn_X1_addBox g k0 k1 x2 M = some M9)
    (kk : ∀ (H1 : Heap) (locs1 : List Loc), wd X M9 H1 → va_S X.A H0 H1 locs1 → W p l e R s m args below meth c H1 locs1 cells slots Q (F0 m (pc + 3) ls rest)) : W p l e R s m args below meth c H locs cells slots Q (F0 m pc ls (.int x2 :: .ref (X.ad k1) :: .ref (X.ad k0) :: rest)) :=
  cal_v (runV (As := [.ref (X.ad k1), .int x2]) (rest := rest) hZ.1 hZ.2.1 hZ.2.2.1 hZ.2.2.2.1 hZ.2.2.2.2.1 hZ.2.2.2.2.2 hP (c_X1_addBox g k0 k1 x2 M hk0 hk1 M9 hf) wd_2_65 wd_2_63 wd_2_64 wd_1_2 hd_X1_addBox (isF_lt0 hk0) (rd_F0 hk0 _) rfl rfl hlk hR hsz rfl hW hdg hcs) hS kk
/-! FrameRaiser$Text.readDigit -/
def fn_X6_readDigit (g : Nat) (x1 : Int32) (k2 : Nat) (M : Mem) : Option (Int32 × Mem) :=
  if x1 < (48 : Int32) then
    (some ((1 : Int32), M))
  else
    (if x1 ≤ (57 : Int32) then
      ((fn_X0_take 49 (M 47 5) (x1 - (48 : Int32)) M).bind (u2 fun r_3 M_4 =>
      if r_3 = 0 then
        (some ((2 : Int32), M_4))
      else
        (bv (st M_4 47 5 ((M_4 47 5) + (1 : Int32))) fun M_6 =>
        bv (st M_6 47 4 (2 : Int32)) fun M_7 =>
        if (6 : Int32) ≤ (M_7 47 5) then
          ((fn_X1_meetsOther g k2 49 (M_7 47 6) M_7).bind fun r_9 =>
          if r_9 = 0 then
            ((fn_X1_addBox g k2 49 (M_7 47 6) M_7).bind fun M_11 =>
            bv (st M_11 47 5 (0 : Int32)) fun M_12 =>
            bv (st M_12 47 4 (3 : Int32)) fun M_13 =>
            some ((0 : Int32), M_13))
          else
            (some ((3 : Int32), M_7)))
        else
          (some ((0 : Int32), M_7)))))
    else
      (some ((1 : Int32), M)))
theorem dX6_readDigit_0 : decode cX6_readDigit 0 = .ok (.iload_n 1, 1) := by decide +kernel
theorem dX6_readDigit_1 : decode cX6_readDigit 1 = .ok (.bipush 48, 2) := by decide +kernel
theorem dX6_readDigit_3 : decode cX6_readDigit 3 = .ok (.if_icmp .lt 9, 3) := by decide +kernel
theorem dX6_readDigit_6 : decode cX6_readDigit 6 = .ok (.iload_n 1, 1) := by decide +kernel
theorem dX6_readDigit_7 : decode cX6_readDigit 7 = .ok (.bipush 57, 2) := by decide +kernel
theorem dX6_readDigit_9 : decode cX6_readDigit 9 = .ok (.if_icmp .le 5, 3) := by decide +kernel
theorem dX6_readDigit_12 : decode cX6_readDigit 12 = .ok (.iconst 1, 1) := by decide +kernel
theorem dX6_readDigit_13 : decode cX6_readDigit 13 = .ok (.ireturn, 1) := by decide +kernel
theorem dX6_readDigit_14 : decode cX6_readDigit 14 = .ok (.aload_n 0, 1) := by decide +kernel
theorem dX6_readDigit_15 : decode cX6_readDigit 15 = .ok (.getfield 18, 3) := by decide +kernel
theorem dX6_readDigit_18 : decode cX6_readDigit 18 = .ok (.aload_n 0, 1) := by decide +kernel
theorem dX6_readDigit_19 : decode cX6_readDigit 19 = .ok (.getfield 34, 3) := by decide +kernel
theorem dX6_readDigit_22 : decode cX6_readDigit 22 = .ok (.iload_n 1, 1) := by decide +kernel
theorem dX6_readDigit_23 : decode cX6_readDigit 23 = .ok (.bipush 48, 2) := by decide +kernel
theorem dX6_readDigit_25 : decode cX6_readDigit 25 = .ok (.isub, 1) := by decide +kernel
theorem dX6_readDigit_26 : decode cX6_readDigit 26 = .ok (.invokevirtual 53, 3) := by decide +kernel
theorem dX6_readDigit_29 : decode cX6_readDigit 29 = .ok (.ifCond .ne 5, 3) := by decide +kernel
theorem dX6_readDigit_32 : decode cX6_readDigit 32 = .ok (.iconst 2, 1) := by decide +kernel
theorem dX6_readDigit_33 : decode cX6_readDigit 33 = .ok (.ireturn, 1) := by decide +kernel
theorem dX6_readDigit_34 : decode cX6_readDigit 34 = .ok (.aload_n 0, 1) := by decide +kernel
theorem dX6_readDigit_35 : decode cX6_readDigit 35 = .ok (.dup, 1) := by decide +kernel
theorem dX6_readDigit_36 : decode cX6_readDigit 36 = .ok (.getfield 34, 3) := by decide +kernel
theorem dX6_readDigit_39 : decode cX6_readDigit 39 = .ok (.iconst 1, 1) := by decide +kernel
theorem dX6_readDigit_40 : decode cX6_readDigit 40 = .ok (.iadd, 1) := by decide +kernel
theorem dX6_readDigit_41 : decode cX6_readDigit 41 = .ok (.putfield 34, 3) := by decide +kernel
theorem dX6_readDigit_44 : decode cX6_readDigit 44 = .ok (.aload_n 0, 1) := by decide +kernel
theorem dX6_readDigit_45 : decode cX6_readDigit 45 = .ok (.iconst 2, 1) := by decide +kernel
theorem dX6_readDigit_46 : decode cX6_readDigit 46 = .ok (.putfield 31, 3) := by decide +kernel
theorem dX6_readDigit_49 : decode cX6_readDigit 49 = .ok (.aload_n 0, 1) := by decide +kernel
theorem dX6_readDigit_50 : decode cX6_readDigit 50 = .ok (.getfield 34, 3) := by decide +kernel
theorem dX6_readDigit_53 : decode cX6_readDigit 53 = .ok (.bipush 6, 2) := by decide +kernel
theorem dX6_readDigit_55 : decode cX6_readDigit 55 = .ok (.if_icmp .ge 5, 3) := by decide +kernel
theorem dX6_readDigit_58 : decode cX6_readDigit 58 = .ok (.iconst 0, 1) := by decide +kernel
theorem dX6_readDigit_59 : decode cX6_readDigit 59 = .ok (.ireturn, 1) := by decide +kernel
theorem dX6_readDigit_60 : decode cX6_readDigit 60 = .ok (.aload_n 2, 1) := by decide +kernel
theorem dX6_readDigit_61 : decode cX6_readDigit 61 = .ok (.aload_n 0, 1) := by decide +kernel
theorem dX6_readDigit_62 : decode cX6_readDigit 62 = .ok (.getfield 18, 3) := by decide +kernel
theorem dX6_readDigit_65 : decode cX6_readDigit 65 = .ok (.aload_n 0, 1) := by decide +kernel
theorem dX6_readDigit_66 : decode cX6_readDigit 66 = .ok (.getfield 37, 3) := by decide +kernel
theorem dX6_readDigit_69 : decode cX6_readDigit 69 = .ok (.invokevirtual 57, 3) := by decide +kernel
theorem dX6_readDigit_72 : decode cX6_readDigit 72 = .ok (.ifCond .eq 5, 3) := by decide +kernel
theorem dX6_readDigit_75 : decode cX6_readDigit 75 = .ok (.iconst 3, 1) := by decide +kernel
theorem dX6_readDigit_76 : decode cX6_readDigit 76 = .ok (.ireturn, 1) := by decide +kernel
theorem dX6_readDigit_77 : decode cX6_readDigit 77 = .ok (.aload_n 2, 1) := by decide +kernel
theorem dX6_readDigit_78 : decode cX6_readDigit 78 = .ok (.aload_n 0, 1) := by decide +kernel
theorem dX6_readDigit_79 : decode cX6_readDigit 79 = .ok (.getfield 18, 3) := by decide +kernel
theorem dX6_readDigit_82 : decode cX6_readDigit 82 = .ok (.aload_n 0, 1) := by decide +kernel
theorem dX6_readDigit_83 : decode cX6_readDigit 83 = .ok (.getfield 37, 3) := by decide +kernel
theorem dX6_readDigit_86 : decode cX6_readDigit 86 = .ok (.invokevirtual 61, 3) := by decide +kernel
theorem dX6_readDigit_89 : decode cX6_readDigit 89 = .ok (.aload_n 0, 1) := by decide +kernel
theorem dX6_readDigit_90 : decode cX6_readDigit 90 = .ok (.iconst 0, 1) := by decide +kernel
theorem dX6_readDigit_91 : decode cX6_readDigit 91 = .ok (.putfield 34, 3) := by decide +kernel
theorem dX6_readDigit_94 : decode cX6_readDigit 94 = .ok (.aload_n 0, 1) := by decide +kernel
theorem dX6_readDigit_95 : decode cX6_readDigit 95 = .ok (.iconst 3, 1) := by decide +kernel
theorem dX6_readDigit_96 : decode cX6_readDigit 96 = .ok (.putfield 31, 3) := by decide +kernel
theorem dX6_readDigit_99 : decode cX6_readDigit 99 = .ok (.iconst 0, 1) := by decide +kernel
theorem dX6_readDigit_100 : decode cX6_readDigit 100 = .ok (.ireturn, 1) := by decide +kernel
set_option maxHeartbeats 4000000 in
set_option maxRecDepth 100000 in
theorem c_X6_readDigit {l : Launch} {X : En} (g : Nat) (x1 : Int32) (k2 : Nat) (M : Mem) (hk2 : isF k2) (r : Int32) (M9 : Mem) (hf : fn_X6_readDigit g x1 k2 M = some (r, M9)) : Cn l X yX6_readDigit cX6_readDigit 3 (some .int) 3 68 [.ref (X.ad 47), .int x1, .ref (X.ad k2)] M (Qi X r M9) := by
  refine Met.ofW (cc := cX6_readDigit) (maxL := 3) (ret := (some .int)) (by decide) rfl ?_
  intro p e s m args below meth c s₁ B hml hv
  obtain ⟨rfl, hP, hk⟩ := hv
  have hx := B.exec
  have hb := B.bytes
  have hr := B.returns
  have hlocks := B.notSynchronized
  have hts : ∀ w ∈ lw_u, w.before ([.ref (X.ad 47), .int x1, .ref (X.ad k2)] : List Value).toArray s = true := fun w hw => atoms_spec (ws := Cond.code yX6_readDigit cX6_readDigit 3 (some .int) :: lw_u) B.pre w (List.mem_cons_of_mem _ hw)
  have hown : s.vm.findClass RX6 = some m.cls := findClass_of_methodNamed B.named
  have hZ : Fx p c m s ([.ref (X.ad 47), .int x1, .ref (X.ad k2)] : List Value).toArray X cX6_readDigit 3 RX6 := ⟨hx, hb, hml, hts, hown, hk⟩
  have hS : va_S X.A s.heap s.heap [] := va_S.rf
  have hl := lv_entry ([.ref (X.ad 47), .int x1, .ref (X.ad k2)]) (n := 3) (Nat.le_of_ble_eq_true rfl)
  rw [lg_entry_eq]
  generalize (lg_sl ([.ref (X.ad 47), .int x1, .ref (X.ad k2)]) ++ List.replicate (3 - (lg_sl ([.ref (X.ad 47), .int x1, .ref (X.ad k2)])).length) Slot.unset).toArray = ls at hl ⊢
  have hl : lv_has ls 3 [(0, .ref (X.ad 47)), (1, .int x1), (2, .ref (X.ad k2))] := hl
  show WW p l e 3 68 s m [.ref (X.ad 47), .int x1, .ref (X.ad k2)] below meth c X (Qi X r M9) s.heap [] 0 ls []
  have hP : wd X M s.heap := hP
  unfold fn_X6_readDigit at hf
  have key : ∀ (H : Heap) (locs : List Loc), wd X M H → va_S X.A s.heap H locs → WW p l e 3 68 s m [.ref (X.ad 47), .int x1, .ref (X.ad k2)] below meth c X (Qi X r M9) H locs 0 ls [] := by
    intro H locs hP hS
    refine lv_iload_n hx hb dX6_readDigit_0 rfl (lv_at hl 1 rfl) ?_
    refine lv_bipush (v := (48 : Int32)) hx hb dX6_readDigit_1 (by decide) ?_
    refine lv_icmp_lt (tgt := 12) hx hb dX6_readDigit_3 (by decide) (fun c_1 => ?_) (fun c_1 => ?_)
    · have hf := i_t c_1 hf
      refine lv_iconst (v := (1 : Int32)) hx hb dX6_readDigit_12 (by decide) ?_
      have hf := Option.some.inj hf
      obtain ⟨e1, e2⟩ := Prod.mk.inj hf
      rw [e2] at hP
      exact ret_i hx hb hr hlocks hP hS e1 dX6_readDigit_13
    · have hf := i_f c_1 hf
      refine lv_iload_n hx hb dX6_readDigit_6 rfl (lv_at hl 1 rfl) ?_
      refine lv_bipush (v := (57 : Int32)) hx hb dX6_readDigit_7 (by decide) ?_
      refine lv_icmp_le (tgt := 14) hx hb dX6_readDigit_9 (by decide) (fun c_2 => ?_) (fun c_2 => ?_)
      · have hf := i_t c_2 hf
        refine lv_aload_n hx hb dX6_readDigit_14 rfl (lv_at hl 0 rfl) ?_
        refine gX6_3 hx hb hts hown hk hP wd_1_192 dX6_readDigit_15 ?_
        refine lv_aload_n hx hb dX6_readDigit_18 rfl (lv_at hl 0 rfl) ?_
        refine gX6_5 hx hb hts hown hk hP wd_1_194 dX6_readDigit_19 ?_
        refine lv_iload_n hx hb dX6_readDigit_22 rfl (lv_at hl 1 rfl) ?_
        refine lv_bipush (v := (48 : Int32)) hx hb dX6_readDigit_23 (by decide) ?_
        refine lv_isub hx hb dX6_readDigit_25 ?_
        obtain ⟨⟨r_3, M_4⟩, h_r_3, hf⟩ := b_d hf
        have hf := u2_e hf
        refine k_X0_take hZ hP hS hl.1 wd_2_47 ⟨Nat.le_of_ble_eq_true rfl, Nat.le_of_ble_eq_true rfl⟩ (Nat.le_of_ble_eq_true rfl) dX6_readDigit_26 ⟨Nat.zero_le _, Nat.zero_le _⟩ isB_49 h_r_3 (fun H locs hP hS => ?_)
        refine lv_if_ne (tgt := 34) hx hb dX6_readDigit_29 (by decide) (fun c_5 => ?_) (fun c_5 => ?_)
        · have hf := i_f c_5 hf
          refine lv_aload_n hx hb dX6_readDigit_34 rfl (lv_at hl 0 rfl) ?_
          refine lv_dup hx hb dX6_readDigit_35 rfl ?_
          refine gX6_5 hx hb hts hown hk hP wd_1_194 dX6_readDigit_36 ?_
          refine lv_iconst (v := (1 : Int32)) hx hb dX6_readDigit_39 (by decide) ?_
          refine lv_iadd hx hb dX6_readDigit_40 ?_
          refine pX6_5 hx hb hts hown hk hP hS wd_1_194 dX6_readDigit_41 (fun H locs M_6 e_M_6 hP hS => ?_)
          have hf := b_v hf e_M_6
          refine lv_aload_n hx hb dX6_readDigit_44 rfl (lv_at hl 0 rfl) ?_
          refine lv_iconst (v := (2 : Int32)) hx hb dX6_readDigit_45 (by decide) ?_
          refine pX6_4 hx hb hts hown hk hP hS wd_1_193 dX6_readDigit_46 (fun H locs M_7 e_M_7 hP hS => ?_)
          have hf := b_v hf e_M_7
          refine lv_aload_n hx hb dX6_readDigit_49 rfl (lv_at hl 0 rfl) ?_
          refine gX6_5 hx hb hts hown hk hP wd_1_194 dX6_readDigit_50 ?_
          refine lv_bipush (v := (6 : Int32)) hx hb dX6_readDigit_53 (by decide) ?_
          refine lv_icmp_ge (tgt := 60) hx hb dX6_readDigit_55 (by decide) (fun c_8 => ?_) (fun c_8 => ?_)
          · have hf := i_t c_8 hf
            refine lv_aload_n hx hb dX6_readDigit_60 rfl (lv_at hl 2 rfl) ?_
            refine lv_aload_n hx hb dX6_readDigit_61 rfl (lv_at hl 0 rfl) ?_
            refine gX6_3 hx hb hts hown hk hP wd_1_192 dX6_readDigit_62 ?_
            refine lv_aload_n hx hb dX6_readDigit_65 rfl (lv_at hl 0 rfl) ?_
            refine gX6_6 hx hb hts hown hk hP wd_1_195 dX6_readDigit_66 ?_
            obtain ⟨r_9, h_r_9, hf⟩ := b_d hf
            refine k_X1_meetsOther hZ hP hS hl.1 wd_2_51 ⟨Nat.le_of_ble_eq_true rfl, Nat.le_of_ble_eq_true rfl⟩ (Nat.le_of_ble_eq_true rfl) dX6_readDigit_69 ⟨Nat.zero_le _, Nat.zero_le _⟩ hk2 isB_49 h_r_9 (fun H locs hP hS => ?_)
            refine lv_if_eq (tgt := 77) hx hb dX6_readDigit_72 (by decide) (fun c_10 => ?_) (fun c_10 => ?_)
            · have hf := i_t c_10 hf
              refine lv_aload_n hx hb dX6_readDigit_77 rfl (lv_at hl 2 rfl) ?_
              refine lv_aload_n hx hb dX6_readDigit_78 rfl (lv_at hl 0 rfl) ?_
              refine gX6_3 hx hb hts hown hk hP wd_1_192 dX6_readDigit_79 ?_
              refine lv_aload_n hx hb dX6_readDigit_82 rfl (lv_at hl 0 rfl) ?_
              refine gX6_6 hx hb hts hown hk hP wd_1_195 dX6_readDigit_83 ?_
              obtain ⟨M_11, h_M_11, hf⟩ := b_d hf
              refine k_X1_addBox hZ hP hS hl.1 wd_2_62 ⟨Nat.le_of_ble_eq_true rfl, Nat.le_of_ble_eq_true rfl⟩ (Nat.le_of_ble_eq_true rfl) dX6_readDigit_86 ⟨Nat.zero_le _, Nat.zero_le _⟩ hk2 isB_49 h_M_11 (fun H locs hP hS => ?_)
              refine lv_aload_n hx hb dX6_readDigit_89 rfl (lv_at hl 0 rfl) ?_
              refine lv_iconst (v := (0 : Int32)) hx hb dX6_readDigit_90 (by decide) ?_
              refine pX6_5 hx hb hts hown hk hP hS wd_1_194 dX6_readDigit_91 (fun H locs M_12 e_M_12 hP hS => ?_)
              have hf := b_v hf e_M_12
              refine lv_aload_n hx hb dX6_readDigit_94 rfl (lv_at hl 0 rfl) ?_
              refine lv_iconst (v := (3 : Int32)) hx hb dX6_readDigit_95 (by decide) ?_
              refine pX6_4 hx hb hts hown hk hP hS wd_1_193 dX6_readDigit_96 (fun H locs M_13 e_M_13 hP hS => ?_)
              have hf := b_v hf e_M_13
              refine lv_iconst (v := (0 : Int32)) hx hb dX6_readDigit_99 (by decide) ?_
              have hf := Option.some.inj hf
              obtain ⟨e1, e2⟩ := Prod.mk.inj hf
              rw [e2] at hP
              exact ret_i hx hb hr hlocks hP hS e1 dX6_readDigit_100
            · have hf := i_f c_10 hf
              refine lv_iconst (v := (3 : Int32)) hx hb dX6_readDigit_75 (by decide) ?_
              have hf := Option.some.inj hf
              obtain ⟨e1, e2⟩ := Prod.mk.inj hf
              rw [e2] at hP
              exact ret_i hx hb hr hlocks hP hS e1 dX6_readDigit_76
          · have hf := i_f c_8 hf
            refine lv_iconst (v := (0 : Int32)) hx hb dX6_readDigit_58 (by decide) ?_
            have hf := Option.some.inj hf
            obtain ⟨e1, e2⟩ := Prod.mk.inj hf
            rw [e2] at hP
            exact ret_i hx hb hr hlocks hP hS e1 dX6_readDigit_59
        · have hf := i_t c_5 hf
          refine lv_iconst (v := (2 : Int32)) hx hb dX6_readDigit_32 (by decide) ?_
          have hf := Option.some.inj hf
          obtain ⟨e1, e2⟩ := Prod.mk.inj hf
          rw [e2] at hP
          exact ret_i hx hb hr hlocks hP hS e1 dX6_readDigit_33
      · have hf := i_f c_2 hf
        refine lv_iconst (v := (1 : Int32)) hx hb dX6_readDigit_12 (by decide) ?_
        have hf := Option.some.inj hf
        obtain ⟨e1, e2⟩ := Prod.mk.inj hf
        rw [e2] at hP
        exact ret_i hx hb hr hlocks hP hS e1 dX6_readDigit_13
  exact key s.heap [] hP hS
theorem hd_X6_readDigit : Hd yX6_readDigit 2 := by decide +kernel
theorem k_X6_readDigit {p : Program} {l : Launch} {e : Env} {R : Room} {s : State} {m : MethodId} {args : Array Value} {below : List Frame} {meth : Method} {c : Code} {H : Heap} {locs : List Loc} {cells slots : Nat} {Q : State → Prop} {cc : ByteArray} {nL pc index : Nat} {ls : Array Slot} {rest : List Value} {X : En} {M : Mem} {H0 : Heap} {own : String} {g : Nat} {x1 : Int32} {k2 : Nat} {r : Int32} {M9 : Mem} (hZ : Fx p c m s args X cc nL own) (hP : wd X M H) (hS : va_S X.A H0 H locs) (hsz : ls.size = nL) (hlk : Cond.methodLink own index yX6_readDigit ∈ lw_u) (hR : 3 + 1 ≤ R.frames ∧ 8 + (3 + 11) + 68 ≤ R.locals) (hW : (rest.map fun v => v.category).sum ≤ 8) (hdg : decode cc pc = .ok (.invokevirtual index, 3)) (hcs : cells ≤ R.cells ∧ slots ≤ R.slots) (hk2 : isF k2) (hf : fn_X6_readDigit g x1 k2 M = some (r, M9))
    (kk : ∀ (H1 : Heap) (locs1 : List Loc), wd X M9 H1 → va_S X.A H0 H1 locs1 → W p l e R s m args below meth c H1 locs1 cells slots Q (F0 m (pc + 3) ls (.int r :: rest))) : W p l e R s m args below meth c H locs cells slots Q (F0 m pc ls (.ref (X.ad k2) :: .int x1 :: .ref (X.ad 47) :: rest)) :=
  cal_i (runV (As := [.int x1, .ref (X.ad k2)]) (rest := rest) hZ.1 hZ.2.1 hZ.2.2.1 hZ.2.2.2.1 hZ.2.2.2.2.1 hZ.2.2.2.2.2 hP (c_X6_readDigit g x1 k2 M hk2 r M9 hf) wd_2_46 wd_2_45 wd_p_3 wd_1_7 hd_X6_readDigit (by decide) rfl rfl rfl hlk hR hsz rfl hW hdg hcs) hS kk
/-! FrameRaiser$Text.beginPiece -/
def fn_X6_beginPiece (M : Mem) : Option (Int32 × Mem) :=
  if (M 47 6) < (7 : Int32) then
    (bv (st M 47 6 ((M 47 6) + (1 : Int32))) fun M_2 =>
    bv (st M_2 47 4 (1 : Int32)) fun M_3 =>
    some ((0 : Int32), M_3))
  else
    (some ((4 : Int32), M))
theorem dX6_beginPiece_0 : decode cX6_beginPiece 0 = .ok (.aload_n 0, 1) := by decide +kernel
theorem dX6_beginPiece_1 : decode cX6_beginPiece 1 = .ok (.getfield 37, 3) := by decide +kernel
theorem dX6_beginPiece_4 : decode cX6_beginPiece 4 = .ok (.bipush 7, 2) := by decide +kernel
theorem dX6_beginPiece_6 : decode cX6_beginPiece 6 = .ok (.if_icmp .lt 5, 3) := by decide +kernel
theorem dX6_beginPiece_9 : decode cX6_beginPiece 9 = .ok (.iconst 4, 1) := by decide +kernel
theorem dX6_beginPiece_10 : decode cX6_beginPiece 10 = .ok (.ireturn, 1) := by decide +kernel
theorem dX6_beginPiece_11 : decode cX6_beginPiece 11 = .ok (.aload_n 0, 1) := by decide +kernel
theorem dX6_beginPiece_12 : decode cX6_beginPiece 12 = .ok (.dup, 1) := by decide +kernel
theorem dX6_beginPiece_13 : decode cX6_beginPiece 13 = .ok (.getfield 37, 3) := by decide +kernel
theorem dX6_beginPiece_16 : decode cX6_beginPiece 16 = .ok (.iconst 1, 1) := by decide +kernel
theorem dX6_beginPiece_17 : decode cX6_beginPiece 17 = .ok (.iadd, 1) := by decide +kernel
theorem dX6_beginPiece_18 : decode cX6_beginPiece 18 = .ok (.putfield 37, 3) := by decide +kernel
theorem dX6_beginPiece_21 : decode cX6_beginPiece 21 = .ok (.aload_n 0, 1) := by decide +kernel
theorem dX6_beginPiece_22 : decode cX6_beginPiece 22 = .ok (.iconst 1, 1) := by decide +kernel
theorem dX6_beginPiece_23 : decode cX6_beginPiece 23 = .ok (.putfield 31, 3) := by decide +kernel
theorem dX6_beginPiece_26 : decode cX6_beginPiece 26 = .ok (.iconst 0, 1) := by decide +kernel
theorem dX6_beginPiece_27 : decode cX6_beginPiece 27 = .ok (.ireturn, 1) := by decide +kernel
set_option maxHeartbeats 4000000 in
set_option maxRecDepth 100000 in
theorem c_X6_beginPiece {l : Launch} {X : En} (M : Mem) (r : Int32) (M9 : Mem) (hf : fn_X6_beginPiece M = some (r, M9)) : Cn l X yX6_beginPiece cX6_beginPiece 1 (some .int) 0 0 [.ref (X.ad 47)] M (Qi X r M9) := by
  refine Met.ofW (cc := cX6_beginPiece) (maxL := 1) (ret := (some .int)) (by decide) rfl ?_
  intro p e s m args below meth c s₁ B hml hv
  obtain ⟨rfl, hP, hk⟩ := hv
  have hx := B.exec
  have hb := B.bytes
  have hr := B.returns
  have hlocks := B.notSynchronized
  have hts : ∀ w ∈ lw_u, w.before ([.ref (X.ad 47)] : List Value).toArray s = true := fun w hw => atoms_spec (ws := Cond.code yX6_beginPiece cX6_beginPiece 1 (some .int) :: lw_u) B.pre w (List.mem_cons_of_mem _ hw)
  have hown : s.vm.findClass RX6 = some m.cls := findClass_of_methodNamed B.named
  have hZ : Fx p c m s ([.ref (X.ad 47)] : List Value).toArray X cX6_beginPiece 1 RX6 := ⟨hx, hb, hml, hts, hown, hk⟩
  have hS : va_S X.A s.heap s.heap [] := va_S.rf
  have hl := lv_entry ([.ref (X.ad 47)]) (n := 1) (Nat.le_of_ble_eq_true rfl)
  rw [lg_entry_eq]
  generalize (lg_sl ([.ref (X.ad 47)]) ++ List.replicate (1 - (lg_sl ([.ref (X.ad 47)])).length) Slot.unset).toArray = ls at hl ⊢
  have hl : lv_has ls 1 [(0, .ref (X.ad 47))] := hl
  show WW p l e 0 0 s m [.ref (X.ad 47)] below meth c X (Qi X r M9) s.heap [] 0 ls []
  have hP : wd X M s.heap := hP
  unfold fn_X6_beginPiece at hf
  have key : ∀ (H : Heap) (locs : List Loc), wd X M H → va_S X.A s.heap H locs → WW p l e 0 0 s m [.ref (X.ad 47)] below meth c X (Qi X r M9) H locs 0 ls [] := by
    intro H locs hP hS
    refine lv_aload_n hx hb dX6_beginPiece_0 rfl (lv_at hl 0 rfl) ?_
    refine gX6_6 hx hb hts hown hk hP wd_1_195 dX6_beginPiece_1 ?_
    refine lv_bipush (v := (7 : Int32)) hx hb dX6_beginPiece_4 (by decide) ?_
    refine lv_icmp_lt (tgt := 11) hx hb dX6_beginPiece_6 (by decide) (fun c_1 => ?_) (fun c_1 => ?_)
    · have hf := i_t c_1 hf
      refine lv_aload_n hx hb dX6_beginPiece_11 rfl (lv_at hl 0 rfl) ?_
      refine lv_dup hx hb dX6_beginPiece_12 rfl ?_
      refine gX6_6 hx hb hts hown hk hP wd_1_195 dX6_beginPiece_13 ?_
      refine lv_iconst (v := (1 : Int32)) hx hb dX6_beginPiece_16 (by decide) ?_
      refine lv_iadd hx hb dX6_beginPiece_17 ?_
      refine pX6_6 hx hb hts hown hk hP hS wd_1_195 dX6_beginPiece_18 (fun H locs M_2 e_M_2 hP hS => ?_)
      have hf := b_v hf e_M_2
      refine lv_aload_n hx hb dX6_beginPiece_21 rfl (lv_at hl 0 rfl) ?_
      refine lv_iconst (v := (1 : Int32)) hx hb dX6_beginPiece_22 (by decide) ?_
      refine pX6_4 hx hb hts hown hk hP hS wd_1_193 dX6_beginPiece_23 (fun H locs M_3 e_M_3 hP hS => ?_)
      have hf := b_v hf e_M_3
      refine lv_iconst (v := (0 : Int32)) hx hb dX6_beginPiece_26 (by decide) ?_
      have hf := Option.some.inj hf
      obtain ⟨e1, e2⟩ := Prod.mk.inj hf
      rw [e2] at hP
      exact ret_i hx hb hr hlocks hP hS e1 dX6_beginPiece_27
    · have hf := i_f c_1 hf
      refine lv_iconst (v := (4 : Int32)) hx hb dX6_beginPiece_9 (by decide) ?_
      have hf := Option.some.inj hf
      obtain ⟨e1, e2⟩ := Prod.mk.inj hf
      rw [e2] at hP
      exact ret_i hx hb hr hlocks hP hS e1 dX6_beginPiece_10
  exact key s.heap [] hP hS
theorem hd_X6_beginPiece : Hd yX6_beginPiece 0 := by decide +kernel
theorem k_X6_beginPiece {p : Program} {l : Launch} {e : Env} {R : Room} {s : State} {m : MethodId} {args : Array Value} {below : List Frame} {meth : Method} {c : Code} {H : Heap} {locs : List Loc} {cells slots : Nat} {Q : State → Prop} {cc : ByteArray} {nL pc index : Nat} {ls : Array Slot} {rest : List Value} {X : En} {M : Mem} {H0 : Heap} {own : String} {r : Int32} {M9 : Mem} (hZ : Fx p c m s args X cc nL own) (hP : wd X M H) (hS : va_S X.A H0 H locs) (hsz : ls.size = nL) (hlk : Cond.methodLink own index yX6_beginPiece ∈ lw_u) (hR : 0 + 1 ≤ R.frames ∧ 8 + (1 + 11) + 0 ≤ R.locals) (hW : (rest.map fun v => v.category).sum ≤ 8) (hdg : decode cc pc = .ok (.invokevirtual index, 3)) (hcs : cells ≤ R.cells ∧ slots ≤ R.slots) (hf : fn_X6_beginPiece M = some (r, M9))
    (kk : ∀ (H1 : Heap) (locs1 : List Loc), wd X M9 H1 → va_S X.A H0 H1 locs1 → W p l e R s m args below meth c H1 locs1 cells slots Q (F0 m (pc + 3) ls (.int r :: rest))) : W p l e R s m args below meth c H locs cells slots Q (F0 m pc ls (.ref (X.ad 47) :: rest)) :=
  cal_i (runV (As := []) (rest := rest) hZ.1 hZ.2.1 hZ.2.2.1 hZ.2.2.2.1 hZ.2.2.2.2.1 hZ.2.2.2.2.2 hP (c_X6_beginPiece M r M9 hf) wd_2_42 wd_2_41 wd_p_2 wd_1_7 hd_X6_beginPiece (by decide) rfl rfl rfl hlk hR hsz rfl hW hdg hcs) hS kk
/-! FrameRaiser$Text.readSeparator -/
def jn_X6_readSeparator_38 (s_4 : Int32) (x1 : Int32) (M_5 : Mem) : Option (Int32 × Mem) :=
  if x1 = (43 : Int32) then
    (if s_4 = 0 then
      (bv (st M_5 47 4 (1 : Int32)) fun M_8 =>
      some ((0 : Int32), M_8))
    else
      (some ((1 : Int32), M_5)))
  else
    (some ((1 : Int32), M_5))
def jn_X6_readSeparator_33 (x1 : Int32) (M_3 : Mem) : Option (Int32 × Mem) :=
  jn_X6_readSeparator_38 (1 : Int32) x1 M_3
def fn_X6_readSeparator (x1 : Int32) (k2 : Nat) (M : Mem) : Option (Int32 × Mem) :=
  if x1 = (59 : Int32) then
    ((fn_X6_beginPiece M).bind (u2 fun r_11 M_12 =>
    some (r_11, M_12)))
  else
    (if (8 : Int32) ≤ (M 47 6) then
      (jn_X6_readSeparator_33 x1 M)
    else
      (if inb (M 47 6) 8 then
      if (M (k2 + 2) (ix (M 47 6))) < (4 : Int32) then
        (jn_X6_readSeparator_38 (0 : Int32) x1 M)
      else
        (jn_X6_readSeparator_33 x1 M)
      else none))
theorem dX6_readSeparator_0 : decode cX6_readSeparator 0 = .ok (.iload_n 1, 1) := by decide +kernel
theorem dX6_readSeparator_1 : decode cX6_readSeparator 1 = .ok (.bipush 59, 2) := by decide +kernel
theorem dX6_readSeparator_3 : decode cX6_readSeparator 3 = .ok (.if_icmp .ne 8, 3) := by decide +kernel
theorem dX6_readSeparator_6 : decode cX6_readSeparator 6 = .ok (.aload_n 0, 1) := by decide +kernel
theorem dX6_readSeparator_7 : decode cX6_readSeparator 7 = .ok (.invokevirtual 65, 3) := by decide +kernel
theorem dX6_readSeparator_10 : decode cX6_readSeparator 10 = .ok (.ireturn, 1) := by decide +kernel
theorem dX6_readSeparator_11 : decode cX6_readSeparator 11 = .ok (.aload_n 0, 1) := by decide +kernel
theorem dX6_readSeparator_12 : decode cX6_readSeparator 12 = .ok (.getfield 37, 3) := by decide +kernel
theorem dX6_readSeparator_15 : decode cX6_readSeparator 15 = .ok (.bipush 8, 2) := by decide +kernel
theorem dX6_readSeparator_17 : decode cX6_readSeparator 17 = .ok (.if_icmp .ge 16, 3) := by decide +kernel
theorem dX6_readSeparator_20 : decode cX6_readSeparator 20 = .ok (.aload_n 2, 1) := by decide +kernel
theorem dX6_readSeparator_21 : decode cX6_readSeparator 21 = .ok (.getfield 69, 3) := by decide +kernel
theorem dX6_readSeparator_24 : decode cX6_readSeparator 24 = .ok (.aload_n 0, 1) := by decide +kernel
theorem dX6_readSeparator_25 : decode cX6_readSeparator 25 = .ok (.getfield 37, 3) := by decide +kernel
theorem dX6_readSeparator_28 : decode cX6_readSeparator 28 = .ok (.iaload, 1) := by decide +kernel
theorem dX6_readSeparator_29 : decode cX6_readSeparator 29 = .ok (.iconst 4, 1) := by decide +kernel
theorem dX6_readSeparator_30 : decode cX6_readSeparator 30 = .ok (.if_icmp .lt 7, 3) := by decide +kernel
theorem dX6_readSeparator_33 : decode cX6_readSeparator 33 = .ok (.iconst 1, 1) := by decide +kernel
theorem dX6_readSeparator_34 : decode cX6_readSeparator 34 = .ok (.goto 4, 3) := by decide +kernel
theorem dX6_readSeparator_37 : decode cX6_readSeparator 37 = .ok (.iconst 0, 1) := by decide +kernel
theorem dX6_readSeparator_38 : decode cX6_readSeparator 38 = .ok (.istore_n 3, 1) := by decide +kernel
theorem dX6_readSeparator_39 : decode cX6_readSeparator 39 = .ok (.iload_n 1, 1) := by decide +kernel
theorem dX6_readSeparator_40 : decode cX6_readSeparator 40 = .ok (.bipush 43, 2) := by decide +kernel
theorem dX6_readSeparator_42 : decode cX6_readSeparator 42 = .ok (.if_icmp .ne 7, 3) := by decide +kernel
theorem dX6_readSeparator_45 : decode cX6_readSeparator 45 = .ok (.iload_n 3, 1) := by decide +kernel
theorem dX6_readSeparator_46 : decode cX6_readSeparator 46 = .ok (.ifCond .eq 5, 3) := by decide +kernel
theorem dX6_readSeparator_49 : decode cX6_readSeparator 49 = .ok (.iconst 1, 1) := by decide +kernel
theorem dX6_readSeparator_50 : decode cX6_readSeparator 50 = .ok (.ireturn, 1) := by decide +kernel
theorem dX6_readSeparator_51 : decode cX6_readSeparator 51 = .ok (.aload_n 0, 1) := by decide +kernel
theorem dX6_readSeparator_52 : decode cX6_readSeparator 52 = .ok (.iconst 1, 1) := by decide +kernel
theorem dX6_readSeparator_53 : decode cX6_readSeparator 53 = .ok (.putfield 31, 3) := by decide +kernel
theorem dX6_readSeparator_56 : decode cX6_readSeparator 56 = .ok (.iconst 0, 1) := by decide +kernel
theorem dX6_readSeparator_57 : decode cX6_readSeparator 57 = .ok (.ireturn, 1) := by decide +kernel
set_option maxHeartbeats 4000000 in
set_option maxRecDepth 100000 in
theorem c_X6_readSeparator {l : Launch} {X : En} (x1 : Int32) (k2 : Nat) (M : Mem) (hk2 : isF k2) (r : Int32) (M9 : Mem) (hf : fn_X6_readSeparator x1 k2 M = some (r, M9)) : Cn l X yX6_readSeparator cX6_readSeparator 4 (some .int) 1 20 [.ref (X.ad 47), .int x1, .ref (X.ad k2)] M (Qi X r M9) := by
  refine Met.ofW (cc := cX6_readSeparator) (maxL := 4) (ret := (some .int)) (by decide) rfl ?_
  intro p e s m args below meth c s₁ B hml hv
  obtain ⟨rfl, hP, hk⟩ := hv
  have hx := B.exec
  have hb := B.bytes
  have hr := B.returns
  have hlocks := B.notSynchronized
  have hts : ∀ w ∈ lw_u, w.before ([.ref (X.ad 47), .int x1, .ref (X.ad k2)] : List Value).toArray s = true := fun w hw => atoms_spec (ws := Cond.code yX6_readSeparator cX6_readSeparator 4 (some .int) :: lw_u) B.pre w (List.mem_cons_of_mem _ hw)
  have hown : s.vm.findClass RX6 = some m.cls := findClass_of_methodNamed B.named
  have hZ : Fx p c m s ([.ref (X.ad 47), .int x1, .ref (X.ad k2)] : List Value).toArray X cX6_readSeparator 4 RX6 := ⟨hx, hb, hml, hts, hown, hk⟩
  have hS : va_S X.A s.heap s.heap [] := va_S.rf
  have hl := lv_entry ([.ref (X.ad 47), .int x1, .ref (X.ad k2)]) (n := 4) (Nat.le_of_ble_eq_true rfl)
  rw [lg_entry_eq]
  generalize (lg_sl ([.ref (X.ad 47), .int x1, .ref (X.ad k2)]) ++ List.replicate (4 - (lg_sl ([.ref (X.ad 47), .int x1, .ref (X.ad k2)])).length) Slot.unset).toArray = ls at hl ⊢
  have hl : lv_has ls 4 [(0, .ref (X.ad 47)), (1, .int x1), (2, .ref (X.ad k2))] := hl
  show WW p l e 1 20 s m [.ref (X.ad 47), .int x1, .ref (X.ad k2)] below meth c X (Qi X r M9) s.heap [] 0 ls []
  have hP : wd X M s.heap := hP
  have jn38 : ∀ (s_4 : Int32) (M_5 : Mem), jn_X6_readSeparator_38 s_4 x1 M_5 = some (r, M9) → ∀ (H : Heap) (locs : List Loc) (ls : Array Slot), wd X M_5 H → va_S X.A s.heap H locs → lv_has ls 4 [(0, .ref (X.ad 47)), (1, .int x1)] → WW p l e 1 20 s m [.ref (X.ad 47), .int x1, .ref (X.ad k2)] below meth c X (Qi X r M9) H locs 38 ls [.int s_4] := by
    intro s_4 M_5 hf H locs ls hP hS hl
    unfold jn_X6_readSeparator_38 at hf
    refine lv_istore_n (lv' := [(3, .int s_4), (0, .ref (X.ad 47)), (1, .int x1)]) hx hb dX6_readSeparator_38 rfl hl (by decide) rfl (fun ls hl => ?_)
    refine lv_iload_n hx hb dX6_readSeparator_39 rfl (lv_at hl 2 rfl) ?_
    refine lv_bipush (v := (43 : Int32)) hx hb dX6_readSeparator_40 (by decide) ?_
    refine lv_icmp_ne (tgt := 49) hx hb dX6_readSeparator_42 (by decide) (fun c_6 => ?_) (fun c_6 => ?_)
    · have hf := i_f c_6 hf
      refine lv_iconst (v := (1 : Int32)) hx hb dX6_readSeparator_49 (by decide) ?_
      have hf := Option.some.inj hf
      obtain ⟨e1, e2⟩ := Prod.mk.inj hf
      rw [e2] at hP
      exact ret_i hx hb hr hlocks hP hS e1 dX6_readSeparator_50
    · have hf := i_t c_6 hf
      refine lv_iload_n hx hb dX6_readSeparator_45 rfl (lv_at hl 0 rfl) ?_
      refine lv_if_eq (tgt := 51) hx hb dX6_readSeparator_46 (by decide) (fun c_7 => ?_) (fun c_7 => ?_)
      · have hf := i_t c_7 hf
        refine lv_aload_n hx hb dX6_readSeparator_51 rfl (lv_at hl 1 rfl) ?_
        refine lv_iconst (v := (1 : Int32)) hx hb dX6_readSeparator_52 (by decide) ?_
        refine pX6_4 hx hb hts hown hk hP hS wd_1_193 dX6_readSeparator_53 (fun H locs M_8 e_M_8 hP hS => ?_)
        have hf := b_v hf e_M_8
        refine lv_iconst (v := (0 : Int32)) hx hb dX6_readSeparator_56 (by decide) ?_
        have hf := Option.some.inj hf
        obtain ⟨e1, e2⟩ := Prod.mk.inj hf
        rw [e2] at hP
        exact ret_i hx hb hr hlocks hP hS e1 dX6_readSeparator_57
      · have hf := i_f c_7 hf
        refine lv_iconst (v := (1 : Int32)) hx hb dX6_readSeparator_49 (by decide) ?_
        have hf := Option.some.inj hf
        obtain ⟨e1, e2⟩ := Prod.mk.inj hf
        rw [e2] at hP
        exact ret_i hx hb hr hlocks hP hS e1 dX6_readSeparator_50
  have jn33 : ∀  (M_3 : Mem), jn_X6_readSeparator_33 x1 M_3 = some (r, M9) → ∀ (H : Heap) (locs : List Loc) (ls : Array Slot), wd X M_3 H → va_S X.A s.heap H locs → lv_has ls 4 [(0, .ref (X.ad 47)), (1, .int x1)] → WW p l e 1 20 s m [.ref (X.ad 47), .int x1, .ref (X.ad k2)] below meth c X (Qi X r M9) H locs 33 ls [] := by
    intro  M_3 hf H locs ls hP hS hl
    unfold jn_X6_readSeparator_33 at hf
    refine lv_iconst (v := (1 : Int32)) hx hb dX6_readSeparator_33 (by decide) ?_
    refine lv_goto (tgt := 38) hx hb dX6_readSeparator_34 (by decide) ?_
    exact jn38 (1 : Int32) M_3 hf H locs ls hP hS (lv_sub hl [0, 1] rfl)
  unfold fn_X6_readSeparator at hf
  have key : ∀ (H : Heap) (locs : List Loc), wd X M H → va_S X.A s.heap H locs → WW p l e 1 20 s m [.ref (X.ad 47), .int x1, .ref (X.ad k2)] below meth c X (Qi X r M9) H locs 0 ls [] := by
    intro H locs hP hS
    refine lv_iload_n hx hb dX6_readSeparator_0 rfl (lv_at hl 1 rfl) ?_
    refine lv_bipush (v := (59 : Int32)) hx hb dX6_readSeparator_1 (by decide) ?_
    refine lv_icmp_ne (tgt := 11) hx hb dX6_readSeparator_3 (by decide) (fun c_1 => ?_) (fun c_1 => ?_)
    · have hf := i_f c_1 hf
      refine lv_aload_n hx hb dX6_readSeparator_11 rfl (lv_at hl 0 rfl) ?_
      refine gX6_6 hx hb hts hown hk hP wd_1_195 dX6_readSeparator_12 ?_
      refine lv_bipush (v := (8 : Int32)) hx hb dX6_readSeparator_15 (by decide) ?_
      refine lv_icmp_ge (tgt := 33) hx hb dX6_readSeparator_17 (by decide) (fun c_2 => ?_) (fun c_2 => ?_)
      · have hf := i_t c_2 hf
        exact jn33 M hf H locs ls hP hS (lv_sub hl [0, 1] rfl)
      · have hf := i_f c_2 hf
        refine lv_aload_n hx hb dX6_readSeparator_20 rfl (lv_at hl 2 rfl) ?_
        refine gX1_1 hx hb hts hown hk hP hk2 wd_1_36 dX6_readSeparator_21 ?_
        refine lv_aload_n hx hb dX6_readSeparator_24 rfl (lv_at hl 0 rfl) ?_
        refine gX6_6 hx hb hts hown hk hP wd_1_195 dX6_readSeparator_25 ?_
        obtain ⟨q_9, hf⟩ := g_if hf
        refine ald hx hb hk hP (isF_lt hk2) (rd_F2 hk2 _) q_9 dX6_readSeparator_28 ?_
        refine lv_iconst (v := (4 : Int32)) hx hb dX6_readSeparator_29 (by decide) ?_
        refine lv_icmp_lt (tgt := 37) hx hb dX6_readSeparator_30 (by decide) (fun c_10 => ?_) (fun c_10 => ?_)
        · have hf := i_t c_10 hf
          refine lv_iconst (v := (0 : Int32)) hx hb dX6_readSeparator_37 (by decide) ?_
          exact jn38 (0 : Int32) M hf H locs ls hP hS (lv_sub hl [0, 1] rfl)
        · have hf := i_f c_10 hf
          exact jn33 M hf H locs ls hP hS (lv_sub hl [0, 1] rfl)
    · have hf := i_t c_1 hf
      refine lv_aload_n hx hb dX6_readSeparator_6 rfl (lv_at hl 0 rfl) ?_
      obtain ⟨⟨r_11, M_12⟩, h_r_11, hf⟩ := b_d hf
      have hf := u2_e hf
      refine k_X6_beginPiece hZ hP hS hl.1 wd_2_39 ⟨Nat.le_of_ble_eq_true rfl, Nat.le_of_ble_eq_true rfl⟩ (Nat.le_of_ble_eq_true rfl) dX6_readSeparator_7 ⟨Nat.zero_le _, Nat.zero_le _⟩ h_r_11 (fun H locs hP hS => ?_)
      have hf := Option.some.inj hf
      obtain ⟨e1, e2⟩ := Prod.mk.inj hf
      rw [e2] at hP
      exact ret_i hx hb hr hlocks hP hS e1 dX6_readSeparator_10
  exact key s.heap [] hP hS
theorem hd_X6_readSeparator : Hd yX6_readSeparator 2 := by decide +kernel
theorem k_X6_readSeparator {p : Program} {l : Launch} {e : Env} {R : Room} {s : State} {m : MethodId} {args : Array Value} {below : List Frame} {meth : Method} {c : Code} {H : Heap} {locs : List Loc} {cells slots : Nat} {Q : State → Prop} {cc : ByteArray} {nL pc index : Nat} {ls : Array Slot} {rest : List Value} {X : En} {M : Mem} {H0 : Heap} {own : String} {x1 : Int32} {k2 : Nat} {r : Int32} {M9 : Mem} (hZ : Fx p c m s args X cc nL own) (hP : wd X M H) (hS : va_S X.A H0 H locs) (hsz : ls.size = nL) (hlk : Cond.methodLink own index yX6_readSeparator ∈ lw_u) (hR : 1 + 1 ≤ R.frames ∧ 8 + (4 + 11) + 20 ≤ R.locals) (hW : (rest.map fun v => v.category).sum ≤ 8) (hdg : decode cc pc = .ok (.invokevirtual index, 3)) (hcs : cells ≤ R.cells ∧ slots ≤ R.slots) (hk2 : isF k2) (hf : fn_X6_readSeparator x1 k2 M = some (r, M9))
    (kk : ∀ (H1 : Heap) (locs1 : List Loc), wd X M9 H1 → va_S X.A H0 H1 locs1 → W p l e R s m args below meth c H1 locs1 cells slots Q (F0 m (pc + 3) ls (.int r :: rest))) : W p l e R s m args below meth c H locs cells slots Q (F0 m pc ls (.ref (X.ad k2) :: .int x1 :: .ref (X.ad 47) :: rest)) :=
  cal_i (runV (As := [.int x1, .ref (X.ad k2)]) (rest := rest) hZ.1 hZ.2.1 hZ.2.2.1 hZ.2.2.2.1 hZ.2.2.2.2.1 hZ.2.2.2.2.2 hP (c_X6_readSeparator x1 k2 M hk2 r M9 hf) wd_2_38 wd_2_37 wd_p_1 wd_1_7 hd_X6_readSeparator (by decide) rfl rfl rfl hlk hR hsz rfl hW hdg hcs) hS kk
/-! FrameRaiser$Text.readSign -/
def jn_X6_readSign_16 (g : Nat) (k2 : Nat) (x1 : Int32) (M_2 : Mem) : Option (Int32 × Mem) :=
  if (M_2 47 4) = (3 : Int32) then
    ((fn_X6_readSeparator x1 k2 M_2).bind (u2 fun r_6 M_7 =>
    some (r_6, M_7)))
  else
    ((fn_X6_readDigit g x1 k2 M_2).bind (u2 fun r_4 M_5 =>
    some (r_4, M_5)))
def fn_X6_readSign (g : Nat) (x1 : Int32) (k2 : Nat) (M : Mem) : Option (Int32 × Mem) :=
  if x1 = (32 : Int32) then
    (if (M 47 4) = (2 : Int32) then
      (jn_X6_readSign_16 g k2 x1 M)
    else
      (some ((0 : Int32), M)))
  else
    (jn_X6_readSign_16 g k2 x1 M)
theorem dX6_readSign_0 : decode cX6_readSign 0 = .ok (.iload_n 1, 1) := by decide +kernel
theorem dX6_readSign_1 : decode cX6_readSign 1 = .ok (.bipush 32, 2) := by decide +kernel
theorem dX6_readSign_3 : decode cX6_readSign 3 = .ok (.if_icmp .ne 13, 3) := by decide +kernel
theorem dX6_readSign_6 : decode cX6_readSign 6 = .ok (.aload_n 0, 1) := by decide +kernel
theorem dX6_readSign_7 : decode cX6_readSign 7 = .ok (.getfield 31, 3) := by decide +kernel
theorem dX6_readSign_10 : decode cX6_readSign 10 = .ok (.iconst 2, 1) := by decide +kernel
theorem dX6_readSign_11 : decode cX6_readSign 11 = .ok (.if_icmp .eq 5, 3) := by decide +kernel
theorem dX6_readSign_14 : decode cX6_readSign 14 = .ok (.iconst 0, 1) := by decide +kernel
theorem dX6_readSign_15 : decode cX6_readSign 15 = .ok (.ireturn, 1) := by decide +kernel
theorem dX6_readSign_16 : decode cX6_readSign 16 = .ok (.aload_n 0, 1) := by decide +kernel
theorem dX6_readSign_17 : decode cX6_readSign 17 = .ok (.getfield 31, 3) := by decide +kernel
theorem dX6_readSign_20 : decode cX6_readSign 20 = .ok (.iconst 3, 1) := by decide +kernel
theorem dX6_readSign_21 : decode cX6_readSign 21 = .ok (.if_icmp .ne 12, 3) := by decide +kernel
theorem dX6_readSign_24 : decode cX6_readSign 24 = .ok (.aload_n 0, 1) := by decide +kernel
theorem dX6_readSign_25 : decode cX6_readSign 25 = .ok (.iload_n 1, 1) := by decide +kernel
theorem dX6_readSign_26 : decode cX6_readSign 26 = .ok (.aload_n 2, 1) := by decide +kernel
theorem dX6_readSign_27 : decode cX6_readSign 27 = .ok (.invokevirtual 47, 3) := by decide +kernel
theorem dX6_readSign_30 : decode cX6_readSign 30 = .ok (.goto 9, 3) := by decide +kernel
theorem dX6_readSign_33 : decode cX6_readSign 33 = .ok (.aload_n 0, 1) := by decide +kernel
theorem dX6_readSign_34 : decode cX6_readSign 34 = .ok (.iload_n 1, 1) := by decide +kernel
theorem dX6_readSign_35 : decode cX6_readSign 35 = .ok (.aload_n 2, 1) := by decide +kernel
theorem dX6_readSign_36 : decode cX6_readSign 36 = .ok (.invokevirtual 50, 3) := by decide +kernel
theorem dX6_readSign_39 : decode cX6_readSign 39 = .ok (.ireturn, 1) := by decide +kernel
set_option maxHeartbeats 4000000 in
set_option maxRecDepth 100000 in
theorem c_X6_readSign {l : Launch} {X : En} (g : Nat) (x1 : Int32) (k2 : Nat) (M : Mem) (hk2 : isF k2) (r : Int32) (M9 : Mem) (hf : fn_X6_readSign g x1 k2 M = some (r, M9)) : Cn l X yX6_readSign cX6_readSign 3 (some .int) 4 90 [.ref (X.ad 47), .int x1, .ref (X.ad k2)] M (Qi X r M9) := by
  refine Met.ofW (cc := cX6_readSign) (maxL := 3) (ret := (some .int)) (by decide) rfl ?_
  intro p e s m args below meth c s₁ B hml hv
  obtain ⟨rfl, hP, hk⟩ := hv
  have hx := B.exec
  have hb := B.bytes
  have hr := B.returns
  have hlocks := B.notSynchronized
  have hts : ∀ w ∈ lw_u, w.before ([.ref (X.ad 47), .int x1, .ref (X.ad k2)] : List Value).toArray s = true := fun w hw => atoms_spec (ws := Cond.code yX6_readSign cX6_readSign 3 (some .int) :: lw_u) B.pre w (List.mem_cons_of_mem _ hw)
  have hown : s.vm.findClass RX6 = some m.cls := findClass_of_methodNamed B.named
  have hZ : Fx p c m s ([.ref (X.ad 47), .int x1, .ref (X.ad k2)] : List Value).toArray X cX6_readSign 3 RX6 := ⟨hx, hb, hml, hts, hown, hk⟩
  have hS : va_S X.A s.heap s.heap [] := va_S.rf
  have hl := lv_entry ([.ref (X.ad 47), .int x1, .ref (X.ad k2)]) (n := 3) (Nat.le_of_ble_eq_true rfl)
  rw [lg_entry_eq]
  generalize (lg_sl ([.ref (X.ad 47), .int x1, .ref (X.ad k2)]) ++ List.replicate (3 - (lg_sl ([.ref (X.ad 47), .int x1, .ref (X.ad k2)])).length) Slot.unset).toArray = ls at hl ⊢
  have hl : lv_has ls 3 [(0, .ref (X.ad 47)), (1, .int x1), (2, .ref (X.ad k2))] := hl
  show WW p l e 4 90 s m [.ref (X.ad 47), .int x1, .ref (X.ad k2)] below meth c X (Qi X r M9) s.heap [] 0 ls []
  have hP : wd X M s.heap := hP
  have jn16 : ∀  (M_2 : Mem), jn_X6_readSign_16 g k2 x1 M_2 = some (r, M9) → ∀ (H : Heap) (locs : List Loc) (ls : Array Slot), wd X M_2 H → va_S X.A s.heap H locs → lv_has ls 3 [(0, .ref (X.ad 47)), (1, .int x1), (2, .ref (X.ad k2))] → WW p l e 4 90 s m [.ref (X.ad 47), .int x1, .ref (X.ad k2)] below meth c X (Qi X r M9) H locs 16 ls [] := by
    intro  M_2 hf H locs ls hP hS hl
    unfold jn_X6_readSign_16 at hf
    refine lv_aload_n hx hb dX6_readSign_16 rfl (lv_at hl 0 rfl) ?_
    refine gX6_4 hx hb hts hown hk hP wd_1_193 dX6_readSign_17 ?_
    refine lv_iconst (v := (3 : Int32)) hx hb dX6_readSign_20 (by decide) ?_
    refine lv_icmp_ne (tgt := 33) hx hb dX6_readSign_21 (by decide) (fun c_3 => ?_) (fun c_3 => ?_)
    · have hf := i_f c_3 hf
      refine lv_aload_n hx hb dX6_readSign_33 rfl (lv_at hl 0 rfl) ?_
      refine lv_iload_n hx hb dX6_readSign_34 rfl (lv_at hl 1 rfl) ?_
      refine lv_aload_n hx hb dX6_readSign_35 rfl (lv_at hl 2 rfl) ?_
      obtain ⟨⟨r_4, M_5⟩, h_r_4, hf⟩ := b_d hf
      have hf := u2_e hf
      refine k_X6_readDigit hZ hP hS hl.1 wd_2_43 ⟨Nat.le_of_ble_eq_true rfl, Nat.le_of_ble_eq_true rfl⟩ (Nat.le_of_ble_eq_true rfl) dX6_readSign_36 ⟨Nat.zero_le _, Nat.zero_le _⟩ hk2 h_r_4 (fun H locs hP hS => ?_)
      have hf := Option.some.inj hf
      obtain ⟨e1, e2⟩ := Prod.mk.inj hf
      rw [e2] at hP
      exact ret_i hx hb hr hlocks hP hS e1 dX6_readSign_39
    · have hf := i_t c_3 hf
      refine lv_aload_n hx hb dX6_readSign_24 rfl (lv_at hl 0 rfl) ?_
      refine lv_iload_n hx hb dX6_readSign_25 rfl (lv_at hl 1 rfl) ?_
      refine lv_aload_n hx hb dX6_readSign_26 rfl (lv_at hl 2 rfl) ?_
      obtain ⟨⟨r_6, M_7⟩, h_r_6, hf⟩ := b_d hf
      have hf := u2_e hf
      refine k_X6_readSeparator hZ hP hS hl.1 wd_2_35 ⟨Nat.le_of_ble_eq_true rfl, Nat.le_of_ble_eq_true rfl⟩ (Nat.le_of_ble_eq_true rfl) dX6_readSign_27 ⟨Nat.zero_le _, Nat.zero_le _⟩ hk2 h_r_6 (fun H locs hP hS => ?_)
      refine lv_goto (tgt := 39) hx hb dX6_readSign_30 (by decide) ?_
      have hf := Option.some.inj hf
      obtain ⟨e1, e2⟩ := Prod.mk.inj hf
      rw [e2] at hP
      exact ret_i hx hb hr hlocks hP hS e1 dX6_readSign_39
  unfold fn_X6_readSign at hf
  have key : ∀ (H : Heap) (locs : List Loc), wd X M H → va_S X.A s.heap H locs → WW p l e 4 90 s m [.ref (X.ad 47), .int x1, .ref (X.ad k2)] below meth c X (Qi X r M9) H locs 0 ls [] := by
    intro H locs hP hS
    refine lv_iload_n hx hb dX6_readSign_0 rfl (lv_at hl 1 rfl) ?_
    refine lv_bipush (v := (32 : Int32)) hx hb dX6_readSign_1 (by decide) ?_
    refine lv_icmp_ne (tgt := 16) hx hb dX6_readSign_3 (by decide) (fun c_1 => ?_) (fun c_1 => ?_)
    · have hf := i_f c_1 hf
      exact jn16 M hf H locs ls hP hS (lv_sub hl [0, 1, 2] rfl)
    · have hf := i_t c_1 hf
      refine lv_aload_n hx hb dX6_readSign_6 rfl (lv_at hl 0 rfl) ?_
      refine gX6_4 hx hb hts hown hk hP wd_1_193 dX6_readSign_7 ?_
      refine lv_iconst (v := (2 : Int32)) hx hb dX6_readSign_10 (by decide) ?_
      refine lv_icmp_eq (tgt := 16) hx hb dX6_readSign_11 (by decide) (fun c_8 => ?_) (fun c_8 => ?_)
      · have hf := i_t c_8 hf
        exact jn16 M hf H locs ls hP hS (lv_sub hl [0, 1, 2] rfl)
      · have hf := i_f c_8 hf
        refine lv_iconst (v := (0 : Int32)) hx hb dX6_readSign_14 (by decide) ?_
        have hf := Option.some.inj hf
        obtain ⟨e1, e2⟩ := Prod.mk.inj hf
        rw [e2] at hP
        exact ret_i hx hb hr hlocks hP hS e1 dX6_readSign_15
  exact key s.heap [] hP hS
theorem hd_X6_readSign : Hd yX6_readSign 2 := by decide +kernel
theorem k_X6_readSign {p : Program} {l : Launch} {e : Env} {R : Room} {s : State} {m : MethodId} {args : Array Value} {below : List Frame} {meth : Method} {c : Code} {H : Heap} {locs : List Loc} {cells slots : Nat} {Q : State → Prop} {cc : ByteArray} {nL pc index : Nat} {ls : Array Slot} {rest : List Value} {X : En} {M : Mem} {H0 : Heap} {own : String} {g : Nat} {x1 : Int32} {k2 : Nat} {r : Int32} {M9 : Mem} (hZ : Fx p c m s args X cc nL own) (hP : wd X M H) (hS : va_S X.A H0 H locs) (hsz : ls.size = nL) (hlk : Cond.methodLink own index yX6_readSign ∈ lw_u) (hR : 4 + 1 ≤ R.frames ∧ 8 + (3 + 11) + 90 ≤ R.locals) (hW : (rest.map fun v => v.category).sum ≤ 8) (hdg : decode cc pc = .ok (.invokevirtual index, 3)) (hcs : cells ≤ R.cells ∧ slots ≤ R.slots) (hk2 : isF k2) (hf : fn_X6_readSign g x1 k2 M = some (r, M9))
    (kk : ∀ (H1 : Heap) (locs1 : List Loc), wd X M9 H1 → va_S X.A H0 H1 locs1 → W p l e R s m args below meth c H1 locs1 cells slots Q (F0 m (pc + 3) ls (.int r :: rest))) : W p l e R s m args below meth c H locs cells slots Q (F0 m pc ls (.ref (X.ad k2) :: .int x1 :: .ref (X.ad 47) :: rest)) :=
  cal_i (runV (As := [.int x1, .ref (X.ad k2)]) (rest := rest) hZ.1 hZ.2.1 hZ.2.2.1 hZ.2.2.2.1 hZ.2.2.2.2.1 hZ.2.2.2.2.2 hP (c_X6_readSign g x1 k2 M hk2 r M9 hf) wd_2_34 wd_2_33 wd_p_0 wd_1_7 hd_X6_readSign (by decide) rfl rfl rfl hlk hR hsz rfl hW hdg hcs) hS kk
/-! FrameRaiser$Text.readInto -/
def bd_X6_readInto_21 (g : Nat) (k1 : Nat) : (Int32 × Mem) → Option ((Int32 × Mem) ⊕ ((Mem) ⊕ (Int32 × Mem))) :=
  u2 fun v2_5 M_6 =>
  if (M_6 47 0) ≤ v2_5 then
    (some (.inr (.inl M_6)))
  else
    (if (80 : Int32) ≤ v2_5 then
      (some (.inr (.inl M_6)))
    else
      (if inb v2_5 80 then
      (fn_X6_readSign g (M_6 48 (ix v2_5)) k1 M_6).bind (u2 fun r_11 M_12 =>
      bv (st M_12 47 1 r_11) fun M_13 =>
      if (M_13 47 1) = 0 then
        (some (.inl (v2_5 + (1 : Int32), M_13)))
      else
        (some (.inr (.inr (v2_5, M_13)))))
      else none))
def jn_X6_readInto_87 (s_17 : Int32) (M_18 : Mem) : Option (Int32 × Mem) :=
  bv (st M_18 47 1 s_17) fun M_19 =>
  some (M_19 47 0, M_19)
def jn_X6_readInto_82 (M_16 : Mem) : Option (Int32 × Mem) :=
  jn_X6_readInto_87 (1 : Int32) M_16
def fn_X6_readInto (g : Nat) (k1 : Nat) (M : Mem) : Option (Int32 × Mem) :=
  (fn_X1_empty g k1 M).bind fun M_1 =>
  bv (st M_1 47 4 (0 : Int32)) fun M_2 =>
  bv (st M_2 47 5 (0 : Int32)) fun M_3 =>
  bv (st M_3 47 6 (0 : Int32)) fun M_4 =>
  (lpN g (bd_X6_readInto_21 g k1) ((0 : Int32), M_4)).bind (el (u1 fun M_7 =>
    if (M_7 47 4) = (1 : Int32) then
      (jn_X6_readInto_82 M_7)
    else
      (if (M_7 47 4) = (2 : Int32) then
        (jn_X6_readInto_82 M_7)
      else
        (jn_X6_readInto_87 (0 : Int32) M_7))) (fun rr => some rr))
theorem dX6_readInto_0 : decode cX6_readInto 0 = .ok (.aload_n 1, 1) := by decide +kernel
theorem dX6_readInto_1 : decode cX6_readInto 1 = .ok (.invokevirtual 26, 3) := by decide +kernel
theorem dX6_readInto_4 : decode cX6_readInto 4 = .ok (.aload_n 0, 1) := by decide +kernel
theorem dX6_readInto_5 : decode cX6_readInto 5 = .ok (.iconst 0, 1) := by decide +kernel
theorem dX6_readInto_6 : decode cX6_readInto 6 = .ok (.putfield 31, 3) := by decide +kernel
theorem dX6_readInto_9 : decode cX6_readInto 9 = .ok (.aload_n 0, 1) := by decide +kernel
theorem dX6_readInto_10 : decode cX6_readInto 10 = .ok (.iconst 0, 1) := by decide +kernel
theorem dX6_readInto_11 : decode cX6_readInto 11 = .ok (.putfield 34, 3) := by decide +kernel
theorem dX6_readInto_14 : decode cX6_readInto 14 = .ok (.aload_n 0, 1) := by decide +kernel
theorem dX6_readInto_15 : decode cX6_readInto 15 = .ok (.iconst 0, 1) := by decide +kernel
theorem dX6_readInto_16 : decode cX6_readInto 16 = .ok (.putfield 37, 3) := by decide +kernel
theorem dX6_readInto_19 : decode cX6_readInto 19 = .ok (.iconst 0, 1) := by decide +kernel
theorem dX6_readInto_20 : decode cX6_readInto 20 = .ok (.istore_n 2, 1) := by decide +kernel
theorem dX6_readInto_21 : decode cX6_readInto 21 = .ok (.iload_n 2, 1) := by decide +kernel
theorem dX6_readInto_22 : decode cX6_readInto 22 = .ok (.aload_n 0, 1) := by decide +kernel
theorem dX6_readInto_23 : decode cX6_readInto 23 = .ok (.getfield 22, 3) := by decide +kernel
theorem dX6_readInto_26 : decode cX6_readInto 26 = .ok (.if_icmp .ge 39, 3) := by decide +kernel
theorem dX6_readInto_29 : decode cX6_readInto 29 = .ok (.iload_n 2, 1) := by decide +kernel
theorem dX6_readInto_30 : decode cX6_readInto 30 = .ok (.bipush 80, 2) := by decide +kernel
theorem dX6_readInto_32 : decode cX6_readInto 32 = .ok (.if_icmp .ge 33, 3) := by decide +kernel
theorem dX6_readInto_35 : decode cX6_readInto 35 = .ok (.aload_n 0, 1) := by decide +kernel
theorem dX6_readInto_36 : decode cX6_readInto 36 = .ok (.aload_n 0, 1) := by decide +kernel
theorem dX6_readInto_37 : decode cX6_readInto 37 = .ok (.aload_n 0, 1) := by decide +kernel
theorem dX6_readInto_38 : decode cX6_readInto 38 = .ok (.getfield 9, 3) := by decide +kernel
theorem dX6_readInto_41 : decode cX6_readInto 41 = .ok (.iload_n 2, 1) := by decide +kernel
theorem dX6_readInto_42 : decode cX6_readInto 42 = .ok (.iaload, 1) := by decide +kernel
theorem dX6_readInto_43 : decode cX6_readInto 43 = .ok (.aload_n 1, 1) := by decide +kernel
theorem dX6_readInto_44 : decode cX6_readInto 44 = .ok (.invokevirtual 40, 3) := by decide +kernel
theorem dX6_readInto_47 : decode cX6_readInto 47 = .ok (.putfield 44, 3) := by decide +kernel
theorem dX6_readInto_50 : decode cX6_readInto 50 = .ok (.aload_n 0, 1) := by decide +kernel
theorem dX6_readInto_51 : decode cX6_readInto 51 = .ok (.getfield 44, 3) := by decide +kernel
theorem dX6_readInto_54 : decode cX6_readInto 54 = .ok (.ifCond .eq 5, 3) := by decide +kernel
theorem dX6_readInto_57 : decode cX6_readInto 57 = .ok (.iload_n 2, 1) := by decide +kernel
theorem dX6_readInto_58 : decode cX6_readInto 58 = .ok (.ireturn, 1) := by decide +kernel
theorem dX6_readInto_59 : decode cX6_readInto 59 = .ok (.iinc 2 1, 3) := by decide +kernel
theorem dX6_readInto_62 : decode cX6_readInto 62 = .ok (.goto (-41), 3) := by decide +kernel
theorem dX6_readInto_65 : decode cX6_readInto 65 = .ok (.aload_n 0, 1) := by decide +kernel
theorem dX6_readInto_66 : decode cX6_readInto 66 = .ok (.aload_n 0, 1) := by decide +kernel
theorem dX6_readInto_67 : decode cX6_readInto 67 = .ok (.getfield 31, 3) := by decide +kernel
theorem dX6_readInto_70 : decode cX6_readInto 70 = .ok (.iconst 1, 1) := by decide +kernel
theorem dX6_readInto_71 : decode cX6_readInto 71 = .ok (.if_icmp .eq 11, 3) := by decide +kernel
theorem dX6_readInto_74 : decode cX6_readInto 74 = .ok (.aload_n 0, 1) := by decide +kernel
theorem dX6_readInto_75 : decode cX6_readInto 75 = .ok (.getfield 31, 3) := by decide +kernel
theorem dX6_readInto_78 : decode cX6_readInto 78 = .ok (.iconst 2, 1) := by decide +kernel
theorem dX6_readInto_79 : decode cX6_readInto 79 = .ok (.if_icmp .ne 7, 3) := by decide +kernel
theorem dX6_readInto_82 : decode cX6_readInto 82 = .ok (.iconst 1, 1) := by decide +kernel
theorem dX6_readInto_83 : decode cX6_readInto 83 = .ok (.goto 4, 3) := by decide +kernel
theorem dX6_readInto_86 : decode cX6_readInto 86 = .ok (.iconst 0, 1) := by decide +kernel
theorem dX6_readInto_87 : decode cX6_readInto 87 = .ok (.putfield 44, 3) := by decide +kernel
theorem dX6_readInto_90 : decode cX6_readInto 90 = .ok (.aload_n 0, 1) := by decide +kernel
theorem dX6_readInto_91 : decode cX6_readInto 91 = .ok (.getfield 22, 3) := by decide +kernel
theorem dX6_readInto_94 : decode cX6_readInto 94 = .ok (.ireturn, 1) := by decide +kernel
set_option maxHeartbeats 4000000 in
set_option maxRecDepth 100000 in
theorem c_X6_readInto {l : Launch} {X : En} (g : Nat) (k1 : Nat) (M : Mem) (hk1 : isF k1) (r : Int32) (M9 : Mem) (hf : fn_X6_readInto g k1 M = some (r, M9)) : Cn l X yX6_readInto cX6_readInto 3 (some .int) 5 112 [.ref (X.ad 47), .ref (X.ad k1)] M (Qi X r M9) := by
  refine Met.ofW (cc := cX6_readInto) (maxL := 3) (ret := (some .int)) (by decide) rfl ?_
  intro p e s m args below meth c s₁ B hml hv
  obtain ⟨rfl, hP, hk⟩ := hv
  have hx := B.exec
  have hb := B.bytes
  have hr := B.returns
  have hlocks := B.notSynchronized
  have hts : ∀ w ∈ lw_u, w.before ([.ref (X.ad 47), .ref (X.ad k1)] : List Value).toArray s = true := fun w hw => atoms_spec (ws := Cond.code yX6_readInto cX6_readInto 3 (some .int) :: lw_u) B.pre w (List.mem_cons_of_mem _ hw)
  have hown : s.vm.findClass RX6 = some m.cls := findClass_of_methodNamed B.named
  have hZ : Fx p c m s ([.ref (X.ad 47), .ref (X.ad k1)] : List Value).toArray X cX6_readInto 3 RX6 := ⟨hx, hb, hml, hts, hown, hk⟩
  have hS : va_S X.A s.heap s.heap [] := va_S.rf
  have hl := lv_entry ([.ref (X.ad 47), .ref (X.ad k1)]) (n := 3) (Nat.le_of_ble_eq_true rfl)
  rw [lg_entry_eq]
  generalize (lg_sl ([.ref (X.ad 47), .ref (X.ad k1)]) ++ List.replicate (3 - (lg_sl ([.ref (X.ad 47), .ref (X.ad k1)])).length) Slot.unset).toArray = ls at hl ⊢
  have hl : lv_has ls 3 [(0, .ref (X.ad 47)), (1, .ref (X.ad k1))] := hl
  show WW p l e 5 112 s m [.ref (X.ad 47), .ref (X.ad k1)] below meth c X (Qi X r M9) s.heap [] 0 ls []
  have hP : wd X M s.heap := hP
  have jn87 : ∀ (s_17 : Int32) (M_18 : Mem), jn_X6_readInto_87 s_17 M_18 = some (r, M9) → ∀ (H : Heap) (locs : List Loc) (ls : Array Slot), wd X M_18 H → va_S X.A s.heap H locs → lv_has ls 3 [(0, .ref (X.ad 47))] → WW p l e 5 112 s m [.ref (X.ad 47), .ref (X.ad k1)] below meth c X (Qi X r M9) H locs 87 ls [.int s_17, .ref (X.ad 47)] := by
    intro s_17 M_18 hf H locs ls hP hS hl
    unfold jn_X6_readInto_87 at hf
    refine pX6_1 hx hb hts hown hk hP hS wd_1_189 dX6_readInto_87 (fun H locs M_19 e_M_19 hP hS => ?_)
    have hf := b_v hf e_M_19
    refine lv_aload_n hx hb dX6_readInto_90 rfl (lv_at hl 0 rfl) ?_
    refine gX6_0 hx hb hts hown hk hP wd_1_187 dX6_readInto_91 ?_
    have hf := Option.some.inj hf
    obtain ⟨e1, e2⟩ := Prod.mk.inj hf
    rw [e2] at hP
    exact ret_i hx hb hr hlocks hP hS e1 dX6_readInto_94
  have jn82 : ∀  (M_16 : Mem), jn_X6_readInto_82 M_16 = some (r, M9) → ∀ (H : Heap) (locs : List Loc) (ls : Array Slot), wd X M_16 H → va_S X.A s.heap H locs → lv_has ls 3 [(0, .ref (X.ad 47))] → WW p l e 5 112 s m [.ref (X.ad 47), .ref (X.ad k1)] below meth c X (Qi X r M9) H locs 82 ls [.ref (X.ad 47)] := by
    intro  M_16 hf H locs ls hP hS hl
    unfold jn_X6_readInto_82 at hf
    refine lv_iconst (v := (1 : Int32)) hx hb dX6_readInto_82 (by decide) ?_
    refine lv_goto (tgt := 87) hx hb dX6_readInto_83 (by decide) ?_
    exact jn87 (1 : Int32) M_16 hf H locs ls hP hS (lv_sub hl [0] rfl)
  unfold fn_X6_readInto at hf
  have key : ∀ (H : Heap) (locs : List Loc), wd X M H → va_S X.A s.heap H locs → WW p l e 5 112 s m [.ref (X.ad 47), .ref (X.ad k1)] below meth c X (Qi X r M9) H locs 0 ls [] := by
    intro H locs hP hS
    refine lv_aload_n hx hb dX6_readInto_0 rfl (lv_at hl 1 rfl) ?_
    obtain ⟨M_1, h_M_1, hf⟩ := b_d hf
    refine k_X1_empty hZ hP hS hl.1 wd_2_30 ⟨Nat.le_of_ble_eq_true rfl, Nat.le_of_ble_eq_true rfl⟩ (Nat.le_of_ble_eq_true rfl) dX6_readInto_1 ⟨Nat.zero_le _, Nat.zero_le _⟩ hk1 h_M_1 (fun H locs hP hS => ?_)
    refine lv_aload_n hx hb dX6_readInto_4 rfl (lv_at hl 0 rfl) ?_
    refine lv_iconst (v := (0 : Int32)) hx hb dX6_readInto_5 (by decide) ?_
    refine pX6_4 hx hb hts hown hk hP hS wd_1_193 dX6_readInto_6 (fun H locs M_2 e_M_2 hP hS => ?_)
    have hf := b_v hf e_M_2
    refine lv_aload_n hx hb dX6_readInto_9 rfl (lv_at hl 0 rfl) ?_
    refine lv_iconst (v := (0 : Int32)) hx hb dX6_readInto_10 (by decide) ?_
    refine pX6_5 hx hb hts hown hk hP hS wd_1_194 dX6_readInto_11 (fun H locs M_3 e_M_3 hP hS => ?_)
    have hf := b_v hf e_M_3
    refine lv_aload_n hx hb dX6_readInto_14 rfl (lv_at hl 0 rfl) ?_
    refine lv_iconst (v := (0 : Int32)) hx hb dX6_readInto_15 (by decide) ?_
    refine pX6_6 hx hb hts hown hk hP hS wd_1_195 dX6_readInto_16 (fun H locs M_4 e_M_4 hP hS => ?_)
    have hf := b_v hf e_M_4
    refine lv_iconst (v := (0 : Int32)) hx hb dX6_readInto_19 (by decide) ?_
    refine lv_istore_n (lv' := [(2, .int (0 : Int32)), (0, .ref (X.ad 47)), (1, .ref (X.ad k1))]) hx hb dX6_readInto_20 rfl hl (by decide) rfl (fun ls hl => ?_)
    obtain ⟨o21, ho21, hf⟩ := b_d hf
    refine lp_rule (b := bd_X6_readInto_21 g k1) (P := fun w : Int32 × Mem => ∀ (H : Heap) (locs : List Loc) (ls : Array Slot), wd X w.2 H → va_S X.A s.heap H locs → lv_has ls 3 [(2, .int w.1), (0, .ref (X.ad 47)), (1, .ref (X.ad k1))] → WW p l e 5 112 s m [.ref (X.ad 47), .ref (X.ad k1)] below meth c X (Qi X r M9) H locs 21 ls []) (K := fun o => (∀ (M_7 : Mem), o = .inl M_7 → ∀ (H : Heap) (locs : List Loc) (ls : Array Slot), wd X M_7 H → va_S X.A s.heap H locs → lv_has ls 3 [(0, .ref (X.ad 47))] → WW p l e 5 112 s m [.ref (X.ad 47), .ref (X.ad k1)] below meth c X (Qi X r M9) H locs 65 ls []) ∧ (∀ rr : Int32 × Mem, o = .inr rr → rr = (r, M9))) ?_ g ((0 : Int32), M_4) o21 ho21 ?_ H locs ls hP hS (lv_sub hl [0, 1, 2] rfl)
    · rintro ⟨v2_5, M_6⟩ o hf hkc21 hke21 H locs ls hP hS hl
      have hf := u2_e hf
      refine lv_iload_n hx hb dX6_readInto_21 rfl (lv_at hl 0 rfl) ?_
      refine lv_aload_n hx hb dX6_readInto_22 rfl (lv_at hl 1 rfl) ?_
      refine gX6_0 hx hb hts hown hk hP wd_1_187 dX6_readInto_23 ?_
      refine lv_icmp_ge (tgt := 65) hx hb dX6_readInto_26 (by decide) (fun c_8 => ?_) (fun c_8 => ?_)
      · have hf := i_t c_8 hf
        exact (hke21 _ (Option.some.inj hf).symm).1 _ rfl H locs ls hP hS (lv_sub hl [1] rfl)
      · have hf := i_f c_8 hf
        refine lv_iload_n hx hb dX6_readInto_29 rfl (lv_at hl 0 rfl) ?_
        refine lv_bipush (v := (80 : Int32)) hx hb dX6_readInto_30 (by decide) ?_
        refine lv_icmp_ge (tgt := 65) hx hb dX6_readInto_32 (by decide) (fun c_9 => ?_) (fun c_9 => ?_)
        · have hf := i_t c_9 hf
          exact (hke21 _ (Option.some.inj hf).symm).1 _ rfl H locs ls hP hS (lv_sub hl [1] rfl)
        · have hf := i_f c_9 hf
          refine lv_aload_n hx hb dX6_readInto_35 rfl (lv_at hl 1 rfl) ?_
          refine lv_aload_n hx hb dX6_readInto_36 rfl (lv_at hl 1 rfl) ?_
          refine lv_aload_n hx hb dX6_readInto_37 rfl (lv_at hl 1 rfl) ?_
          refine gX6_2 hx hb hts hown hk hP wd_1_191 dX6_readInto_38 ?_
          refine lv_iload_n hx hb dX6_readInto_41 rfl (lv_at hl 0 rfl) ?_
          obtain ⟨q_10, hf⟩ := g_if hf
          refine ald hx hb hk hP (by decide) rfl q_10 dX6_readInto_42 ?_
          refine lv_aload_n hx hb dX6_readInto_43 rfl (lv_at hl 2 rfl) ?_
          obtain ⟨⟨r_11, M_12⟩, h_r_11, hf⟩ := b_d hf
          have hf := u2_e hf
          refine k_X6_readSign hZ hP hS hl.1 wd_2_31 ⟨Nat.le_of_ble_eq_true rfl, Nat.le_of_ble_eq_true rfl⟩ (Nat.le_of_ble_eq_true rfl) dX6_readInto_44 ⟨Nat.zero_le _, Nat.zero_le _⟩ hk1 h_r_11 (fun H locs hP hS => ?_)
          refine pX6_1 hx hb hts hown hk hP hS wd_1_189 dX6_readInto_47 (fun H locs M_13 e_M_13 hP hS => ?_)
          have hf := b_v hf e_M_13
          refine lv_aload_n hx hb dX6_readInto_50 rfl (lv_at hl 1 rfl) ?_
          refine gX6_1 hx hb hts hown hk hP wd_1_189 dX6_readInto_51 ?_
          refine lv_if_eq (tgt := 59) hx hb dX6_readInto_54 (by decide) (fun c_14 => ?_) (fun c_14 => ?_)
          · have hf := i_t c_14 hf
            refine lv_iinc (v := v2_5 + (1 : Int32)) (lv' := [(2, .int (v2_5 + (1 : Int32))), (0, .ref (X.ad 47)), (1, .ref (X.ad k1))]) hx hb dX6_readInto_59 hl (k := 0) rfl rfl (by decide) rfl (fun ls hl => ?_)
            refine lv_goto (tgt := 21) hx hb dX6_readInto_62 (by decide) ?_
            exact hkc21 _ (Option.some.inj hf).symm H locs ls hP hS (lv_sub hl [0, 1, 2] rfl)
          · have hf := i_f c_14 hf
            refine lv_iload_n hx hb dX6_readInto_57 rfl (lv_at hl 0 rfl) ?_
            have hf := (hke21 _ (Option.some.inj hf).symm).2 _ rfl
            obtain ⟨e1, e2⟩ := Prod.mk.inj hf
            rw [e2] at hP
            exact ret_i hx hb hr hlocks hP hS e1 dX6_readInto_58
    · refine ⟨?_, ?_⟩
      · intro M_7 e H locs ls hP hS hl
        subst o21
        have hf := el_l hf
        have hf := u1_e hf
        refine lv_aload_n hx hb dX6_readInto_65 rfl (lv_at hl 0 rfl) ?_
        refine lv_aload_n hx hb dX6_readInto_66 rfl (lv_at hl 0 rfl) ?_
        refine gX6_4 hx hb hts hown hk hP wd_1_193 dX6_readInto_67 ?_
        refine lv_iconst (v := (1 : Int32)) hx hb dX6_readInto_70 (by decide) ?_
        refine lv_icmp_eq (tgt := 82) hx hb dX6_readInto_71 (by decide) (fun c_15 => ?_) (fun c_15 => ?_)
        · have hf := i_t c_15 hf
          exact jn82 M_7 hf H locs ls hP hS (lv_sub hl [0] rfl)
        · have hf := i_f c_15 hf
          refine lv_aload_n hx hb dX6_readInto_74 rfl (lv_at hl 0 rfl) ?_
          refine gX6_4 hx hb hts hown hk hP wd_1_193 dX6_readInto_75 ?_
          refine lv_iconst (v := (2 : Int32)) hx hb dX6_readInto_78 (by decide) ?_
          refine lv_icmp_ne (tgt := 86) hx hb dX6_readInto_79 (by decide) (fun c_20 => ?_) (fun c_20 => ?_)
          · have hf := i_f c_20 hf
            refine lv_iconst (v := (0 : Int32)) hx hb dX6_readInto_86 (by decide) ?_
            exact jn87 (0 : Int32) M_7 hf H locs ls hP hS (lv_sub hl [0] rfl)
          · have hf := i_t c_20 hf
            exact jn82 M_7 hf H locs ls hP hS (lv_sub hl [0] rfl)
      · intro rr e
        subst o21
        have hf := el_r hf
        exact Option.some.inj hf
  exact key s.heap [] hP hS
theorem hd_X6_readInto : Hd yX6_readInto 1 := by decide +kernel
theorem k_X6_readInto {p : Program} {l : Launch} {e : Env} {R : Room} {s : State} {m : MethodId} {args : Array Value} {below : List Frame} {meth : Method} {c : Code} {H : Heap} {locs : List Loc} {cells slots : Nat} {Q : State → Prop} {cc : ByteArray} {nL pc index : Nat} {ls : Array Slot} {rest : List Value} {X : En} {M : Mem} {H0 : Heap} {own : String} {g : Nat} {k1 : Nat} {r : Int32} {M9 : Mem} (hZ : Fx p c m s args X cc nL own) (hP : wd X M H) (hS : va_S X.A H0 H locs) (hsz : ls.size = nL) (hlk : Cond.methodLink own index yX6_readInto ∈ lw_u) (hR : 5 + 1 ≤ R.frames ∧ 8 + (3 + 11) + 112 ≤ R.locals) (hW : (rest.map fun v => v.category).sum ≤ 8) (hdg : decode cc pc = .ok (.invokevirtual index, 3)) (hcs : cells ≤ R.cells ∧ slots ≤ R.slots) (hk1 : isF k1) (hf : fn_X6_readInto g k1 M = some (r, M9))
    (kk : ∀ (H1 : Heap) (locs1 : List Loc), wd X M9 H1 → va_S X.A H0 H1 locs1 → W p l e R s m args below meth c H1 locs1 cells slots Q (F0 m (pc + 3) ls (.int r :: rest))) : W p l e R s m args below meth c H locs cells slots Q (F0 m pc ls (.ref (X.ad k1) :: .ref (X.ad 47) :: rest)) :=
  cal_i (runV (As := [.ref (X.ad k1)]) (rest := rest) hZ.1 hZ.2.1 hZ.2.2.1 hZ.2.2.2.1 hZ.2.2.2.2.1 hZ.2.2.2.2.2 hP (c_X6_readInto g k1 M hk1 r M9 hf) wd_2_29 wd_2_27 wd_2_28 wd_1_7 hd_X6_readInto (by decide) rfl rfl rfl hlk hR hsz rfl hW hdg hcs) hS kk
/-! FrameRaiser$Frame.copyFrom -/
def fn_X1_copyFrom (k0 : Nat) (k1 : Nat) (M : Mem) : Option (Mem) :=
  bv (scp M (k1 + 1) (k0 + 1) 216) fun M_1 =>
  bv (scp M_1 (k1 + 2) (k0 + 2) 8) fun M_2 =>
  bv (st M_2 k0 2 (M_2 k1 2)) fun M_3 =>
  bv (st M_3 k0 3 (M_3 k1 3)) fun M_4 =>
  bv (st M_4 k0 4 (M_4 k1 4)) fun M_5 =>
  some M_5
theorem dX1_copyFrom_0 : decode cX1_copyFrom 0 = .ok (.aload_n 1, 1) := by decide +kernel
theorem dX1_copyFrom_1 : decode cX1_copyFrom 1 = .ok (.getfield 9, 3) := by decide +kernel
theorem dX1_copyFrom_4 : decode cX1_copyFrom 4 = .ok (.iconst 0, 1) := by decide +kernel
theorem dX1_copyFrom_5 : decode cX1_copyFrom 5 = .ok (.aload_n 0, 1) := by decide +kernel
theorem dX1_copyFrom_6 : decode cX1_copyFrom 6 = .ok (.getfield 9, 3) := by decide +kernel
theorem dX1_copyFrom_9 : decode cX1_copyFrom 9 = .ok (.iconst 0, 1) := by decide +kernel
theorem dX1_copyFrom_10 : decode cX1_copyFrom 10 = .ok (.sipush 216, 3) := by decide +kernel
theorem dX1_copyFrom_13 : decode cX1_copyFrom 13 = .ok (.invokestatic 31, 3) := by decide +kernel
theorem dX1_copyFrom_16 : decode cX1_copyFrom 16 = .ok (.aload_n 1, 1) := by decide +kernel
theorem dX1_copyFrom_17 : decode cX1_copyFrom 17 = .ok (.getfield 15, 3) := by decide +kernel
theorem dX1_copyFrom_20 : decode cX1_copyFrom 20 = .ok (.iconst 0, 1) := by decide +kernel
theorem dX1_copyFrom_21 : decode cX1_copyFrom 21 = .ok (.aload_n 0, 1) := by decide +kernel
theorem dX1_copyFrom_22 : decode cX1_copyFrom 22 = .ok (.getfield 15, 3) := by decide +kernel
theorem dX1_copyFrom_25 : decode cX1_copyFrom 25 = .ok (.iconst 0, 1) := by decide +kernel
theorem dX1_copyFrom_26 : decode cX1_copyFrom 26 = .ok (.bipush 8, 2) := by decide +kernel
theorem dX1_copyFrom_28 : decode cX1_copyFrom 28 = .ok (.invokestatic 31, 3) := by decide +kernel
theorem dX1_copyFrom_31 : decode cX1_copyFrom 31 = .ok (.aload_n 0, 1) := by decide +kernel
theorem dX1_copyFrom_32 : decode cX1_copyFrom 32 = .ok (.aload_n 1, 1) := by decide +kernel
theorem dX1_copyFrom_33 : decode cX1_copyFrom 33 = .ok (.getfield 21, 3) := by decide +kernel
theorem dX1_copyFrom_36 : decode cX1_copyFrom 36 = .ok (.putfield 21, 3) := by decide +kernel
theorem dX1_copyFrom_39 : decode cX1_copyFrom 39 = .ok (.aload_n 0, 1) := by decide +kernel
theorem dX1_copyFrom_40 : decode cX1_copyFrom 40 = .ok (.aload_n 1, 1) := by decide +kernel
theorem dX1_copyFrom_41 : decode cX1_copyFrom 41 = .ok (.getfield 25, 3) := by decide +kernel
theorem dX1_copyFrom_44 : decode cX1_copyFrom 44 = .ok (.putfield 25, 3) := by decide +kernel
theorem dX1_copyFrom_47 : decode cX1_copyFrom 47 = .ok (.aload_n 0, 1) := by decide +kernel
theorem dX1_copyFrom_48 : decode cX1_copyFrom 48 = .ok (.aload_n 1, 1) := by decide +kernel
theorem dX1_copyFrom_49 : decode cX1_copyFrom 49 = .ok (.getfield 28, 3) := by decide +kernel
theorem dX1_copyFrom_52 : decode cX1_copyFrom 52 = .ok (.putfield 28, 3) := by decide +kernel
theorem dX1_copyFrom_55 : decode cX1_copyFrom 55 = .ok (.return_, 1) := by decide +kernel
set_option maxHeartbeats 4000000 in
set_option maxRecDepth 100000 in
theorem c_X1_copyFrom {l : Launch} {X : En} (k0 : Nat) (k1 : Nat) (M : Mem) (hk0 : isF k0) (hk1 : isF k1) (M9 : Mem) (hf : fn_X1_copyFrom k0 k1 M = some M9) : Cn l X yX1_copyFrom cX1_copyFrom 2 none 1 40 [.ref (X.ad k0), .ref (X.ad k1)] M (Qv X M9) := by
  refine Met.ofW (cc := cX1_copyFrom) (maxL := 2) (ret := none) (by decide) rfl ?_
  intro p e s m args below meth c s₁ B hml hv
  obtain ⟨rfl, hP, hk⟩ := hv
  have hx := B.exec
  have hb := B.bytes
  have hr := B.returns
  have hlocks := B.notSynchronized
  have hts : ∀ w ∈ lw_u, w.before ([.ref (X.ad k0), .ref (X.ad k1)] : List Value).toArray s = true := fun w hw => atoms_spec (ws := Cond.code yX1_copyFrom cX1_copyFrom 2 none :: lw_u) B.pre w (List.mem_cons_of_mem _ hw)
  have hown : s.vm.findClass RX1 = some m.cls := findClass_of_methodNamed B.named
  have hZ : Fx p c m s ([.ref (X.ad k0), .ref (X.ad k1)] : List Value).toArray X cX1_copyFrom 2 RX1 := ⟨hx, hb, hml, hts, hown, hk⟩
  have hS : va_S X.A s.heap s.heap [] := va_S.rf
  have hl := lv_entry ([.ref (X.ad k0), .ref (X.ad k1)]) (n := 2) (Nat.le_of_ble_eq_true rfl)
  rw [lg_entry_eq]
  generalize (lg_sl ([.ref (X.ad k0), .ref (X.ad k1)]) ++ List.replicate (2 - (lg_sl ([.ref (X.ad k0), .ref (X.ad k1)])).length) Slot.unset).toArray = ls at hl ⊢
  have hl : lv_has ls 2 [(0, .ref (X.ad k0)), (1, .ref (X.ad k1))] := hl
  show WW p l e 1 40 s m [.ref (X.ad k0), .ref (X.ad k1)] below meth c X (Qv X M9) s.heap [] 0 ls []
  have hP : wd X M s.heap := hP
  unfold fn_X1_copyFrom at hf
  have key : ∀ (H : Heap) (locs : List Loc), wd X M H → va_S X.A s.heap H locs → WW p l e 1 40 s m [.ref (X.ad k0), .ref (X.ad k1)] below meth c X (Qv X M9) H locs 0 ls [] := by
    intro H locs hP hS
    refine lv_aload_n hx hb dX1_copyFrom_0 rfl (lv_at hl 1 rfl) ?_
    refine gX1_0 hx hb hts hown hk hP hk1 wd_1_31 dX1_copyFrom_1 ?_
    refine lv_iconst (v := (0 : Int32)) hx hb dX1_copyFrom_4 (by decide) ?_
    refine lv_aload_n hx hb dX1_copyFrom_5 rfl (lv_at hl 0 rfl) ?_
    refine gX1_0 hx hb hts hown hk hP hk0 wd_1_31 dX1_copyFrom_6 ?_
    refine lv_iconst (v := (0 : Int32)) hx hb dX1_copyFrom_9 (by decide) ?_
    refine lv_sipush (v := (216 : Int32)) hx hb dX1_copyFrom_10 (by decide) ?_
    refine acp hx hb (hml.trans hl.1.symm) hts hown hk hP hS wd_2_74 wd_2_76 wd_2_75 wd_1_10 (isF_lt1 hk1) (isF_lt1 hk0) (rd_F1 hk1) (rd_F1 hk0) (v := (216 : Int32)) (by decide) (by decide) (Nat.le_of_ble_eq_true rfl) (by decide) dX1_copyFrom_13 (fun H locs M_1 e_M_1 hP hS => ?_)
    have hf := b_v hf e_M_1
    refine lv_aload_n hx hb dX1_copyFrom_16 rfl (lv_at hl 1 rfl) ?_
    refine gX1_1 hx hb hts hown hk hP hk1 wd_1_35 dX1_copyFrom_17 ?_
    refine lv_iconst (v := (0 : Int32)) hx hb dX1_copyFrom_20 (by decide) ?_
    refine lv_aload_n hx hb dX1_copyFrom_21 rfl (lv_at hl 0 rfl) ?_
    refine gX1_1 hx hb hts hown hk hP hk0 wd_1_35 dX1_copyFrom_22 ?_
    refine lv_iconst (v := (0 : Int32)) hx hb dX1_copyFrom_25 (by decide) ?_
    refine lv_bipush (v := (8 : Int32)) hx hb dX1_copyFrom_26 (by decide) ?_
    refine acp hx hb (hml.trans hl.1.symm) hts hown hk hP hS wd_2_74 wd_2_76 wd_2_75 wd_1_10 (isF_lt hk1) (isF_lt hk0) (rd_F2 hk1) (rd_F2 hk0) (v := (8 : Int32)) (by decide) (by decide) (Nat.le_of_ble_eq_true rfl) (by decide) dX1_copyFrom_28 (fun H locs M_2 e_M_2 hP hS => ?_)
    have hf := b_v hf e_M_2
    refine lv_aload_n hx hb dX1_copyFrom_31 rfl (lv_at hl 0 rfl) ?_
    refine lv_aload_n hx hb dX1_copyFrom_32 rfl (lv_at hl 1 rfl) ?_
    refine gX1_2 hx hb hts hown hk hP hk1 wd_1_39 dX1_copyFrom_33 ?_
    refine pX1_2 hx hb hts hown hk hP hS hk0 wd_1_39 dX1_copyFrom_36 (fun H locs M_3 e_M_3 hP hS => ?_)
    have hf := b_v hf e_M_3
    refine lv_aload_n hx hb dX1_copyFrom_39 rfl (lv_at hl 0 rfl) ?_
    refine lv_aload_n hx hb dX1_copyFrom_40 rfl (lv_at hl 1 rfl) ?_
    refine gX1_3 hx hb hts hown hk hP hk1 wd_1_41 dX1_copyFrom_41 ?_
    refine pX1_3 hx hb hts hown hk hP hS hk0 wd_1_41 dX1_copyFrom_44 (fun H locs M_4 e_M_4 hP hS => ?_)
    have hf := b_v hf e_M_4
    refine lv_aload_n hx hb dX1_copyFrom_47 rfl (lv_at hl 0 rfl) ?_
    refine lv_aload_n hx hb dX1_copyFrom_48 rfl (lv_at hl 1 rfl) ?_
    refine gX1_4 hx hb hts hown hk hP hk1 wd_1_43 dX1_copyFrom_49 ?_
    refine pX1_4 hx hb hts hown hk hP hS hk0 wd_1_43 dX1_copyFrom_52 (fun H locs M_5 e_M_5 hP hS => ?_)
    have hf := b_v hf e_M_5
    have hf := Option.some.inj hf
    rw [hf] at hP
    exact ret_v hx hb hr hlocks hP hS dX1_copyFrom_55
  exact key s.heap [] hP hS
theorem hd_X1_copyFrom : Hd yX1_copyFrom 1 := by decide +kernel
theorem k_X1_copyFrom {p : Program} {l : Launch} {e : Env} {R : Room} {s : State} {m : MethodId} {args : Array Value} {below : List Frame} {meth : Method} {c : Code} {H : Heap} {locs : List Loc} {cells slots : Nat} {Q : State → Prop} {cc : ByteArray} {nL pc index : Nat} {ls : Array Slot} {rest : List Value} {X : En} {M : Mem} {H0 : Heap} {own : String} {k0 : Nat} {k1 : Nat} {M9 : Mem} (hZ : Fx p c m s args X cc nL own) (hP : wd X M H) (hS : va_S X.A H0 H locs) (hsz : ls.size = nL) (hlk : Cond.methodLink own index yX1_copyFrom ∈ lw_u) (hR : 1 + 1 ≤ R.frames ∧ 8 + (2 + 11) + 40 ≤ R.locals) (hW : (rest.map fun v => v.category).sum ≤ 8) (hdg : decode cc pc = .ok (.invokevirtual index, 3)) (hcs : cells ≤ R.cells ∧ slots ≤ R.slots) (hk0 : isF k0) (hk1 : isF k1) (hf : fn_X1_copyFrom k0 k1 M = some M9)
    (kk : ∀ (H1 : Heap) (locs1 : List Loc), wd X M9 H1 → va_S X.A H0 H1 locs1 → W p l e R s m args below meth c H1 locs1 cells slots Q (F0 m (pc + 3) ls rest)) : W p l e R s m args below meth c H locs cells slots Q (F0 m pc ls (.ref (X.ad k1) :: .ref (X.ad k0) :: rest)) :=
  cal_v (runV (As := [.ref (X.ad k1)]) (rest := rest) hZ.1 hZ.2.1 hZ.2.2.1 hZ.2.2.2.1 hZ.2.2.2.2.1 hZ.2.2.2.2.2 hP (c_X1_copyFrom k0 k1 M hk0 hk1 M9 hf) wd_2_73 wd_2_71 wd_2_72 wd_1_2 hd_X1_copyFrom (isF_lt0 hk0) (rd_F0 hk0 _) rfl rfl hlk hR hsz rfl hW hdg hcs) hS kk
/-! FrameRaiser$History.remember -/
def fn_X2_remember (k1 : Nat) (M : Mem) : Option (Mem) :=
  if inb (rm ((M 21 2) + (M 21 0)) (8 : Int32)) 8 then
  (fn_X1_copyFrom (23 + 3 * ix (rm ((M 21 2) + (M 21 0)) (8 : Int32))) k1 M).bind fun M_2 =>
  if (8 : Int32) ≤ (M_2 21 0) then
    (bv (st M_2 21 2 (rm ((M_2 21 2) + (1 : Int32)) (8 : Int32))) fun M_4 =>
    some M_4)
  else
    (bv (st M_2 21 0 ((M_2 21 0) + (1 : Int32))) fun M_5 =>
    some M_5)
  else none
theorem dX2_remember_0 : decode cX2_remember 0 = .ok (.aload_n 0, 1) := by decide +kernel
theorem dX2_remember_1 : decode cX2_remember 1 = .ok (.getfield 11, 3) := by decide +kernel
theorem dX2_remember_4 : decode cX2_remember 4 = .ok (.aload_n 0, 1) := by decide +kernel
theorem dX2_remember_5 : decode cX2_remember 5 = .ok (.getfield 18, 3) := by decide +kernel
theorem dX2_remember_8 : decode cX2_remember 8 = .ok (.aload_n 0, 1) := by decide +kernel
theorem dX2_remember_9 : decode cX2_remember 9 = .ok (.getfield 22, 3) := by decide +kernel
theorem dX2_remember_12 : decode cX2_remember 12 = .ok (.iadd, 1) := by decide +kernel
theorem dX2_remember_13 : decode cX2_remember 13 = .ok (.bipush 8, 2) := by decide +kernel
theorem dX2_remember_15 : decode cX2_remember 15 = .ok (.irem, 1) := by decide +kernel
theorem dX2_remember_16 : decode cX2_remember 16 = .ok (.aaload, 1) := by decide +kernel
theorem dX2_remember_17 : decode cX2_remember 17 = .ok (.aload_n 1, 1) := by decide +kernel
theorem dX2_remember_18 : decode cX2_remember 18 = .ok (.invokevirtual 25, 3) := by decide +kernel
theorem dX2_remember_21 : decode cX2_remember 21 = .ok (.aload_n 0, 1) := by decide +kernel
theorem dX2_remember_22 : decode cX2_remember 22 = .ok (.getfield 22, 3) := by decide +kernel
theorem dX2_remember_25 : decode cX2_remember 25 = .ok (.bipush 8, 2) := by decide +kernel
theorem dX2_remember_27 : decode cX2_remember 27 = .ok (.if_icmp .ge 16, 3) := by decide +kernel
theorem dX2_remember_30 : decode cX2_remember 30 = .ok (.aload_n 0, 1) := by decide +kernel
theorem dX2_remember_31 : decode cX2_remember 31 = .ok (.dup, 1) := by decide +kernel
theorem dX2_remember_32 : decode cX2_remember 32 = .ok (.getfield 22, 3) := by decide +kernel
theorem dX2_remember_35 : decode cX2_remember 35 = .ok (.iconst 1, 1) := by decide +kernel
theorem dX2_remember_36 : decode cX2_remember 36 = .ok (.iadd, 1) := by decide +kernel
theorem dX2_remember_37 : decode cX2_remember 37 = .ok (.putfield 22, 3) := by decide +kernel
theorem dX2_remember_40 : decode cX2_remember 40 = .ok (.goto 16, 3) := by decide +kernel
theorem dX2_remember_43 : decode cX2_remember 43 = .ok (.aload_n 0, 1) := by decide +kernel
theorem dX2_remember_44 : decode cX2_remember 44 = .ok (.aload_n 0, 1) := by decide +kernel
theorem dX2_remember_45 : decode cX2_remember 45 = .ok (.getfield 18, 3) := by decide +kernel
theorem dX2_remember_48 : decode cX2_remember 48 = .ok (.iconst 1, 1) := by decide +kernel
theorem dX2_remember_49 : decode cX2_remember 49 = .ok (.iadd, 1) := by decide +kernel
theorem dX2_remember_50 : decode cX2_remember 50 = .ok (.bipush 8, 2) := by decide +kernel
theorem dX2_remember_52 : decode cX2_remember 52 = .ok (.irem, 1) := by decide +kernel
theorem dX2_remember_53 : decode cX2_remember 53 = .ok (.putfield 18, 3) := by decide +kernel
theorem dX2_remember_56 : decode cX2_remember 56 = .ok (.return_, 1) := by decide +kernel
set_option maxHeartbeats 4000000 in
set_option maxRecDepth 100000 in
theorem c_X2_remember {l : Launch} {X : En} (k1 : Nat) (M : Mem) (hk1 : isF k1) (M9 : Mem) (hf : fn_X2_remember k1 M = some M9) : Cn l X yX2_remember cX2_remember 2 none 2 61 [.ref (X.ad 21), .ref (X.ad k1)] M (Qv X M9) := by
  refine Met.ofW (cc := cX2_remember) (maxL := 2) (ret := none) (by decide) rfl ?_
  intro p e s m args below meth c s₁ B hml hv
  obtain ⟨rfl, hP, hk⟩ := hv
  have hx := B.exec
  have hb := B.bytes
  have hr := B.returns
  have hlocks := B.notSynchronized
  have hts : ∀ w ∈ lw_u, w.before ([.ref (X.ad 21), .ref (X.ad k1)] : List Value).toArray s = true := fun w hw => atoms_spec (ws := Cond.code yX2_remember cX2_remember 2 none :: lw_u) B.pre w (List.mem_cons_of_mem _ hw)
  have hown : s.vm.findClass RX2 = some m.cls := findClass_of_methodNamed B.named
  have hZ : Fx p c m s ([.ref (X.ad 21), .ref (X.ad k1)] : List Value).toArray X cX2_remember 2 RX2 := ⟨hx, hb, hml, hts, hown, hk⟩
  have hS : va_S X.A s.heap s.heap [] := va_S.rf
  have hl := lv_entry ([.ref (X.ad 21), .ref (X.ad k1)]) (n := 2) (Nat.le_of_ble_eq_true rfl)
  rw [lg_entry_eq]
  generalize (lg_sl ([.ref (X.ad 21), .ref (X.ad k1)]) ++ List.replicate (2 - (lg_sl ([.ref (X.ad 21), .ref (X.ad k1)])).length) Slot.unset).toArray = ls at hl ⊢
  have hl : lv_has ls 2 [(0, .ref (X.ad 21)), (1, .ref (X.ad k1))] := hl
  show WW p l e 2 61 s m [.ref (X.ad 21), .ref (X.ad k1)] below meth c X (Qv X M9) s.heap [] 0 ls []
  have hP : wd X M s.heap := hP
  unfold fn_X2_remember at hf
  have key : ∀ (H : Heap) (locs : List Loc), wd X M H → va_S X.A s.heap H locs → WW p l e 2 61 s m [.ref (X.ad 21), .ref (X.ad k1)] below meth c X (Qv X M9) H locs 0 ls [] := by
    intro H locs hP hS
    refine lv_aload_n hx hb dX2_remember_0 rfl (lv_at hl 0 rfl) ?_
    refine gX2_1 hx hb hts hown hk hP wd_1_162 dX2_remember_1 ?_
    refine lv_aload_n hx hb dX2_remember_4 rfl (lv_at hl 0 rfl) ?_
    refine gX2_2 hx hb hts hown hk hP wd_1_163 dX2_remember_5 ?_
    refine lv_aload_n hx hb dX2_remember_8 rfl (lv_at hl 0 rfl) ?_
    refine gX2_0 hx hb hts hown hk hP wd_1_160 dX2_remember_9 ?_
    refine lv_iadd hx hb dX2_remember_12 ?_
    refine lv_bipush (v := (8 : Int32)) hx hb dX2_remember_13 (by decide) ?_
    refine rw_irem hx hb dX2_remember_15 (by decide) ?_
    obtain ⟨q_1, hf⟩ := g_if hf
    refine aald hx hb hk hP q_1 dX2_remember_16 ?_
    refine lv_aload_n hx hb dX2_remember_17 rfl (lv_at hl 1 rfl) ?_
    obtain ⟨M_2, h_M_2, hf⟩ := b_d hf
    refine k_X1_copyFrom hZ hP hS hl.1 wd_2_70 ⟨Nat.le_of_ble_eq_true rfl, Nat.le_of_ble_eq_true rfl⟩ (Nat.le_of_ble_eq_true rfl) dX2_remember_18 ⟨Nat.zero_le _, Nat.zero_le _⟩ (isF_h q_1) hk1 h_M_2 (fun H locs hP hS => ?_)
    refine lv_aload_n hx hb dX2_remember_21 rfl (lv_at hl 0 rfl) ?_
    refine gX2_0 hx hb hts hown hk hP wd_1_160 dX2_remember_22 ?_
    refine lv_bipush (v := (8 : Int32)) hx hb dX2_remember_25 (by decide) ?_
    refine lv_icmp_ge (tgt := 43) hx hb dX2_remember_27 (by decide) (fun c_3 => ?_) (fun c_3 => ?_)
    · have hf := i_t c_3 hf
      refine lv_aload_n hx hb dX2_remember_43 rfl (lv_at hl 0 rfl) ?_
      refine lv_aload_n hx hb dX2_remember_44 rfl (lv_at hl 0 rfl) ?_
      refine gX2_2 hx hb hts hown hk hP wd_1_163 dX2_remember_45 ?_
      refine lv_iconst (v := (1 : Int32)) hx hb dX2_remember_48 (by decide) ?_
      refine lv_iadd hx hb dX2_remember_49 ?_
      refine lv_bipush (v := (8 : Int32)) hx hb dX2_remember_50 (by decide) ?_
      refine rw_irem hx hb dX2_remember_52 (by decide) ?_
      refine pX2_2 hx hb hts hown hk hP hS wd_1_163 dX2_remember_53 (fun H locs M_4 e_M_4 hP hS => ?_)
      have hf := b_v hf e_M_4
      have hf := Option.some.inj hf
      rw [hf] at hP
      exact ret_v hx hb hr hlocks hP hS dX2_remember_56
    · have hf := i_f c_3 hf
      refine lv_aload_n hx hb dX2_remember_30 rfl (lv_at hl 0 rfl) ?_
      refine lv_dup hx hb dX2_remember_31 rfl ?_
      refine gX2_0 hx hb hts hown hk hP wd_1_160 dX2_remember_32 ?_
      refine lv_iconst (v := (1 : Int32)) hx hb dX2_remember_35 (by decide) ?_
      refine lv_iadd hx hb dX2_remember_36 ?_
      refine pX2_0 hx hb hts hown hk hP hS wd_1_160 dX2_remember_37 (fun H locs M_5 e_M_5 hP hS => ?_)
      have hf := b_v hf e_M_5
      refine lv_goto (tgt := 56) hx hb dX2_remember_40 (by decide) ?_
      have hf := Option.some.inj hf
      rw [hf] at hP
      exact ret_v hx hb hr hlocks hP hS dX2_remember_56
  exact key s.heap [] hP hS
theorem hd_X2_remember : Hd yX2_remember 1 := by decide +kernel
theorem k_X2_remember {p : Program} {l : Launch} {e : Env} {R : Room} {s : State} {m : MethodId} {args : Array Value} {below : List Frame} {meth : Method} {c : Code} {H : Heap} {locs : List Loc} {cells slots : Nat} {Q : State → Prop} {cc : ByteArray} {nL pc index : Nat} {ls : Array Slot} {rest : List Value} {X : En} {M : Mem} {H0 : Heap} {own : String} {k1 : Nat} {M9 : Mem} (hZ : Fx p c m s args X cc nL own) (hP : wd X M H) (hS : va_S X.A H0 H locs) (hsz : ls.size = nL) (hlk : Cond.methodLink own index yX2_remember ∈ lw_u) (hR : 2 + 1 ≤ R.frames ∧ 8 + (2 + 11) + 61 ≤ R.locals) (hW : (rest.map fun v => v.category).sum ≤ 8) (hdg : decode cc pc = .ok (.invokevirtual index, 3)) (hcs : cells ≤ R.cells ∧ slots ≤ R.slots) (hk1 : isF k1) (hf : fn_X2_remember k1 M = some M9)
    (kk : ∀ (H1 : Heap) (locs1 : List Loc), wd X M9 H1 → va_S X.A H0 H1 locs1 → W p l e R s m args below meth c H1 locs1 cells slots Q (F0 m (pc + 3) ls rest)) : W p l e R s m args below meth c H locs cells slots Q (F0 m pc ls (.ref (X.ad k1) :: .ref (X.ad 21) :: rest)) :=
  cal_v (runV (As := [.ref (X.ad k1)]) (rest := rest) hZ.1 hZ.2.1 hZ.2.2.1 hZ.2.2.2.1 hZ.2.2.2.2.1 hZ.2.2.2.2.2 hP (c_X2_remember k1 M hk1 M9 hf) wd_2_69 wd_2_67 wd_2_68 wd_1_6 hd_X2_remember (by decide) rfl rfl rfl hlk hR hsz rfl hW hdg hcs) hS kk
/-! FrameRaiser.forgetPieces -/
def fn_X7_forgetPieces (M : Mem) : Option (Mem) :=
  bv (st M 0 9 (0 : Int32)) fun M_1 =>
  bv (st M_1 0 10 (0 : Int32)) fun M_2 =>
  bv (st M_2 0 11 (0 : Int32)) fun M_3 =>
  some M_3
theorem dX7_forgetPieces_0 : decode cX7_forgetPieces 0 = .ok (.aload_n 0, 1) := by decide +kernel
theorem dX7_forgetPieces_1 : decode cX7_forgetPieces 1 = .ok (.iconst 0, 1) := by decide +kernel
theorem dX7_forgetPieces_2 : decode cX7_forgetPieces 2 = .ok (.putfield 297, 3) := by decide +kernel
theorem dX7_forgetPieces_5 : decode cX7_forgetPieces 5 = .ok (.aload_n 0, 1) := by decide +kernel
theorem dX7_forgetPieces_6 : decode cX7_forgetPieces 6 = .ok (.iconst 0, 1) := by decide +kernel
theorem dX7_forgetPieces_7 : decode cX7_forgetPieces 7 = .ok (.putfield 301, 3) := by decide +kernel
theorem dX7_forgetPieces_10 : decode cX7_forgetPieces 10 = .ok (.aload_n 0, 1) := by decide +kernel
theorem dX7_forgetPieces_11 : decode cX7_forgetPieces 11 = .ok (.iconst 0, 1) := by decide +kernel
theorem dX7_forgetPieces_12 : decode cX7_forgetPieces 12 = .ok (.putfield 304, 3) := by decide +kernel
theorem dX7_forgetPieces_15 : decode cX7_forgetPieces 15 = .ok (.return_, 1) := by decide +kernel
set_option maxHeartbeats 4000000 in
set_option maxRecDepth 100000 in
theorem c_X7_forgetPieces {l : Launch} {X : En} (M : Mem) (M9 : Mem) (hf : fn_X7_forgetPieces M = some M9) : Cn l X yX7_forgetPieces cX7_forgetPieces 1 none 0 0 [.ref (X.ad 0)] M (Qv X M9) := by
  refine Met.ofW (cc := cX7_forgetPieces) (maxL := 1) (ret := none) (by decide) rfl ?_
  intro p e s m args below meth c s₁ B hml hv
  obtain ⟨rfl, hP, hk⟩ := hv
  have hx := B.exec
  have hb := B.bytes
  have hr := B.returns
  have hlocks := B.notSynchronized
  have hts : ∀ w ∈ lw_u, w.before ([.ref (X.ad 0)] : List Value).toArray s = true := fun w hw => atoms_spec (ws := Cond.code yX7_forgetPieces cX7_forgetPieces 1 none :: lw_u) B.pre w (List.mem_cons_of_mem _ hw)
  have hown : s.vm.findClass RX7 = some m.cls := findClass_of_methodNamed B.named
  have hZ : Fx p c m s ([.ref (X.ad 0)] : List Value).toArray X cX7_forgetPieces 1 RX7 := ⟨hx, hb, hml, hts, hown, hk⟩
  have hS : va_S X.A s.heap s.heap [] := va_S.rf
  have hl := lv_entry ([.ref (X.ad 0)]) (n := 1) (Nat.le_of_ble_eq_true rfl)
  rw [lg_entry_eq]
  generalize (lg_sl ([.ref (X.ad 0)]) ++ List.replicate (1 - (lg_sl ([.ref (X.ad 0)])).length) Slot.unset).toArray = ls at hl ⊢
  have hl : lv_has ls 1 [(0, .ref (X.ad 0))] := hl
  show WW p l e 0 0 s m [.ref (X.ad 0)] below meth c X (Qv X M9) s.heap [] 0 ls []
  have hP : wd X M s.heap := hP
  unfold fn_X7_forgetPieces at hf
  have key : ∀ (H : Heap) (locs : List Loc), wd X M H → va_S X.A s.heap H locs → WW p l e 0 0 s m [.ref (X.ad 0)] below meth c X (Qv X M9) H locs 0 ls [] := by
    intro H locs hP hS
    refine lv_aload_n hx hb dX7_forgetPieces_0 rfl (lv_at hl 0 rfl) ?_
    refine lv_iconst (v := (0 : Int32)) hx hb dX7_forgetPieces_1 (by decide) ?_
    refine pX7_9 hx hb hts hown hk hP hS isZ_0 wd_1_222 dX7_forgetPieces_2 (fun H locs M_1 e_M_1 hP hS => ?_)
    have hf := b_v hf e_M_1
    refine lv_aload_n hx hb dX7_forgetPieces_5 rfl (lv_at hl 0 rfl) ?_
    refine lv_iconst (v := (0 : Int32)) hx hb dX7_forgetPieces_6 (by decide) ?_
    refine pX7_10 hx hb hts hown hk hP hS isZ_0 wd_1_223 dX7_forgetPieces_7 (fun H locs M_2 e_M_2 hP hS => ?_)
    have hf := b_v hf e_M_2
    refine lv_aload_n hx hb dX7_forgetPieces_10 rfl (lv_at hl 0 rfl) ?_
    refine lv_iconst (v := (0 : Int32)) hx hb dX7_forgetPieces_11 (by decide) ?_
    refine pX7_11 hx hb hts hown hk hP hS isZ_0 wd_1_224 dX7_forgetPieces_12 (fun H locs M_3 e_M_3 hP hS => ?_)
    have hf := b_v hf e_M_3
    have hf := Option.some.inj hf
    rw [hf] at hP
    exact ret_v hx hb hr hlocks hP hS dX7_forgetPieces_15
  exact key s.heap [] hP hS
theorem hd_X7_forgetPieces : Hd yX7_forgetPieces 0 := by decide +kernel
theorem k_X7_forgetPieces {p : Program} {l : Launch} {e : Env} {R : Room} {s : State} {m : MethodId} {args : Array Value} {below : List Frame} {meth : Method} {c : Code} {H : Heap} {locs : List Loc} {cells slots : Nat} {Q : State → Prop} {cc : ByteArray} {nL pc index : Nat} {ls : Array Slot} {rest : List Value} {X : En} {M : Mem} {H0 : Heap} {own : String} {M9 : Mem} (hZ : Fx p c m s args X cc nL own) (hP : wd X M H) (hS : va_S X.A H0 H locs) (hsz : ls.size = nL) (hlk : Cond.methodLink own index yX7_forgetPieces ∈ lw_u) (hR : 0 + 1 ≤ R.frames ∧ 8 + (1 + 11) + 0 ≤ R.locals) (hW : (rest.map fun v => v.category).sum ≤ 8) (hdg : decode cc pc = .ok (.invokevirtual index, 3)) (hcs : cells ≤ R.cells ∧ slots ≤ R.slots) (hf : fn_X7_forgetPieces M = some M9)
    (kk : ∀ (H1 : Heap) (locs1 : List Loc), wd X M9 H1 → va_S X.A H0 H1 locs1 → W p l e R s m args below meth c H1 locs1 cells slots Q (F0 m (pc + 3) ls rest)) : W p l e R s m args below meth c H locs cells slots Q (F0 m pc ls (.ref (X.ad 0) :: rest)) :=
  cal_v (runV (As := []) (rest := rest) hZ.1 hZ.2.1 hZ.2.2.1 hZ.2.2.2.1 hZ.2.2.2.2.1 hZ.2.2.2.2.2 hP (c_X7_forgetPieces M M9 hf) wd_2_81 wd_2_80 wd_p_4 wd_1_1 hd_X7_forgetPieces (by decide) rfl rfl rfl hlk hR hsz rfl hW hdg hcs) hS kk
/-! FrameRaiser.load -/
def fn_X7_load (g : Nat) (M : Mem) : Option (Int32 × Mem) :=
  (fn_X6_readInto g 53 M).bind (u2 fun r_1 M_2 =>
  if (M_2 47 1) = 0 then
    ((fn_X2_remember 1 M_2).bind fun M_4 =>
    (fn_X1_copyFrom 1 53 M_4).bind fun M_5 =>
    (fn_X7_forgetPieces M_5).bind fun M_6 =>
    some (M_6 1 2, M_6))
  else
    (some ((-10 : Int32) - r_1, M_2)))
theorem dX7_load_0 : decode cX7_load 0 = .ok (.aload_n 0, 1) := by decide +kernel
theorem dX7_load_1 : decode cX7_load 1 = .ok (.getfield 49, 3) := by decide +kernel
theorem dX7_load_4 : decode cX7_load 4 = .ok (.aload_n 0, 1) := by decide +kernel
theorem dX7_load_5 : decode cX7_load 5 = .ok (.getfield 60, 3) := by decide +kernel
theorem dX7_load_8 : decode cX7_load 8 = .ok (.invokevirtual 74, 3) := by decide +kernel
theorem dX7_load_11 : decode cX7_load 11 = .ok (.istore_n 1, 1) := by decide +kernel
theorem dX7_load_12 : decode cX7_load 12 = .ok (.aload_n 0, 1) := by decide +kernel
theorem dX7_load_13 : decode cX7_load 13 = .ok (.getfield 49, 3) := by decide +kernel
theorem dX7_load_16 : decode cX7_load 16 = .ok (.getfield 78, 3) := by decide +kernel
theorem dX7_load_19 : decode cX7_load 19 = .ok (.ifCond .eq 8, 3) := by decide +kernel
theorem dX7_load_22 : decode cX7_load 22 = .ok (.bipush (-10), 2) := by decide +kernel
theorem dX7_load_24 : decode cX7_load 24 = .ok (.iload_n 1, 1) := by decide +kernel
theorem dX7_load_25 : decode cX7_load 25 = .ok (.isub, 1) := by decide +kernel
theorem dX7_load_26 : decode cX7_load 26 = .ok (.ireturn, 1) := by decide +kernel
theorem dX7_load_27 : decode cX7_load 27 = .ok (.aload_n 0, 1) := by decide +kernel
theorem dX7_load_28 : decode cX7_load 28 = .ok (.getfield 42, 3) := by decide +kernel
theorem dX7_load_31 : decode cX7_load 31 = .ok (.aload_n 0, 1) := by decide +kernel
theorem dX7_load_32 : decode cX7_load 32 = .ok (.getfield 10, 3) := by decide +kernel
theorem dX7_load_35 : decode cX7_load 35 = .ok (.invokevirtual 81, 3) := by decide +kernel
theorem dX7_load_38 : decode cX7_load 38 = .ok (.aload_n 0, 1) := by decide +kernel
theorem dX7_load_39 : decode cX7_load 39 = .ok (.getfield 10, 3) := by decide +kernel
theorem dX7_load_42 : decode cX7_load 42 = .ok (.aload_n 0, 1) := by decide +kernel
theorem dX7_load_43 : decode cX7_load 43 = .ok (.getfield 60, 3) := by decide +kernel
theorem dX7_load_46 : decode cX7_load 46 = .ok (.invokevirtual 85, 3) := by decide +kernel
theorem dX7_load_49 : decode cX7_load 49 = .ok (.aload_n 0, 1) := by decide +kernel
theorem dX7_load_50 : decode cX7_load 50 = .ok (.invokevirtual 88, 3) := by decide +kernel
theorem dX7_load_53 : decode cX7_load 53 = .ok (.aload_n 0, 1) := by decide +kernel
theorem dX7_load_54 : decode cX7_load 54 = .ok (.getfield 10, 3) := by decide +kernel
theorem dX7_load_57 : decode cX7_load 57 = .ok (.getfield 91, 3) := by decide +kernel
theorem dX7_load_60 : decode cX7_load 60 = .ok (.ireturn, 1) := by decide +kernel
set_option maxHeartbeats 4000000 in
set_option maxRecDepth 100000 in
theorem c_X7_load {l : Launch} {X : En} (g : Nat) (M : Mem) (r : Int32) (M9 : Mem) (hf : fn_X7_load g M = some (r, M9)) : Cn l X yX7_load cX7_load 2 (some .int) 6 134 [.ref (X.ad 0)] M (Qi X r M9) := by
  refine Met.ofW (cc := cX7_load) (maxL := 2) (ret := (some .int)) (by decide) rfl ?_
  intro p e s m args below meth c s₁ B hml hv
  obtain ⟨rfl, hP, hk⟩ := hv
  have hx := B.exec
  have hb := B.bytes
  have hr := B.returns
  have hlocks := B.notSynchronized
  have hts : ∀ w ∈ lw_u, w.before ([.ref (X.ad 0)] : List Value).toArray s = true := fun w hw => atoms_spec (ws := Cond.code yX7_load cX7_load 2 (some .int) :: lw_u) B.pre w (List.mem_cons_of_mem _ hw)
  have hown : s.vm.findClass RX7 = some m.cls := findClass_of_methodNamed B.named
  have hZ : Fx p c m s ([.ref (X.ad 0)] : List Value).toArray X cX7_load 2 RX7 := ⟨hx, hb, hml, hts, hown, hk⟩
  have hS : va_S X.A s.heap s.heap [] := va_S.rf
  have hl := lv_entry ([.ref (X.ad 0)]) (n := 2) (Nat.le_of_ble_eq_true rfl)
  rw [lg_entry_eq]
  generalize (lg_sl ([.ref (X.ad 0)]) ++ List.replicate (2 - (lg_sl ([.ref (X.ad 0)])).length) Slot.unset).toArray = ls at hl ⊢
  have hl : lv_has ls 2 [(0, .ref (X.ad 0))] := hl
  show WW p l e 6 134 s m [.ref (X.ad 0)] below meth c X (Qi X r M9) s.heap [] 0 ls []
  have hP : wd X M s.heap := hP
  unfold fn_X7_load at hf
  have key : ∀ (H : Heap) (locs : List Loc), wd X M H → va_S X.A s.heap H locs → WW p l e 6 134 s m [.ref (X.ad 0)] below meth c X (Qi X r M9) H locs 0 ls [] := by
    intro H locs hP hS
    refine lv_aload_n hx hb dX7_load_0 rfl (lv_at hl 0 rfl) ?_
    refine gX7_5 hx hb hts hown hk hP wd_1_218 dX7_load_1 ?_
    refine lv_aload_n hx hb dX7_load_4 rfl (lv_at hl 0 rfl) ?_
    refine gX7_7 hx hb hts hown hk hP wd_1_220 dX7_load_5 ?_
    obtain ⟨⟨r_1, M_2⟩, h_r_1, hf⟩ := b_d hf
    have hf := u2_e hf
    refine k_X6_readInto hZ hP hS hl.1 wd_2_26 ⟨Nat.le_of_ble_eq_true rfl, Nat.le_of_ble_eq_true rfl⟩ (Nat.le_of_ble_eq_true rfl) dX7_load_8 ⟨Nat.zero_le _, Nat.zero_le _⟩ isF_53 h_r_1 (fun H locs hP hS => ?_)
    refine lv_istore_n (lv' := [(1, .int r_1), (0, .ref (X.ad 0))]) hx hb dX7_load_11 rfl hl (by decide) rfl (fun ls hl => ?_)
    refine lv_aload_n hx hb dX7_load_12 rfl (lv_at hl 1 rfl) ?_
    refine gX7_5 hx hb hts hown hk hP wd_1_218 dX7_load_13 ?_
    refine gX6_1 hx hb hts hown hk hP wd_1_190 dX7_load_16 ?_
    refine lv_if_eq (tgt := 27) hx hb dX7_load_19 (by decide) (fun c_3 => ?_) (fun c_3 => ?_)
    · have hf := i_t c_3 hf
      refine lv_aload_n hx hb dX7_load_27 rfl (lv_at hl 1 rfl) ?_
      refine gX7_4 hx hb hts hown hk hP wd_1_217 dX7_load_28 ?_
      refine lv_aload_n hx hb dX7_load_31 rfl (lv_at hl 1 rfl) ?_
      refine gX7_0 hx hb hts hown hk hP wd_1_213 dX7_load_32 ?_
      obtain ⟨M_4, h_M_4, hf⟩ := b_d hf
      refine k_X2_remember hZ hP hS hl.1 wd_2_66 ⟨Nat.le_of_ble_eq_true rfl, Nat.le_of_ble_eq_true rfl⟩ (Nat.le_of_ble_eq_true rfl) dX7_load_35 ⟨Nat.zero_le _, Nat.zero_le _⟩ isF_1 h_M_4 (fun H locs hP hS => ?_)
      refine lv_aload_n hx hb dX7_load_38 rfl (lv_at hl 1 rfl) ?_
      refine gX7_0 hx hb hts hown hk hP wd_1_213 dX7_load_39 ?_
      refine lv_aload_n hx hb dX7_load_42 rfl (lv_at hl 1 rfl) ?_
      refine gX7_7 hx hb hts hown hk hP wd_1_220 dX7_load_43 ?_
      obtain ⟨M_5, h_M_5, hf⟩ := b_d hf
      refine k_X1_copyFrom hZ hP hS hl.1 wd_2_77 ⟨Nat.le_of_ble_eq_true rfl, Nat.le_of_ble_eq_true rfl⟩ (Nat.le_of_ble_eq_true rfl) dX7_load_46 ⟨Nat.zero_le _, Nat.zero_le _⟩ isF_1 isF_53 h_M_5 (fun H locs hP hS => ?_)
      refine lv_aload_n hx hb dX7_load_49 rfl (lv_at hl 1 rfl) ?_
      obtain ⟨M_6, h_M_6, hf⟩ := b_d hf
      refine k_X7_forgetPieces hZ hP hS hl.1 wd_2_78 ⟨Nat.le_of_ble_eq_true rfl, Nat.le_of_ble_eq_true rfl⟩ (Nat.le_of_ble_eq_true rfl) dX7_load_50 ⟨Nat.zero_le _, Nat.zero_le _⟩ h_M_6 (fun H locs hP hS => ?_)
      refine lv_aload_n hx hb dX7_load_53 rfl (lv_at hl 1 rfl) ?_
      refine gX7_0 hx hb hts hown hk hP wd_1_213 dX7_load_54 ?_
      refine gX1_2 hx hb hts hown hk hP isF_1 wd_1_40 dX7_load_57 ?_
      have hf := Option.some.inj hf
      obtain ⟨e1, e2⟩ := Prod.mk.inj hf
      rw [e2] at hP
      exact ret_i hx hb hr hlocks hP hS e1 dX7_load_60
    · have hf := i_f c_3 hf
      refine lv_bipush (v := (-10 : Int32)) hx hb dX7_load_22 (by decide) ?_
      refine lv_iload_n hx hb dX7_load_24 rfl (lv_at hl 0 rfl) ?_
      refine lv_isub hx hb dX7_load_25 ?_
      have hf := Option.some.inj hf
      obtain ⟨e1, e2⟩ := Prod.mk.inj hf
      rw [e2] at hP
      exact ret_i hx hb hr hlocks hP hS e1 dX7_load_26
  exact key s.heap [] hP hS
theorem hd_X7_load : Hd yX7_load 0 := by decide +kernel
theorem k_X7_load {p : Program} {l : Launch} {e : Env} {R : Room} {s : State} {m : MethodId} {args : Array Value} {below : List Frame} {meth : Method} {c : Code} {H : Heap} {locs : List Loc} {cells slots : Nat} {Q : State → Prop} {cc : ByteArray} {nL pc index : Nat} {ls : Array Slot} {rest : List Value} {X : En} {M : Mem} {H0 : Heap} {own : String} {g : Nat} {r : Int32} {M9 : Mem} (hZ : Fx p c m s args X cc nL own) (hP : wd X M H) (hS : va_S X.A H0 H locs) (hsz : ls.size = nL) (hlk : Cond.methodLink own index yX7_load ∈ lw_u) (hR : 6 + 1 ≤ R.frames ∧ 8 + (2 + 11) + 134 ≤ R.locals) (hW : (rest.map fun v => v.category).sum ≤ 8) (hdg : decode cc pc = .ok (.invokevirtual index, 3)) (hcs : cells ≤ R.cells ∧ slots ≤ R.slots) (hf : fn_X7_load g M = some (r, M9))
    (kk : ∀ (H1 : Heap) (locs1 : List Loc), wd X M9 H1 → va_S X.A H0 H1 locs1 → W p l e R s m args below meth c H1 locs1 cells slots Q (F0 m (pc + 3) ls (.int r :: rest))) : W p l e R s m args below meth c H locs cells slots Q (F0 m pc ls (.ref (X.ad 0) :: rest)) :=
  cal_i (runV (As := []) (rest := rest) hZ.1 hZ.2.1 hZ.2.2.1 hZ.2.2.2.1 hZ.2.2.2.2.1 hZ.2.2.2.2.2 hP (c_X7_load g M r M9 hf) wd_2_25 wd_2_23 wd_2_24 wd_1_1 hd_X7_load (by decide) rfl rfl rfl hlk hR hsz rfl hW hdg hcs) hS kk
/-! FrameRaiser.faultKind -/
def fn_X7_faultKind (M : Mem) : Int32 :=
  M 47 1
theorem dX7_faultKind_0 : decode cX7_faultKind 0 = .ok (.aload_n 0, 1) := by decide +kernel
theorem dX7_faultKind_1 : decode cX7_faultKind 1 = .ok (.getfield 49, 3) := by decide +kernel
theorem dX7_faultKind_4 : decode cX7_faultKind 4 = .ok (.getfield 78, 3) := by decide +kernel
theorem dX7_faultKind_7 : decode cX7_faultKind 7 = .ok (.ireturn, 1) := by decide +kernel
set_option maxHeartbeats 4000000 in
set_option maxRecDepth 100000 in
theorem c_X7_faultKind {l : Launch} {X : En} (M : Mem) (r : Int32) (hf : fn_X7_faultKind M = r) : Cn l X yX7_faultKind cX7_faultKind 1 (some .int) 0 0 [.ref (X.ad 0)] M (Qi X r M) := by
  refine Met.ofW (cc := cX7_faultKind) (maxL := 1) (ret := (some .int)) (by decide) rfl ?_
  intro p e s m args below meth c s₁ B hml hv
  obtain ⟨rfl, hP, hk⟩ := hv
  have hx := B.exec
  have hb := B.bytes
  have hr := B.returns
  have hlocks := B.notSynchronized
  have hts : ∀ w ∈ lw_u, w.before ([.ref (X.ad 0)] : List Value).toArray s = true := fun w hw => atoms_spec (ws := Cond.code yX7_faultKind cX7_faultKind 1 (some .int) :: lw_u) B.pre w (List.mem_cons_of_mem _ hw)
  have hown : s.vm.findClass RX7 = some m.cls := findClass_of_methodNamed B.named
  have hZ : Fx p c m s ([.ref (X.ad 0)] : List Value).toArray X cX7_faultKind 1 RX7 := ⟨hx, hb, hml, hts, hown, hk⟩
  have hS : va_S X.A s.heap s.heap [] := va_S.rf
  have hl := lv_entry ([.ref (X.ad 0)]) (n := 1) (Nat.le_of_ble_eq_true rfl)
  rw [lg_entry_eq]
  generalize (lg_sl ([.ref (X.ad 0)]) ++ List.replicate (1 - (lg_sl ([.ref (X.ad 0)])).length) Slot.unset).toArray = ls at hl ⊢
  have hl : lv_has ls 1 [(0, .ref (X.ad 0))] := hl
  show WW p l e 0 0 s m [.ref (X.ad 0)] below meth c X (Qi X r M) s.heap [] 0 ls []
  have hP : wd X M s.heap := hP
  unfold fn_X7_faultKind at hf
  have key : ∀ (H : Heap) (locs : List Loc), wd X M H → va_S X.A s.heap H locs → WW p l e 0 0 s m [.ref (X.ad 0)] below meth c X (Qi X r M) H locs 0 ls [] := by
    intro H locs hP hS
    refine lv_aload_n hx hb dX7_faultKind_0 rfl (lv_at hl 0 rfl) ?_
    refine gX7_5 hx hb hts hown hk hP wd_1_218 dX7_faultKind_1 ?_
    refine gX6_1 hx hb hts hown hk hP wd_1_190 dX7_faultKind_4 ?_
    exact ret_i hx hb hr hlocks hP hS hf dX7_faultKind_7
  exact key s.heap [] hP hS
theorem hd_X7_faultKind : Hd yX7_faultKind 0 := by decide +kernel
theorem k_X7_faultKind {p : Program} {l : Launch} {e : Env} {R : Room} {s : State} {m : MethodId} {args : Array Value} {below : List Frame} {meth : Method} {c : Code} {H : Heap} {locs : List Loc} {cells slots : Nat} {Q : State → Prop} {cc : ByteArray} {nL pc index : Nat} {ls : Array Slot} {rest : List Value} {X : En} {M : Mem} {H0 : Heap} {own : String} (hZ : Fx p c m s args X cc nL own) (hP : wd X M H) (hS : va_S X.A H0 H locs) (hsz : ls.size = nL) (hlk : Cond.methodLink own index yX7_faultKind ∈ lw_u) (hR : 0 + 1 ≤ R.frames ∧ 8 + (1 + 11) + 0 ≤ R.locals) (hW : (rest.map fun v => v.category).sum ≤ 8) (hdg : decode cc pc = .ok (.invokevirtual index, 3)) (hcs : cells ≤ R.cells ∧ slots ≤ R.slots)
    (kk : ∀ (H1 : Heap) (locs1 : List Loc), wd X M H1 → va_S X.A H0 H1 locs1 → W p l e R s m args below meth c H1 locs1 cells slots Q (F0 m (pc + 3) ls (.int (fn_X7_faultKind M) :: rest))) : W p l e R s m args below meth c H locs cells slots Q (F0 m pc ls (.ref (X.ad 0) :: rest)) :=
  cal_i (runV (As := []) (rest := rest) hZ.1 hZ.2.1 hZ.2.2.1 hZ.2.2.2.1 hZ.2.2.2.2.1 hZ.2.2.2.2.2 hP (c_X7_faultKind M _ rfl) wd_2_85 wd_2_83 wd_2_84 wd_1_1 hd_X7_faultKind (by decide) rfl rfl rfl hlk hR hsz rfl hW hdg hcs) hS kk
/-! FrameRaiser.clear -/
def fn_X7_clear (g : Nat) (M : Mem) : Option (Int32 × Mem) :=
  bv (M 1 2) fun v1_1 =>
  (fn_X2_remember 1 M).bind fun M_2 =>
  (fn_X1_empty g 1 M_2).bind fun M_3 =>
  (fn_X7_forgetPieces M_3).bind fun M_4 =>
  some (v1_1, M_4)
theorem dX7_clear_0 : decode cX7_clear 0 = .ok (.aload_n 0, 1) := by decide +kernel
theorem dX7_clear_1 : decode cX7_clear 1 = .ok (.getfield 10, 3) := by decide +kernel
theorem dX7_clear_4 : decode cX7_clear 4 = .ok (.getfield 91, 3) := by decide +kernel
theorem dX7_clear_7 : decode cX7_clear 7 = .ok (.istore_n 1, 1) := by decide +kernel
theorem dX7_clear_8 : decode cX7_clear 8 = .ok (.aload_n 0, 1) := by decide +kernel
theorem dX7_clear_9 : decode cX7_clear 9 = .ok (.getfield 42, 3) := by decide +kernel
theorem dX7_clear_12 : decode cX7_clear 12 = .ok (.aload_n 0, 1) := by decide +kernel
theorem dX7_clear_13 : decode cX7_clear 13 = .ok (.getfield 10, 3) := by decide +kernel
theorem dX7_clear_16 : decode cX7_clear 16 = .ok (.invokevirtual 81, 3) := by decide +kernel
theorem dX7_clear_19 : decode cX7_clear 19 = .ok (.aload_n 0, 1) := by decide +kernel
theorem dX7_clear_20 : decode cX7_clear 20 = .ok (.getfield 10, 3) := by decide +kernel
theorem dX7_clear_23 : decode cX7_clear 23 = .ok (.invokevirtual 94, 3) := by decide +kernel
theorem dX7_clear_26 : decode cX7_clear 26 = .ok (.aload_n 0, 1) := by decide +kernel
theorem dX7_clear_27 : decode cX7_clear 27 = .ok (.invokevirtual 88, 3) := by decide +kernel
theorem dX7_clear_30 : decode cX7_clear 30 = .ok (.iload_n 1, 1) := by decide +kernel
theorem dX7_clear_31 : decode cX7_clear 31 = .ok (.ireturn, 1) := by decide +kernel
set_option maxHeartbeats 4000000 in
set_option maxRecDepth 100000 in
theorem c_X7_clear {l : Launch} {X : En} (g : Nat) (M : Mem) (r : Int32) (M9 : Mem) (hf : fn_X7_clear g M = some (r, M9)) : Cn l X yX7_clear cX7_clear 2 (some .int) 3 82 [.ref (X.ad 0)] M (Qi X r M9) := by
  refine Met.ofW (cc := cX7_clear) (maxL := 2) (ret := (some .int)) (by decide) rfl ?_
  intro p e s m args below meth c s₁ B hml hv
  obtain ⟨rfl, hP, hk⟩ := hv
  have hx := B.exec
  have hb := B.bytes
  have hr := B.returns
  have hlocks := B.notSynchronized
  have hts : ∀ w ∈ lw_u, w.before ([.ref (X.ad 0)] : List Value).toArray s = true := fun w hw => atoms_spec (ws := Cond.code yX7_clear cX7_clear 2 (some .int) :: lw_u) B.pre w (List.mem_cons_of_mem _ hw)
  have hown : s.vm.findClass RX7 = some m.cls := findClass_of_methodNamed B.named
  have hZ : Fx p c m s ([.ref (X.ad 0)] : List Value).toArray X cX7_clear 2 RX7 := ⟨hx, hb, hml, hts, hown, hk⟩
  have hS : va_S X.A s.heap s.heap [] := va_S.rf
  have hl := lv_entry ([.ref (X.ad 0)]) (n := 2) (Nat.le_of_ble_eq_true rfl)
  rw [lg_entry_eq]
  generalize (lg_sl ([.ref (X.ad 0)]) ++ List.replicate (2 - (lg_sl ([.ref (X.ad 0)])).length) Slot.unset).toArray = ls at hl ⊢
  have hl : lv_has ls 2 [(0, .ref (X.ad 0))] := hl
  show WW p l e 3 82 s m [.ref (X.ad 0)] below meth c X (Qi X r M9) s.heap [] 0 ls []
  have hP : wd X M s.heap := hP
  unfold fn_X7_clear at hf
  have key : ∀ (H : Heap) (locs : List Loc), wd X M H → va_S X.A s.heap H locs → WW p l e 3 82 s m [.ref (X.ad 0)] below meth c X (Qi X r M9) H locs 0 ls [] := by
    intro H locs hP hS
    refine lv_aload_n hx hb dX7_clear_0 rfl (lv_at hl 0 rfl) ?_
    refine gX7_0 hx hb hts hown hk hP wd_1_213 dX7_clear_1 ?_
    refine gX1_2 hx hb hts hown hk hP isF_1 wd_1_40 dX7_clear_4 ?_
    refine lv_topi (fun v1_1 e_v1_1 => ?_)
    have hf := b_v hf e_v1_1
    refine lv_istore_n (lv' := [(1, .int v1_1), (0, .ref (X.ad 0))]) hx hb dX7_clear_7 rfl hl (by decide) rfl (fun ls hl => ?_)
    refine lv_aload_n hx hb dX7_clear_8 rfl (lv_at hl 1 rfl) ?_
    refine gX7_4 hx hb hts hown hk hP wd_1_217 dX7_clear_9 ?_
    refine lv_aload_n hx hb dX7_clear_12 rfl (lv_at hl 1 rfl) ?_
    refine gX7_0 hx hb hts hown hk hP wd_1_213 dX7_clear_13 ?_
    obtain ⟨M_2, h_M_2, hf⟩ := b_d hf
    refine k_X2_remember hZ hP hS hl.1 wd_2_66 ⟨Nat.le_of_ble_eq_true rfl, Nat.le_of_ble_eq_true rfl⟩ (Nat.le_of_ble_eq_true rfl) dX7_clear_16 ⟨Nat.zero_le _, Nat.zero_le _⟩ isF_1 h_M_2 (fun H locs hP hS => ?_)
    refine lv_aload_n hx hb dX7_clear_19 rfl (lv_at hl 1 rfl) ?_
    refine gX7_0 hx hb hts hown hk hP wd_1_213 dX7_clear_20 ?_
    obtain ⟨M_3, h_M_3, hf⟩ := b_d hf
    refine k_X1_empty hZ hP hS hl.1 wd_2_90 ⟨Nat.le_of_ble_eq_true rfl, Nat.le_of_ble_eq_true rfl⟩ (Nat.le_of_ble_eq_true rfl) dX7_clear_23 ⟨Nat.zero_le _, Nat.zero_le _⟩ isF_1 h_M_3 (fun H locs hP hS => ?_)
    refine lv_aload_n hx hb dX7_clear_26 rfl (lv_at hl 1 rfl) ?_
    obtain ⟨M_4, h_M_4, hf⟩ := b_d hf
    refine k_X7_forgetPieces hZ hP hS hl.1 wd_2_78 ⟨Nat.le_of_ble_eq_true rfl, Nat.le_of_ble_eq_true rfl⟩ (Nat.le_of_ble_eq_true rfl) dX7_clear_27 ⟨Nat.zero_le _, Nat.zero_le _⟩ h_M_4 (fun H locs hP hS => ?_)
    refine lv_iload_n hx hb dX7_clear_30 rfl (lv_at hl 0 rfl) ?_
    have hf := Option.some.inj hf
    obtain ⟨e1, e2⟩ := Prod.mk.inj hf
    rw [e2] at hP
    exact ret_i hx hb hr hlocks hP hS e1 dX7_clear_31
  exact key s.heap [] hP hS
theorem hd_X7_clear : Hd yX7_clear 0 := by decide +kernel
theorem k_X7_clear {p : Program} {l : Launch} {e : Env} {R : Room} {s : State} {m : MethodId} {args : Array Value} {below : List Frame} {meth : Method} {c : Code} {H : Heap} {locs : List Loc} {cells slots : Nat} {Q : State → Prop} {cc : ByteArray} {nL pc index : Nat} {ls : Array Slot} {rest : List Value} {X : En} {M : Mem} {H0 : Heap} {own : String} {g : Nat} {r : Int32} {M9 : Mem} (hZ : Fx p c m s args X cc nL own) (hP : wd X M H) (hS : va_S X.A H0 H locs) (hsz : ls.size = nL) (hlk : Cond.methodLink own index yX7_clear ∈ lw_u) (hR : 3 + 1 ≤ R.frames ∧ 8 + (2 + 11) + 82 ≤ R.locals) (hW : (rest.map fun v => v.category).sum ≤ 8) (hdg : decode cc pc = .ok (.invokevirtual index, 3)) (hcs : cells ≤ R.cells ∧ slots ≤ R.slots) (hf : fn_X7_clear g M = some (r, M9))
    (kk : ∀ (H1 : Heap) (locs1 : List Loc), wd X M9 H1 → va_S X.A H0 H1 locs1 → W p l e R s m args below meth c H1 locs1 cells slots Q (F0 m (pc + 3) ls (.int r :: rest))) : W p l e R s m args below meth c H locs cells slots Q (F0 m pc ls (.ref (X.ad 0) :: rest)) :=
  cal_i (runV (As := []) (rest := rest) hZ.1 hZ.2.1 hZ.2.2.1 hZ.2.2.2.1 hZ.2.2.2.2.1 hZ.2.2.2.2.2 hP (c_X7_clear g M r M9 hf) wd_2_89 wd_2_87 wd_2_88 wd_1_1 hd_X7_clear (by decide) rfl rfl rfl hlk hR hsz rfl hW hdg hcs) hS kk
/-! FrameRaiser$Box.takeAll -/
def fn_X0_takeAll (k0 : Nat) (x1 : Int32) (x2 : Int32) (x3 : Int32) (x4 : Int32) (x5 : Int32) (x6 : Int32) (M : Mem) : Option (Int32 × Mem) :=
  (fn_X0_take k0 (0 : Int32) x1 M).bind (u2 fun r_1 M_2 =>
  if r_1 = 0 then
    (some ((0 : Int32), M_2))
  else
    ((fn_X0_take k0 (1 : Int32) x2 M_2).bind (u2 fun r_4 M_5 =>
    if r_4 = 0 then
      (some ((0 : Int32), M_5))
    else
      ((fn_X0_take k0 (2 : Int32) x3 M_5).bind (u2 fun r_7 M_8 =>
      if r_7 = 0 then
        (some ((0 : Int32), M_8))
      else
        ((fn_X0_take k0 (3 : Int32) x4 M_8).bind (u2 fun r_10 M_11 =>
        if r_10 = 0 then
          (some ((0 : Int32), M_11))
        else
          ((fn_X0_take k0 (4 : Int32) x5 M_11).bind (u2 fun r_13 M_14 =>
          if r_13 = 0 then
            (some ((0 : Int32), M_14))
          else
            ((fn_X0_take k0 (5 : Int32) x6 M_14).bind (u2 fun r_16 M_17 =>
            if r_16 = 0 then
              (some ((0 : Int32), M_17))
            else
              (some ((1 : Int32), M_17)))))))))))))
theorem dX0_takeAll_0 : decode cX0_takeAll 0 = .ok (.aload_n 0, 1) := by decide +kernel
theorem dX0_takeAll_1 : decode cX0_takeAll 1 = .ok (.iconst 0, 1) := by decide +kernel
theorem dX0_takeAll_2 : decode cX0_takeAll 2 = .ok (.iload_n 1, 1) := by decide +kernel
theorem dX0_takeAll_3 : decode cX0_takeAll 3 = .ok (.invokevirtual 15, 3) := by decide +kernel
theorem dX0_takeAll_6 : decode cX0_takeAll 6 = .ok (.ifCond .eq 55, 3) := by decide +kernel
theorem dX0_takeAll_9 : decode cX0_takeAll 9 = .ok (.aload_n 0, 1) := by decide +kernel
theorem dX0_takeAll_10 : decode cX0_takeAll 10 = .ok (.iconst 1, 1) := by decide +kernel
theorem dX0_takeAll_11 : decode cX0_takeAll 11 = .ok (.iload_n 2, 1) := by decide +kernel
theorem dX0_takeAll_12 : decode cX0_takeAll 12 = .ok (.invokevirtual 15, 3) := by decide +kernel
theorem dX0_takeAll_15 : decode cX0_takeAll 15 = .ok (.ifCond .eq 46, 3) := by decide +kernel
theorem dX0_takeAll_18 : decode cX0_takeAll 18 = .ok (.aload_n 0, 1) := by decide +kernel
theorem dX0_takeAll_19 : decode cX0_takeAll 19 = .ok (.iconst 2, 1) := by decide +kernel
theorem dX0_takeAll_20 : decode cX0_takeAll 20 = .ok (.iload_n 3, 1) := by decide +kernel
theorem dX0_takeAll_21 : decode cX0_takeAll 21 = .ok (.invokevirtual 15, 3) := by decide +kernel
theorem dX0_takeAll_24 : decode cX0_takeAll 24 = .ok (.ifCond .eq 37, 3) := by decide +kernel
theorem dX0_takeAll_27 : decode cX0_takeAll 27 = .ok (.aload_n 0, 1) := by decide +kernel
theorem dX0_takeAll_28 : decode cX0_takeAll 28 = .ok (.iconst 3, 1) := by decide +kernel
theorem dX0_takeAll_29 : decode cX0_takeAll 29 = .ok (.iload 4, 2) := by decide +kernel
theorem dX0_takeAll_31 : decode cX0_takeAll 31 = .ok (.invokevirtual 15, 3) := by decide +kernel
theorem dX0_takeAll_34 : decode cX0_takeAll 34 = .ok (.ifCond .eq 27, 3) := by decide +kernel
theorem dX0_takeAll_37 : decode cX0_takeAll 37 = .ok (.aload_n 0, 1) := by decide +kernel
theorem dX0_takeAll_38 : decode cX0_takeAll 38 = .ok (.iconst 4, 1) := by decide +kernel
theorem dX0_takeAll_39 : decode cX0_takeAll 39 = .ok (.iload 5, 2) := by decide +kernel
theorem dX0_takeAll_41 : decode cX0_takeAll 41 = .ok (.invokevirtual 15, 3) := by decide +kernel
theorem dX0_takeAll_44 : decode cX0_takeAll 44 = .ok (.ifCond .eq 17, 3) := by decide +kernel
theorem dX0_takeAll_47 : decode cX0_takeAll 47 = .ok (.aload_n 0, 1) := by decide +kernel
theorem dX0_takeAll_48 : decode cX0_takeAll 48 = .ok (.iconst 5, 1) := by decide +kernel
theorem dX0_takeAll_49 : decode cX0_takeAll 49 = .ok (.iload 6, 2) := by decide +kernel
theorem dX0_takeAll_51 : decode cX0_takeAll 51 = .ok (.invokevirtual 15, 3) := by decide +kernel
theorem dX0_takeAll_54 : decode cX0_takeAll 54 = .ok (.ifCond .eq 7, 3) := by decide +kernel
theorem dX0_takeAll_57 : decode cX0_takeAll 57 = .ok (.iconst 1, 1) := by decide +kernel
theorem dX0_takeAll_58 : decode cX0_takeAll 58 = .ok (.goto 4, 3) := by decide +kernel
theorem dX0_takeAll_61 : decode cX0_takeAll 61 = .ok (.iconst 0, 1) := by decide +kernel
theorem dX0_takeAll_62 : decode cX0_takeAll 62 = .ok (.ireturn, 1) := by decide +kernel
set_option maxHeartbeats 4000000 in
set_option maxRecDepth 100000 in
theorem c_X0_takeAll {l : Launch} {X : En} (k0 : Nat) (x1 : Int32) (x2 : Int32) (x3 : Int32) (x4 : Int32) (x5 : Int32) (x6 : Int32) (M : Mem) (hk0 : isB k0) (r : Int32) (M9 : Mem) (hf : fn_X0_takeAll k0 x1 x2 x3 x4 x5 x6 M = some (r, M9)) : Cn l X yX0_takeAll cX0_takeAll 7 (some .boolean) 1 24 [.ref (X.ad k0), .int x1, .int x2, .int x3, .int x4, .int x5, .int x6] M (Qi X r M9) := by
  refine Met.ofW (cc := cX0_takeAll) (maxL := 7) (ret := (some .boolean)) (by decide) rfl ?_
  intro p e s m args below meth c s₁ B hml hv
  obtain ⟨rfl, hP, hk⟩ := hv
  have hx := B.exec
  have hb := B.bytes
  have hr := B.returns
  have hlocks := B.notSynchronized
  have hts : ∀ w ∈ lw_u, w.before ([.ref (X.ad k0), .int x1, .int x2, .int x3, .int x4, .int x5, .int x6] : List Value).toArray s = true := fun w hw => atoms_spec (ws := Cond.code yX0_takeAll cX0_takeAll 7 (some .boolean) :: lw_u) B.pre w (List.mem_cons_of_mem _ hw)
  have hown : s.vm.findClass RX0 = some m.cls := findClass_of_methodNamed B.named
  have hZ : Fx p c m s ([.ref (X.ad k0), .int x1, .int x2, .int x3, .int x4, .int x5, .int x6] : List Value).toArray X cX0_takeAll 7 RX0 := ⟨hx, hb, hml, hts, hown, hk⟩
  have hS : va_S X.A s.heap s.heap [] := va_S.rf
  have hl := lv_entry ([.ref (X.ad k0), .int x1, .int x2, .int x3, .int x4, .int x5, .int x6]) (n := 7) (Nat.le_of_ble_eq_true rfl)
  rw [lg_entry_eq]
  generalize (lg_sl ([.ref (X.ad k0), .int x1, .int x2, .int x3, .int x4, .int x5, .int x6]) ++ List.replicate (7 - (lg_sl ([.ref (X.ad k0), .int x1, .int x2, .int x3, .int x4, .int x5, .int x6])).length) Slot.unset).toArray = ls at hl ⊢
  have hl : lv_has ls 7 [(0, .ref (X.ad k0)), (1, .int x1), (2, .int x2), (3, .int x3), (4, .int x4), (5, .int x5), (6, .int x6)] := hl
  show WW p l e 1 24 s m [.ref (X.ad k0), .int x1, .int x2, .int x3, .int x4, .int x5, .int x6] below meth c X (Qi X r M9) s.heap [] 0 ls []
  have hP : wd X M s.heap := hP
  unfold fn_X0_takeAll at hf
  have key : ∀ (H : Heap) (locs : List Loc), wd X M H → va_S X.A s.heap H locs → WW p l e 1 24 s m [.ref (X.ad k0), .int x1, .int x2, .int x3, .int x4, .int x5, .int x6] below meth c X (Qi X r M9) H locs 0 ls [] := by
    intro H locs hP hS
    refine lv_aload_n hx hb dX0_takeAll_0 rfl (lv_at hl 0 rfl) ?_
    refine lv_iconst (v := (0 : Int32)) hx hb dX0_takeAll_1 (by decide) ?_
    refine lv_iload_n hx hb dX0_takeAll_2 rfl (lv_at hl 1 rfl) ?_
    obtain ⟨⟨r_1, M_2⟩, h_r_1, hf⟩ := b_d hf
    have hf := u2_e hf
    refine k_X0_take hZ hP hS hl.1 wd_2_99 ⟨Nat.le_of_ble_eq_true rfl, Nat.le_of_ble_eq_true rfl⟩ (Nat.le_of_ble_eq_true rfl) dX0_takeAll_3 ⟨Nat.zero_le _, Nat.zero_le _⟩ hk0 h_r_1 (fun H locs hP hS => ?_)
    refine lv_if_eq (tgt := 61) hx hb dX0_takeAll_6 (by decide) (fun c_3 => ?_) (fun c_3 => ?_)
    · have hf := i_t c_3 hf
      refine lv_iconst (v := (0 : Int32)) hx hb dX0_takeAll_61 (by decide) ?_
      have hf := Option.some.inj hf
      obtain ⟨e1, e2⟩ := Prod.mk.inj hf
      rw [e2] at hP
      exact ret_z hx hb hr hlocks hP hS isZ_0 e1 dX0_takeAll_62
    · have hf := i_f c_3 hf
      refine lv_aload_n hx hb dX0_takeAll_9 rfl (lv_at hl 0 rfl) ?_
      refine lv_iconst (v := (1 : Int32)) hx hb dX0_takeAll_10 (by decide) ?_
      refine lv_iload_n hx hb dX0_takeAll_11 rfl (lv_at hl 2 rfl) ?_
      obtain ⟨⟨r_4, M_5⟩, h_r_4, hf⟩ := b_d hf
      have hf := u2_e hf
      refine k_X0_take hZ hP hS hl.1 wd_2_99 ⟨Nat.le_of_ble_eq_true rfl, Nat.le_of_ble_eq_true rfl⟩ (Nat.le_of_ble_eq_true rfl) dX0_takeAll_12 ⟨Nat.zero_le _, Nat.zero_le _⟩ hk0 h_r_4 (fun H locs hP hS => ?_)
      refine lv_if_eq (tgt := 61) hx hb dX0_takeAll_15 (by decide) (fun c_6 => ?_) (fun c_6 => ?_)
      · have hf := i_t c_6 hf
        refine lv_iconst (v := (0 : Int32)) hx hb dX0_takeAll_61 (by decide) ?_
        have hf := Option.some.inj hf
        obtain ⟨e1, e2⟩ := Prod.mk.inj hf
        rw [e2] at hP
        exact ret_z hx hb hr hlocks hP hS isZ_0 e1 dX0_takeAll_62
      · have hf := i_f c_6 hf
        refine lv_aload_n hx hb dX0_takeAll_18 rfl (lv_at hl 0 rfl) ?_
        refine lv_iconst (v := (2 : Int32)) hx hb dX0_takeAll_19 (by decide) ?_
        refine lv_iload_n hx hb dX0_takeAll_20 rfl (lv_at hl 3 rfl) ?_
        obtain ⟨⟨r_7, M_8⟩, h_r_7, hf⟩ := b_d hf
        have hf := u2_e hf
        refine k_X0_take hZ hP hS hl.1 wd_2_99 ⟨Nat.le_of_ble_eq_true rfl, Nat.le_of_ble_eq_true rfl⟩ (Nat.le_of_ble_eq_true rfl) dX0_takeAll_21 ⟨Nat.zero_le _, Nat.zero_le _⟩ hk0 h_r_7 (fun H locs hP hS => ?_)
        refine lv_if_eq (tgt := 61) hx hb dX0_takeAll_24 (by decide) (fun c_9 => ?_) (fun c_9 => ?_)
        · have hf := i_t c_9 hf
          refine lv_iconst (v := (0 : Int32)) hx hb dX0_takeAll_61 (by decide) ?_
          have hf := Option.some.inj hf
          obtain ⟨e1, e2⟩ := Prod.mk.inj hf
          rw [e2] at hP
          exact ret_z hx hb hr hlocks hP hS isZ_0 e1 dX0_takeAll_62
        · have hf := i_f c_9 hf
          refine lv_aload_n hx hb dX0_takeAll_27 rfl (lv_at hl 0 rfl) ?_
          refine lv_iconst (v := (3 : Int32)) hx hb dX0_takeAll_28 (by decide) ?_
          refine lv_iload hx hb dX0_takeAll_29 (lv_at hl 4 rfl) ?_
          obtain ⟨⟨r_10, M_11⟩, h_r_10, hf⟩ := b_d hf
          have hf := u2_e hf
          refine k_X0_take hZ hP hS hl.1 wd_2_99 ⟨Nat.le_of_ble_eq_true rfl, Nat.le_of_ble_eq_true rfl⟩ (Nat.le_of_ble_eq_true rfl) dX0_takeAll_31 ⟨Nat.zero_le _, Nat.zero_le _⟩ hk0 h_r_10 (fun H locs hP hS => ?_)
          refine lv_if_eq (tgt := 61) hx hb dX0_takeAll_34 (by decide) (fun c_12 => ?_) (fun c_12 => ?_)
          · have hf := i_t c_12 hf
            refine lv_iconst (v := (0 : Int32)) hx hb dX0_takeAll_61 (by decide) ?_
            have hf := Option.some.inj hf
            obtain ⟨e1, e2⟩ := Prod.mk.inj hf
            rw [e2] at hP
            exact ret_z hx hb hr hlocks hP hS isZ_0 e1 dX0_takeAll_62
          · have hf := i_f c_12 hf
            refine lv_aload_n hx hb dX0_takeAll_37 rfl (lv_at hl 0 rfl) ?_
            refine lv_iconst (v := (4 : Int32)) hx hb dX0_takeAll_38 (by decide) ?_
            refine lv_iload hx hb dX0_takeAll_39 (lv_at hl 5 rfl) ?_
            obtain ⟨⟨r_13, M_14⟩, h_r_13, hf⟩ := b_d hf
            have hf := u2_e hf
            refine k_X0_take hZ hP hS hl.1 wd_2_99 ⟨Nat.le_of_ble_eq_true rfl, Nat.le_of_ble_eq_true rfl⟩ (Nat.le_of_ble_eq_true rfl) dX0_takeAll_41 ⟨Nat.zero_le _, Nat.zero_le _⟩ hk0 h_r_13 (fun H locs hP hS => ?_)
            refine lv_if_eq (tgt := 61) hx hb dX0_takeAll_44 (by decide) (fun c_15 => ?_) (fun c_15 => ?_)
            · have hf := i_t c_15 hf
              refine lv_iconst (v := (0 : Int32)) hx hb dX0_takeAll_61 (by decide) ?_
              have hf := Option.some.inj hf
              obtain ⟨e1, e2⟩ := Prod.mk.inj hf
              rw [e2] at hP
              exact ret_z hx hb hr hlocks hP hS isZ_0 e1 dX0_takeAll_62
            · have hf := i_f c_15 hf
              refine lv_aload_n hx hb dX0_takeAll_47 rfl (lv_at hl 0 rfl) ?_
              refine lv_iconst (v := (5 : Int32)) hx hb dX0_takeAll_48 (by decide) ?_
              refine lv_iload hx hb dX0_takeAll_49 (lv_at hl 6 rfl) ?_
              obtain ⟨⟨r_16, M_17⟩, h_r_16, hf⟩ := b_d hf
              have hf := u2_e hf
              refine k_X0_take hZ hP hS hl.1 wd_2_99 ⟨Nat.le_of_ble_eq_true rfl, Nat.le_of_ble_eq_true rfl⟩ (Nat.le_of_ble_eq_true rfl) dX0_takeAll_51 ⟨Nat.zero_le _, Nat.zero_le _⟩ hk0 h_r_16 (fun H locs hP hS => ?_)
              refine lv_if_eq (tgt := 61) hx hb dX0_takeAll_54 (by decide) (fun c_18 => ?_) (fun c_18 => ?_)
              · have hf := i_t c_18 hf
                refine lv_iconst (v := (0 : Int32)) hx hb dX0_takeAll_61 (by decide) ?_
                have hf := Option.some.inj hf
                obtain ⟨e1, e2⟩ := Prod.mk.inj hf
                rw [e2] at hP
                exact ret_z hx hb hr hlocks hP hS isZ_0 e1 dX0_takeAll_62
              · have hf := i_f c_18 hf
                refine lv_iconst (v := (1 : Int32)) hx hb dX0_takeAll_57 (by decide) ?_
                refine lv_goto (tgt := 62) hx hb dX0_takeAll_58 (by decide) ?_
                have hf := Option.some.inj hf
                obtain ⟨e1, e2⟩ := Prod.mk.inj hf
                rw [e2] at hP
                exact ret_z hx hb hr hlocks hP hS isZ_1 e1 dX0_takeAll_62
  exact key s.heap [] hP hS
theorem hd_X0_takeAll : Hd yX0_takeAll 6 := by decide +kernel
theorem k_X0_takeAll {p : Program} {l : Launch} {e : Env} {R : Room} {s : State} {m : MethodId} {args : Array Value} {below : List Frame} {meth : Method} {c : Code} {H : Heap} {locs : List Loc} {cells slots : Nat} {Q : State → Prop} {cc : ByteArray} {nL pc index : Nat} {ls : Array Slot} {rest : List Value} {X : En} {M : Mem} {H0 : Heap} {own : String} {k0 : Nat} {x1 : Int32} {x2 : Int32} {x3 : Int32} {x4 : Int32} {x5 : Int32} {x6 : Int32} {r : Int32} {M9 : Mem} (hZ : Fx p c m s args X cc nL own) (hP : wd X M H) (hS : va_S X.A H0 H locs) (hsz : ls.size = nL) (hlk : Cond.methodLink own index yX0_takeAll ∈ lw_u) (hR : 1 + 1 ≤ R.frames ∧ 8 + (7 + 11) + 24 ≤ R.locals) (hW : (rest.map fun v => v.category).sum ≤ 8) (hdg : decode cc pc = .ok (.invokevirtual index, 3)) (hcs : cells ≤ R.cells ∧ slots ≤ R.slots) (hk0 : isB k0) (hf : fn_X0_takeAll k0 x1 x2 x3 x4 x5 x6 M = some (r, M9))
    (kk : ∀ (H1 : Heap) (locs1 : List Loc), wd X M9 H1 → va_S X.A H0 H1 locs1 → W p l e R s m args below meth c H1 locs1 cells slots Q (F0 m (pc + 3) ls (.int r :: rest))) : W p l e R s m args below meth c H locs cells slots Q (F0 m pc ls (.int x6 :: .int x5 :: .int x4 :: .int x3 :: .int x2 :: .int x1 :: .ref (X.ad k0) :: rest)) :=
  cal_i (runV (As := [.int x1, .int x2, .int x3, .int x4, .int x5, .int x6]) (rest := rest) hZ.1 hZ.2.1 hZ.2.2.1 hZ.2.2.2.1 hZ.2.2.2.2.1 hZ.2.2.2.2.2 hP (c_X0_takeAll k0 x1 x2 x3 x4 x5 x6 M hk0 r M9 hf) wd_2_98 wd_2_96 wd_2_97 wd_1_8 hd_X0_takeAll (isB_lt0 hk0) (rd_B0 hk0 _) rfl rfl hlk hR hsz rfl hW hdg hcs) hS kk
/-! FrameRaiser.addPiece -/
def fn_X7_addPiece (g : Nat) (x1 : Int32) (x2 : Int32) (x3 : Int32) (x4 : Int32) (x5 : Int32) (x6 : Int32) (M : Mem) : Option (Int32 × Mem) :=
  (fn_X0_takeAll 51 x1 x2 x3 x4 x5 x6 M).bind (u2 fun r_1 M_2 =>
  if r_1 = 0 then
    (some ((-1 : Int32), M_2))
  else
    ((fn_X1_meetsOther g 1 51 (-1 : Int32) M_2).bind fun r_4 =>
    if r_4 = 0 then
      (if (M_2 1 2) < (8 : Int32) then
        ((fn_X2_remember 1 M_2).bind fun M_7 =>
        (fn_X1_addBox g 1 51 (M_7 1 2) M_7).bind fun M_8 =>
        (fn_X7_forgetPieces M_8).bind fun M_9 =>
        some ((M_9 1 2) - (1 : Int32), M_9))
      else
        (some ((-3 : Int32), M_2)))
    else
      (some ((-2 : Int32), M_2))))
theorem dX7_addPiece_0 : decode cX7_addPiece 0 = .ok (.aload_n 0, 1) := by decide +kernel
theorem dX7_addPiece_1 : decode cX7_addPiece 1 = .ok (.getfield 56, 3) := by decide +kernel
theorem dX7_addPiece_4 : decode cX7_addPiece 4 = .ok (.iload_n 1, 1) := by decide +kernel
theorem dX7_addPiece_5 : decode cX7_addPiece 5 = .ok (.iload_n 2, 1) := by decide +kernel
theorem dX7_addPiece_6 : decode cX7_addPiece 6 = .ok (.iload_n 3, 1) := by decide +kernel
theorem dX7_addPiece_7 : decode cX7_addPiece 7 = .ok (.iload 4, 2) := by decide +kernel
theorem dX7_addPiece_9 : decode cX7_addPiece 9 = .ok (.iload 5, 2) := by decide +kernel
theorem dX7_addPiece_11 : decode cX7_addPiece 11 = .ok (.iload 6, 2) := by decide +kernel
theorem dX7_addPiece_13 : decode cX7_addPiece 13 = .ok (.invokevirtual 97, 3) := by decide +kernel
theorem dX7_addPiece_16 : decode cX7_addPiece 16 = .ok (.ifCond .ne 5, 3) := by decide +kernel
theorem dX7_addPiece_19 : decode cX7_addPiece 19 = .ok (.iconst (-1), 1) := by decide +kernel
theorem dX7_addPiece_20 : decode cX7_addPiece 20 = .ok (.ireturn, 1) := by decide +kernel
theorem dX7_addPiece_21 : decode cX7_addPiece 21 = .ok (.aload_n 0, 1) := by decide +kernel
theorem dX7_addPiece_22 : decode cX7_addPiece 22 = .ok (.getfield 10, 3) := by decide +kernel
theorem dX7_addPiece_25 : decode cX7_addPiece 25 = .ok (.aload_n 0, 1) := by decide +kernel
theorem dX7_addPiece_26 : decode cX7_addPiece 26 = .ok (.getfield 56, 3) := by decide +kernel
theorem dX7_addPiece_29 : decode cX7_addPiece 29 = .ok (.iconst (-1), 1) := by decide +kernel
theorem dX7_addPiece_30 : decode cX7_addPiece 30 = .ok (.invokevirtual 101, 3) := by decide +kernel
theorem dX7_addPiece_33 : decode cX7_addPiece 33 = .ok (.ifCond .eq 6, 3) := by decide +kernel
theorem dX7_addPiece_36 : decode cX7_addPiece 36 = .ok (.bipush (-2), 2) := by decide +kernel
theorem dX7_addPiece_38 : decode cX7_addPiece 38 = .ok (.ireturn, 1) := by decide +kernel
theorem dX7_addPiece_39 : decode cX7_addPiece 39 = .ok (.aload_n 0, 1) := by decide +kernel
theorem dX7_addPiece_40 : decode cX7_addPiece 40 = .ok (.getfield 10, 3) := by decide +kernel
theorem dX7_addPiece_43 : decode cX7_addPiece 43 = .ok (.getfield 91, 3) := by decide +kernel
theorem dX7_addPiece_46 : decode cX7_addPiece 46 = .ok (.bipush 8, 2) := by decide +kernel
theorem dX7_addPiece_48 : decode cX7_addPiece 48 = .ok (.if_icmp .lt 6, 3) := by decide +kernel
theorem dX7_addPiece_51 : decode cX7_addPiece 51 = .ok (.bipush (-3), 2) := by decide +kernel
theorem dX7_addPiece_53 : decode cX7_addPiece 53 = .ok (.ireturn, 1) := by decide +kernel
theorem dX7_addPiece_54 : decode cX7_addPiece 54 = .ok (.aload_n 0, 1) := by decide +kernel
theorem dX7_addPiece_55 : decode cX7_addPiece 55 = .ok (.getfield 42, 3) := by decide +kernel
theorem dX7_addPiece_58 : decode cX7_addPiece 58 = .ok (.aload_n 0, 1) := by decide +kernel
theorem dX7_addPiece_59 : decode cX7_addPiece 59 = .ok (.getfield 10, 3) := by decide +kernel
theorem dX7_addPiece_62 : decode cX7_addPiece 62 = .ok (.invokevirtual 81, 3) := by decide +kernel
theorem dX7_addPiece_65 : decode cX7_addPiece 65 = .ok (.aload_n 0, 1) := by decide +kernel
theorem dX7_addPiece_66 : decode cX7_addPiece 66 = .ok (.getfield 10, 3) := by decide +kernel
theorem dX7_addPiece_69 : decode cX7_addPiece 69 = .ok (.aload_n 0, 1) := by decide +kernel
theorem dX7_addPiece_70 : decode cX7_addPiece 70 = .ok (.getfield 56, 3) := by decide +kernel
theorem dX7_addPiece_73 : decode cX7_addPiece 73 = .ok (.aload_n 0, 1) := by decide +kernel
theorem dX7_addPiece_74 : decode cX7_addPiece 74 = .ok (.getfield 10, 3) := by decide +kernel
theorem dX7_addPiece_77 : decode cX7_addPiece 77 = .ok (.getfield 91, 3) := by decide +kernel
theorem dX7_addPiece_80 : decode cX7_addPiece 80 = .ok (.invokevirtual 105, 3) := by decide +kernel
theorem dX7_addPiece_83 : decode cX7_addPiece 83 = .ok (.aload_n 0, 1) := by decide +kernel
theorem dX7_addPiece_84 : decode cX7_addPiece 84 = .ok (.invokevirtual 88, 3) := by decide +kernel
theorem dX7_addPiece_87 : decode cX7_addPiece 87 = .ok (.aload_n 0, 1) := by decide +kernel
theorem dX7_addPiece_88 : decode cX7_addPiece 88 = .ok (.getfield 10, 3) := by decide +kernel
theorem dX7_addPiece_91 : decode cX7_addPiece 91 = .ok (.getfield 91, 3) := by decide +kernel
theorem dX7_addPiece_94 : decode cX7_addPiece 94 = .ok (.iconst 1, 1) := by decide +kernel
theorem dX7_addPiece_95 : decode cX7_addPiece 95 = .ok (.isub, 1) := by decide +kernel
theorem dX7_addPiece_96 : decode cX7_addPiece 96 = .ok (.ireturn, 1) := by decide +kernel
set_option maxHeartbeats 4000000 in
set_option maxRecDepth 100000 in
theorem c_X7_addPiece {l : Launch} {X : En} (g : Nat) (x1 : Int32) (x2 : Int32) (x3 : Int32) (x4 : Int32) (x5 : Int32) (x6 : Int32) (M : Mem) (r : Int32) (M9 : Mem) (hf : fn_X7_addPiece g x1 x2 x3 x4 x5 x6 M = some (r, M9)) : Cn l X yX7_addPiece cX7_addPiece 7 (some .int) 3 82 [.ref (X.ad 0), .int x1, .int x2, .int x3, .int x4, .int x5, .int x6] M (Qi X r M9) := by
  refine Met.ofW (cc := cX7_addPiece) (maxL := 7) (ret := (some .int)) (by decide) rfl ?_
  intro p e s m args below meth c s₁ B hml hv
  obtain ⟨rfl, hP, hk⟩ := hv
  have hx := B.exec
  have hb := B.bytes
  have hr := B.returns
  have hlocks := B.notSynchronized
  have hts : ∀ w ∈ lw_u, w.before ([.ref (X.ad 0), .int x1, .int x2, .int x3, .int x4, .int x5, .int x6] : List Value).toArray s = true := fun w hw => atoms_spec (ws := Cond.code yX7_addPiece cX7_addPiece 7 (some .int) :: lw_u) B.pre w (List.mem_cons_of_mem _ hw)
  have hown : s.vm.findClass RX7 = some m.cls := findClass_of_methodNamed B.named
  have hZ : Fx p c m s ([.ref (X.ad 0), .int x1, .int x2, .int x3, .int x4, .int x5, .int x6] : List Value).toArray X cX7_addPiece 7 RX7 := ⟨hx, hb, hml, hts, hown, hk⟩
  have hS : va_S X.A s.heap s.heap [] := va_S.rf
  have hl := lv_entry ([.ref (X.ad 0), .int x1, .int x2, .int x3, .int x4, .int x5, .int x6]) (n := 7) (Nat.le_of_ble_eq_true rfl)
  rw [lg_entry_eq]
  generalize (lg_sl ([.ref (X.ad 0), .int x1, .int x2, .int x3, .int x4, .int x5, .int x6]) ++ List.replicate (7 - (lg_sl ([.ref (X.ad 0), .int x1, .int x2, .int x3, .int x4, .int x5, .int x6])).length) Slot.unset).toArray = ls at hl ⊢
  have hl : lv_has ls 7 [(0, .ref (X.ad 0)), (1, .int x1), (2, .int x2), (3, .int x3), (4, .int x4), (5, .int x5), (6, .int x6)] := hl
  show WW p l e 3 82 s m [.ref (X.ad 0), .int x1, .int x2, .int x3, .int x4, .int x5, .int x6] below meth c X (Qi X r M9) s.heap [] 0 ls []
  have hP : wd X M s.heap := hP
  unfold fn_X7_addPiece at hf
  have key : ∀ (H : Heap) (locs : List Loc), wd X M H → va_S X.A s.heap H locs → WW p l e 3 82 s m [.ref (X.ad 0), .int x1, .int x2, .int x3, .int x4, .int x5, .int x6] below meth c X (Qi X r M9) H locs 0 ls [] := by
    intro H locs hP hS
    refine lv_aload_n hx hb dX7_addPiece_0 rfl (lv_at hl 0 rfl) ?_
    refine gX7_6 hx hb hts hown hk hP wd_1_219 dX7_addPiece_1 ?_
    refine lv_iload_n hx hb dX7_addPiece_4 rfl (lv_at hl 1 rfl) ?_
    refine lv_iload_n hx hb dX7_addPiece_5 rfl (lv_at hl 2 rfl) ?_
    refine lv_iload_n hx hb dX7_addPiece_6 rfl (lv_at hl 3 rfl) ?_
    refine lv_iload hx hb dX7_addPiece_7 (lv_at hl 4 rfl) ?_
    refine lv_iload hx hb dX7_addPiece_9 (lv_at hl 5 rfl) ?_
    refine lv_iload hx hb dX7_addPiece_11 (lv_at hl 6 rfl) ?_
    obtain ⟨⟨r_1, M_2⟩, h_r_1, hf⟩ := b_d hf
    have hf := u2_e hf
    refine k_X0_takeAll hZ hP hS hl.1 wd_2_95 ⟨Nat.le_of_ble_eq_true rfl, Nat.le_of_ble_eq_true rfl⟩ (Nat.le_of_ble_eq_true rfl) dX7_addPiece_13 ⟨Nat.zero_le _, Nat.zero_le _⟩ isB_51 h_r_1 (fun H locs hP hS => ?_)
    refine lv_if_ne (tgt := 21) hx hb dX7_addPiece_16 (by decide) (fun c_3 => ?_) (fun c_3 => ?_)
    · have hf := i_f c_3 hf
      refine lv_aload_n hx hb dX7_addPiece_21 rfl (lv_at hl 0 rfl) ?_
      refine gX7_0 hx hb hts hown hk hP wd_1_213 dX7_addPiece_22 ?_
      refine lv_aload_n hx hb dX7_addPiece_25 rfl (lv_at hl 0 rfl) ?_
      refine gX7_6 hx hb hts hown hk hP wd_1_219 dX7_addPiece_26 ?_
      refine lv_iconst (v := (-1 : Int32)) hx hb dX7_addPiece_29 (by decide) ?_
      obtain ⟨r_4, h_r_4, hf⟩ := b_d hf
      refine k_X1_meetsOther hZ hP hS hl.1 wd_2_100 ⟨Nat.le_of_ble_eq_true rfl, Nat.le_of_ble_eq_true rfl⟩ (Nat.le_of_ble_eq_true rfl) dX7_addPiece_30 ⟨Nat.zero_le _, Nat.zero_le _⟩ isF_1 isB_51 h_r_4 (fun H locs hP hS => ?_)
      refine lv_if_eq (tgt := 39) hx hb dX7_addPiece_33 (by decide) (fun c_5 => ?_) (fun c_5 => ?_)
      · have hf := i_t c_5 hf
        refine lv_aload_n hx hb dX7_addPiece_39 rfl (lv_at hl 0 rfl) ?_
        refine gX7_0 hx hb hts hown hk hP wd_1_213 dX7_addPiece_40 ?_
        refine gX1_2 hx hb hts hown hk hP isF_1 wd_1_40 dX7_addPiece_43 ?_
        refine lv_bipush (v := (8 : Int32)) hx hb dX7_addPiece_46 (by decide) ?_
        refine lv_icmp_lt (tgt := 54) hx hb dX7_addPiece_48 (by decide) (fun c_6 => ?_) (fun c_6 => ?_)
        · have hf := i_t c_6 hf
          refine lv_aload_n hx hb dX7_addPiece_54 rfl (lv_at hl 0 rfl) ?_
          refine gX7_4 hx hb hts hown hk hP wd_1_217 dX7_addPiece_55 ?_
          refine lv_aload_n hx hb dX7_addPiece_58 rfl (lv_at hl 0 rfl) ?_
          refine gX7_0 hx hb hts hown hk hP wd_1_213 dX7_addPiece_59 ?_
          obtain ⟨M_7, h_M_7, hf⟩ := b_d hf
          refine k_X2_remember hZ hP hS hl.1 wd_2_66 ⟨Nat.le_of_ble_eq_true rfl, Nat.le_of_ble_eq_true rfl⟩ (Nat.le_of_ble_eq_true rfl) dX7_addPiece_62 ⟨Nat.zero_le _, Nat.zero_le _⟩ isF_1 h_M_7 (fun H locs hP hS => ?_)
          refine lv_aload_n hx hb dX7_addPiece_65 rfl (lv_at hl 0 rfl) ?_
          refine gX7_0 hx hb hts hown hk hP wd_1_213 dX7_addPiece_66 ?_
          refine lv_aload_n hx hb dX7_addPiece_69 rfl (lv_at hl 0 rfl) ?_
          refine gX7_6 hx hb hts hown hk hP wd_1_219 dX7_addPiece_70 ?_
          refine lv_aload_n hx hb dX7_addPiece_73 rfl (lv_at hl 0 rfl) ?_
          refine gX7_0 hx hb hts hown hk hP wd_1_213 dX7_addPiece_74 ?_
          refine gX1_2 hx hb hts hown hk hP isF_1 wd_1_40 dX7_addPiece_77 ?_
          obtain ⟨M_8, h_M_8, hf⟩ := b_d hf
          refine k_X1_addBox hZ hP hS hl.1 wd_2_101 ⟨Nat.le_of_ble_eq_true rfl, Nat.le_of_ble_eq_true rfl⟩ (Nat.le_of_ble_eq_true rfl) dX7_addPiece_80 ⟨Nat.zero_le _, Nat.zero_le _⟩ isF_1 isB_51 h_M_8 (fun H locs hP hS => ?_)
          refine lv_aload_n hx hb dX7_addPiece_83 rfl (lv_at hl 0 rfl) ?_
          obtain ⟨M_9, h_M_9, hf⟩ := b_d hf
          refine k_X7_forgetPieces hZ hP hS hl.1 wd_2_78 ⟨Nat.le_of_ble_eq_true rfl, Nat.le_of_ble_eq_true rfl⟩ (Nat.le_of_ble_eq_true rfl) dX7_addPiece_84 ⟨Nat.zero_le _, Nat.zero_le _⟩ h_M_9 (fun H locs hP hS => ?_)
          refine lv_aload_n hx hb dX7_addPiece_87 rfl (lv_at hl 0 rfl) ?_
          refine gX7_0 hx hb hts hown hk hP wd_1_213 dX7_addPiece_88 ?_
          refine gX1_2 hx hb hts hown hk hP isF_1 wd_1_40 dX7_addPiece_91 ?_
          refine lv_iconst (v := (1 : Int32)) hx hb dX7_addPiece_94 (by decide) ?_
          refine lv_isub hx hb dX7_addPiece_95 ?_
          have hf := Option.some.inj hf
          obtain ⟨e1, e2⟩ := Prod.mk.inj hf
          rw [e2] at hP
          exact ret_i hx hb hr hlocks hP hS e1 dX7_addPiece_96
        · have hf := i_f c_6 hf
          refine lv_bipush (v := (-3 : Int32)) hx hb dX7_addPiece_51 (by decide) ?_
          have hf := Option.some.inj hf
          obtain ⟨e1, e2⟩ := Prod.mk.inj hf
          rw [e2] at hP
          exact ret_i hx hb hr hlocks hP hS e1 dX7_addPiece_53
      · have hf := i_f c_5 hf
        refine lv_bipush (v := (-2 : Int32)) hx hb dX7_addPiece_36 (by decide) ?_
        have hf := Option.some.inj hf
        obtain ⟨e1, e2⟩ := Prod.mk.inj hf
        rw [e2] at hP
        exact ret_i hx hb hr hlocks hP hS e1 dX7_addPiece_38
    · have hf := i_t c_3 hf
      refine lv_iconst (v := (-1 : Int32)) hx hb dX7_addPiece_19 (by decide) ?_
      have hf := Option.some.inj hf
      obtain ⟨e1, e2⟩ := Prod.mk.inj hf
      rw [e2] at hP
      exact ret_i hx hb hr hlocks hP hS e1 dX7_addPiece_20
  exact key s.heap [] hP hS
theorem hd_X7_addPiece : Hd yX7_addPiece 6 := by decide +kernel
theorem k_X7_addPiece {p : Program} {l : Launch} {e : Env} {R : Room} {s : State} {m : MethodId} {args : Array Value} {below : List Frame} {meth : Method} {c : Code} {H : Heap} {locs : List Loc} {cells slots : Nat} {Q : State → Prop} {cc : ByteArray} {nL pc index : Nat} {ls : Array Slot} {rest : List Value} {X : En} {M : Mem} {H0 : Heap} {own : String} {g : Nat} {x1 : Int32} {x2 : Int32} {x3 : Int32} {x4 : Int32} {x5 : Int32} {x6 : Int32} {r : Int32} {M9 : Mem} (hZ : Fx p c m s args X cc nL own) (hP : wd X M H) (hS : va_S X.A H0 H locs) (hsz : ls.size = nL) (hlk : Cond.methodLink own index yX7_addPiece ∈ lw_u) (hR : 3 + 1 ≤ R.frames ∧ 8 + (7 + 11) + 82 ≤ R.locals) (hW : (rest.map fun v => v.category).sum ≤ 8) (hdg : decode cc pc = .ok (.invokevirtual index, 3)) (hcs : cells ≤ R.cells ∧ slots ≤ R.slots) (hf : fn_X7_addPiece g x1 x2 x3 x4 x5 x6 M = some (r, M9))
    (kk : ∀ (H1 : Heap) (locs1 : List Loc), wd X M9 H1 → va_S X.A H0 H1 locs1 → W p l e R s m args below meth c H1 locs1 cells slots Q (F0 m (pc + 3) ls (.int r :: rest))) : W p l e R s m args below meth c H locs cells slots Q (F0 m pc ls (.int x6 :: .int x5 :: .int x4 :: .int x3 :: .int x2 :: .int x1 :: .ref (X.ad 0) :: rest)) :=
  cal_i (runV (As := [.int x1, .int x2, .int x3, .int x4, .int x5, .int x6]) (rest := rest) hZ.1 hZ.2.1 hZ.2.2.1 hZ.2.2.2.1 hZ.2.2.2.2.1 hZ.2.2.2.2.2 hP (c_X7_addPiece g x1 x2 x3 x4 x5 x6 M r M9 hf) wd_2_94 wd_2_92 wd_2_93 wd_1_1 hd_X7_addPiece (by decide) rfl rfl rfl hlk hR hsz rfl hW hdg hcs) hS kk
/-! FrameRaiser.isPiece -/
def fn_X7_isPiece (x1 : Int32) (M : Mem) : Int32 :=
  if x1 < 0 then
    ((0 : Int32))
  else
    (if (M 1 2) ≤ x1 then
      ((0 : Int32))
    else
      ((1 : Int32)))
theorem dX7_isPiece_0 : decode cX7_isPiece 0 = .ok (.iload_n 1, 1) := by decide +kernel
theorem dX7_isPiece_1 : decode cX7_isPiece 1 = .ok (.ifCond .lt 18, 3) := by decide +kernel
theorem dX7_isPiece_4 : decode cX7_isPiece 4 = .ok (.iload_n 1, 1) := by decide +kernel
theorem dX7_isPiece_5 : decode cX7_isPiece 5 = .ok (.aload_n 0, 1) := by decide +kernel
theorem dX7_isPiece_6 : decode cX7_isPiece 6 = .ok (.getfield 10, 3) := by decide +kernel
theorem dX7_isPiece_9 : decode cX7_isPiece 9 = .ok (.getfield 91, 3) := by decide +kernel
theorem dX7_isPiece_12 : decode cX7_isPiece 12 = .ok (.if_icmp .ge 7, 3) := by decide +kernel
theorem dX7_isPiece_15 : decode cX7_isPiece 15 = .ok (.iconst 1, 1) := by decide +kernel
theorem dX7_isPiece_16 : decode cX7_isPiece 16 = .ok (.goto 4, 3) := by decide +kernel
theorem dX7_isPiece_19 : decode cX7_isPiece 19 = .ok (.iconst 0, 1) := by decide +kernel
theorem dX7_isPiece_20 : decode cX7_isPiece 20 = .ok (.ireturn, 1) := by decide +kernel
theorem z_X7_isPiece (x1 : Int32) (M : Mem) : isZ (fn_X7_isPiece x1 M) := by
  unfold fn_X7_isPiece
  repeat' (first | exact isZ_0 | exact isZ_1 | split)
set_option maxHeartbeats 4000000 in
set_option maxRecDepth 100000 in
theorem c_X7_isPiece {l : Launch} {X : En} (x1 : Int32) (M : Mem) (r : Int32) (hf : fn_X7_isPiece x1 M = r) : Cn l X yX7_isPiece cX7_isPiece 2 (some .boolean) 0 0 [.ref (X.ad 0), .int x1] M (Qi X r M) := by
  refine Met.ofW (cc := cX7_isPiece) (maxL := 2) (ret := (some .boolean)) (by decide) rfl ?_
  intro p e s m args below meth c s₁ B hml hv
  obtain ⟨rfl, hP, hk⟩ := hv
  have hx := B.exec
  have hb := B.bytes
  have hr := B.returns
  have hlocks := B.notSynchronized
  have hts : ∀ w ∈ lw_u, w.before ([.ref (X.ad 0), .int x1] : List Value).toArray s = true := fun w hw => atoms_spec (ws := Cond.code yX7_isPiece cX7_isPiece 2 (some .boolean) :: lw_u) B.pre w (List.mem_cons_of_mem _ hw)
  have hown : s.vm.findClass RX7 = some m.cls := findClass_of_methodNamed B.named
  have hZ : Fx p c m s ([.ref (X.ad 0), .int x1] : List Value).toArray X cX7_isPiece 2 RX7 := ⟨hx, hb, hml, hts, hown, hk⟩
  have hS : va_S X.A s.heap s.heap [] := va_S.rf
  have hl := lv_entry ([.ref (X.ad 0), .int x1]) (n := 2) (Nat.le_of_ble_eq_true rfl)
  rw [lg_entry_eq]
  generalize (lg_sl ([.ref (X.ad 0), .int x1]) ++ List.replicate (2 - (lg_sl ([.ref (X.ad 0), .int x1])).length) Slot.unset).toArray = ls at hl ⊢
  have hl : lv_has ls 2 [(0, .ref (X.ad 0)), (1, .int x1)] := hl
  show WW p l e 0 0 s m [.ref (X.ad 0), .int x1] below meth c X (Qi X r M) s.heap [] 0 ls []
  have hP : wd X M s.heap := hP
  unfold fn_X7_isPiece at hf
  have key : ∀ (H : Heap) (locs : List Loc), wd X M H → va_S X.A s.heap H locs → WW p l e 0 0 s m [.ref (X.ad 0), .int x1] below meth c X (Qi X r M) H locs 0 ls [] := by
    intro H locs hP hS
    refine lv_iload_n hx hb dX7_isPiece_0 rfl (lv_at hl 1 rfl) ?_
    refine lv_if_lt (tgt := 19) hx hb dX7_isPiece_1 (by decide) (fun c_1 => ?_) (fun c_1 => ?_)
    · have hf := i_t c_1 hf
      refine lv_iconst (v := (0 : Int32)) hx hb dX7_isPiece_19 (by decide) ?_
      exact ret_z hx hb hr hlocks hP hS isZ_0 hf dX7_isPiece_20
    · have hf := i_f c_1 hf
      refine lv_iload_n hx hb dX7_isPiece_4 rfl (lv_at hl 1 rfl) ?_
      refine lv_aload_n hx hb dX7_isPiece_5 rfl (lv_at hl 0 rfl) ?_
      refine gX7_0 hx hb hts hown hk hP wd_1_213 dX7_isPiece_6 ?_
      refine gX1_2 hx hb hts hown hk hP isF_1 wd_1_40 dX7_isPiece_9 ?_
      refine lv_icmp_ge (tgt := 19) hx hb dX7_isPiece_12 (by decide) (fun c_2 => ?_) (fun c_2 => ?_)
      · have hf := i_t c_2 hf
        refine lv_iconst (v := (0 : Int32)) hx hb dX7_isPiece_19 (by decide) ?_
        exact ret_z hx hb hr hlocks hP hS isZ_0 hf dX7_isPiece_20
      · have hf := i_f c_2 hf
        refine lv_iconst (v := (1 : Int32)) hx hb dX7_isPiece_15 (by decide) ?_
        refine lv_goto (tgt := 20) hx hb dX7_isPiece_16 (by decide) ?_
        exact ret_z hx hb hr hlocks hP hS isZ_1 hf dX7_isPiece_20
  exact key s.heap [] hP hS
theorem hd_X7_isPiece : Hd yX7_isPiece 1 := by decide +kernel
theorem k_X7_isPiece {p : Program} {l : Launch} {e : Env} {R : Room} {s : State} {m : MethodId} {args : Array Value} {below : List Frame} {meth : Method} {c : Code} {H : Heap} {locs : List Loc} {cells slots : Nat} {Q : State → Prop} {cc : ByteArray} {nL pc index : Nat} {ls : Array Slot} {rest : List Value} {X : En} {M : Mem} {H0 : Heap} {own : String} {x1 : Int32} (hZ : Fx p c m s args X cc nL own) (hP : wd X M H) (hS : va_S X.A H0 H locs) (hsz : ls.size = nL) (hlk : Cond.methodLink own index yX7_isPiece ∈ lw_u) (hR : 0 + 1 ≤ R.frames ∧ 8 + (2 + 11) + 0 ≤ R.locals) (hW : (rest.map fun v => v.category).sum ≤ 8) (hdg : decode cc pc = .ok (.invokevirtual index, 3)) (hcs : cells ≤ R.cells ∧ slots ≤ R.slots)
    (kk : ∀ (H1 : Heap) (locs1 : List Loc), wd X M H1 → va_S X.A H0 H1 locs1 → W p l e R s m args below meth c H1 locs1 cells slots Q (F0 m (pc + 3) ls (.int (fn_X7_isPiece x1 M) :: rest))) : W p l e R s m args below meth c H locs cells slots Q (F0 m pc ls (.int x1 :: .ref (X.ad 0) :: rest)) :=
  cal_i (runV (As := [.int x1]) (rest := rest) hZ.1 hZ.2.1 hZ.2.2.1 hZ.2.2.2.1 hZ.2.2.2.2.1 hZ.2.2.2.2.2 hP (c_X7_isPiece x1 M _ rfl) wd_2_109 wd_2_108 wd_p_5 wd_1_1 hd_X7_isPiece (by decide) rfl rfl rfl hlk hR hsz rfl hW hdg hcs) hS kk
/-! FrameRaiser$Measures.measure -/
def bd_X3_measure_38 (x1 : Int32) (x2 : Int32) : (Int32 × Mem) → Option ((Int32 × Mem) ⊕ (Mem)) :=
  u2 fun v3_7 M_8 =>
  if (3 : Int32) ≤ v3_7 then
    (some (.inr M_8))
  else
    (bv (((3 : Int32) * x2) + v3_7) fun v4_11 =>
    if inb v4_11 24 then
    if inb v4_11 24 then
    bv (st M_8 7 (ix v4_11) (mn (M_8 7 (ix v4_11)) (fn_X7_coordinate x1 v3_7))) fun M_13 =>
    if inb v4_11 24 then
    if inb v4_11 24 then
    bv (st M_13 8 (ix v4_11) (mx (M_13 8 (ix v4_11)) (fn_X7_coordinate x1 v3_7))) fun M_16 =>
    some (.inl (v3_7 + (1 : Int32), M_16))
    else none
    else none
    else none
    else none)
def jn_X3_measure_36 (g : Nat) (x1 : Int32) (x2 : Int32) (M_6 : Mem) : Option (Mem) :=
  (lpN g (bd_X3_measure_38 x1 x2) ((0 : Int32), M_6)).bind (u1 fun M_9 =>
    some M_9)
def fn_X3_measure (g : Nat) (x1 : Int32) (x2 : Int32) (M : Mem) : Option (Mem) :=
  bv (st M 4 4 ((M 4 4) + (1 : Int32))) fun M_1 =>
  if inb x2 8 then
  if inb x2 8 then
  bv (st M_1 5 (ix x2) ((M_1 5 (ix x2)) + (1 : Int32))) fun M_3 =>
  if (36 : Int32) ≤ x1 then
    (jn_X3_measure_36 g x1 x2 M_3)
  else
    (if inb x2 8 then
    if inb x2 8 then
    bv (st M_3 6 (ix x2) ((M_3 6 (ix x2)) + (1 : Int32))) fun M_19 =>
    jn_X3_measure_36 g x1 x2 M_19
    else none
    else none)
  else none
  else none
theorem dX3_measure_0 : decode cX3_measure 0 = .ok (.aload_n 0, 1) := by decide +kernel
theorem dX3_measure_1 : decode cX3_measure 1 = .ok (.dup, 1) := by decide +kernel
theorem dX3_measure_2 : decode cX3_measure 2 = .ok (.getfield 24, 3) := by decide +kernel
theorem dX3_measure_5 : decode cX3_measure 5 = .ok (.iconst 1, 1) := by decide +kernel
theorem dX3_measure_6 : decode cX3_measure 6 = .ok (.iadd, 1) := by decide +kernel
theorem dX3_measure_7 : decode cX3_measure 7 = .ok (.putfield 24, 3) := by decide +kernel
theorem dX3_measure_10 : decode cX3_measure 10 = .ok (.aload_n 0, 1) := by decide +kernel
theorem dX3_measure_11 : decode cX3_measure 11 = .ok (.getfield 9, 3) := by decide +kernel
theorem dX3_measure_14 : decode cX3_measure 14 = .ok (.iload_n 2, 1) := by decide +kernel
theorem dX3_measure_15 : decode cX3_measure 15 = .ok (.dup2, 1) := by decide +kernel
theorem dX3_measure_16 : decode cX3_measure 16 = .ok (.iaload, 1) := by decide +kernel
theorem dX3_measure_17 : decode cX3_measure 17 = .ok (.iconst 1, 1) := by decide +kernel
theorem dX3_measure_18 : decode cX3_measure 18 = .ok (.iadd, 1) := by decide +kernel
theorem dX3_measure_19 : decode cX3_measure 19 = .ok (.iastore, 1) := by decide +kernel
theorem dX3_measure_20 : decode cX3_measure 20 = .ok (.iload_n 1, 1) := by decide +kernel
theorem dX3_measure_21 : decode cX3_measure 21 = .ok (.bipush 36, 2) := by decide +kernel
theorem dX3_measure_23 : decode cX3_measure 23 = .ok (.if_icmp .ge 13, 3) := by decide +kernel
theorem dX3_measure_26 : decode cX3_measure 26 = .ok (.aload_n 0, 1) := by decide +kernel
theorem dX3_measure_27 : decode cX3_measure 27 = .ok (.getfield 15, 3) := by decide +kernel
theorem dX3_measure_30 : decode cX3_measure 30 = .ok (.iload_n 2, 1) := by decide +kernel
theorem dX3_measure_31 : decode cX3_measure 31 = .ok (.dup2, 1) := by decide +kernel
theorem dX3_measure_32 : decode cX3_measure 32 = .ok (.iaload, 1) := by decide +kernel
theorem dX3_measure_33 : decode cX3_measure 33 = .ok (.iconst 1, 1) := by decide +kernel
theorem dX3_measure_34 : decode cX3_measure 34 = .ok (.iadd, 1) := by decide +kernel
theorem dX3_measure_35 : decode cX3_measure 35 = .ok (.iastore, 1) := by decide +kernel
theorem dX3_measure_36 : decode cX3_measure 36 = .ok (.iconst 0, 1) := by decide +kernel
theorem dX3_measure_37 : decode cX3_measure 37 = .ok (.istore_n 3, 1) := by decide +kernel
theorem dX3_measure_38 : decode cX3_measure 38 = .ok (.iload_n 3, 1) := by decide +kernel
theorem dX3_measure_39 : decode cX3_measure 39 = .ok (.iconst 3, 1) := by decide +kernel
theorem dX3_measure_40 : decode cX3_measure 40 = .ok (.if_icmp .ge 60, 3) := by decide +kernel
theorem dX3_measure_43 : decode cX3_measure 43 = .ok (.iconst 3, 1) := by decide +kernel
theorem dX3_measure_44 : decode cX3_measure 44 = .ok (.iload_n 2, 1) := by decide +kernel
theorem dX3_measure_45 : decode cX3_measure 45 = .ok (.imul, 1) := by decide +kernel
theorem dX3_measure_46 : decode cX3_measure 46 = .ok (.iload_n 3, 1) := by decide +kernel
theorem dX3_measure_47 : decode cX3_measure 47 = .ok (.iadd, 1) := by decide +kernel
theorem dX3_measure_48 : decode cX3_measure 48 = .ok (.istore 4, 2) := by decide +kernel
theorem dX3_measure_50 : decode cX3_measure 50 = .ok (.aload_n 0, 1) := by decide +kernel
theorem dX3_measure_51 : decode cX3_measure 51 = .ok (.getfield 18, 3) := by decide +kernel
theorem dX3_measure_54 : decode cX3_measure 54 = .ok (.iload 4, 2) := by decide +kernel
theorem dX3_measure_56 : decode cX3_measure 56 = .ok (.aload_n 0, 1) := by decide +kernel
theorem dX3_measure_57 : decode cX3_measure 57 = .ok (.getfield 18, 3) := by decide +kernel
theorem dX3_measure_60 : decode cX3_measure 60 = .ok (.iload 4, 2) := by decide +kernel
theorem dX3_measure_62 : decode cX3_measure 62 = .ok (.iaload, 1) := by decide +kernel
theorem dX3_measure_63 : decode cX3_measure 63 = .ok (.iload_n 1, 1) := by decide +kernel
theorem dX3_measure_64 : decode cX3_measure 64 = .ok (.iload_n 3, 1) := by decide +kernel
theorem dX3_measure_65 : decode cX3_measure 65 = .ok (.invokestatic 37, 3) := by decide +kernel
theorem dX3_measure_68 : decode cX3_measure 68 = .ok (.invokestatic 41, 3) := by decide +kernel
theorem dX3_measure_71 : decode cX3_measure 71 = .ok (.iastore, 1) := by decide +kernel
theorem dX3_measure_72 : decode cX3_measure 72 = .ok (.aload_n 0, 1) := by decide +kernel
theorem dX3_measure_73 : decode cX3_measure 73 = .ok (.getfield 21, 3) := by decide +kernel
theorem dX3_measure_76 : decode cX3_measure 76 = .ok (.iload 4, 2) := by decide +kernel
theorem dX3_measure_78 : decode cX3_measure 78 = .ok (.aload_n 0, 1) := by decide +kernel
theorem dX3_measure_79 : decode cX3_measure 79 = .ok (.getfield 21, 3) := by decide +kernel
theorem dX3_measure_82 : decode cX3_measure 82 = .ok (.iload 4, 2) := by decide +kernel
theorem dX3_measure_84 : decode cX3_measure 84 = .ok (.iaload, 1) := by decide +kernel
theorem dX3_measure_85 : decode cX3_measure 85 = .ok (.iload_n 1, 1) := by decide +kernel
theorem dX3_measure_86 : decode cX3_measure 86 = .ok (.iload_n 3, 1) := by decide +kernel
theorem dX3_measure_87 : decode cX3_measure 87 = .ok (.invokestatic 37, 3) := by decide +kernel
theorem dX3_measure_90 : decode cX3_measure 90 = .ok (.invokestatic 46, 3) := by decide +kernel
theorem dX3_measure_93 : decode cX3_measure 93 = .ok (.iastore, 1) := by decide +kernel
theorem dX3_measure_94 : decode cX3_measure 94 = .ok (.iinc 3 1, 3) := by decide +kernel
theorem dX3_measure_97 : decode cX3_measure 97 = .ok (.goto (-59), 3) := by decide +kernel
theorem dX3_measure_100 : decode cX3_measure 100 = .ok (.return_, 1) := by decide +kernel
set_option maxHeartbeats 4000000 in
set_option maxRecDepth 100000 in
theorem c_X3_measure {l : Launch} {X : En} (g : Nat) (x1 : Int32) (x2 : Int32) (M : Mem) (M9 : Mem) (hf : fn_X3_measure g x1 x2 M = some M9) : Cn l X yX3_measure cX3_measure 5 none 1 21 [.ref (X.ad 4), .int x1, .int x2] M (Qv X M9) := by
  refine Met.ofW (cc := cX3_measure) (maxL := 5) (ret := none) (by decide) rfl ?_
  intro p e s m args below meth c s₁ B hml hv
  obtain ⟨rfl, hP, hk⟩ := hv
  have hx := B.exec
  have hb := B.bytes
  have hr := B.returns
  have hlocks := B.notSynchronized
  have hts : ∀ w ∈ lw_u, w.before ([.ref (X.ad 4), .int x1, .int x2] : List Value).toArray s = true := fun w hw => atoms_spec (ws := Cond.code yX3_measure cX3_measure 5 none :: lw_u) B.pre w (List.mem_cons_of_mem _ hw)
  have hown : s.vm.findClass RX3 = some m.cls := findClass_of_methodNamed B.named
  have hZ : Fx p c m s ([.ref (X.ad 4), .int x1, .int x2] : List Value).toArray X cX3_measure 5 RX3 := ⟨hx, hb, hml, hts, hown, hk⟩
  have hS : va_S X.A s.heap s.heap [] := va_S.rf
  have hl := lv_entry ([.ref (X.ad 4), .int x1, .int x2]) (n := 5) (Nat.le_of_ble_eq_true rfl)
  rw [lg_entry_eq]
  generalize (lg_sl ([.ref (X.ad 4), .int x1, .int x2]) ++ List.replicate (5 - (lg_sl ([.ref (X.ad 4), .int x1, .int x2])).length) Slot.unset).toArray = ls at hl ⊢
  have hl : lv_has ls 5 [(0, .ref (X.ad 4)), (1, .int x1), (2, .int x2)] := hl
  show WW p l e 1 21 s m [.ref (X.ad 4), .int x1, .int x2] below meth c X (Qv X M9) s.heap [] 0 ls []
  have hP : wd X M s.heap := hP
  have jn36 : ∀  (M_6 : Mem), jn_X3_measure_36 g x1 x2 M_6 = some M9 → ∀ (H : Heap) (locs : List Loc) (ls : Array Slot), wd X M_6 H → va_S X.A s.heap H locs → lv_has ls 5 [(0, .ref (X.ad 4)), (1, .int x1), (2, .int x2)] → WW p l e 1 21 s m [.ref (X.ad 4), .int x1, .int x2] below meth c X (Qv X M9) H locs 36 ls [] := by
    intro  M_6 hf H locs ls hP hS hl
    unfold jn_X3_measure_36 at hf
    refine lv_iconst (v := (0 : Int32)) hx hb dX3_measure_36 (by decide) ?_
    refine lv_istore_n (lv' := [(3, .int (0 : Int32)), (0, .ref (X.ad 4)), (1, .int x1), (2, .int x2)]) hx hb dX3_measure_37 rfl hl (by decide) rfl (fun ls hl => ?_)
    obtain ⟨o38, ho38, hf⟩ := b_d hf
    refine lp_rule (b := bd_X3_measure_38 x1 x2) (P := fun w : Int32 × Mem => ∀ (H : Heap) (locs : List Loc) (ls : Array Slot), wd X w.2 H → va_S X.A s.heap H locs → lv_has ls 5 [(3, .int w.1), (0, .ref (X.ad 4)), (1, .int x1), (2, .int x2)] → WW p l e 1 21 s m [.ref (X.ad 4), .int x1, .int x2] below meth c X (Qv X M9) H locs 38 ls []) (K := fun o => ∀ (M_9 : Mem), o = M_9 → ∀ (H : Heap) (locs : List Loc) (ls : Array Slot), wd X M_9 H → va_S X.A s.heap H locs → lv_has ls 5 [] → WW p l e 1 21 s m [.ref (X.ad 4), .int x1, .int x2] below meth c X (Qv X M9) H locs 100 ls []) ?_ g ((0 : Int32), M_6) o38 ho38 ?_ H locs ls hP hS (lv_sub hl [0, 1, 2, 3] rfl)
    · rintro ⟨v3_7, M_8⟩ o hf hkc38 hke38 H locs ls hP hS hl
      have hf := u2_e hf
      refine lv_iload_n hx hb dX3_measure_38 rfl (lv_at hl 0 rfl) ?_
      refine lv_iconst (v := (3 : Int32)) hx hb dX3_measure_39 (by decide) ?_
      refine lv_icmp_ge (tgt := 100) hx hb dX3_measure_40 (by decide) (fun c_10 => ?_) (fun c_10 => ?_)
      · have hf := i_t c_10 hf
        exact hke38 _ (Option.some.inj hf).symm _ rfl H locs ls hP hS (lv_sub hl [] rfl)
      · have hf := i_f c_10 hf
        refine lv_iconst (v := (3 : Int32)) hx hb dX3_measure_43 (by decide) ?_
        refine lv_iload_n hx hb dX3_measure_44 rfl (lv_at hl 3 rfl) ?_
        refine lv_imul hx hb dX3_measure_45 ?_
        refine lv_iload_n hx hb dX3_measure_46 rfl (lv_at hl 0 rfl) ?_
        refine lv_iadd hx hb dX3_measure_47 ?_
        refine lv_topi (fun v4_11 e_v4_11 => ?_)
        have hf := b_v hf e_v4_11
        refine lv_istore (lv' := [(4, .int v4_11), (3, .int v3_7), (0, .ref (X.ad 4)), (1, .int x1), (2, .int x2)]) hx hb dX3_measure_48 hl (by decide) rfl (fun ls hl => ?_)
        refine lv_aload_n hx hb dX3_measure_50 rfl (lv_at hl 2 rfl) ?_
        refine gX3_2 hx hb hts hown hk hP wd_1_67 dX3_measure_51 ?_
        refine lv_iload hx hb dX3_measure_54 (lv_at hl 0 rfl) ?_
        refine lv_aload_n hx hb dX3_measure_56 rfl (lv_at hl 2 rfl) ?_
        refine gX3_2 hx hb hts hown hk hP wd_1_67 dX3_measure_57 ?_
        refine lv_iload hx hb dX3_measure_60 (lv_at hl 0 rfl) ?_
        obtain ⟨q_12, hf⟩ := g_if hf
        refine ald hx hb hk hP (by decide) rfl q_12 dX3_measure_62 ?_
        refine lv_iload_n hx hb dX3_measure_63 rfl (lv_at hl 3 rfl) ?_
        refine lv_iload_n hx hb dX3_measure_64 rfl (lv_at hl 1 rfl) ?_
        refine kn_X7_coordinate hZ hP hS hl.1 (nest_7 hk.2.1) ⟨Nat.le_of_ble_eq_true rfl, Nat.le_of_ble_eq_true rfl⟩ (Nat.le_of_ble_eq_true rfl) dX3_measure_65 ⟨Nat.zero_le _, Nat.zero_le _⟩ (fun H locs hP hS => ?_)
        refine rw_min hx hb (hml.trans hl.1.symm) hts hown wd_2_123 wd_2_124 wd_1_11 wd_2_125 (Nat.le_of_ble_eq_true rfl) (Nat.le_of_ble_eq_true rfl) (Nat.zero_le _) (Nat.zero_le _) dX3_measure_68 ?_
        obtain ⟨q_14, hf⟩ := g_if hf
        refine ast hx hb hk hP hS (by decide) (fun _ => rfl) q_14 dX3_measure_71 (fun H locs M_13 e_M_13 hP hS => ?_)
        have hf := b_v hf e_M_13
        refine lv_aload_n hx hb dX3_measure_72 rfl (lv_at hl 2 rfl) ?_
        refine gX3_3 hx hb hts hown hk hP wd_1_69 dX3_measure_73 ?_
        refine lv_iload hx hb dX3_measure_76 (lv_at hl 0 rfl) ?_
        refine lv_aload_n hx hb dX3_measure_78 rfl (lv_at hl 2 rfl) ?_
        refine gX3_3 hx hb hts hown hk hP wd_1_69 dX3_measure_79 ?_
        refine lv_iload hx hb dX3_measure_82 (lv_at hl 0 rfl) ?_
        obtain ⟨q_15, hf⟩ := g_if hf
        refine ald hx hb hk hP (by decide) rfl q_15 dX3_measure_84 ?_
        refine lv_iload_n hx hb dX3_measure_85 rfl (lv_at hl 3 rfl) ?_
        refine lv_iload_n hx hb dX3_measure_86 rfl (lv_at hl 1 rfl) ?_
        refine kn_X7_coordinate hZ hP hS hl.1 (nest_7 hk.2.1) ⟨Nat.le_of_ble_eq_true rfl, Nat.le_of_ble_eq_true rfl⟩ (Nat.le_of_ble_eq_true rfl) dX3_measure_87 ⟨Nat.zero_le _, Nat.zero_le _⟩ (fun H locs hP hS => ?_)
        refine rw_max hx hb (hml.trans hl.1.symm) hts hown wd_2_126 wd_2_127 wd_1_11 wd_2_128 (Nat.le_of_ble_eq_true rfl) (Nat.le_of_ble_eq_true rfl) (Nat.zero_le _) (Nat.zero_le _) dX3_measure_90 ?_
        obtain ⟨q_17, hf⟩ := g_if hf
        refine ast hx hb hk hP hS (by decide) (fun _ => rfl) q_17 dX3_measure_93 (fun H locs M_16 e_M_16 hP hS => ?_)
        have hf := b_v hf e_M_16
        refine lv_iinc (v := v3_7 + (1 : Int32)) (lv' := [(3, .int (v3_7 + (1 : Int32))), (4, .int v4_11), (0, .ref (X.ad 4)), (1, .int x1), (2, .int x2)]) hx hb dX3_measure_94 hl (k := 1) rfl rfl (by decide) rfl (fun ls hl => ?_)
        refine lv_goto (tgt := 38) hx hb dX3_measure_97 (by decide) ?_
        exact hkc38 _ (Option.some.inj hf).symm H locs ls hP hS (lv_sub hl [0, 2, 3, 4] rfl)
    · intro M_9 e H locs ls hP hS hl
      subst o38
      have hf := u1_e hf
      have hf := Option.some.inj hf
      rw [hf] at hP
      exact ret_v hx hb hr hlocks hP hS dX3_measure_100
  unfold fn_X3_measure at hf
  have key : ∀ (H : Heap) (locs : List Loc), wd X M H → va_S X.A s.heap H locs → WW p l e 1 21 s m [.ref (X.ad 4), .int x1, .int x2] below meth c X (Qv X M9) H locs 0 ls [] := by
    intro H locs hP hS
    refine lv_aload_n hx hb dX3_measure_0 rfl (lv_at hl 0 rfl) ?_
    refine lv_dup hx hb dX3_measure_1 rfl ?_
    refine gX3_4 hx hb hts hown hk hP wd_1_71 dX3_measure_2 ?_
    refine lv_iconst (v := (1 : Int32)) hx hb dX3_measure_5 (by decide) ?_
    refine lv_iadd hx hb dX3_measure_6 ?_
    refine pX3_4 hx hb hts hown hk hP hS wd_1_71 dX3_measure_7 (fun H locs M_1 e_M_1 hP hS => ?_)
    have hf := b_v hf e_M_1
    refine lv_aload_n hx hb dX3_measure_10 rfl (lv_at hl 0 rfl) ?_
    refine gX3_0 hx hb hts hown hk hP wd_1_63 dX3_measure_11 ?_
    refine lv_iload_n hx hb dX3_measure_14 rfl (lv_at hl 2 rfl) ?_
    refine lv_dup2_11 hx hb dX3_measure_15 rfl rfl ?_
    obtain ⟨q_2, hf⟩ := g_if hf
    refine ald hx hb hk hP (by decide) rfl q_2 dX3_measure_16 ?_
    refine lv_iconst (v := (1 : Int32)) hx hb dX3_measure_17 (by decide) ?_
    refine lv_iadd hx hb dX3_measure_18 ?_
    obtain ⟨q_4, hf⟩ := g_if hf
    refine ast hx hb hk hP hS (by decide) (fun _ => rfl) q_4 dX3_measure_19 (fun H locs M_3 e_M_3 hP hS => ?_)
    have hf := b_v hf e_M_3
    refine lv_iload_n hx hb dX3_measure_20 rfl (lv_at hl 1 rfl) ?_
    refine lv_bipush (v := (36 : Int32)) hx hb dX3_measure_21 (by decide) ?_
    refine lv_icmp_ge (tgt := 36) hx hb dX3_measure_23 (by decide) (fun c_5 => ?_) (fun c_5 => ?_)
    · have hf := i_t c_5 hf
      exact jn36 M_3 hf H locs ls hP hS (lv_sub hl [0, 1, 2] rfl)
    · have hf := i_f c_5 hf
      refine lv_aload_n hx hb dX3_measure_26 rfl (lv_at hl 0 rfl) ?_
      refine gX3_1 hx hb hts hown hk hP wd_1_65 dX3_measure_27 ?_
      refine lv_iload_n hx hb dX3_measure_30 rfl (lv_at hl 2 rfl) ?_
      refine lv_dup2_11 hx hb dX3_measure_31 rfl rfl ?_
      obtain ⟨q_18, hf⟩ := g_if hf
      refine ald hx hb hk hP (by decide) rfl q_18 dX3_measure_32 ?_
      refine lv_iconst (v := (1 : Int32)) hx hb dX3_measure_33 (by decide) ?_
      refine lv_iadd hx hb dX3_measure_34 ?_
      obtain ⟨q_20, hf⟩ := g_if hf
      refine ast hx hb hk hP hS (by decide) (fun _ => rfl) q_20 dX3_measure_35 (fun H locs M_19 e_M_19 hP hS => ?_)
      have hf := b_v hf e_M_19
      exact jn36 M_19 hf H locs ls hP hS (lv_sub hl [0, 1, 2] rfl)
  exact key s.heap [] hP hS
theorem hd_X3_measure : Hd yX3_measure 2 := by decide +kernel
theorem k_X3_measure {p : Program} {l : Launch} {e : Env} {R : Room} {s : State} {m : MethodId} {args : Array Value} {below : List Frame} {meth : Method} {c : Code} {H : Heap} {locs : List Loc} {cells slots : Nat} {Q : State → Prop} {cc : ByteArray} {nL pc index : Nat} {ls : Array Slot} {rest : List Value} {X : En} {M : Mem} {H0 : Heap} {own : String} {g : Nat} {x1 : Int32} {x2 : Int32} {M9 : Mem} (hZ : Fx p c m s args X cc nL own) (hP : wd X M H) (hS : va_S X.A H0 H locs) (hsz : ls.size = nL) (hlk : Cond.methodLink own index yX3_measure ∈ lw_u) (hR : 1 + 1 ≤ R.frames ∧ 8 + (5 + 11) + 21 ≤ R.locals) (hW : (rest.map fun v => v.category).sum ≤ 8) (hdg : decode cc pc = .ok (.invokevirtual index, 3)) (hcs : cells ≤ R.cells ∧ slots ≤ R.slots) (hf : fn_X3_measure g x1 x2 M = some M9)
    (kk : ∀ (H1 : Heap) (locs1 : List Loc), wd X M9 H1 → va_S X.A H0 H1 locs1 → W p l e R s m args below meth c H1 locs1 cells slots Q (F0 m (pc + 3) ls rest)) : W p l e R s m args below meth c H locs cells slots Q (F0 m pc ls (.int x2 :: .int x1 :: .ref (X.ad 4) :: rest)) :=
  cal_v (runV (As := [.int x1, .int x2]) (rest := rest) hZ.1 hZ.2.1 hZ.2.2.1 hZ.2.2.2.1 hZ.2.2.2.2.1 hZ.2.2.2.2.2 hP (c_X3_measure g x1 x2 M M9 hf) wd_2_121 wd_2_120 wd_p_7 wd_1_3 hd_X3_measure (by decide) rfl rfl rfl hlk hR hsz rfl hW hdg hcs) hS kk
/-! FrameRaiser$Measures.read -/
def bd_X3_read_2 : (Int32 × Mem) → Option ((Int32 × Mem) ⊕ (Mem)) :=
  u2 fun v2_1 M_2 =>
  if (8 : Int32) ≤ v2_1 then
    (some (.inr M_2))
  else
    (if inb v2_1 8 then
    bv (st M_2 5 (ix v2_1) (0 : Int32)) fun M_5 =>
    if inb v2_1 8 then
    bv (st M_5 6 (ix v2_1) (0 : Int32)) fun M_7 =>
    some (.inl (v2_1 + (1 : Int32), M_7))
    else none
    else none)
def bd_X3_read_30 : (Int32 × Mem) → Option ((Int32 × Mem) ⊕ (Mem)) :=
  u2 fun v2_9 M_10 =>
  if (24 : Int32) ≤ v2_9 then
    (some (.inr M_10))
  else
    (if inb v2_9 24 then
    bv (st M_10 7 (ix v2_9) (6 : Int32)) fun M_13 =>
    if inb v2_9 24 then
    bv (st M_13 8 (ix v2_9) (-1 : Int32)) fun M_15 =>
    some (.inl (v2_9 + (1 : Int32), M_15))
    else none
    else none)
def bd_X3_read_64 (g : Nat) (k1 : Nat) : (Int32 × Mem) → Option ((Int32 × Mem) ⊕ (Mem)) :=
  u2 fun v2_18 M_19 =>
  if (216 : Int32) ≤ v2_18 then
    (some (.inr M_19))
  else
    (if inb v2_18 216 then
    if (M_19 (k1 + 1) (ix v2_18)) = (-1 : Int32) then
      (some (.inl (v2_18 + (1 : Int32), M_19)))
    else
      (if inb v2_18 216 then
      (fn_X3_measure g v2_18 (M_19 (k1 + 1) (ix v2_18)) M_19).bind fun M_25 =>
      some (.inl (v2_18 + (1 : Int32), M_25))
      else none)
    else none)
def fn_X3_read (g : Nat) (k1 : Nat) (M : Mem) : Option (Mem) :=
  (lpN g bd_X3_read_2 ((0 : Int32), M)).bind (u1 fun M_3 =>
    (lpN g bd_X3_read_30 ((0 : Int32), M_3)).bind (u1 fun M_11 =>
      bv (st M_11 4 4 (0 : Int32)) fun M_17 =>
      (lpN g (bd_X3_read_64 g k1) ((0 : Int32), M_17)).bind (u1 fun M_20 =>
        some M_20)))
theorem dX3_read_0 : decode cX3_read 0 = .ok (.iconst 0, 1) := by decide +kernel
theorem dX3_read_1 : decode cX3_read 1 = .ok (.istore_n 2, 1) := by decide +kernel
theorem dX3_read_2 : decode cX3_read 2 = .ok (.iload_n 2, 1) := by decide +kernel
theorem dX3_read_3 : decode cX3_read 3 = .ok (.bipush 8, 2) := by decide +kernel
theorem dX3_read_5 : decode cX3_read 5 = .ok (.if_icmp .ge 23, 3) := by decide +kernel
theorem dX3_read_8 : decode cX3_read 8 = .ok (.aload_n 0, 1) := by decide +kernel
theorem dX3_read_9 : decode cX3_read 9 = .ok (.getfield 9, 3) := by decide +kernel
theorem dX3_read_12 : decode cX3_read 12 = .ok (.iload_n 2, 1) := by decide +kernel
theorem dX3_read_13 : decode cX3_read 13 = .ok (.iconst 0, 1) := by decide +kernel
theorem dX3_read_14 : decode cX3_read 14 = .ok (.iastore, 1) := by decide +kernel
theorem dX3_read_15 : decode cX3_read 15 = .ok (.aload_n 0, 1) := by decide +kernel
theorem dX3_read_16 : decode cX3_read 16 = .ok (.getfield 15, 3) := by decide +kernel
theorem dX3_read_19 : decode cX3_read 19 = .ok (.iload_n 2, 1) := by decide +kernel
theorem dX3_read_20 : decode cX3_read 20 = .ok (.iconst 0, 1) := by decide +kernel
theorem dX3_read_21 : decode cX3_read 21 = .ok (.iastore, 1) := by decide +kernel
theorem dX3_read_22 : decode cX3_read 22 = .ok (.iinc 2 1, 3) := by decide +kernel
theorem dX3_read_25 : decode cX3_read 25 = .ok (.goto (-23), 3) := by decide +kernel
theorem dX3_read_28 : decode cX3_read 28 = .ok (.iconst 0, 1) := by decide +kernel
theorem dX3_read_29 : decode cX3_read 29 = .ok (.istore_n 2, 1) := by decide +kernel
theorem dX3_read_30 : decode cX3_read 30 = .ok (.iload_n 2, 1) := by decide +kernel
theorem dX3_read_31 : decode cX3_read 31 = .ok (.bipush 24, 2) := by decide +kernel
theorem dX3_read_33 : decode cX3_read 33 = .ok (.if_icmp .ge 24, 3) := by decide +kernel
theorem dX3_read_36 : decode cX3_read 36 = .ok (.aload_n 0, 1) := by decide +kernel
theorem dX3_read_37 : decode cX3_read 37 = .ok (.getfield 18, 3) := by decide +kernel
theorem dX3_read_40 : decode cX3_read 40 = .ok (.iload_n 2, 1) := by decide +kernel
theorem dX3_read_41 : decode cX3_read 41 = .ok (.bipush 6, 2) := by decide +kernel
theorem dX3_read_43 : decode cX3_read 43 = .ok (.iastore, 1) := by decide +kernel
theorem dX3_read_44 : decode cX3_read 44 = .ok (.aload_n 0, 1) := by decide +kernel
theorem dX3_read_45 : decode cX3_read 45 = .ok (.getfield 21, 3) := by decide +kernel
theorem dX3_read_48 : decode cX3_read 48 = .ok (.iload_n 2, 1) := by decide +kernel
theorem dX3_read_49 : decode cX3_read 49 = .ok (.iconst (-1), 1) := by decide +kernel
theorem dX3_read_50 : decode cX3_read 50 = .ok (.iastore, 1) := by decide +kernel
theorem dX3_read_51 : decode cX3_read 51 = .ok (.iinc 2 1, 3) := by decide +kernel
theorem dX3_read_54 : decode cX3_read 54 = .ok (.goto (-24), 3) := by decide +kernel
theorem dX3_read_57 : decode cX3_read 57 = .ok (.aload_n 0, 1) := by decide +kernel
theorem dX3_read_58 : decode cX3_read 58 = .ok (.iconst 0, 1) := by decide +kernel
theorem dX3_read_59 : decode cX3_read 59 = .ok (.putfield 24, 3) := by decide +kernel
theorem dX3_read_62 : decode cX3_read 62 = .ok (.iconst 0, 1) := by decide +kernel
theorem dX3_read_63 : decode cX3_read 63 = .ok (.istore_n 2, 1) := by decide +kernel
theorem dX3_read_64 : decode cX3_read 64 = .ok (.iload_n 2, 1) := by decide +kernel
theorem dX3_read_65 : decode cX3_read 65 = .ok (.sipush 216, 3) := by decide +kernel
theorem dX3_read_68 : decode cX3_read 68 = .ok (.if_icmp .ge 30, 3) := by decide +kernel
theorem dX3_read_71 : decode cX3_read 71 = .ok (.aload_n 1, 1) := by decide +kernel
theorem dX3_read_72 : decode cX3_read 72 = .ok (.getfield 28, 3) := by decide +kernel
theorem dX3_read_75 : decode cX3_read 75 = .ok (.iload_n 2, 1) := by decide +kernel
theorem dX3_read_76 : decode cX3_read 76 = .ok (.iaload, 1) := by decide +kernel
theorem dX3_read_77 : decode cX3_read 77 = .ok (.iconst (-1), 1) := by decide +kernel
theorem dX3_read_78 : decode cX3_read 78 = .ok (.if_icmp .eq 14, 3) := by decide +kernel
theorem dX3_read_81 : decode cX3_read 81 = .ok (.aload_n 0, 1) := by decide +kernel
theorem dX3_read_82 : decode cX3_read 82 = .ok (.iload_n 2, 1) := by decide +kernel
theorem dX3_read_83 : decode cX3_read 83 = .ok (.aload_n 1, 1) := by decide +kernel
theorem dX3_read_84 : decode cX3_read 84 = .ok (.getfield 28, 3) := by decide +kernel
theorem dX3_read_87 : decode cX3_read 87 = .ok (.iload_n 2, 1) := by decide +kernel
theorem dX3_read_88 : decode cX3_read 88 = .ok (.iaload, 1) := by decide +kernel
theorem dX3_read_89 : decode cX3_read 89 = .ok (.invokevirtual 33, 3) := by decide +kernel
theorem dX3_read_92 : decode cX3_read 92 = .ok (.iinc 2 1, 3) := by decide +kernel
theorem dX3_read_95 : decode cX3_read 95 = .ok (.goto (-31), 3) := by decide +kernel
theorem dX3_read_98 : decode cX3_read 98 = .ok (.return_, 1) := by decide +kernel
set_option maxHeartbeats 4000000 in
set_option maxRecDepth 100000 in
theorem c_X3_read {l : Launch} {X : En} (g : Nat) (k1 : Nat) (M : Mem) (hk1 : isF k1) (M9 : Mem) (hf : fn_X3_read g k1 M = some M9) : Cn l X yX3_read cX3_read 3 none 2 45 [.ref (X.ad 4), .ref (X.ad k1)] M (Qv X M9) := by
  refine Met.ofW (cc := cX3_read) (maxL := 3) (ret := none) (by decide) rfl ?_
  intro p e s m args below meth c s₁ B hml hv
  obtain ⟨rfl, hP, hk⟩ := hv
  have hx := B.exec
  have hb := B.bytes
  have hr := B.returns
  have hlocks := B.notSynchronized
  have hts : ∀ w ∈ lw_u, w.before ([.ref (X.ad 4), .ref (X.ad k1)] : List Value).toArray s = true := fun w hw => atoms_spec (ws := Cond.code yX3_read cX3_read 3 none :: lw_u) B.pre w (List.mem_cons_of_mem _ hw)
  have hown : s.vm.findClass RX3 = some m.cls := findClass_of_methodNamed B.named
  have hZ : Fx p c m s ([.ref (X.ad 4), .ref (X.ad k1)] : List Value).toArray X cX3_read 3 RX3 := ⟨hx, hb, hml, hts, hown, hk⟩
  have hS : va_S X.A s.heap s.heap [] := va_S.rf
  have hl := lv_entry ([.ref (X.ad 4), .ref (X.ad k1)]) (n := 3) (Nat.le_of_ble_eq_true rfl)
  rw [lg_entry_eq]
  generalize (lg_sl ([.ref (X.ad 4), .ref (X.ad k1)]) ++ List.replicate (3 - (lg_sl ([.ref (X.ad 4), .ref (X.ad k1)])).length) Slot.unset).toArray = ls at hl ⊢
  have hl : lv_has ls 3 [(0, .ref (X.ad 4)), (1, .ref (X.ad k1))] := hl
  show WW p l e 2 45 s m [.ref (X.ad 4), .ref (X.ad k1)] below meth c X (Qv X M9) s.heap [] 0 ls []
  have hP : wd X M s.heap := hP
  unfold fn_X3_read at hf
  have key : ∀ (H : Heap) (locs : List Loc), wd X M H → va_S X.A s.heap H locs → WW p l e 2 45 s m [.ref (X.ad 4), .ref (X.ad k1)] below meth c X (Qv X M9) H locs 0 ls [] := by
    intro H locs hP hS
    refine lv_iconst (v := (0 : Int32)) hx hb dX3_read_0 (by decide) ?_
    refine lv_istore_n (lv' := [(2, .int (0 : Int32)), (0, .ref (X.ad 4)), (1, .ref (X.ad k1))]) hx hb dX3_read_1 rfl hl (by decide) rfl (fun ls hl => ?_)
    obtain ⟨o2, ho2, hf⟩ := b_d hf
    refine lp_rule (b := bd_X3_read_2) (P := fun w : Int32 × Mem => ∀ (H : Heap) (locs : List Loc) (ls : Array Slot), wd X w.2 H → va_S X.A s.heap H locs → lv_has ls 3 [(2, .int w.1), (0, .ref (X.ad 4)), (1, .ref (X.ad k1))] → WW p l e 2 45 s m [.ref (X.ad 4), .ref (X.ad k1)] below meth c X (Qv X M9) H locs 2 ls []) (K := fun o => ∀ (M_3 : Mem), o = M_3 → ∀ (H : Heap) (locs : List Loc) (ls : Array Slot), wd X M_3 H → va_S X.A s.heap H locs → lv_has ls 3 [(0, .ref (X.ad 4)), (1, .ref (X.ad k1))] → WW p l e 2 45 s m [.ref (X.ad 4), .ref (X.ad k1)] below meth c X (Qv X M9) H locs 28 ls []) ?_ g ((0 : Int32), M) o2 ho2 ?_ H locs ls hP hS (lv_sub hl [0, 1, 2] rfl)
    · rintro ⟨v2_1, M_2⟩ o hf hkc2 hke2 H locs ls hP hS hl
      have hf := u2_e hf
      refine lv_iload_n hx hb dX3_read_2 rfl (lv_at hl 0 rfl) ?_
      refine lv_bipush (v := (8 : Int32)) hx hb dX3_read_3 (by decide) ?_
      refine lv_icmp_ge (tgt := 28) hx hb dX3_read_5 (by decide) (fun c_4 => ?_) (fun c_4 => ?_)
      · have hf := i_t c_4 hf
        exact hke2 _ (Option.some.inj hf).symm _ rfl H locs ls hP hS (lv_sub hl [1, 2] rfl)
      · have hf := i_f c_4 hf
        refine lv_aload_n hx hb dX3_read_8 rfl (lv_at hl 1 rfl) ?_
        refine gX3_0 hx hb hts hown hk hP wd_1_63 dX3_read_9 ?_
        refine lv_iload_n hx hb dX3_read_12 rfl (lv_at hl 0 rfl) ?_
        refine lv_iconst (v := (0 : Int32)) hx hb dX3_read_13 (by decide) ?_
        obtain ⟨q_6, hf⟩ := g_if hf
        refine ast hx hb hk hP hS (by decide) (fun _ => rfl) q_6 dX3_read_14 (fun H locs M_5 e_M_5 hP hS => ?_)
        have hf := b_v hf e_M_5
        refine lv_aload_n hx hb dX3_read_15 rfl (lv_at hl 1 rfl) ?_
        refine gX3_1 hx hb hts hown hk hP wd_1_65 dX3_read_16 ?_
        refine lv_iload_n hx hb dX3_read_19 rfl (lv_at hl 0 rfl) ?_
        refine lv_iconst (v := (0 : Int32)) hx hb dX3_read_20 (by decide) ?_
        obtain ⟨q_8, hf⟩ := g_if hf
        refine ast hx hb hk hP hS (by decide) (fun _ => rfl) q_8 dX3_read_21 (fun H locs M_7 e_M_7 hP hS => ?_)
        have hf := b_v hf e_M_7
        refine lv_iinc (v := v2_1 + (1 : Int32)) (lv' := [(2, .int (v2_1 + (1 : Int32))), (0, .ref (X.ad 4)), (1, .ref (X.ad k1))]) hx hb dX3_read_22 hl (k := 0) rfl rfl (by decide) rfl (fun ls hl => ?_)
        refine lv_goto (tgt := 2) hx hb dX3_read_25 (by decide) ?_
        exact hkc2 _ (Option.some.inj hf).symm H locs ls hP hS (lv_sub hl [0, 1, 2] rfl)
    · intro M_3 e H locs ls hP hS hl
      subst o2
      have hf := u1_e hf
      refine lv_iconst (v := (0 : Int32)) hx hb dX3_read_28 (by decide) ?_
      refine lv_istore_n (lv' := [(2, .int (0 : Int32)), (0, .ref (X.ad 4)), (1, .ref (X.ad k1))]) hx hb dX3_read_29 rfl hl (by decide) rfl (fun ls hl => ?_)
      obtain ⟨o30, ho30, hf⟩ := b_d hf
      refine lp_rule (b := bd_X3_read_30) (P := fun w : Int32 × Mem => ∀ (H : Heap) (locs : List Loc) (ls : Array Slot), wd X w.2 H → va_S X.A s.heap H locs → lv_has ls 3 [(2, .int w.1), (0, .ref (X.ad 4)), (1, .ref (X.ad k1))] → WW p l e 2 45 s m [.ref (X.ad 4), .ref (X.ad k1)] below meth c X (Qv X M9) H locs 30 ls []) (K := fun o => ∀ (M_11 : Mem), o = M_11 → ∀ (H : Heap) (locs : List Loc) (ls : Array Slot), wd X M_11 H → va_S X.A s.heap H locs → lv_has ls 3 [(0, .ref (X.ad 4)), (1, .ref (X.ad k1))] → WW p l e 2 45 s m [.ref (X.ad 4), .ref (X.ad k1)] below meth c X (Qv X M9) H locs 57 ls []) ?_ g ((0 : Int32), M_3) o30 ho30 ?_ H locs ls hP hS (lv_sub hl [0, 1, 2] rfl)
      · rintro ⟨v2_9, M_10⟩ o hf hkc30 hke30 H locs ls hP hS hl
        have hf := u2_e hf
        refine lv_iload_n hx hb dX3_read_30 rfl (lv_at hl 0 rfl) ?_
        refine lv_bipush (v := (24 : Int32)) hx hb dX3_read_31 (by decide) ?_
        refine lv_icmp_ge (tgt := 57) hx hb dX3_read_33 (by decide) (fun c_12 => ?_) (fun c_12 => ?_)
        · have hf := i_t c_12 hf
          exact hke30 _ (Option.some.inj hf).symm _ rfl H locs ls hP hS (lv_sub hl [1, 2] rfl)
        · have hf := i_f c_12 hf
          refine lv_aload_n hx hb dX3_read_36 rfl (lv_at hl 1 rfl) ?_
          refine gX3_2 hx hb hts hown hk hP wd_1_67 dX3_read_37 ?_
          refine lv_iload_n hx hb dX3_read_40 rfl (lv_at hl 0 rfl) ?_
          refine lv_bipush (v := (6 : Int32)) hx hb dX3_read_41 (by decide) ?_
          obtain ⟨q_14, hf⟩ := g_if hf
          refine ast hx hb hk hP hS (by decide) (fun _ => rfl) q_14 dX3_read_43 (fun H locs M_13 e_M_13 hP hS => ?_)
          have hf := b_v hf e_M_13
          refine lv_aload_n hx hb dX3_read_44 rfl (lv_at hl 1 rfl) ?_
          refine gX3_3 hx hb hts hown hk hP wd_1_69 dX3_read_45 ?_
          refine lv_iload_n hx hb dX3_read_48 rfl (lv_at hl 0 rfl) ?_
          refine lv_iconst (v := (-1 : Int32)) hx hb dX3_read_49 (by decide) ?_
          obtain ⟨q_16, hf⟩ := g_if hf
          refine ast hx hb hk hP hS (by decide) (fun _ => rfl) q_16 dX3_read_50 (fun H locs M_15 e_M_15 hP hS => ?_)
          have hf := b_v hf e_M_15
          refine lv_iinc (v := v2_9 + (1 : Int32)) (lv' := [(2, .int (v2_9 + (1 : Int32))), (0, .ref (X.ad 4)), (1, .ref (X.ad k1))]) hx hb dX3_read_51 hl (k := 0) rfl rfl (by decide) rfl (fun ls hl => ?_)
          refine lv_goto (tgt := 30) hx hb dX3_read_54 (by decide) ?_
          exact hkc30 _ (Option.some.inj hf).symm H locs ls hP hS (lv_sub hl [0, 1, 2] rfl)
      · intro M_11 e H locs ls hP hS hl
        subst o30
        have hf := u1_e hf
        refine lv_aload_n hx hb dX3_read_57 rfl (lv_at hl 0 rfl) ?_
        refine lv_iconst (v := (0 : Int32)) hx hb dX3_read_58 (by decide) ?_
        refine pX3_4 hx hb hts hown hk hP hS wd_1_71 dX3_read_59 (fun H locs M_17 e_M_17 hP hS => ?_)
        have hf := b_v hf e_M_17
        refine lv_iconst (v := (0 : Int32)) hx hb dX3_read_62 (by decide) ?_
        refine lv_istore_n (lv' := [(2, .int (0 : Int32)), (0, .ref (X.ad 4)), (1, .ref (X.ad k1))]) hx hb dX3_read_63 rfl hl (by decide) rfl (fun ls hl => ?_)
        obtain ⟨o64, ho64, hf⟩ := b_d hf
        refine lp_rule (b := bd_X3_read_64 g k1) (P := fun w : Int32 × Mem => ∀ (H : Heap) (locs : List Loc) (ls : Array Slot), wd X w.2 H → va_S X.A s.heap H locs → lv_has ls 3 [(2, .int w.1), (0, .ref (X.ad 4)), (1, .ref (X.ad k1))] → WW p l e 2 45 s m [.ref (X.ad 4), .ref (X.ad k1)] below meth c X (Qv X M9) H locs 64 ls []) (K := fun o => ∀ (M_20 : Mem), o = M_20 → ∀ (H : Heap) (locs : List Loc) (ls : Array Slot), wd X M_20 H → va_S X.A s.heap H locs → lv_has ls 3 [] → WW p l e 2 45 s m [.ref (X.ad 4), .ref (X.ad k1)] below meth c X (Qv X M9) H locs 98 ls []) ?_ g ((0 : Int32), M_17) o64 ho64 ?_ H locs ls hP hS (lv_sub hl [0, 1, 2] rfl)
        · rintro ⟨v2_18, M_19⟩ o hf hkc64 hke64 H locs ls hP hS hl
          have hf := u2_e hf
          refine lv_iload_n hx hb dX3_read_64 rfl (lv_at hl 0 rfl) ?_
          refine lv_sipush (v := (216 : Int32)) hx hb dX3_read_65 (by decide) ?_
          refine lv_icmp_ge (tgt := 98) hx hb dX3_read_68 (by decide) (fun c_21 => ?_) (fun c_21 => ?_)
          · have hf := i_t c_21 hf
            exact hke64 _ (Option.some.inj hf).symm _ rfl H locs ls hP hS (lv_sub hl [] rfl)
          · have hf := i_f c_21 hf
            refine lv_aload_n hx hb dX3_read_71 rfl (lv_at hl 2 rfl) ?_
            refine gX1_0 hx hb hts hown hk hP hk1 wd_1_33 dX3_read_72 ?_
            refine lv_iload_n hx hb dX3_read_75 rfl (lv_at hl 0 rfl) ?_
            obtain ⟨q_22, hf⟩ := g_if hf
            refine ald hx hb hk hP (isF_lt1 hk1) (rd_F1 hk1 _) q_22 dX3_read_76 ?_
            refine lv_iconst (v := (-1 : Int32)) hx hb dX3_read_77 (by decide) ?_
            refine lv_icmp_eq (tgt := 92) hx hb dX3_read_78 (by decide) (fun c_23 => ?_) (fun c_23 => ?_)
            · have hf := i_t c_23 hf
              refine lv_iinc (v := v2_18 + (1 : Int32)) (lv' := [(2, .int (v2_18 + (1 : Int32))), (0, .ref (X.ad 4)), (1, .ref (X.ad k1))]) hx hb dX3_read_92 hl (k := 0) rfl rfl (by decide) rfl (fun ls hl => ?_)
              refine lv_goto (tgt := 64) hx hb dX3_read_95 (by decide) ?_
              exact hkc64 _ (Option.some.inj hf).symm H locs ls hP hS (lv_sub hl [0, 1, 2] rfl)
            · have hf := i_f c_23 hf
              refine lv_aload_n hx hb dX3_read_81 rfl (lv_at hl 1 rfl) ?_
              refine lv_iload_n hx hb dX3_read_82 rfl (lv_at hl 0 rfl) ?_
              refine lv_aload_n hx hb dX3_read_83 rfl (lv_at hl 2 rfl) ?_
              refine gX1_0 hx hb hts hown hk hP hk1 wd_1_33 dX3_read_84 ?_
              refine lv_iload_n hx hb dX3_read_87 rfl (lv_at hl 0 rfl) ?_
              obtain ⟨q_24, hf⟩ := g_if hf
              refine ald hx hb hk hP (isF_lt1 hk1) (rd_F1 hk1 _) q_24 dX3_read_88 ?_
              obtain ⟨M_25, h_M_25, hf⟩ := b_d hf
              refine k_X3_measure hZ hP hS hl.1 wd_2_118 ⟨Nat.le_of_ble_eq_true rfl, Nat.le_of_ble_eq_true rfl⟩ (Nat.le_of_ble_eq_true rfl) dX3_read_89 ⟨Nat.zero_le _, Nat.zero_le _⟩ h_M_25 (fun H locs hP hS => ?_)
              refine lv_iinc (v := v2_18 + (1 : Int32)) (lv' := [(2, .int (v2_18 + (1 : Int32))), (0, .ref (X.ad 4)), (1, .ref (X.ad k1))]) hx hb dX3_read_92 hl (k := 0) rfl rfl (by decide) rfl (fun ls hl => ?_)
              refine lv_goto (tgt := 64) hx hb dX3_read_95 (by decide) ?_
              exact hkc64 _ (Option.some.inj hf).symm H locs ls hP hS (lv_sub hl [0, 1, 2] rfl)
        · intro M_20 e H locs ls hP hS hl
          subst o64
          have hf := u1_e hf
          have hf := Option.some.inj hf
          rw [hf] at hP
          exact ret_v hx hb hr hlocks hP hS dX3_read_98
  exact key s.heap [] hP hS
theorem hd_X3_read : Hd yX3_read 1 := by decide +kernel
theorem k_X3_read {p : Program} {l : Launch} {e : Env} {R : Room} {s : State} {m : MethodId} {args : Array Value} {below : List Frame} {meth : Method} {c : Code} {H : Heap} {locs : List Loc} {cells slots : Nat} {Q : State → Prop} {cc : ByteArray} {nL pc index : Nat} {ls : Array Slot} {rest : List Value} {X : En} {M : Mem} {H0 : Heap} {own : String} {g : Nat} {k1 : Nat} {M9 : Mem} (hZ : Fx p c m s args X cc nL own) (hP : wd X M H) (hS : va_S X.A H0 H locs) (hsz : ls.size = nL) (hlk : Cond.methodLink own index yX3_read ∈ lw_u) (hR : 2 + 1 ≤ R.frames ∧ 8 + (3 + 11) + 45 ≤ R.locals) (hW : (rest.map fun v => v.category).sum ≤ 8) (hdg : decode cc pc = .ok (.invokevirtual index, 3)) (hcs : cells ≤ R.cells ∧ slots ≤ R.slots) (hk1 : isF k1) (hf : fn_X3_read g k1 M = some M9)
    (kk : ∀ (H1 : Heap) (locs1 : List Loc), wd X M9 H1 → va_S X.A H0 H1 locs1 → W p l e R s m args below meth c H1 locs1 cells slots Q (F0 m (pc + 3) ls rest)) : W p l e R s m args below meth c H locs cells slots Q (F0 m pc ls (.ref (X.ad k1) :: .ref (X.ad 4) :: rest)) :=
  cal_v (runV (As := [.ref (X.ad k1)]) (rest := rest) hZ.1 hZ.2.1 hZ.2.2.1 hZ.2.2.2.1 hZ.2.2.2.2.1 hZ.2.2.2.2.2 hP (c_X3_read g k1 M hk1 M9 hf) wd_2_117 wd_2_115 wd_2_116 wd_1_3 hd_X3_read (by decide) rfl rfl rfl hlk hR hsz rfl hW hdg hcs) hS kk
/-! FrameRaiser.knownMeasures -/
def jn_X7_knownMeasures_23 (M_2 : Mem) : Option (Mem) :=
  some M_2
def fn_X7_knownMeasures (g : Nat) (M : Mem) : Option (Mem) :=
  if (M 0 9) = 0 then
    ((fn_X3_read g 1 M).bind fun M_3 =>
    bv (st M_3 0 9 (1 : Int32)) fun M_4 =>
    jn_X7_knownMeasures_23 M_4)
  else
    (jn_X7_knownMeasures_23 M)
theorem dX7_knownMeasures_0 : decode cX7_knownMeasures 0 = .ok (.aload_n 0, 1) := by decide +kernel
theorem dX7_knownMeasures_1 : decode cX7_knownMeasures 1 = .ok (.getfield 297, 3) := by decide +kernel
theorem dX7_knownMeasures_4 : decode cX7_knownMeasures 4 = .ok (.ifCond .ne 19, 3) := by decide +kernel
theorem dX7_knownMeasures_7 : decode cX7_knownMeasures 7 = .ok (.aload_n 0, 1) := by decide +kernel
theorem dX7_knownMeasures_8 : decode cX7_knownMeasures 8 = .ok (.getfield 19, 3) := by decide +kernel
theorem dX7_knownMeasures_11 : decode cX7_knownMeasures 11 = .ok (.aload_n 0, 1) := by decide +kernel
theorem dX7_knownMeasures_12 : decode cX7_knownMeasures 12 = .ok (.getfield 10, 3) := by decide +kernel
theorem dX7_knownMeasures_15 : decode cX7_knownMeasures 15 = .ok (.invokevirtual 307, 3) := by decide +kernel
theorem dX7_knownMeasures_18 : decode cX7_knownMeasures 18 = .ok (.aload_n 0, 1) := by decide +kernel
theorem dX7_knownMeasures_19 : decode cX7_knownMeasures 19 = .ok (.iconst 1, 1) := by decide +kernel
theorem dX7_knownMeasures_20 : decode cX7_knownMeasures 20 = .ok (.putfield 297, 3) := by decide +kernel
theorem dX7_knownMeasures_23 : decode cX7_knownMeasures 23 = .ok (.aload_n 0, 1) := by decide +kernel
theorem dX7_knownMeasures_24 : decode cX7_knownMeasures 24 = .ok (.getfield 19, 3) := by decide +kernel
theorem dX7_knownMeasures_27 : decode cX7_knownMeasures 27 = .ok (.areturn, 1) := by decide +kernel
set_option maxHeartbeats 4000000 in
set_option maxRecDepth 100000 in
theorem c_X7_knownMeasures {l : Launch} {X : En} (g : Nat) (M : Mem) (M9 : Mem) (hf : fn_X7_knownMeasures g M = some M9) : Cn l X yX7_knownMeasures cX7_knownMeasures 1 (some (.object "FrameRaiser$Measures")) 3 67 [.ref (X.ad 0)] M (Qr X 4 M9) := by
  refine Met.ofW (cc := cX7_knownMeasures) (maxL := 1) (ret := (some (.object "FrameRaiser$Measures"))) (by decide) rfl ?_
  intro p e s m args below meth c s₁ B hml hv
  obtain ⟨rfl, hP, hk⟩ := hv
  have hx := B.exec
  have hb := B.bytes
  have hr := B.returns
  have hlocks := B.notSynchronized
  have hts : ∀ w ∈ lw_u, w.before ([.ref (X.ad 0)] : List Value).toArray s = true := fun w hw => atoms_spec (ws := Cond.code yX7_knownMeasures cX7_knownMeasures 1 (some (.object "FrameRaiser$Measures")) :: lw_u) B.pre w (List.mem_cons_of_mem _ hw)
  have hown : s.vm.findClass RX7 = some m.cls := findClass_of_methodNamed B.named
  have hZ : Fx p c m s ([.ref (X.ad 0)] : List Value).toArray X cX7_knownMeasures 1 RX7 := ⟨hx, hb, hml, hts, hown, hk⟩
  have hS : va_S X.A s.heap s.heap [] := va_S.rf
  have hl := lv_entry ([.ref (X.ad 0)]) (n := 1) (Nat.le_of_ble_eq_true rfl)
  rw [lg_entry_eq]
  generalize (lg_sl ([.ref (X.ad 0)]) ++ List.replicate (1 - (lg_sl ([.ref (X.ad 0)])).length) Slot.unset).toArray = ls at hl ⊢
  have hl : lv_has ls 1 [(0, .ref (X.ad 0))] := hl
  show WW p l e 3 67 s m [.ref (X.ad 0)] below meth c X (Qr X 4 M9) s.heap [] 0 ls []
  have hP : wd X M s.heap := hP
  have jn23 : ∀  (M_2 : Mem), jn_X7_knownMeasures_23 M_2 = some M9 → ∀ (H : Heap) (locs : List Loc) (ls : Array Slot), wd X M_2 H → va_S X.A s.heap H locs → lv_has ls 1 [(0, .ref (X.ad 0))] → WW p l e 3 67 s m [.ref (X.ad 0)] below meth c X (Qr X 4 M9) H locs 23 ls [] := by
    intro  M_2 hf H locs ls hP hS hl
    unfold jn_X7_knownMeasures_23 at hf
    refine lv_aload_n hx hb dX7_knownMeasures_23 rfl (lv_at hl 0 rfl) ?_
    refine gX7_1 hx hb hts hown hk hP wd_1_214 dX7_knownMeasures_24 ?_
    have hf := Option.some.inj hf
    rw [hf] at hP
    exact ret_r hx hb hr hlocks hP hS dX7_knownMeasures_27
  unfold fn_X7_knownMeasures at hf
  have key : ∀ (H : Heap) (locs : List Loc), wd X M H → va_S X.A s.heap H locs → WW p l e 3 67 s m [.ref (X.ad 0)] below meth c X (Qr X 4 M9) H locs 0 ls [] := by
    intro H locs hP hS
    refine lv_aload_n hx hb dX7_knownMeasures_0 rfl (lv_at hl 0 rfl) ?_
    refine gX7_9 hx hb hts hown hk hP wd_1_222 dX7_knownMeasures_1 ?_
    refine lv_if_ne (tgt := 23) hx hb dX7_knownMeasures_4 (by decide) (fun c_1 => ?_) (fun c_1 => ?_)
    · have hf := i_f c_1 hf
      exact jn23 M hf H locs ls hP hS (lv_sub hl [0] rfl)
    · have hf := i_t c_1 hf
      refine lv_aload_n hx hb dX7_knownMeasures_7 rfl (lv_at hl 0 rfl) ?_
      refine gX7_1 hx hb hts hown hk hP wd_1_214 dX7_knownMeasures_8 ?_
      refine lv_aload_n hx hb dX7_knownMeasures_11 rfl (lv_at hl 0 rfl) ?_
      refine gX7_0 hx hb hts hown hk hP wd_1_213 dX7_knownMeasures_12 ?_
      obtain ⟨M_3, h_M_3, hf⟩ := b_d hf
      refine k_X3_read hZ hP hS hl.1 wd_2_114 ⟨Nat.le_of_ble_eq_true rfl, Nat.le_of_ble_eq_true rfl⟩ (Nat.le_of_ble_eq_true rfl) dX7_knownMeasures_15 ⟨Nat.zero_le _, Nat.zero_le _⟩ isF_1 h_M_3 (fun H locs hP hS => ?_)
      refine lv_aload_n hx hb dX7_knownMeasures_18 rfl (lv_at hl 0 rfl) ?_
      refine lv_iconst (v := (1 : Int32)) hx hb dX7_knownMeasures_19 (by decide) ?_
      refine pX7_9 hx hb hts hown hk hP hS isZ_1 wd_1_222 dX7_knownMeasures_20 (fun H locs M_4 e_M_4 hP hS => ?_)
      have hf := b_v hf e_M_4
      exact jn23 M_4 hf H locs ls hP hS (lv_sub hl [0] rfl)
  exact key s.heap [] hP hS
theorem hd_X7_knownMeasures : Hd yX7_knownMeasures 0 := by decide +kernel
theorem k_X7_knownMeasures {p : Program} {l : Launch} {e : Env} {R : Room} {s : State} {m : MethodId} {args : Array Value} {below : List Frame} {meth : Method} {c : Code} {H : Heap} {locs : List Loc} {cells slots : Nat} {Q : State → Prop} {cc : ByteArray} {nL pc index : Nat} {ls : Array Slot} {rest : List Value} {X : En} {M : Mem} {H0 : Heap} {own : String} {g : Nat} {M9 : Mem} (hZ : Fx p c m s args X cc nL own) (hP : wd X M H) (hS : va_S X.A H0 H locs) (hsz : ls.size = nL) (hlk : Cond.methodLink own index yX7_knownMeasures ∈ lw_u) (hR : 3 + 1 ≤ R.frames ∧ 8 + (1 + 11) + 67 ≤ R.locals) (hW : (rest.map fun v => v.category).sum ≤ 8) (hdg : decode cc pc = .ok (.invokevirtual index, 3)) (hcs : cells ≤ R.cells ∧ slots ≤ R.slots) (hf : fn_X7_knownMeasures g M = some M9)
    (kk : ∀ (H1 : Heap) (locs1 : List Loc), wd X M9 H1 → va_S X.A H0 H1 locs1 → W p l e R s m args below meth c H1 locs1 cells slots Q (F0 m (pc + 3) ls (.ref (X.ad 4) :: rest))) : W p l e R s m args below meth c H locs cells slots Q (F0 m pc ls (.ref (X.ad 0) :: rest)) :=
  cal_r (runV (As := []) (rest := rest) hZ.1 hZ.2.1 hZ.2.2.1 hZ.2.2.2.1 hZ.2.2.2.2.1 hZ.2.2.2.2.2 hP (c_X7_knownMeasures g M M9 hf) wd_2_113 wd_2_112 wd_p_6 wd_1_1 hd_X7_knownMeasures (by decide) rfl rfl rfl hlk hR hsz rfl hW hdg hcs) hS kk
/-! FrameRaiser.extend -/
def fn_X7_extend (g : Nat) (x1 : Int32) (x2 : Int32) (x3 : Int32) (x4 : Int32) (x5 : Int32) (x6 : Int32) (x7 : Int32) (M : Mem) : Option (Int32 × Mem) :=
  if (fn_X7_isPiece x1 M) = 0 then
    (some ((-1 : Int32), M))
  else
    ((fn_X0_takeAll 51 x2 x3 x4 x5 x6 x7 M).bind (u2 fun r_2 M_3 =>
    if r_2 = 0 then
      (some ((-1 : Int32), M_3))
    else
      ((fn_X1_meetsOther g 1 51 x1 M_3).bind fun r_5 =>
      if r_5 = 0 then
        (if inb x1 8 then
        if (M_3 3 (ix x1)) < (4 : Int32) then
          ((fn_X2_remember 1 M_3).bind fun M_9 =>
          (fn_X1_addBox g 1 51 x1 M_9).bind fun M_10 =>
          (fn_X7_forgetPieces M_10).bind fun M_11 =>
          (fn_X7_knownMeasures g M_11).bind fun M_12 =>
          if inb x1 8 then
          some (M_12 5 (ix x1), M_12)
          else none)
        else
          (some ((-3 : Int32), M_3))
        else none)
      else
        (some ((-2 : Int32), M_3)))))
theorem dX7_extend_0 : decode cX7_extend 0 = .ok (.aload_n 0, 1) := by decide +kernel
theorem dX7_extend_1 : decode cX7_extend 1 = .ok (.iload_n 1, 1) := by decide +kernel
theorem dX7_extend_2 : decode cX7_extend 2 = .ok (.invokevirtual 109, 3) := by decide +kernel
theorem dX7_extend_5 : decode cX7_extend 5 = .ok (.ifCond .eq 23, 3) := by decide +kernel
theorem dX7_extend_8 : decode cX7_extend 8 = .ok (.aload_n 0, 1) := by decide +kernel
theorem dX7_extend_9 : decode cX7_extend 9 = .ok (.getfield 56, 3) := by decide +kernel
theorem dX7_extend_12 : decode cX7_extend 12 = .ok (.iload_n 2, 1) := by decide +kernel
theorem dX7_extend_13 : decode cX7_extend 13 = .ok (.iload_n 3, 1) := by decide +kernel
theorem dX7_extend_14 : decode cX7_extend 14 = .ok (.iload 4, 2) := by decide +kernel
theorem dX7_extend_16 : decode cX7_extend 16 = .ok (.iload 5, 2) := by decide +kernel
theorem dX7_extend_18 : decode cX7_extend 18 = .ok (.iload 6, 2) := by decide +kernel
theorem dX7_extend_20 : decode cX7_extend 20 = .ok (.iload 7, 2) := by decide +kernel
theorem dX7_extend_22 : decode cX7_extend 22 = .ok (.invokevirtual 97, 3) := by decide +kernel
theorem dX7_extend_25 : decode cX7_extend 25 = .ok (.ifCond .ne 5, 3) := by decide +kernel
theorem dX7_extend_28 : decode cX7_extend 28 = .ok (.iconst (-1), 1) := by decide +kernel
theorem dX7_extend_29 : decode cX7_extend 29 = .ok (.ireturn, 1) := by decide +kernel
theorem dX7_extend_30 : decode cX7_extend 30 = .ok (.aload_n 0, 1) := by decide +kernel
theorem dX7_extend_31 : decode cX7_extend 31 = .ok (.getfield 10, 3) := by decide +kernel
theorem dX7_extend_34 : decode cX7_extend 34 = .ok (.aload_n 0, 1) := by decide +kernel
theorem dX7_extend_35 : decode cX7_extend 35 = .ok (.getfield 56, 3) := by decide +kernel
theorem dX7_extend_38 : decode cX7_extend 38 = .ok (.iload_n 1, 1) := by decide +kernel
theorem dX7_extend_39 : decode cX7_extend 39 = .ok (.invokevirtual 101, 3) := by decide +kernel
theorem dX7_extend_42 : decode cX7_extend 42 = .ok (.ifCond .eq 6, 3) := by decide +kernel
theorem dX7_extend_45 : decode cX7_extend 45 = .ok (.bipush (-2), 2) := by decide +kernel
theorem dX7_extend_47 : decode cX7_extend 47 = .ok (.ireturn, 1) := by decide +kernel
theorem dX7_extend_48 : decode cX7_extend 48 = .ok (.aload_n 0, 1) := by decide +kernel
theorem dX7_extend_49 : decode cX7_extend 49 = .ok (.getfield 10, 3) := by decide +kernel
theorem dX7_extend_52 : decode cX7_extend 52 = .ok (.getfield 113, 3) := by decide +kernel
theorem dX7_extend_55 : decode cX7_extend 55 = .ok (.iload_n 1, 1) := by decide +kernel
theorem dX7_extend_56 : decode cX7_extend 56 = .ok (.iaload, 1) := by decide +kernel
theorem dX7_extend_57 : decode cX7_extend 57 = .ok (.iconst 4, 1) := by decide +kernel
theorem dX7_extend_58 : decode cX7_extend 58 = .ok (.if_icmp .lt 6, 3) := by decide +kernel
theorem dX7_extend_61 : decode cX7_extend 61 = .ok (.bipush (-3), 2) := by decide +kernel
theorem dX7_extend_63 : decode cX7_extend 63 = .ok (.ireturn, 1) := by decide +kernel
theorem dX7_extend_64 : decode cX7_extend 64 = .ok (.aload_n 0, 1) := by decide +kernel
theorem dX7_extend_65 : decode cX7_extend 65 = .ok (.getfield 42, 3) := by decide +kernel
theorem dX7_extend_68 : decode cX7_extend 68 = .ok (.aload_n 0, 1) := by decide +kernel
theorem dX7_extend_69 : decode cX7_extend 69 = .ok (.getfield 10, 3) := by decide +kernel
theorem dX7_extend_72 : decode cX7_extend 72 = .ok (.invokevirtual 81, 3) := by decide +kernel
theorem dX7_extend_75 : decode cX7_extend 75 = .ok (.aload_n 0, 1) := by decide +kernel
theorem dX7_extend_76 : decode cX7_extend 76 = .ok (.getfield 10, 3) := by decide +kernel
theorem dX7_extend_79 : decode cX7_extend 79 = .ok (.aload_n 0, 1) := by decide +kernel
theorem dX7_extend_80 : decode cX7_extend 80 = .ok (.getfield 56, 3) := by decide +kernel
theorem dX7_extend_83 : decode cX7_extend 83 = .ok (.iload_n 1, 1) := by decide +kernel
theorem dX7_extend_84 : decode cX7_extend 84 = .ok (.invokevirtual 105, 3) := by decide +kernel
theorem dX7_extend_87 : decode cX7_extend 87 = .ok (.aload_n 0, 1) := by decide +kernel
theorem dX7_extend_88 : decode cX7_extend 88 = .ok (.invokevirtual 88, 3) := by decide +kernel
theorem dX7_extend_91 : decode cX7_extend 91 = .ok (.aload_n 0, 1) := by decide +kernel
theorem dX7_extend_92 : decode cX7_extend 92 = .ok (.invokevirtual 117, 3) := by decide +kernel
theorem dX7_extend_95 : decode cX7_extend 95 = .ok (.getfield 121, 3) := by decide +kernel
theorem dX7_extend_98 : decode cX7_extend 98 = .ok (.iload_n 1, 1) := by decide +kernel
theorem dX7_extend_99 : decode cX7_extend 99 = .ok (.iaload, 1) := by decide +kernel
theorem dX7_extend_100 : decode cX7_extend 100 = .ok (.ireturn, 1) := by decide +kernel
set_option maxHeartbeats 4000000 in
set_option maxRecDepth 100000 in
theorem c_X7_extend {l : Launch} {X : En} (g : Nat) (x1 : Int32) (x2 : Int32) (x3 : Int32) (x4 : Int32) (x5 : Int32) (x6 : Int32) (x7 : Int32) (M : Mem) (r : Int32) (M9 : Mem) (hf : fn_X7_extend g x1 x2 x3 x4 x5 x6 x7 M = some (r, M9)) : Cn l X yX7_extend cX7_extend 8 (some .int) 4 87 [.ref (X.ad 0), .int x1, .int x2, .int x3, .int x4, .int x5, .int x6, .int x7] M (Qi X r M9) := by
  refine Met.ofW (cc := cX7_extend) (maxL := 8) (ret := (some .int)) (by decide) rfl ?_
  intro p e s m args below meth c s₁ B hml hv
  obtain ⟨rfl, hP, hk⟩ := hv
  have hx := B.exec
  have hb := B.bytes
  have hr := B.returns
  have hlocks := B.notSynchronized
  have hts : ∀ w ∈ lw_u, w.before ([.ref (X.ad 0), .int x1, .int x2, .int x3, .int x4, .int x5, .int x6, .int x7] : List Value).toArray s = true := fun w hw => atoms_spec (ws := Cond.code yX7_extend cX7_extend 8 (some .int) :: lw_u) B.pre w (List.mem_cons_of_mem _ hw)
  have hown : s.vm.findClass RX7 = some m.cls := findClass_of_methodNamed B.named
  have hZ : Fx p c m s ([.ref (X.ad 0), .int x1, .int x2, .int x3, .int x4, .int x5, .int x6, .int x7] : List Value).toArray X cX7_extend 8 RX7 := ⟨hx, hb, hml, hts, hown, hk⟩
  have hS : va_S X.A s.heap s.heap [] := va_S.rf
  have hl := lv_entry ([.ref (X.ad 0), .int x1, .int x2, .int x3, .int x4, .int x5, .int x6, .int x7]) (n := 8) (Nat.le_of_ble_eq_true rfl)
  rw [lg_entry_eq]
  generalize (lg_sl ([.ref (X.ad 0), .int x1, .int x2, .int x3, .int x4, .int x5, .int x6, .int x7]) ++ List.replicate (8 - (lg_sl ([.ref (X.ad 0), .int x1, .int x2, .int x3, .int x4, .int x5, .int x6, .int x7])).length) Slot.unset).toArray = ls at hl ⊢
  have hl : lv_has ls 8 [(0, .ref (X.ad 0)), (1, .int x1), (2, .int x2), (3, .int x3), (4, .int x4), (5, .int x5), (6, .int x6), (7, .int x7)] := hl
  show WW p l e 4 87 s m [.ref (X.ad 0), .int x1, .int x2, .int x3, .int x4, .int x5, .int x6, .int x7] below meth c X (Qi X r M9) s.heap [] 0 ls []
  have hP : wd X M s.heap := hP
  unfold fn_X7_extend at hf
  have key : ∀ (H : Heap) (locs : List Loc), wd X M H → va_S X.A s.heap H locs → WW p l e 4 87 s m [.ref (X.ad 0), .int x1, .int x2, .int x3, .int x4, .int x5, .int x6, .int x7] below meth c X (Qi X r M9) H locs 0 ls [] := by
    intro H locs hP hS
    refine lv_aload_n hx hb dX7_extend_0 rfl (lv_at hl 0 rfl) ?_
    refine lv_iload_n hx hb dX7_extend_1 rfl (lv_at hl 1 rfl) ?_
    refine k_X7_isPiece hZ hP hS hl.1 wd_2_106 ⟨Nat.le_of_ble_eq_true rfl, Nat.le_of_ble_eq_true rfl⟩ (Nat.le_of_ble_eq_true rfl) dX7_extend_2 ⟨Nat.zero_le _, Nat.zero_le _⟩ (fun H locs hP hS => ?_)
    refine lv_if_eq (tgt := 28) hx hb dX7_extend_5 (by decide) (fun c_1 => ?_) (fun c_1 => ?_)
    · have hf := i_t c_1 hf
      refine lv_iconst (v := (-1 : Int32)) hx hb dX7_extend_28 (by decide) ?_
      have hf := Option.some.inj hf
      obtain ⟨e1, e2⟩ := Prod.mk.inj hf
      rw [e2] at hP
      exact ret_i hx hb hr hlocks hP hS e1 dX7_extend_29
    · have hf := i_f c_1 hf
      refine lv_aload_n hx hb dX7_extend_8 rfl (lv_at hl 0 rfl) ?_
      refine gX7_6 hx hb hts hown hk hP wd_1_219 dX7_extend_9 ?_
      refine lv_iload_n hx hb dX7_extend_12 rfl (lv_at hl 2 rfl) ?_
      refine lv_iload_n hx hb dX7_extend_13 rfl (lv_at hl 3 rfl) ?_
      refine lv_iload hx hb dX7_extend_14 (lv_at hl 4 rfl) ?_
      refine lv_iload hx hb dX7_extend_16 (lv_at hl 5 rfl) ?_
      refine lv_iload hx hb dX7_extend_18 (lv_at hl 6 rfl) ?_
      refine lv_iload hx hb dX7_extend_20 (lv_at hl 7 rfl) ?_
      obtain ⟨⟨r_2, M_3⟩, h_r_2, hf⟩ := b_d hf
      have hf := u2_e hf
      refine k_X0_takeAll hZ hP hS hl.1 wd_2_95 ⟨Nat.le_of_ble_eq_true rfl, Nat.le_of_ble_eq_true rfl⟩ (Nat.le_of_ble_eq_true rfl) dX7_extend_22 ⟨Nat.zero_le _, Nat.zero_le _⟩ isB_51 h_r_2 (fun H locs hP hS => ?_)
      refine lv_if_ne (tgt := 30) hx hb dX7_extend_25 (by decide) (fun c_4 => ?_) (fun c_4 => ?_)
      · have hf := i_f c_4 hf
        refine lv_aload_n hx hb dX7_extend_30 rfl (lv_at hl 0 rfl) ?_
        refine gX7_0 hx hb hts hown hk hP wd_1_213 dX7_extend_31 ?_
        refine lv_aload_n hx hb dX7_extend_34 rfl (lv_at hl 0 rfl) ?_
        refine gX7_6 hx hb hts hown hk hP wd_1_219 dX7_extend_35 ?_
        refine lv_iload_n hx hb dX7_extend_38 rfl (lv_at hl 1 rfl) ?_
        obtain ⟨r_5, h_r_5, hf⟩ := b_d hf
        refine k_X1_meetsOther hZ hP hS hl.1 wd_2_100 ⟨Nat.le_of_ble_eq_true rfl, Nat.le_of_ble_eq_true rfl⟩ (Nat.le_of_ble_eq_true rfl) dX7_extend_39 ⟨Nat.zero_le _, Nat.zero_le _⟩ isF_1 isB_51 h_r_5 (fun H locs hP hS => ?_)
        refine lv_if_eq (tgt := 48) hx hb dX7_extend_42 (by decide) (fun c_6 => ?_) (fun c_6 => ?_)
        · have hf := i_t c_6 hf
          refine lv_aload_n hx hb dX7_extend_48 rfl (lv_at hl 0 rfl) ?_
          refine gX7_0 hx hb hts hown hk hP wd_1_213 dX7_extend_49 ?_
          refine gX1_1 hx hb hts hown hk hP isF_1 wd_1_37 dX7_extend_52 ?_
          refine lv_iload_n hx hb dX7_extend_55 rfl (lv_at hl 1 rfl) ?_
          obtain ⟨q_7, hf⟩ := g_if hf
          refine ald hx hb hk hP (by decide) rfl q_7 dX7_extend_56 ?_
          refine lv_iconst (v := (4 : Int32)) hx hb dX7_extend_57 (by decide) ?_
          refine lv_icmp_lt (tgt := 64) hx hb dX7_extend_58 (by decide) (fun c_8 => ?_) (fun c_8 => ?_)
          · have hf := i_t c_8 hf
            refine lv_aload_n hx hb dX7_extend_64 rfl (lv_at hl 0 rfl) ?_
            refine gX7_4 hx hb hts hown hk hP wd_1_217 dX7_extend_65 ?_
            refine lv_aload_n hx hb dX7_extend_68 rfl (lv_at hl 0 rfl) ?_
            refine gX7_0 hx hb hts hown hk hP wd_1_213 dX7_extend_69 ?_
            obtain ⟨M_9, h_M_9, hf⟩ := b_d hf
            refine k_X2_remember hZ hP hS hl.1 wd_2_66 ⟨Nat.le_of_ble_eq_true rfl, Nat.le_of_ble_eq_true rfl⟩ (Nat.le_of_ble_eq_true rfl) dX7_extend_72 ⟨Nat.zero_le _, Nat.zero_le _⟩ isF_1 h_M_9 (fun H locs hP hS => ?_)
            refine lv_aload_n hx hb dX7_extend_75 rfl (lv_at hl 0 rfl) ?_
            refine gX7_0 hx hb hts hown hk hP wd_1_213 dX7_extend_76 ?_
            refine lv_aload_n hx hb dX7_extend_79 rfl (lv_at hl 0 rfl) ?_
            refine gX7_6 hx hb hts hown hk hP wd_1_219 dX7_extend_80 ?_
            refine lv_iload_n hx hb dX7_extend_83 rfl (lv_at hl 1 rfl) ?_
            obtain ⟨M_10, h_M_10, hf⟩ := b_d hf
            refine k_X1_addBox hZ hP hS hl.1 wd_2_101 ⟨Nat.le_of_ble_eq_true rfl, Nat.le_of_ble_eq_true rfl⟩ (Nat.le_of_ble_eq_true rfl) dX7_extend_84 ⟨Nat.zero_le _, Nat.zero_le _⟩ isF_1 isB_51 h_M_10 (fun H locs hP hS => ?_)
            refine lv_aload_n hx hb dX7_extend_87 rfl (lv_at hl 0 rfl) ?_
            obtain ⟨M_11, h_M_11, hf⟩ := b_d hf
            refine k_X7_forgetPieces hZ hP hS hl.1 wd_2_78 ⟨Nat.le_of_ble_eq_true rfl, Nat.le_of_ble_eq_true rfl⟩ (Nat.le_of_ble_eq_true rfl) dX7_extend_88 ⟨Nat.zero_le _, Nat.zero_le _⟩ h_M_11 (fun H locs hP hS => ?_)
            refine lv_aload_n hx hb dX7_extend_91 rfl (lv_at hl 0 rfl) ?_
            obtain ⟨M_12, h_M_12, hf⟩ := b_d hf
            refine k_X7_knownMeasures hZ hP hS hl.1 wd_2_110 ⟨Nat.le_of_ble_eq_true rfl, Nat.le_of_ble_eq_true rfl⟩ (Nat.le_of_ble_eq_true rfl) dX7_extend_92 ⟨Nat.zero_le _, Nat.zero_le _⟩ h_M_12 (fun H locs hP hS => ?_)
            refine gX3_0 hx hb hts hown hk hP wd_1_64 dX7_extend_95 ?_
            refine lv_iload_n hx hb dX7_extend_98 rfl (lv_at hl 1 rfl) ?_
            obtain ⟨q_13, hf⟩ := g_if hf
            refine ald hx hb hk hP (by decide) rfl q_13 dX7_extend_99 ?_
            have hf := Option.some.inj hf
            obtain ⟨e1, e2⟩ := Prod.mk.inj hf
            rw [e2] at hP
            exact ret_i hx hb hr hlocks hP hS e1 dX7_extend_100
          · have hf := i_f c_8 hf
            refine lv_bipush (v := (-3 : Int32)) hx hb dX7_extend_61 (by decide) ?_
            have hf := Option.some.inj hf
            obtain ⟨e1, e2⟩ := Prod.mk.inj hf
            rw [e2] at hP
            exact ret_i hx hb hr hlocks hP hS e1 dX7_extend_63
        · have hf := i_f c_6 hf
          refine lv_bipush (v := (-2 : Int32)) hx hb dX7_extend_45 (by decide) ?_
          have hf := Option.some.inj hf
          obtain ⟨e1, e2⟩ := Prod.mk.inj hf
          rw [e2] at hP
          exact ret_i hx hb hr hlocks hP hS e1 dX7_extend_47
      · have hf := i_t c_4 hf
        refine lv_iconst (v := (-1 : Int32)) hx hb dX7_extend_28 (by decide) ?_
        have hf := Option.some.inj hf
        obtain ⟨e1, e2⟩ := Prod.mk.inj hf
        rw [e2] at hP
        exact ret_i hx hb hr hlocks hP hS e1 dX7_extend_29
  exact key s.heap [] hP hS
theorem hd_X7_extend : Hd yX7_extend 7 := by decide +kernel
theorem k_X7_extend {p : Program} {l : Launch} {e : Env} {R : Room} {s : State} {m : MethodId} {args : Array Value} {below : List Frame} {meth : Method} {c : Code} {H : Heap} {locs : List Loc} {cells slots : Nat} {Q : State → Prop} {cc : ByteArray} {nL pc index : Nat} {ls : Array Slot} {rest : List Value} {X : En} {M : Mem} {H0 : Heap} {own : String} {g : Nat} {x1 : Int32} {x2 : Int32} {x3 : Int32} {x4 : Int32} {x5 : Int32} {x6 : Int32} {x7 : Int32} {r : Int32} {M9 : Mem} (hZ : Fx p c m s args X cc nL own) (hP : wd X M H) (hS : va_S X.A H0 H locs) (hsz : ls.size = nL) (hlk : Cond.methodLink own index yX7_extend ∈ lw_u) (hR : 4 + 1 ≤ R.frames ∧ 8 + (8 + 11) + 87 ≤ R.locals) (hW : (rest.map fun v => v.category).sum ≤ 8) (hdg : decode cc pc = .ok (.invokevirtual index, 3)) (hcs : cells ≤ R.cells ∧ slots ≤ R.slots) (hf : fn_X7_extend g x1 x2 x3 x4 x5 x6 x7 M = some (r, M9))
    (kk : ∀ (H1 : Heap) (locs1 : List Loc), wd X M9 H1 → va_S X.A H0 H1 locs1 → W p l e R s m args below meth c H1 locs1 cells slots Q (F0 m (pc + 3) ls (.int r :: rest))) : W p l e R s m args below meth c H locs cells slots Q (F0 m pc ls (.int x7 :: .int x6 :: .int x5 :: .int x4 :: .int x3 :: .int x2 :: .int x1 :: .ref (X.ad 0) :: rest)) :=
  cal_i (runV (As := [.int x1, .int x2, .int x3, .int x4, .int x5, .int x6, .int x7]) (rest := rest) hZ.1 hZ.2.1 hZ.2.2.1 hZ.2.2.2.1 hZ.2.2.2.2.1 hZ.2.2.2.2.2 hP (c_X7_extend g x1 x2 x3 x4 x5 x6 x7 M r M9 hf) wd_2_105 wd_2_103 wd_2_104 wd_1_1 hd_X7_extend (by decide) rfl rfl rfl hlk hR hsz rfl hW hdg hcs) hS kk
/-! FrameRaiser$Frame.remove -/
def bd_X1_remove_15 (k0 : Nat) (x1 : Int32) : (Int32 × Mem) → Option ((Int32 × Mem) ⊕ (Mem)) :=
  u2 fun v2_3 M_4 =>
  if (216 : Int32) ≤ v2_3 then
    (some (.inr M_4))
  else
    (if inb v2_3 216 then
    if (M_4 (k0 + 1) (ix v2_3)) = x1 then
      (if inb v2_3 216 then
      bv (st M_4 (k0 + 1) (ix v2_3) (-1 : Int32)) fun M_14 =>
      some (.inl (v2_3 + (1 : Int32), M_14))
      else none)
    else
      (if inb v2_3 216 then
      if (M_4 (k0 + 1) (ix v2_3)) ≤ x1 then
        (some (.inl (v2_3 + (1 : Int32), M_4)))
      else
        (if inb v2_3 216 then
        if inb v2_3 216 then
        bv (st M_4 (k0 + 1) (ix v2_3) ((M_4 (k0 + 1) (ix v2_3)) - (1 : Int32))) fun M_12 =>
        some (.inl (v2_3 + (1 : Int32), M_12))
        else none
        else none)
      else none)
    else none)
def bd_X1_remove_72 (k0 : Nat) : (Int32 × Mem) → Option ((Int32 × Mem) ⊕ (Mem)) :=
  u2 fun v2_17 M_18 =>
  if (M_18 k0 2) ≤ v2_17 then
    (some (.inr M_18))
  else
    (if inb v2_17 8 then
    if inb (v2_17 - (1 : Int32)) 8 then
    bv (st M_18 (k0 + 2) (ix (v2_17 - (1 : Int32))) (M_18 (k0 + 2) (ix v2_17))) fun M_22 =>
    some (.inl (v2_17 + (1 : Int32), M_22))
    else none
    else none)
def fn_X1_remove (g : Nat) (k0 : Nat) (x1 : Int32) (M : Mem) : Option (Mem) :=
  if x1 < 0 then
    (some M)
  else
    (if x1 < (M k0 2) then
      ((lpN g (bd_X1_remove_15 k0 x1) ((0 : Int32), M)).bind (u1 fun M_5 =>
        bv (x1 + (1 : Int32)) fun v2_16 =>
        (lpN g (bd_X1_remove_72 k0) (v2_16, M_5)).bind (u1 fun M_19 =>
          bv (st M_19 k0 2 ((M_19 k0 2) - (1 : Int32))) fun M_24 =>
          if inb (M_24 k0 2) 8 then
          bv (st M_24 (k0 + 2) (ix (M_24 k0 2)) (0 : Int32)) fun M_25 =>
          bv ((M_25 k0 3) &&& ((sl (1 : Int32) x1) - (1 : Int32))) fun v2_27 =>
          bv (sr (M_25 k0 3) (x1 + (1 : Int32))) fun v3_28 =>
          bv (st M_25 k0 3 (v2_27 ||| (sl v3_28 x1))) fun M_29 =>
          some M_29
          else none)))
    else
      (some M))
theorem dX1_remove_0 : decode cX1_remove 0 = .ok (.iload_n 1, 1) := by decide +kernel
theorem dX1_remove_1 : decode cX1_remove 1 = .ok (.ifCond .lt 11, 3) := by decide +kernel
theorem dX1_remove_4 : decode cX1_remove 4 = .ok (.iload_n 1, 1) := by decide +kernel
theorem dX1_remove_5 : decode cX1_remove 5 = .ok (.aload_n 0, 1) := by decide +kernel
theorem dX1_remove_6 : decode cX1_remove 6 = .ok (.getfield 21, 3) := by decide +kernel
theorem dX1_remove_9 : decode cX1_remove 9 = .ok (.if_icmp .lt 4, 3) := by decide +kernel
theorem dX1_remove_12 : decode cX1_remove 12 = .ok (.return_, 1) := by decide +kernel
theorem dX1_remove_13 : decode cX1_remove 13 = .ok (.iconst 0, 1) := by decide +kernel
theorem dX1_remove_14 : decode cX1_remove 14 = .ok (.istore_n 2, 1) := by decide +kernel
theorem dX1_remove_15 : decode cX1_remove 15 = .ok (.iload_n 2, 1) := by decide +kernel
theorem dX1_remove_16 : decode cX1_remove 16 = .ok (.sipush 216, 3) := by decide +kernel
theorem dX1_remove_19 : decode cX1_remove 19 = .ok (.if_icmp .ge 49, 3) := by decide +kernel
theorem dX1_remove_22 : decode cX1_remove 22 = .ok (.aload_n 0, 1) := by decide +kernel
theorem dX1_remove_23 : decode cX1_remove 23 = .ok (.getfield 9, 3) := by decide +kernel
theorem dX1_remove_26 : decode cX1_remove 26 = .ok (.iload_n 2, 1) := by decide +kernel
theorem dX1_remove_27 : decode cX1_remove 27 = .ok (.iaload, 1) := by decide +kernel
theorem dX1_remove_28 : decode cX1_remove 28 = .ok (.iload_n 1, 1) := by decide +kernel
theorem dX1_remove_29 : decode cX1_remove 29 = .ok (.if_icmp .ne 13, 3) := by decide +kernel
theorem dX1_remove_32 : decode cX1_remove 32 = .ok (.aload_n 0, 1) := by decide +kernel
theorem dX1_remove_33 : decode cX1_remove 33 = .ok (.getfield 9, 3) := by decide +kernel
theorem dX1_remove_36 : decode cX1_remove 36 = .ok (.iload_n 2, 1) := by decide +kernel
theorem dX1_remove_37 : decode cX1_remove 37 = .ok (.iconst (-1), 1) := by decide +kernel
theorem dX1_remove_38 : decode cX1_remove 38 = .ok (.iastore, 1) := by decide +kernel
theorem dX1_remove_39 : decode cX1_remove 39 = .ok (.goto 23, 3) := by decide +kernel
theorem dX1_remove_42 : decode cX1_remove 42 = .ok (.aload_n 0, 1) := by decide +kernel
theorem dX1_remove_43 : decode cX1_remove 43 = .ok (.getfield 9, 3) := by decide +kernel
theorem dX1_remove_46 : decode cX1_remove 46 = .ok (.iload_n 2, 1) := by decide +kernel
theorem dX1_remove_47 : decode cX1_remove 47 = .ok (.iaload, 1) := by decide +kernel
theorem dX1_remove_48 : decode cX1_remove 48 = .ok (.iload_n 1, 1) := by decide +kernel
theorem dX1_remove_49 : decode cX1_remove 49 = .ok (.if_icmp .le 13, 3) := by decide +kernel
theorem dX1_remove_52 : decode cX1_remove 52 = .ok (.aload_n 0, 1) := by decide +kernel
theorem dX1_remove_53 : decode cX1_remove 53 = .ok (.getfield 9, 3) := by decide +kernel
theorem dX1_remove_56 : decode cX1_remove 56 = .ok (.iload_n 2, 1) := by decide +kernel
theorem dX1_remove_57 : decode cX1_remove 57 = .ok (.dup2, 1) := by decide +kernel
theorem dX1_remove_58 : decode cX1_remove 58 = .ok (.iaload, 1) := by decide +kernel
theorem dX1_remove_59 : decode cX1_remove 59 = .ok (.iconst 1, 1) := by decide +kernel
theorem dX1_remove_60 : decode cX1_remove 60 = .ok (.isub, 1) := by decide +kernel
theorem dX1_remove_61 : decode cX1_remove 61 = .ok (.iastore, 1) := by decide +kernel
theorem dX1_remove_62 : decode cX1_remove 62 = .ok (.iinc 2 1, 3) := by decide +kernel
theorem dX1_remove_65 : decode cX1_remove 65 = .ok (.goto (-50), 3) := by decide +kernel
theorem dX1_remove_68 : decode cX1_remove 68 = .ok (.iload_n 1, 1) := by decide +kernel
theorem dX1_remove_69 : decode cX1_remove 69 = .ok (.iconst 1, 1) := by decide +kernel
theorem dX1_remove_70 : decode cX1_remove 70 = .ok (.iadd, 1) := by decide +kernel
theorem dX1_remove_71 : decode cX1_remove 71 = .ok (.istore_n 2, 1) := by decide +kernel
theorem dX1_remove_72 : decode cX1_remove 72 = .ok (.iload_n 2, 1) := by decide +kernel
theorem dX1_remove_73 : decode cX1_remove 73 = .ok (.aload_n 0, 1) := by decide +kernel
theorem dX1_remove_74 : decode cX1_remove 74 = .ok (.getfield 21, 3) := by decide +kernel
theorem dX1_remove_77 : decode cX1_remove 77 = .ok (.if_icmp .ge 23, 3) := by decide +kernel
theorem dX1_remove_80 : decode cX1_remove 80 = .ok (.aload_n 0, 1) := by decide +kernel
theorem dX1_remove_81 : decode cX1_remove 81 = .ok (.getfield 15, 3) := by decide +kernel
theorem dX1_remove_84 : decode cX1_remove 84 = .ok (.iload_n 2, 1) := by decide +kernel
theorem dX1_remove_85 : decode cX1_remove 85 = .ok (.iconst 1, 1) := by decide +kernel
theorem dX1_remove_86 : decode cX1_remove 86 = .ok (.isub, 1) := by decide +kernel
theorem dX1_remove_87 : decode cX1_remove 87 = .ok (.aload_n 0, 1) := by decide +kernel
theorem dX1_remove_88 : decode cX1_remove 88 = .ok (.getfield 15, 3) := by decide +kernel
theorem dX1_remove_91 : decode cX1_remove 91 = .ok (.iload_n 2, 1) := by decide +kernel
theorem dX1_remove_92 : decode cX1_remove 92 = .ok (.iaload, 1) := by decide +kernel
theorem dX1_remove_93 : decode cX1_remove 93 = .ok (.iastore, 1) := by decide +kernel
theorem dX1_remove_94 : decode cX1_remove 94 = .ok (.iinc 2 1, 3) := by decide +kernel
theorem dX1_remove_97 : decode cX1_remove 97 = .ok (.goto (-25), 3) := by decide +kernel
theorem dX1_remove_100 : decode cX1_remove 100 = .ok (.aload_n 0, 1) := by decide +kernel
theorem dX1_remove_101 : decode cX1_remove 101 = .ok (.dup, 1) := by decide +kernel
theorem dX1_remove_102 : decode cX1_remove 102 = .ok (.getfield 21, 3) := by decide +kernel
theorem dX1_remove_105 : decode cX1_remove 105 = .ok (.iconst 1, 1) := by decide +kernel
theorem dX1_remove_106 : decode cX1_remove 106 = .ok (.isub, 1) := by decide +kernel
theorem dX1_remove_107 : decode cX1_remove 107 = .ok (.putfield 21, 3) := by decide +kernel
theorem dX1_remove_110 : decode cX1_remove 110 = .ok (.aload_n 0, 1) := by decide +kernel
theorem dX1_remove_111 : decode cX1_remove 111 = .ok (.getfield 15, 3) := by decide +kernel
theorem dX1_remove_114 : decode cX1_remove 114 = .ok (.aload_n 0, 1) := by decide +kernel
theorem dX1_remove_115 : decode cX1_remove 115 = .ok (.getfield 21, 3) := by decide +kernel
theorem dX1_remove_118 : decode cX1_remove 118 = .ok (.iconst 0, 1) := by decide +kernel
theorem dX1_remove_119 : decode cX1_remove 119 = .ok (.iastore, 1) := by decide +kernel
theorem dX1_remove_120 : decode cX1_remove 120 = .ok (.aload_n 0, 1) := by decide +kernel
theorem dX1_remove_121 : decode cX1_remove 121 = .ok (.getfield 25, 3) := by decide +kernel
theorem dX1_remove_124 : decode cX1_remove 124 = .ok (.iconst 1, 1) := by decide +kernel
theorem dX1_remove_125 : decode cX1_remove 125 = .ok (.iload_n 1, 1) := by decide +kernel
theorem dX1_remove_126 : decode cX1_remove 126 = .ok (.ishl, 1) := by decide +kernel
theorem dX1_remove_127 : decode cX1_remove 127 = .ok (.iconst 1, 1) := by decide +kernel
theorem dX1_remove_128 : decode cX1_remove 128 = .ok (.isub, 1) := by decide +kernel
theorem dX1_remove_129 : decode cX1_remove 129 = .ok (.iand, 1) := by decide +kernel
theorem dX1_remove_130 : decode cX1_remove 130 = .ok (.istore_n 2, 1) := by decide +kernel
theorem dX1_remove_131 : decode cX1_remove 131 = .ok (.aload_n 0, 1) := by decide +kernel
theorem dX1_remove_132 : decode cX1_remove 132 = .ok (.getfield 25, 3) := by decide +kernel
theorem dX1_remove_135 : decode cX1_remove 135 = .ok (.iload_n 1, 1) := by decide +kernel
theorem dX1_remove_136 : decode cX1_remove 136 = .ok (.iconst 1, 1) := by decide +kernel
theorem dX1_remove_137 : decode cX1_remove 137 = .ok (.iadd, 1) := by decide +kernel
theorem dX1_remove_138 : decode cX1_remove 138 = .ok (.ishr, 1) := by decide +kernel
theorem dX1_remove_139 : decode cX1_remove 139 = .ok (.istore_n 3, 1) := by decide +kernel
theorem dX1_remove_140 : decode cX1_remove 140 = .ok (.aload_n 0, 1) := by decide +kernel
theorem dX1_remove_141 : decode cX1_remove 141 = .ok (.iload_n 2, 1) := by decide +kernel
theorem dX1_remove_142 : decode cX1_remove 142 = .ok (.iload_n 3, 1) := by decide +kernel
theorem dX1_remove_143 : decode cX1_remove 143 = .ok (.iload_n 1, 1) := by decide +kernel
theorem dX1_remove_144 : decode cX1_remove 144 = .ok (.ishl, 1) := by decide +kernel
theorem dX1_remove_145 : decode cX1_remove 145 = .ok (.ior, 1) := by decide +kernel
theorem dX1_remove_146 : decode cX1_remove 146 = .ok (.putfield 25, 3) := by decide +kernel
theorem dX1_remove_149 : decode cX1_remove 149 = .ok (.return_, 1) := by decide +kernel
set_option maxHeartbeats 4000000 in
set_option maxRecDepth 100000 in
theorem c_X1_remove {l : Launch} {X : En} (g : Nat) (k0 : Nat) (x1 : Int32) (M : Mem) (hk0 : isF k0) (M9 : Mem) (hf : fn_X1_remove g k0 x1 M = some M9) : Cn l X yX1_remove cX1_remove 4 none 0 0 [.ref (X.ad k0), .int x1] M (Qv X M9) := by
  refine Met.ofW (cc := cX1_remove) (maxL := 4) (ret := none) (by decide) rfl ?_
  intro p e s m args below meth c s₁ B hml hv
  obtain ⟨rfl, hP, hk⟩ := hv
  have hx := B.exec
  have hb := B.bytes
  have hr := B.returns
  have hlocks := B.notSynchronized
  have hts : ∀ w ∈ lw_u, w.before ([.ref (X.ad k0), .int x1] : List Value).toArray s = true := fun w hw => atoms_spec (ws := Cond.code yX1_remove cX1_remove 4 none :: lw_u) B.pre w (List.mem_cons_of_mem _ hw)
  have hown : s.vm.findClass RX1 = some m.cls := findClass_of_methodNamed B.named
  have hZ : Fx p c m s ([.ref (X.ad k0), .int x1] : List Value).toArray X cX1_remove 4 RX1 := ⟨hx, hb, hml, hts, hown, hk⟩
  have hS : va_S X.A s.heap s.heap [] := va_S.rf
  have hl := lv_entry ([.ref (X.ad k0), .int x1]) (n := 4) (Nat.le_of_ble_eq_true rfl)
  rw [lg_entry_eq]
  generalize (lg_sl ([.ref (X.ad k0), .int x1]) ++ List.replicate (4 - (lg_sl ([.ref (X.ad k0), .int x1])).length) Slot.unset).toArray = ls at hl ⊢
  have hl : lv_has ls 4 [(0, .ref (X.ad k0)), (1, .int x1)] := hl
  show WW p l e 0 0 s m [.ref (X.ad k0), .int x1] below meth c X (Qv X M9) s.heap [] 0 ls []
  have hP : wd X M s.heap := hP
  unfold fn_X1_remove at hf
  have key : ∀ (H : Heap) (locs : List Loc), wd X M H → va_S X.A s.heap H locs → WW p l e 0 0 s m [.ref (X.ad k0), .int x1] below meth c X (Qv X M9) H locs 0 ls [] := by
    intro H locs hP hS
    refine lv_iload_n hx hb dX1_remove_0 rfl (lv_at hl 1 rfl) ?_
    refine lv_if_lt (tgt := 12) hx hb dX1_remove_1 (by decide) (fun c_1 => ?_) (fun c_1 => ?_)
    · have hf := i_t c_1 hf
      have hf := Option.some.inj hf
      rw [hf] at hP
      exact ret_v hx hb hr hlocks hP hS dX1_remove_12
    · have hf := i_f c_1 hf
      refine lv_iload_n hx hb dX1_remove_4 rfl (lv_at hl 1 rfl) ?_
      refine lv_aload_n hx hb dX1_remove_5 rfl (lv_at hl 0 rfl) ?_
      refine gX1_2 hx hb hts hown hk hP hk0 wd_1_39 dX1_remove_6 ?_
      refine lv_icmp_lt (tgt := 13) hx hb dX1_remove_9 (by decide) (fun c_2 => ?_) (fun c_2 => ?_)
      · have hf := i_t c_2 hf
        refine lv_iconst (v := (0 : Int32)) hx hb dX1_remove_13 (by decide) ?_
        refine lv_istore_n (lv' := [(2, .int (0 : Int32)), (0, .ref (X.ad k0)), (1, .int x1)]) hx hb dX1_remove_14 rfl hl (by decide) rfl (fun ls hl => ?_)
        obtain ⟨o15, ho15, hf⟩ := b_d hf
        refine lp_rule (b := bd_X1_remove_15 k0 x1) (P := fun w : Int32 × Mem => ∀ (H : Heap) (locs : List Loc) (ls : Array Slot), wd X w.2 H → va_S X.A s.heap H locs → lv_has ls 4 [(2, .int w.1), (0, .ref (X.ad k0)), (1, .int x1)] → WW p l e 0 0 s m [.ref (X.ad k0), .int x1] below meth c X (Qv X M9) H locs 15 ls []) (K := fun o => ∀ (M_5 : Mem), o = M_5 → ∀ (H : Heap) (locs : List Loc) (ls : Array Slot), wd X M_5 H → va_S X.A s.heap H locs → lv_has ls 4 [(0, .ref (X.ad k0)), (1, .int x1)] → WW p l e 0 0 s m [.ref (X.ad k0), .int x1] below meth c X (Qv X M9) H locs 68 ls []) ?_ g ((0 : Int32), M) o15 ho15 ?_ H locs ls hP hS (lv_sub hl [0, 1, 2] rfl)
        · rintro ⟨v2_3, M_4⟩ o hf hkc15 hke15 H locs ls hP hS hl
          have hf := u2_e hf
          refine lv_iload_n hx hb dX1_remove_15 rfl (lv_at hl 0 rfl) ?_
          refine lv_sipush (v := (216 : Int32)) hx hb dX1_remove_16 (by decide) ?_
          refine lv_icmp_ge (tgt := 68) hx hb dX1_remove_19 (by decide) (fun c_6 => ?_) (fun c_6 => ?_)
          · have hf := i_t c_6 hf
            exact hke15 _ (Option.some.inj hf).symm _ rfl H locs ls hP hS (lv_sub hl [1, 2] rfl)
          · have hf := i_f c_6 hf
            refine lv_aload_n hx hb dX1_remove_22 rfl (lv_at hl 1 rfl) ?_
            refine gX1_0 hx hb hts hown hk hP hk0 wd_1_31 dX1_remove_23 ?_
            refine lv_iload_n hx hb dX1_remove_26 rfl (lv_at hl 0 rfl) ?_
            obtain ⟨q_7, hf⟩ := g_if hf
            refine ald hx hb hk hP (isF_lt1 hk0) (rd_F1 hk0 _) q_7 dX1_remove_27 ?_
            refine lv_iload_n hx hb dX1_remove_28 rfl (lv_at hl 2 rfl) ?_
            refine lv_icmp_ne (tgt := 42) hx hb dX1_remove_29 (by decide) (fun c_8 => ?_) (fun c_8 => ?_)
            · have hf := i_f c_8 hf
              refine lv_aload_n hx hb dX1_remove_42 rfl (lv_at hl 1 rfl) ?_
              refine gX1_0 hx hb hts hown hk hP hk0 wd_1_31 dX1_remove_43 ?_
              refine lv_iload_n hx hb dX1_remove_46 rfl (lv_at hl 0 rfl) ?_
              obtain ⟨q_9, hf⟩ := g_if hf
              refine ald hx hb hk hP (isF_lt1 hk0) (rd_F1 hk0 _) q_9 dX1_remove_47 ?_
              refine lv_iload_n hx hb dX1_remove_48 rfl (lv_at hl 2 rfl) ?_
              refine lv_icmp_le (tgt := 62) hx hb dX1_remove_49 (by decide) (fun c_10 => ?_) (fun c_10 => ?_)
              · have hf := i_t c_10 hf
                refine lv_iinc (v := v2_3 + (1 : Int32)) (lv' := [(2, .int (v2_3 + (1 : Int32))), (0, .ref (X.ad k0)), (1, .int x1)]) hx hb dX1_remove_62 hl (k := 0) rfl rfl (by decide) rfl (fun ls hl => ?_)
                refine lv_goto (tgt := 15) hx hb dX1_remove_65 (by decide) ?_
                exact hkc15 _ (Option.some.inj hf).symm H locs ls hP hS (lv_sub hl [0, 1, 2] rfl)
              · have hf := i_f c_10 hf
                refine lv_aload_n hx hb dX1_remove_52 rfl (lv_at hl 1 rfl) ?_
                refine gX1_0 hx hb hts hown hk hP hk0 wd_1_31 dX1_remove_53 ?_
                refine lv_iload_n hx hb dX1_remove_56 rfl (lv_at hl 0 rfl) ?_
                refine lv_dup2_11 hx hb dX1_remove_57 rfl rfl ?_
                obtain ⟨q_11, hf⟩ := g_if hf
                refine ald hx hb hk hP (isF_lt1 hk0) (rd_F1 hk0 _) q_11 dX1_remove_58 ?_
                refine lv_iconst (v := (1 : Int32)) hx hb dX1_remove_59 (by decide) ?_
                refine lv_isub hx hb dX1_remove_60 ?_
                obtain ⟨q_13, hf⟩ := g_if hf
                refine ast hx hb hk hP hS (isF_lt1 hk0) (rd_F1 hk0) q_13 dX1_remove_61 (fun H locs M_12 e_M_12 hP hS => ?_)
                have hf := b_v hf e_M_12
                refine lv_iinc (v := v2_3 + (1 : Int32)) (lv' := [(2, .int (v2_3 + (1 : Int32))), (0, .ref (X.ad k0)), (1, .int x1)]) hx hb dX1_remove_62 hl (k := 0) rfl rfl (by decide) rfl (fun ls hl => ?_)
                refine lv_goto (tgt := 15) hx hb dX1_remove_65 (by decide) ?_
                exact hkc15 _ (Option.some.inj hf).symm H locs ls hP hS (lv_sub hl [0, 1, 2] rfl)
            · have hf := i_t c_8 hf
              refine lv_aload_n hx hb dX1_remove_32 rfl (lv_at hl 1 rfl) ?_
              refine gX1_0 hx hb hts hown hk hP hk0 wd_1_31 dX1_remove_33 ?_
              refine lv_iload_n hx hb dX1_remove_36 rfl (lv_at hl 0 rfl) ?_
              refine lv_iconst (v := (-1 : Int32)) hx hb dX1_remove_37 (by decide) ?_
              obtain ⟨q_15, hf⟩ := g_if hf
              refine ast hx hb hk hP hS (isF_lt1 hk0) (rd_F1 hk0) q_15 dX1_remove_38 (fun H locs M_14 e_M_14 hP hS => ?_)
              have hf := b_v hf e_M_14
              refine lv_goto (tgt := 62) hx hb dX1_remove_39 (by decide) ?_
              refine lv_iinc (v := v2_3 + (1 : Int32)) (lv' := [(2, .int (v2_3 + (1 : Int32))), (0, .ref (X.ad k0)), (1, .int x1)]) hx hb dX1_remove_62 hl (k := 0) rfl rfl (by decide) rfl (fun ls hl => ?_)
              refine lv_goto (tgt := 15) hx hb dX1_remove_65 (by decide) ?_
              exact hkc15 _ (Option.some.inj hf).symm H locs ls hP hS (lv_sub hl [0, 1, 2] rfl)
        · intro M_5 e H locs ls hP hS hl
          subst o15
          have hf := u1_e hf
          refine lv_iload_n hx hb dX1_remove_68 rfl (lv_at hl 1 rfl) ?_
          refine lv_iconst (v := (1 : Int32)) hx hb dX1_remove_69 (by decide) ?_
          refine lv_iadd hx hb dX1_remove_70 ?_
          refine lv_topi (fun v2_16 e_v2_16 => ?_)
          have hf := b_v hf e_v2_16
          refine lv_istore_n (lv' := [(2, .int v2_16), (0, .ref (X.ad k0)), (1, .int x1)]) hx hb dX1_remove_71 rfl hl (by decide) rfl (fun ls hl => ?_)
          obtain ⟨o72, ho72, hf⟩ := b_d hf
          refine lp_rule (b := bd_X1_remove_72 k0) (P := fun w : Int32 × Mem => ∀ (H : Heap) (locs : List Loc) (ls : Array Slot), wd X w.2 H → va_S X.A s.heap H locs → lv_has ls 4 [(2, .int w.1), (0, .ref (X.ad k0)), (1, .int x1)] → WW p l e 0 0 s m [.ref (X.ad k0), .int x1] below meth c X (Qv X M9) H locs 72 ls []) (K := fun o => ∀ (M_19 : Mem), o = M_19 → ∀ (H : Heap) (locs : List Loc) (ls : Array Slot), wd X M_19 H → va_S X.A s.heap H locs → lv_has ls 4 [(0, .ref (X.ad k0)), (1, .int x1)] → WW p l e 0 0 s m [.ref (X.ad k0), .int x1] below meth c X (Qv X M9) H locs 100 ls []) ?_ g (v2_16, M_5) o72 ho72 ?_ H locs ls hP hS (lv_sub hl [0, 1, 2] rfl)
          · rintro ⟨v2_17, M_18⟩ o hf hkc72 hke72 H locs ls hP hS hl
            have hf := u2_e hf
            refine lv_iload_n hx hb dX1_remove_72 rfl (lv_at hl 0 rfl) ?_
            refine lv_aload_n hx hb dX1_remove_73 rfl (lv_at hl 1 rfl) ?_
            refine gX1_2 hx hb hts hown hk hP hk0 wd_1_39 dX1_remove_74 ?_
            refine lv_icmp_ge (tgt := 100) hx hb dX1_remove_77 (by decide) (fun c_20 => ?_) (fun c_20 => ?_)
            · have hf := i_t c_20 hf
              exact hke72 _ (Option.some.inj hf).symm _ rfl H locs ls hP hS (lv_sub hl [1, 2] rfl)
            · have hf := i_f c_20 hf
              refine lv_aload_n hx hb dX1_remove_80 rfl (lv_at hl 1 rfl) ?_
              refine gX1_1 hx hb hts hown hk hP hk0 wd_1_35 dX1_remove_81 ?_
              refine lv_iload_n hx hb dX1_remove_84 rfl (lv_at hl 0 rfl) ?_
              refine lv_iconst (v := (1 : Int32)) hx hb dX1_remove_85 (by decide) ?_
              refine lv_isub hx hb dX1_remove_86 ?_
              refine lv_aload_n hx hb dX1_remove_87 rfl (lv_at hl 1 rfl) ?_
              refine gX1_1 hx hb hts hown hk hP hk0 wd_1_35 dX1_remove_88 ?_
              refine lv_iload_n hx hb dX1_remove_91 rfl (lv_at hl 0 rfl) ?_
              obtain ⟨q_21, hf⟩ := g_if hf
              refine ald hx hb hk hP (isF_lt hk0) (rd_F2 hk0 _) q_21 dX1_remove_92 ?_
              obtain ⟨q_23, hf⟩ := g_if hf
              refine ast hx hb hk hP hS (isF_lt hk0) (rd_F2 hk0) q_23 dX1_remove_93 (fun H locs M_22 e_M_22 hP hS => ?_)
              have hf := b_v hf e_M_22
              refine lv_iinc (v := v2_17 + (1 : Int32)) (lv' := [(2, .int (v2_17 + (1 : Int32))), (0, .ref (X.ad k0)), (1, .int x1)]) hx hb dX1_remove_94 hl (k := 0) rfl rfl (by decide) rfl (fun ls hl => ?_)
              refine lv_goto (tgt := 72) hx hb dX1_remove_97 (by decide) ?_
              exact hkc72 _ (Option.some.inj hf).symm H locs ls hP hS (lv_sub hl [0, 1, 2] rfl)
          · intro M_19 e H locs ls hP hS hl
            subst o72
            have hf := u1_e hf
            refine lv_aload_n hx hb dX1_remove_100 rfl (lv_at hl 0 rfl) ?_
            refine lv_dup hx hb dX1_remove_101 rfl ?_
            refine gX1_2 hx hb hts hown hk hP hk0 wd_1_39 dX1_remove_102 ?_
            refine lv_iconst (v := (1 : Int32)) hx hb dX1_remove_105 (by decide) ?_
            refine lv_isub hx hb dX1_remove_106 ?_
            refine pX1_2 hx hb hts hown hk hP hS hk0 wd_1_39 dX1_remove_107 (fun H locs M_24 e_M_24 hP hS => ?_)
            have hf := b_v hf e_M_24
            refine lv_aload_n hx hb dX1_remove_110 rfl (lv_at hl 0 rfl) ?_
            refine gX1_1 hx hb hts hown hk hP hk0 wd_1_35 dX1_remove_111 ?_
            refine lv_aload_n hx hb dX1_remove_114 rfl (lv_at hl 0 rfl) ?_
            refine gX1_2 hx hb hts hown hk hP hk0 wd_1_39 dX1_remove_115 ?_
            refine lv_iconst (v := (0 : Int32)) hx hb dX1_remove_118 (by decide) ?_
            obtain ⟨q_26, hf⟩ := g_if hf
            refine ast hx hb hk hP hS (isF_lt hk0) (rd_F2 hk0) q_26 dX1_remove_119 (fun H locs M_25 e_M_25 hP hS => ?_)
            have hf := b_v hf e_M_25
            refine lv_aload_n hx hb dX1_remove_120 rfl (lv_at hl 0 rfl) ?_
            refine gX1_3 hx hb hts hown hk hP hk0 wd_1_41 dX1_remove_121 ?_
            refine lv_iconst (v := (1 : Int32)) hx hb dX1_remove_124 (by decide) ?_
            refine lv_iload_n hx hb dX1_remove_125 rfl (lv_at hl 1 rfl) ?_
            refine rw_ishl hx hb dX1_remove_126 ?_
            refine lv_iconst (v := (1 : Int32)) hx hb dX1_remove_127 (by decide) ?_
            refine lv_isub hx hb dX1_remove_128 ?_
            refine lv_iand hx hb dX1_remove_129 ?_
            refine lv_topi (fun v2_27 e_v2_27 => ?_)
            have hf := b_v hf e_v2_27
            refine lv_istore_n (lv' := [(2, .int v2_27), (0, .ref (X.ad k0)), (1, .int x1)]) hx hb dX1_remove_130 rfl hl (by decide) rfl (fun ls hl => ?_)
            refine lv_aload_n hx hb dX1_remove_131 rfl (lv_at hl 1 rfl) ?_
            refine gX1_3 hx hb hts hown hk hP hk0 wd_1_41 dX1_remove_132 ?_
            refine lv_iload_n hx hb dX1_remove_135 rfl (lv_at hl 2 rfl) ?_
            refine lv_iconst (v := (1 : Int32)) hx hb dX1_remove_136 (by decide) ?_
            refine lv_iadd hx hb dX1_remove_137 ?_
            refine rw_ishr hx hb dX1_remove_138 ?_
            refine lv_topi (fun v3_28 e_v3_28 => ?_)
            have hf := b_v hf e_v3_28
            refine lv_istore_n (lv' := [(3, .int v3_28), (2, .int v2_27), (0, .ref (X.ad k0)), (1, .int x1)]) hx hb dX1_remove_139 rfl hl (by decide) rfl (fun ls hl => ?_)
            refine lv_aload_n hx hb dX1_remove_140 rfl (lv_at hl 2 rfl) ?_
            refine lv_iload_n hx hb dX1_remove_141 rfl (lv_at hl 1 rfl) ?_
            refine lv_iload_n hx hb dX1_remove_142 rfl (lv_at hl 0 rfl) ?_
            refine lv_iload_n hx hb dX1_remove_143 rfl (lv_at hl 3 rfl) ?_
            refine rw_ishl hx hb dX1_remove_144 ?_
            refine lv_ior hx hb dX1_remove_145 ?_
            refine pX1_3 hx hb hts hown hk hP hS hk0 wd_1_41 dX1_remove_146 (fun H locs M_29 e_M_29 hP hS => ?_)
            have hf := b_v hf e_M_29
            have hf := Option.some.inj hf
            rw [hf] at hP
            exact ret_v hx hb hr hlocks hP hS dX1_remove_149
      · have hf := i_f c_2 hf
        have hf := Option.some.inj hf
        rw [hf] at hP
        exact ret_v hx hb hr hlocks hP hS dX1_remove_12
  exact key s.heap [] hP hS
theorem hd_X1_remove : Hd yX1_remove 1 := by decide +kernel
theorem k_X1_remove {p : Program} {l : Launch} {e : Env} {R : Room} {s : State} {m : MethodId} {args : Array Value} {below : List Frame} {meth : Method} {c : Code} {H : Heap} {locs : List Loc} {cells slots : Nat} {Q : State → Prop} {cc : ByteArray} {nL pc index : Nat} {ls : Array Slot} {rest : List Value} {X : En} {M : Mem} {H0 : Heap} {own : String} {g : Nat} {k0 : Nat} {x1 : Int32} {M9 : Mem} (hZ : Fx p c m s args X cc nL own) (hP : wd X M H) (hS : va_S X.A H0 H locs) (hsz : ls.size = nL) (hlk : Cond.methodLink own index yX1_remove ∈ lw_u) (hR : 0 + 1 ≤ R.frames ∧ 8 + (4 + 11) + 0 ≤ R.locals) (hW : (rest.map fun v => v.category).sum ≤ 8) (hdg : decode cc pc = .ok (.invokevirtual index, 3)) (hcs : cells ≤ R.cells ∧ slots ≤ R.slots) (hk0 : isF k0) (hf : fn_X1_remove g k0 x1 M = some M9)
    (kk : ∀ (H1 : Heap) (locs1 : List Loc), wd X M9 H1 → va_S X.A H0 H1 locs1 → W p l e R s m args below meth c H1 locs1 cells slots Q (F0 m (pc + 3) ls rest)) : W p l e R s m args below meth c H locs cells slots Q (F0 m pc ls (.int x1 :: .ref (X.ad k0) :: rest)) :=
  cal_v (runV (As := [.int x1]) (rest := rest) hZ.1 hZ.2.1 hZ.2.2.1 hZ.2.2.2.1 hZ.2.2.2.2.1 hZ.2.2.2.2.2 hP (c_X1_remove g k0 x1 M hk0 M9 hf) wd_2_136 wd_2_134 wd_2_135 wd_1_2 hd_X1_remove (isF_lt0 hk0) (rd_F0 hk0 _) rfl rfl hlk hR hsz rfl hW hdg hcs) hS kk
